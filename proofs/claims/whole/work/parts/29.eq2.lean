/-! ===== shares under blinds: class and reference agree ===== -/
def glN (gf : Nat → Int32) (c : Int32) : Nat := (gf c.toNatClampNeg).toNatClampNeg
def tOK (gf : Nat → Int32) (t : List Int32) : Prop := ∀ c ∈ t, 1 ≤ glN gf c ∧ glN gf c ≤ 8 ∧ gf c.toNatClampNeg = nI (glN gf c)
theorem tOK_of {kf gf : Nat → Int32} {bl : Int64} (hpl : plI kf gf bl) {dx dy x y : Int32} {n k : Nat} {t : List Int32} (h : rayR kf dx dy n x y = some (k, t)) : tOK gf t := by
  intro c hc
  obtain ⟨h1, h2⟩ := ray_m _ _ _ _ _ h c hc
  have hlt := (nI_back h1 (by omega)).2
  rcases hpl _ hlt with ⟨h3, -, -⟩ | ⟨-, n, g1, g2, g3⟩
  · rw [h2] at h3
    rcases h3 with h3 | h3 <;> exact absurd h3 (by decide)
  · unfold glN
    rw [g3, nI_clamp (by omega)]
    exact ⟨g1, g2, rfl⟩
theorem nI_64 {n : Nat} (h : n < 2 ^ 31) : (nI n).toInt64 = lN n := nI_l h
/-- a fold of shares as a whole number: f the factor of each window -/
def prN (f : Int32 → Nat) : List Int32 → Nat
  | [] => 1
  | c :: t => f c * prN f t
theorem prN_le {f : Int32 → Nat} : ∀ (t : List Int32), (∀ c ∈ t, f c ≤ 8) → prN f t ≤ 8 ^ t.length
  | [], _ => Nat.le_refl _
  | c :: t, h => by
    have h1 := h c List.mem_cons_self
    have h2 := prN_le t (fun z hz => h z (List.mem_cons_of_mem _ hz))
    simp only [prN, List.length_cons]
    rw [Nat.pow_succ, Nat.mul_comm]
    exact Nat.mul_le_mul h2 h1
theorem fold_N (st : Int64 → Int32 → Int64) (f : Int32 → Nat) : ∀ (t : List Int32) (a : Nat), (∀ c ∈ t, f c ≤ 8 ∧ ∀ v, v < 2 ^ 40 → st (lN v) c = lN (v / 8 * f c)) → a * 8 ^ t.length < 2 ^ 40 → t.foldl st (lN (a * 8 ^ t.length)) = lN (a * prN f t) := by
  intro t
  induction t with
  | nil => intro a _ _; simp [prN]
  | cons c t ih =>
    intro a h hb
    obtain ⟨h1, h2⟩ := h c List.mem_cons_self
    rw [List.foldl_cons, h2 _ hb]
    simp only [List.length_cons] at hb ⊢
    have e : a * 8 ^ (t.length + 1) / 8 = a * 8 ^ t.length := by
      rw [Nat.pow_succ, ← Nat.mul_assoc, Nat.mul_div_cancel _ (by omega)]
    have hb2 : a * f c * 8 ^ t.length < 2 ^ 40 := by
      refine Nat.lt_of_le_of_lt ?_ hb
      rw [Nat.pow_succ, Nat.mul_comm (8 ^ t.length) 8, ← Nat.mul_assoc]
      exact Nat.mul_le_mul_right _ (Nat.mul_le_mul_left _ h1)
    rw [e, Nat.mul_right_comm, ih (a * f c) (fun z hz => h z (List.mem_cons_of_mem _ hz)) hb2, prN, Nat.mul_assoc]
theorem sh_N {gf : Nat → Int32} {t : List Int32} (ht : tOK gf t) (hl : t.length ≤ 7) : t.foldl (shStep gf) 2097152 = lN (8 ^ (7 - t.length) * prN (glN gf) t) := by
  have e : (2097152 : Int64) = lN (8 ^ (7 - t.length) * 8 ^ t.length) := by
    rw [← Nat.pow_add, show 7 - t.length + t.length = 7 by omega]; rfl
  rw [e]
  refine fold_N _ _ t _ (fun c hc => ⟨(ht c hc).2.1, fun v hv => ?_⟩) ?_
  · unfold shStep
    have h8 := (ht c hc).2.1
    rw [(ht c hc).2.2, nI_64 (by omega), show (8 : Int64) = lN 8 from rfl, pk_lDiv (by omega) (by omega) (by omega), lN_mul]
  · rw [← Nat.pow_add, show 7 - t.length + t.length = 7 by omega]; decide
def mF (gf : Nat → Int32) (D : Nat → Bool) (c : Int32) : Nat := if D c.toNatClampNeg then 1 else glN gf c
theorem m_N {gf : Nat → Int32} {D : Nat → Bool} {t : List Int32} (ht : tOK gf t) (hl : t.length ≤ 7) : t.foldl (mStep gf D) 2097152 = lN (8 ^ (7 - t.length) * prN (mF gf D) t) := by
  have e : (2097152 : Int64) = lN (8 ^ (7 - t.length) * 8 ^ t.length) := by
    rw [← Nat.pow_add, show 7 - t.length + t.length = 7 by omega]; rfl
  rw [e]
  refine fold_N _ _ t _ (fun c hc => ⟨?_, fun v hv => ?_⟩) ?_
  · unfold mF
    have := (ht c hc).2.1
    split <;> omega
  · unfold mStep mF
    have h8 := (ht c hc).2.1
    cases D c.toNatClampNeg with
    | true =>
      simp only [if_true]
      rw [show (1 : Int32).toInt64 = lN 1 from rfl, show (8 : Int64) = lN 8 from rfl, pk_lDiv (by omega) (by omega) (by omega), lN_mul]
    | false =>
      simp only [Bool.false_eq_true, if_false]
      rw [(ht c hc).2.2, nI_64 (by omega), show (8 : Int64) = lN 8 from rfl, pk_lDiv (by omega) (by omega) (by omega), lN_mul]
  · rw [← Nat.pow_add, show 7 - t.length + t.length = 7 by omega]; decide
/-- what the class divides away -/
def dvS (gf : Nat → Int32) (D : Nat → Bool) (s : Int64) (c : Int32) : Int64 := if D c.toNatClampNeg then s / (gf c.toNatClampNeg).toInt64 else s
theorem dv_N {gf : Nat → Int32} {D : Nat → Bool} : ∀ (t : List Int32) (a : Nat), tOK gf t → a * prN (glN gf) t < 2 ^ 40 → t.foldl (dvS gf D) (lN (a * prN (glN gf) t)) = lN (a * prN (mF gf D) t) := by
  intro t
  induction t with
  | nil => intro a _ _; rfl
  | cons c t ih =>
    intro a ht hb
    obtain ⟨g1, g2, g3⟩ := ht c List.mem_cons_self
    have ht2 : tOK gf t := fun z hz => ht z (List.mem_cons_of_mem _ hz)
    rw [List.foldl_cons]
    simp only [prN] at hb ⊢
    cases hD : D c.toNatClampNeg with
    | true =>
      rw [show dvS gf D (lN (a * (glN gf c * prN (glN gf) t))) c = lN (a * (glN gf c * prN (glN gf) t)) / (gf c.toNatClampNeg).toInt64 from by simp [dvS, hD], show mF gf D c = 1 from by simp [mF, hD], Nat.one_mul]
      rw [g3, nI_64 (by omega), pk_lDiv (by omega) (by omega) (by omega)]
      have e : a * (glN gf c * prN (glN gf) t) / glN gf c = a * prN (glN gf) t := by
        rw [Nat.mul_left_comm, Nat.mul_div_cancel_left _ (by omega)]
      rw [e]
      refine ih a ht2 (Nat.lt_of_le_of_lt ?_ hb)
      exact Nat.mul_le_mul_left _ (Nat.le_mul_of_pos_left _ (by omega))
    | false =>
      rw [show dvS gf D (lN (a * (glN gf c * prN (glN gf) t))) c = lN (a * (glN gf c * prN (glN gf) t)) from by simp [dvS, hD], show mF gf D c = glN gf c from by simp [mF, hD]]
      rw [← Nat.mul_assoc, ih (a * glN gf c) ht2 (by rw [Nat.mul_assoc]; exact hb), Nat.mul_assoc]
theorem c_add (x y dx dy : Int32) : (y + dy) * 8 + (x + dx) = (y * 8 + x) + (dy * 8 + dx) := by
  rw [Int32.add_mul, Int32.add_assoc, Int32.add_assoc, ← Int32.add_assoc (dy * 8) x dx, Int32.add_comm (dy * 8) x, Int32.add_assoc x]
theorem un_ray {kf gf : Nat → Int32} {bl : Int64} (hpl : plI kf gf bl) {lw : Int64} {D : Nat → Bool} (hD : ∀ c, c < 64 → hbB lw (nI c) = D c) {dx dy : Int32} : ∀ (n : Nat) (x y : Int32) (k : Nat) (t : List Int32), rayR kf dx dy n x y = some (k, t) → ∀ s, unGo gf lw (dy * 8 + dx) (k - 1) (y * 8 + x) s = t.foldl (dvS gf D) s := by
  intro n
  induction n with
  | zero =>
    intro x y k t h s
    simp only [rayR] at h
    split at h
    · cases h
    · cases h; rfl
  | succ n ih =>
    intro x y k t h s
    simp only [rayR] at h
    split at h
    · split at h
      · cases h
      · split at h
        · cases h
        · rename_i k1 t1 e1
          cases h
          by_cases hc : cellB (x + dx) (y + dy) = true
          · -- one more step in the plan
            have hk : 1 ≤ k1 := by
              cases n with
              | zero => simp [rayR, hc] at e1
              | succ n =>
                simp only [rayR, hc, if_true] at e1
                split at e1
                · cases e1
                · split at e1
                  · cases e1
                  · cases e1; omega
            rw [show k1 + 1 - 1 = (k1 - 1) + 1 by omega, unGo, ← c_add, ih _ _ _ _ e1]
            have hlt := cn_lt hc
            obtain ⟨en, -⟩ := nI_back (cn_in hc) (by omega)
            have eb : hbB lw ((y + dy) * 8 + (x + dx)) = D (cn (x + dx) (y + dy)) := by
              rw [en]; exact hD _ hlt
            have i0 : ¬ ((y + dy) * 8 + (x + dx)) < 0 := by rw [en]; exact nI_pos (by have := hlt; unfold cn at this; omega)
            have i1 : ¬ 64 ≤ ((y + dy) * 8 + (x + dx)) := by rw [en]; exact nI_ge (b := 64) hlt (by omega)
            have uB : unB gf lw ((y + dy) * 8 + (x + dx)) = (!decide (gf (cn (x + dx) (y + dy)) ≤ 0) && D (cn (x + dx) (y + dy))) := by
              unfold unB
              rw [eb]
              simp only [i0, i1, decide_false, Bool.not_false, Bool.true_and]
              rfl
            by_cases w : winB kf (x + dx) (y + dy) = true
            · rw [if_pos w, List.foldl_cons]
              congr 1
              have hk2 : kf (cn (x + dx) (y + dy)) = 2 := by simp only [winB, Bool.and_eq_true, decide_eq_true_eq] at w; exact w.2
              have g0 : ¬ gf (cn (x + dx) (y + dy)) ≤ 0 := by
                rcases hpl _ hlt with ⟨h3, -, -⟩ | ⟨-, h4⟩
                · rw [hk2] at h3
                  rcases h3 with h3 | h3 <;> exact absurd h3 (by decide)
                · exact gOK_pos h4
              unfold unStep dvS
              rw [uB]
              simp only [g0, decide_false, Bool.not_false, Bool.true_and]
              rfl
            · rw [if_neg w]
              congr 1
              have g0 : gf (cn (x + dx) (y + dy)) ≤ 0 := by
                refine ((plI_ok hpl) _ hlt).mpr (fun q => w ?_)
                simp [winB, hc, q]
              unfold unStep
              rw [uB]
              simp [g0]
          · have hc2 : cellB (x + dx) (y + dy) = false := by simpa using hc
            have e2 : rayR kf dx dy n (x + dx) (y + dy) = some (0, []) := by cases n <;> simp [rayR, hc2]
            rw [e2] at e1
            cases e1
            rw [win_n hc2, if_neg (by decide)]
            rfl
    · cases h; rfl
theorem ray_7 {kf : Nat → Int32} {dx dy : Int32} : ∀ (n : Nat) (x y : Int32) (k : Nat) (t : List Int32), rayR kf dx dy n x y = some (k, t) → t.length ≤ k - 1 := by
  intro n
  induction n with
  | zero =>
    intro x y k t h
    simp only [rayR] at h
    split at h
    · cases h
    · cases h; exact Nat.le_refl _
  | succ n ih =>
    intro x y k t h
    simp only [rayR] at h
    split at h
    · split at h
      · cases h
      · split at h
        · cases h
        · rename_i k1 t1 e1
          cases h
          have h1 := ih _ _ _ _ e1
          split
          · rename_i w
            simp only [winB, Bool.and_eq_true] at w
            have hk : 1 ≤ k1 := by
              cases n with
              | zero => simp [rayR, w.1] at e1
              | succ n =>
                simp only [rayR, w.1, if_true] at e1
                split at e1
                · cases e1
                · split at e1
                  · cases e1
                  · cases e1; omega
            simp only [List.length_cons]
            omega
          · omega
    · cases h; exact Nat.zero_le _
theorem sh_eq {kf gf xf yf : Nat → Int32} {bl : Int64} (hpl : plI kf gf bl) {lw : Int64} {D : Nat → Bool} (hD : ∀ c, c < 64 → hbB lw (nI c) = D c) (d p : Nat) : cSh kf gf xf yf lw d p = shV kf gf D (xf d) (yf d) p := by
  unfold cSh shV
  have hb := fun k (hk : k < 64) => win_bit (kf := kf) (gf := gf) (x := xf d) (y := yf d) (p := p) hk
  cases e : rayR kf (stX p) (stY p) 8 (xf d) (yf d) with
  | none =>
    have e1 : rayT kf gf (xf d) (yf d) p = (-1, 0, 0) := by unfold rayT; rw [e]; rfl
    rw [e1]
    have : ((0 : Int64) &&& lw) = 0 := by simp
    simp [this, shM]
  | some q =>
    obtain ⟨k, t⟩ := q
    have ht := tOK_of hpl e
    have hl := ray_7 _ _ _ _ _ e
    have hk := (rayR_len _ _ _ _ _ e).1
    have e1 : rayT kf gf (xf d) (yf d) p = (nI k, t.foldl (shStep gf) 2097152, t.foldl meStep 0) := by unfold rayT; rw [e]; simp [trFin]
    rw [e] at hb
    rw [e1] at hb ⊢
    simp only [shM]
    split
    · rename_i hz
      -- no blind of this ray is down
      have hn : ∀ c ∈ t, D c.toNatClampNeg = false := by
        intro c hc
        obtain ⟨en, hlt⟩ := nI_back (ray_m _ _ _ _ _ e c hc).1 (by omega)
        have h1 := hb _ hlt
        have h2 : hasW (some (k, t)) (nI c.toNatClampNeg) = true := by
          simp only [hasW, List.any_eq_true, decide_eq_true_eq]
          exact ⟨c, hc, en⟩
        rw [h2] at h1
        have h3 := bv_and (t.foldl meStep 0) lw hlt
        rw [hz, bv_0 hlt, h1, hD _ hlt, Bool.true_and] at h3
        exact h3.symm
      rw [sh_N ht (by omega), m_N ht (by omega)]
      have : prN (glN gf) t = prN (mF gf D) t := by
        clear hb e1 e ht hl hz
        induction t with
        | nil => rfl
        | cons c t ih =>
          simp only [prN]
          rw [ih (fun z hz => hn z (List.mem_cons_of_mem _ hz))]
          unfold mF
          rw [hn c List.mem_cons_self]
          rfl
      rw [this]
    · rw [nI_clamp (by omega), un_ray hpl hD _ _ _ _ _ e, sh_N ht (by omega), dv_N t _ ht, m_N ht (by omega)]
      have h1 := prN_le (f := glN gf) t (fun c hc => (ht c hc).2.1)
      refine Nat.lt_of_le_of_lt (Nat.mul_le_mul_left _ h1) ?_
      rw [← Nat.pow_add, show 7 - t.length + t.length = 7 by omega]
      decide
