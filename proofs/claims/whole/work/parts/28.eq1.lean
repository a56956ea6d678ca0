/-! ===== the blinds: class and reference agree ===== -/
theorem i64_lt (a b : Int64) : a < b ↔ a.toInt < b.toInt := Int64.lt_iff_toInt_lt
theorem i64_le (a b : Int64) : a ≤ b ↔ a.toInt ≤ b.toInt := Int64.le_iff_toInt_le
theorem me_bits : ∀ (t : List Int32) (m : Int64), (∀ c ∈ t, vp_in c 64) → ∀ k, k < 64 → hbB (t.foldl meStep m) (nI k) = (hbB m (nI k) || t.any (fun z => decide (z = nI k))) := by
  intro t
  induction t with
  | nil => intro m _ k _; simp
  | cons c t ih =>
    intro m h k hk
    obtain ⟨e, hc⟩ := nI_back (h c List.mem_cons_self) (by omega)
    rw [List.foldl_cons, ih _ (fun z hz => h z (List.mem_cons_of_mem _ hz)) k hk]
    have e1 : hbB (meStep m c) (nI k) = (hbB m (nI k) || decide (c = nI k)) := by
      unfold meStep
      rw [bv_or _ _ hk]
      congr 1
      rw [e, bv_one hc hk, decide_eq_decide, nI_eq (by omega) (by omega)]
      omega
    rw [e1, List.any_cons, Bool.or_assoc]
theorem win_bit {kf gf : Nat → Int32} {x y : Int32} {p k : Nat} (hk : k < 64) : hbB (rayT kf gf x y p).2.2 (nI k) = hasW (rayR kf (stX p) (stY p) 8 x y) (nI k) := by
  unfold rayT trFin
  cases e : rayR kf (stX p) (stY p) 8 x y with
  | none => exact bv_0 hk
  | some q =>
    obtain ⟨n, t⟩ := q
    show hbB (t.foldl meStep 0) (nI k) = _
    rw [me_bits t 0 (fun c hc => (ray_m _ _ _ _ _ e c hc).1) k hk, bv_0 hk, Bool.false_or]
    rfl
theorem ww_bit {hf wf : Nat → Int64} {le sg : Int32} {p k : Nat} (hk : k < 64) : ∀ nd, hbB (wwL hf wf le p sg nd) (nI k) = true ↔ ∃ d, d < nd ∧ ¬ sg.toInt64 * hf (d * 16 + p) < le.toInt64 * 2097152 ∧ hbB (wf (d * 16 + p)) (nI k) = true := by
  intro nd
  induction nd with
  | zero => rw [wwL, bv_0 hk]; simp
  | succ n ih =>
    rw [wwL]
    split
    · rename_i h
      rw [ih]
      constructor
      · rintro ⟨d, h1, h2, h3⟩; exact ⟨d, by omega, h2, h3⟩
      · rintro ⟨d, h1, h2, h3⟩
        by_cases q : d = n
        · subst q; exact absurd h h2
        · exact ⟨d, by omega, h2, h3⟩
    · rename_i h
      rw [bv_or _ _ hk, Bool.or_eq_true, ih]
      constructor
      · rintro (⟨d, h1, h2, h3⟩ | h3)
        · exact ⟨d, by omega, h2, h3⟩
        · exact ⟨n, by omega, h, h3⟩
      · rintro ⟨d, h1, h2, h3⟩
        by_cases q : d = n
        · subst q; exact Or.inr h3
        · exact Or.inl ⟨d, by omega, h2, h3⟩
theorem gr_iff {kf gf xf yf : Nat → Int32} {s : Int32} {p : Nat} {c : Int32} {T : Int64} (hT : 0 ≤ T.toInt) : ∀ nd, (¬ grM kf gf xf yf s p c nd < T) ↔ ∃ d, d < nd ∧ ¬ s.toInt64 * shV kf gf noD (xf d) (yf d) p < T ∧ hasW (rayR kf (stX p) (stY p) 8 (xf d) (yf d)) c = true := by
  intro nd
  induction nd with
  | zero =>
    rw [grM]
    constructor
    · intro h
      exfalso
      apply h
      rw [i64_lt]
      have : (-1 : Int64).toInt = -1 := by decide
      omega
    · rintro ⟨d, h, -⟩; exact absurd h (Nat.not_lt_zero d)
  | succ n ih =>
    rw [grM]
    generalize hv : s.toInt64 * shV kf gf noD (xf n) (yf n) p = v
    generalize grM kf gf xf yf s p c n = g at ih ⊢
    split
    · rename_i h
      simp only [Bool.and_eq_true, Bool.not_eq_true', decide_eq_false_iff_not] at h
      constructor
      · intro h2; exact ⟨n, by omega, by rw [hv]; exact h2, h.1⟩
      · rintro ⟨d, h1, h2, h3⟩
        by_cases q : d = n
        · subst q; rw [hv] at h2; exact h2
        · have := ih.mpr ⟨d, by omega, h2, h3⟩
          have hg := h.2
          rw [i64_le] at hg
          rw [i64_lt] at this ⊢
          omega
    · rename_i h
      simp only [Bool.and_eq_true, Bool.not_eq_true', decide_eq_false_iff_not, not_and, Classical.not_not] at h
      constructor
      · intro h2
        obtain ⟨d, h3, h4⟩ := ih.mp h2
        exact ⟨d, by omega, h4⟩
      · rintro ⟨d, h1, h2, h3⟩
        by_cases q : d = n
        · subst q
          have hg := h h3
          rw [hv] at h2
          rw [i64_le] at hg
          rw [i64_lt] at h2 ⊢
          omega
        · exact ih.mpr ⟨d, by omega, h2, h3⟩
def lim (v : Int32) : Prop := 0 ≤ v.toInt ∧ v.toInt ≤ 1000
theorem lim_T {v : Int32} (h : lim v) : 0 ≤ (v.toInt64 * 2097152).toInt := by
  have e1 : v.toInt64.toInt = v.toInt := Int32.toInt_toInt64 v
  have e2 : (2097152 : Int64).toInt = 2097152 := by decide
  rw [Int64.toInt_mul, e1, e2, Int.bmod_eq_of_le] <;> have := h.1 <;> have := h.2 <;> omega
/-- bit c of what is down: class and reference -/
theorem lo_dn {kf gf xf yf : Nat → Int32} {bl : Int64} {nd : Nat} {bf lo : Nat → Bool} {sgD sg pf : Nat → Int32} {gl ca : Int32} (hgl : lim gl) (hca : lim ca) (hpf : ∀ h, h < 12 → vp_in (pf h) 16) (hbR : ∀ c, c < 64 → hbB bl (nI c) = bf c) (hsg : ∀ h, h < 12 → lo h = false → sgD h = sg h) {c : Nat} (hc : c < 64) :
    ∀ h, h ≤ 12 → hbB (loN lo sgD pf (tH kf gf xf yf (nd * 16) z6) (tW kf gf xf yf (nd * 16) z6) gl ca nd bl h) (nI c) = (bf c && dnH kf gf xf yf nd bf lo sg pf gl ca h c) := by
  intro h
  induction h with
  | zero => intro _; rw [loN, bv_0 hc]; simp [dnH]
  | succ h ih =>
    intro hh
    have ih := ih (by omega)
    rw [loN, dnH, lkH]
    cases hl : lo h with
    | true => simpa using ih
    | false =>
      have es := hsg h (by omega) hl
      have hp := (nI_back (hpf h (by omega)) (by omega)).2
      generalize (pf h).toNatClampNeg = p at hp ⊢
      have ww : ∀ le, hbB (wwL (tH kf gf xf yf (nd * 16) z6) (tW kf gf xf yf (nd * 16) z6) le p (sg h) nd) (nI c) = true ↔ ∃ d, d < nd ∧ ¬ (sg h).toInt64 * shV kf gf noD (xf d) (yf d) p < le.toInt64 * 2097152 ∧ hasW (rayR kf (stX p) (stY p) 8 (xf d) (yf d)) (nI c) = true := by
        intro le
        rw [ww_bit hc nd]
        constructor
        · rintro ⟨d, h1, h2, h3⟩
          rw [tH_at h1 hp, ← shV_no] at h2
          rw [tW_at h1 hp, win_bit hc] at h3
          exact ⟨d, h1, h2, h3⟩
        · rintro ⟨d, h1, h2, h3⟩
          refine ⟨d, h1, ?_, ?_⟩
          · rw [tH_at h1 hp, ← shV_no]; exact h2
          · rw [tW_at h1 hp, win_bit hc]; exact h3
      have wg : ∀ le, lim le → (hbB (wwL (tH kf gf xf yf (nd * 16) z6) (tW kf gf xf yf (nd * 16) z6) le p (sg h) nd) (nI c) = !decide (grM kf gf xf yf (sg h) p (nI c) nd < le.toInt64 * 2097152)) := by
        intro le hle
        rw [Bool.eq_iff_iff, ww le, ← gr_iff (lim_T hle) nd]
        simp
      simp only [Bool.false_eq_true, if_false, sunB, hl, es, Bool.not_false, Bool.true_and]
      by_cases hs : sg h ≤ 0
      · simp only [hs, decide_true, Bool.not_true, Bool.false_eq_true, if_false]
        rw [bv_0 hc]
        cases hb : bf c with
        | false => rfl
        | true =>
          have e1 : decide (c < 64) = true := by simp [hc]
          simp only [lkF, hb, e1, Bool.and_self, if_true, grV, hs, nwD]
          have n1 : ∀ le, lim le → ((-1 : Int64) < le.toInt64 * 2097152) := fun le hle => by
            rw [i64_lt]
            have := lim_T hle
            have e : (-1 : Int64).toInt = -1 := by decide
            omega
          have n0 : (-1 : Int64) < 0 := by decide
          simp [n1 ca hca, n0]
      · simp only [hs, decide_false, Bool.not_false, if_true]
        rw [bv_and _ _ hc, hbR c hc, nxV, bv_or _ _ hc, bv_and _ _ hc, bv_and _ _ hc, bv_not _ hc, ih, wg gl hgl, wg ca hca]
        cases hb : bf c with
        | false => simp
        | true =>
          have e1 : decide (c < 64) = true := by simp [hc]
          simp only [lkF, hb, e1, Bool.and_self, if_true, grV, hs, if_false, nwD, Bool.true_and, Bool.and_true]
          generalize grM kf gf xf yf (sg h) p (nI c) nd = g
          have t1 := lim_T hgl
          have t2 := lim_T hca
          have m1 : ∀ T : Int64, 0 ≤ T.toInt → ¬ g < T → ¬ g < 0 := fun T hT q => by
            rw [i64_lt] at q ⊢
            have e : (0 : Int64).toInt = 0 := by decide
            omega
          cases dnH kf gf xf yf nd bf lo sg pf gl ca h c with
          | true =>
            by_cases q : g < ca.toInt64 * 2097152
            · simp [q]
            · simp [q, m1 _ t2 q]
          | false =>
            by_cases q : g < gl.toInt64 * 2097152
            · simp [q]
            · simp [q, m1 _ t1 q]
