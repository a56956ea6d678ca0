/-! ===== the reference's rays, shares, blinds ===== -/
def sdB (kf : Nat → Int32) (x y dx dy : Int32) : Bool :=
  if dx = 0 ∨ dy = 0 then false else if dx = 2 ∨ dx = -2 then wallB kf (x + dx / 2) y && wallB kf (x + dx / 2) (y + dy) else if dy = 2 ∨ dy = -2 then wallB kf x (y + dy / 2) && wallB kf (x + dx) (y + dy / 2) else wallB kf (x + dx) y && wallB kf x (y + dy)
theorem shut_sd (kf : Nat → Int32) (x y dx dy : Int32) : shutB kf x y dx dy = (wallB kf (x + dx) (y + dy) || sdB kf x y dx dy) := rfl
def rmap (j : Nat) (tp : List Int32) (o : Option (Nat × List Int32)) : Option (Nat × List Int32) := match o with
  | none => none
  | some (k, t) => some (j + k, tp ++ t)
def wkI (kf : Nat → Int32) (dx dy x0 y0 : Int32) (q : Bool) (x y : Int32) (j : Nat) (tp : List Int32) : Prop :=
  if q then rayR kf dx dy 8 x0 y0 = rmap j tp (rayR kf dx dy (8 - j) x y) else rayR kf dx dy 8 x0 y0 = none
theorem wk_0 (kf : Nat → Int32) (dx dy x0 y0 : Int32) : wkI kf dx dy x0 y0 true x0 y0 0 [] := by
  simp only [wkI, if_true, Nat.sub_zero]
  cases rayR kf dx dy 8 x0 y0 with
  | none => rfl
  | some q => simp [rmap]
theorem wk_end {kf : Nat → Int32} {dx dy x0 y0 x y : Int32} {j : Nat} {tp : List Int32} (h : wkI kf dx dy x0 y0 true x y j tp) (c : cellB x y = false) : rayR kf dx dy 8 x0 y0 = some (j, tp) := by
  simp only [wkI, if_true] at h
  rw [h]
  cases 8 - j <;> simp [rayR, c, rmap]
theorem wk_no {kf : Nat → Int32} {dx dy x0 y0 x y : Int32} {j : Nat} {tp : List Int32} (h : wkI kf dx dy x0 y0 true x y j tp) (c : cellB x y = true) (hs : shutB kf x y dx dy = true) : rayR kf dx dy 8 x0 y0 = none := by
  simp only [wkI, if_true] at h
  rw [h]
  cases 8 - j <;> simp [rayR, c, hs, rmap]
theorem wk_s {kf : Nat → Int32} {dx dy x0 y0 x y : Int32} {j : Nat} {tp : List Int32} (h : wkI kf dx dy x0 y0 true x y j tp) (hj : j < 8) (c : cellB x y = true) (hs : shutB kf x y dx dy = false) :
    wkI kf dx dy x0 y0 true (x + dx) (y + dy) (j + 1) (tp ++ (if winB kf (x + dx) (y + dy) then [(y + dy) * 8 + (x + dx)] else [])) := by
  simp only [wkI, if_true] at h ⊢
  rw [h]
  obtain ⟨n, hn⟩ : ∃ n, 8 - j = n + 1 := ⟨7 - j, by omega⟩
  rw [hn, show 8 - (j + 1) = n by omega]
  simp only [rayR, c, hs, if_true]
  cases rayR kf dx dy n (x + dx) (y + dy) with
  | none => simp [rmap]
  | some q =>
    by_cases w : winB kf (x + dx) (y + dy) = true
    · simp [rmap, w, Nat.add_assoc, Nat.add_comm 1]
    · simp [rmap, w, Nat.add_assoc, Nat.add_comm 1]
def poI (x0 y0 dx dy x y : Int32) (j : Nat) : Prop := x.toInt = x0.toInt + j * dx.toInt ∧ y.toInt = y0.toInt + j * dy.toInt
theorem st2 : ∀ p, p < 16 → -2 ≤ (stX p).toInt ∧ (stX p).toInt ≤ 2 ∧ -2 ≤ (stY p).toInt ∧ (stY p).toInt ≤ 2 ∧ (1 ≤ (stX p).toInt ∨ (stX p).toInt ≤ -1 ∨ 1 ≤ (stY p).toInt ∨ (stY p).toInt ≤ -1) := by decide +kernel
theorem po_s {x0 y0 x y : Int32} {p j : Nat} (hp : p < 16) (h : poI x0 y0 (stX p) (stY p) x y j) (c : cellB x y = true) : poI x0 y0 (stX p) (stY p) (x + stX p) (y + stY p) (j + 1) := by
  obtain ⟨a1, a2, a3, a4, -⟩ := st2 p hp
  obtain ⟨b1, b2, b3, b4⟩ := (cellB_iff x y).mp c
  obtain ⟨h1, h2⟩ := h
  refine ⟨?_, ?_⟩
  · rw [i32_add (by omega) (by omega), h1, Int.natCast_add, Int.add_mul]
    omega
  · rw [i32_add (by omega) (by omega), h2, Int.natCast_add, Int.add_mul]
    omega
theorem po_8 {x0 y0 x y : Int32} {p j : Nat} (hp : p < 16) (h : poI x0 y0 (stX p) (stY p) x y j) (c0 : cellB x0 y0 = true) (c : cellB x y = true) : j < 8 := by
  obtain ⟨-, -, -, -, a5⟩ := st2 p hp
  obtain ⟨b1, b2, b3, b4⟩ := (cellB_iff x y).mp c
  obtain ⟨d1, d2, d3, d4⟩ := (cellB_iff x0 y0).mp c0
  obtain ⟨h1, h2⟩ := h
  rcases Nat.lt_or_ge j 8 with q | q
  · exact q
  · exfalso
    have q2 : (8 : Int) ≤ j := by omega
    have m : ∀ z : Int, 1 ≤ z → (8 : Int) ≤ j * z := fun z hz => by
      have := Int.mul_le_mul q2 hz (by omega) (by omega)
      omega
    have m2 : ∀ z : Int, z ≤ -1 → j * z ≤ -8 := fun z hz => by
      have h9 := m (-z) (by omega)
      rw [Int.mul_neg] at h9
      omega
    rcases a5 with w | w | w | w
    · have := m _ w; omega
    · have := m2 _ w; omega
    · have := m _ w; omega
    · have := m2 _ w; omega
theorem po_0 (x0 y0 dx dy : Int32) : poI x0 y0 dx dy x0 y0 0 := by simp [poI]
def raI (tp : List Int32) (ra : Nat → Int32) : Prop := ∀ i, i < tp.length → ra i = tp.getD i 0
theorem ra_0 (ra : Nat → Int32) : raI [] ra := fun i h => absurd h (Nat.not_lt_zero i)
theorem ra_s {tp : List Int32} {ra : Nat → Int32} (h : raI tp ra) (c : Int32) : raI (tp ++ [c]) (upd ra tp.length c) := by
  intro i hi
  rw [List.length_append, List.length_singleton] at hi
  by_cases q : i = tp.length
  · subst q
    rw [pk_us]
    simp
  · rw [pk_un q, h i (by omega)]
    simp [List.getD, List.getElem?_append_left (show i < tp.length by omega)]
def wkP (o : Option (Nat × List Int32)) (rs rw_ : Int32) (ra : Nat → Int32) : Prop := ∀ k t, o = some (k, t) → rs = nI k ∧ rw_ = nI t.length ∧ raI t ra
theorem wkP_n {o : Option (Nat × List Int32)} {rs rw_ : Int32} {ra : Nat → Int32} (h : o = none) : wkP o rs rw_ ra := fun k t e => by rw [h] at e; cases e
theorem wkP_s {o : Option (Nat × List Int32)} {j : Nat} {tp : List Int32} {ra : Nat → Int32} (h : o = some (j, tp)) (hr : raI tp ra) : wkP o (nI j) (nI tp.length) ra := fun k t e => by
  rw [h] at e
  cases e
  exact ⟨rfl, rfl, hr⟩
theorem rem8 {x y : Int32} (h : cellB x y = true) : (y * 8 + x) - (y * 8 + x) / 8 * 8 = x ∧ (y * 8 + x) / 8 = y := by
  obtain ⟨b1, b2, b3, b4⟩ := (cellB_iff x y).mp h
  obtain ⟨a, ha, rfl⟩ := nI_of (x := x) (by rw [Int32.lt_iff_toInt_lt]; have : (0 : Int32).toInt = 0 := by decide
                                            omega)
  obtain ⟨b, hb, rfl⟩ := nI_of (x := y) (by rw [Int32.lt_iff_toInt_lt]; have : (0 : Int32).toInt = 0 := by decide
                                            omega)
  rw [nI_toInt ha] at b1 b2
  rw [nI_toInt hb] at b3 b4
  rw [show (8 : Int32) = nI 8 from rfl, pk_mul, nI_add]
  refine ⟨?_, ?_⟩
  · rw [pk_rem (by omega) (by omega) (by omega)]
    congr 1
    omega
  · rw [pk_div (by omega) (by omega) (by omega)]
    congr 1
    omega
theorem ray_m {kf : Nat → Int32} {dx dy : Int32} : ∀ (n : Nat) (x y : Int32) (k : Nat) (t : List Int32), rayR kf dx dy n x y = some (k, t) → ∀ c ∈ t, vp_in c 64 ∧ kf c.toNatClampNeg = 2 := by
  intro n
  induction n with
  | zero =>
    intro x y k t h c hc
    simp only [rayR] at h
    split at h
    · cases h
    · cases h; exact absurd hc List.not_mem_nil
  | succ n ih =>
    intro x y k t h c hc
    simp only [rayR] at h
    split at h
    · split at h
      · cases h
      · split at h
        · cases h
        · rename_i k1 t1 e1
          cases h
          split at hc
          · rename_i w
            rcases List.mem_cons.mp hc with e | hc
            · subst e
              simp only [winB, Bool.and_eq_true, decide_eq_true_eq] at w
              exact ⟨cn_in w.1, w.2⟩
            · exact ih _ _ _ _ e1 c hc
          · exact ih _ _ _ _ e1 c hc
    · cases h; exact absurd hc List.not_mem_nil
/-- the reference's share: D says where a blind is down -/
def mStep (gf : Nat → Int32) (D : Nat → Bool) (v : Int64) (c : Int32) : Int64 := v / 8 * (if D c.toNatClampNeg then (1 : Int32) else gf c.toNatClampNeg).toInt64
def shM (gf : Nat → Int32) (D : Nat → Bool) (o : Option (Nat × List Int32)) : Int64 := match o with
  | none => 0
  | some (_, t) => t.foldl (mStep gf D) 2097152
def dnB (au : Bool) (hb dn : Nat → Bool) : Nat → Bool := fun c => !au && hb c && dn c
def shV (kf gf : Nat → Int32) (D : Nat → Bool) (x y : Int32) (p : Nat) : Int64 := shM gf D (rayR kf (stX p) (stY p) 8 x y)
theorem fold_take {α : Type} (f : α → Int32 → α) (a : α) : ∀ (t : List Int32) (j : Nat), j < t.length → (t.take (j + 1)).foldl f a = f ((t.take j).foldl f a) (t.getD j 0) := by
  intro t j hj
  rw [List.take_add_one, List.foldl_append]
  simp [hj]
theorem getD_mem {t : List Int32} {j : Nat} (hj : j < t.length) : t.getD j 0 ∈ t := by
  simp [List.getD, hj]
def wnB (ra : Nat → Int32) (c : Int32) : Nat → Bool
  | 0 => false
  | n + 1 => wnB ra c n || decide (ra n = c)
theorem wn_any {t : List Int32} {ra : Nat → Int32} (h : raI t ra) (c : Int32) : ∀ n, n ≤ t.length → (wnB ra c n = true ↔ ∃ i, i < n ∧ t.getD i 0 = c) := by
  intro n
  induction n with
  | zero => intro _; simp [wnB]
  | succ n ih =>
    intro hn
    simp only [wnB, Bool.or_eq_true, decide_eq_true_eq, ih (by omega), h n (by omega)]
    constructor
    · rintro (⟨i, h1, h2⟩ | h1)
      · exact ⟨i, by omega, h2⟩
      · exact ⟨n, by omega, h1⟩
    · rintro ⟨i, h1, h2⟩
      by_cases q : i = n
      · subst q; exact Or.inr h2
      · exact Or.inl ⟨i, by omega, h2⟩
def hasW (o : Option (Nat × List Int32)) (c : Int32) : Bool := match o with
  | none => false
  | some (_, t) => t.any (fun z => decide (z = c))
theorem wn_has {k : Nat} {t : List Int32} {ra : Nat → Int32} {o : Option (Nat × List Int32)} (ho : o = some (k, t)) (h : raI t ra) (c : Int32) : wnB ra c t.length = hasW o c := by
  rw [ho, Bool.eq_iff_iff, wn_any h c _ (Nat.le_refl _)]
  simp only [hasW, List.any_eq_true, decide_eq_true_eq]
  constructor
  · rintro ⟨i, h1, h2⟩
    exact ⟨_, getD_mem h1, h2⟩
  · rintro ⟨z, h1, h2⟩
    obtain ⟨i, h3, h4⟩ := List.getElem_of_mem h1
    exact ⟨i, h3, by simp [List.getD, h3, h4, h2]⟩
def noD : Nat → Bool := fun _ => false
theorem dnB_t (hb dn : Nat → Bool) : dnB true hb dn = noD := by funext c; rfl
def grM (kf gf xf yf : Nat → Int32) (s : Int32) (p : Nat) (c : Int32) : Nat → Int64
  | 0 => -1
  | d + 1 => if hasW (rayR kf (stX p) (stY p) 8 (xf d) (yf d)) c && !decide (s.toInt64 * shV kf gf noD (xf d) (yf d) p ≤ grM kf gf xf yf s p c d) then s.toInt64 * shV kf gf noD (xf d) (yf d) p else grM kf gf xf yf s p c d
def grV (kf gf xf yf : Nat → Int32) (s : Int32) (p : Nat) (nd : Nat) (c : Int32) : Int64 := if s ≤ 0 then -1 else grM kf gf xf yf s p c nd
def nwD (gl ca : Int32) (g : Int64) (b : Bool) : Bool := (if b then !decide (g < ca.toInt64 * 2097152) else !decide (g < 0) && !decide (g < gl.toInt64 * 2097152)) && !decide (g < 0)
def lkF (hb : Nat → Bool) (gl ca : Int32) (GV : Int32 → Int64) (m : Nat) (dn : Nat → Bool) : Nat → Bool := fun c => if c < m && hb c then nwD gl ca (GV (nI c)) (dn c) else dn c
theorem lk_0 (hb : Nat → Bool) (gl ca : Int32) (GV : Int32 → Int64) (dn : Nat → Bool) : dn = lkF hb gl ca GV 0 dn := by funext c; simp [lkF]
theorem lk_n {hb : Nat → Bool} {gl ca : Int32} {GV : Int32 → Int64} {dn : Nat → Bool} {j : Nat} (h : hb j = false) : lkF hb gl ca GV j dn = lkF hb gl ca GV (j + 1) dn := by
  funext c
  by_cases q : c = j
  · subst q; simp [lkF, h]
  · have e : decide (c < j) = decide (c < j + 1) := by
      rw [decide_eq_decide]; omega
    simp only [lkF, e]
theorem lk_s {hb : Nat → Bool} {gl ca : Int32} {GV : Int32 → Int64} {dn : Nat → Bool} {j : Nat} (h : hb j = true) {b1 b2 : Bool} (e : b2 = nwD gl ca (GV (nI j)) (dn j)) : bu (bu (lkF hb gl ca GV j dn) j b1) j b2 = lkF hb gl ca GV (j + 1) dn := by
  funext c
  by_cases q : c = j
  · subst q; simp [bu, lkF, h, e]
  · have e : decide (c < j) = decide (c < j + 1) := by
      rw [decide_eq_decide]; omega
    simp [bu, q, lkF, e]
theorem lk_at (hb : Nat → Bool) (gl ca : Int32) (GV : Int32 → Int64) (dn : Nat → Bool) (j : Nat) : lkF hb gl ca GV j dn j = dn j := by simp [lkF]
def dkI (nd : Nat) (da xf yf : Nat → Int32) : Prop := ∀ d, d < nd → cellB (xf d) (yf d) = true ∧ da d = yf d * 8 + xf d
def lkH (kf gf xf yf : Nat → Int32) (nd : Nat) (hb lo : Nat → Bool) (sg pf : Nat → Int32) (gl ca : Int32) (h : Nat) (dn : Nat → Bool) : Nat → Bool :=
  if lo h then dn else lkF hb gl ca (grV kf gf xf yf (sg h) (pf h).toNatClampNeg nd) 64 dn
/-- which blinds are down in front of hour h, as the reference has it -/
def dnH (kf gf xf yf : Nat → Int32) (nd : Nat) (hb lo : Nat → Bool) (sg pf : Nat → Int32) (gl ca : Int32) : Nat → Nat → Bool
  | 0 => fun _ => false
  | h + 1 => lkH kf gf xf yf nd hb lo sg pf gl ca h (dnH kf gf xf yf nd hb lo sg pf gl ca h)
def big64 (dn : Nat → Bool) : Prop := ∀ c, 64 ≤ c → dn c = false
theorem big_lk {kf gf xf yf : Nat → Int32} {nd : Nat} {hb lo : Nat → Bool} {sg pf : Nat → Int32} {gl ca : Int32} {h : Nat} {dn : Nat → Bool} (hd : big64 dn) : big64 (lkH kf gf xf yf nd hb lo sg pf gl ca h dn) := by
  intro c hc
  unfold lkH
  split
  · exact hd c hc
  · simp only [lkF]
    rw [if_neg (by simp; omega)]
    exact hd c hc
theorem big_dn (kf gf xf yf : Nat → Int32) (nd : Nat) (hb lo : Nat → Bool) (sg pf : Nat → Int32) (gl ca : Int32) : ∀ h, big64 (dnH kf gf xf yf nd hb lo sg pf gl ca h)
  | 0 => fun _ _ => rfl
  | h + 1 => big_lk (big_dn kf gf xf yf nd hb lo sg pf gl ca h)
def auF (m : Nat) (dn : Nat → Bool) : Nat → Bool := fun c => if c < m then false else dn c
theorem au_0 (dn : Nat → Bool) : dn = auF 0 dn := by funext c; simp [auF]
theorem au_s {dn : Nat → Bool} {j : Nat} : bu (auF j dn) j false = auF (j + 1) dn := by
  funext c
  by_cases q : c = j
  · subst q; simp [bu, auF]
  · by_cases h : c < j
    · simp [bu, q, auF, h, show c < j + 1 by omega]
    · simp [bu, q, auF, h, show ¬ c < j + 1 by omega]
theorem au_64 {dn : Nat → Bool} (h : big64 dn) : auF 64 dn = fun _ => false := by
  funext c
  simp only [auF]
  split
  · rfl
  · exact h c (by omega)
def mlV (lo : Nat → Bool) (br sg pf : Nat → Int32) (mo : Int32) (sV : Nat → Int64) (h : Nat) (e : Int32) : Int32 :=
  if lo h then (if e = 0 then 0 else (mo.toInt64 * sumL sV 16 / 33554432).toInt32) else (((br h).toInt64 * sumL sV 16 + (if sg h = 0 then 0 else 16 * (sg h).toInt64 * sV (pf h).toNatClampNeg)) / 33554432).toInt32
