/-! ===== light, hours with light enough: class and reference agree ===== -/
theorem sg0_iff {s : Int32} (h : 0 ≤ s.toInt) : (s ≤ 0) ↔ (s = 0) := by
  rw [Int32.le_iff_toInt_le, ← Int32.toInt_inj]
  have : (0 : Int32).toInt = 0 := by decide
  omega
theorem lt_ml {lo : Nat → Bool} {brD sgD br sg pf : Nat → Int32} {mo : Int32} {sV : Nat → Int64} {h : Nat} {e : Int32} (h1 : lo h = false → brD h = br h ∧ sgD h = sg h ∧ 0 ≤ (sg h).toInt) : ltV lo brD sgD pf mo sV (sumL sV 16) h e = mlV lo br sg pf mo sV h e := by
  unfold ltV mlV
  cases hl : lo h with
  | true =>
    by_cases he : e = 0
    · simp [he]
    · simp [he, sunB, hl]
  | false =>
    obtain ⟨e1, e2, e3⟩ := h1 hl
    simp only [sunB, hl, e1, e2, Bool.false_and, Bool.false_eq_true, if_false, Bool.not_false, Bool.true_and]
    by_cases hs : sg h = 0
    · have : sg h ≤ 0 := (sg0_iff e3).mpr hs
      simp [hs]
    · have : ¬ sg h ≤ 0 := fun q => hs ((sg0_iff e3).mp q)
      simp only [this, decide_false, Bool.not_false, if_true, hs, if_false]
      rw [Int64.mul_comm (sg h).toInt64 16]
theorem su_eq {kf gf xf yf : Nat → Int32} {bl : Int64} (hpl : plI kf gf bl) {lw : Int64} {D : Nat → Bool} (hD : ∀ c, c < 64 → hbB lw (nI c) = D c) (d : Nat) : cSu kf gf xf yf lw d = sumL (fun p => shV kf gf D (xf d) (yf d) p) 16 := by
  unfold cSu
  split
  · rename_i hz
    unfold sumT
    refine sumL_c 16 (fun p _ => ?_)
    rw [← sh_eq hpl hD d p, hz]
    unfold cSh
    rw [if_pos (by simp)]
  · exact sumL_c 16 (fun p _ => sh_eq hpl hD d p)
def hrI (lo : Nat → Bool) (brD sgD br sg pf : Nat → Int32) : Prop := (∀ h, h < 12 → vp_in (pf h) 16) ∧ ∀ h, h < 12 → lo h = false → brD h = br h ∧ sgD h = sg h ∧ 0 ≤ (sg h).toInt
theorem v_eq {kf gf xf yf : Nat → Int32} {bl : Int64} {nd : Nat} {bf lo : Nat → Bool} {brD sgD br sg pf : Nat → Int32} {mo gl ca e : Int32} (hpl : plI kf gf bl) (hgl : lim gl) (hca : lim ca) (hbR : ∀ c, c < 64 → hbB bl (nI c) = bf c) (hh : hrI lo brD sgD br sg pf) {d h : Nat} (hlt : h < 12) :
    cV kf gf bl xf yf nd lo brD sgD pf mo gl ca e d h = mV kf gf xf yf nd bf lo br sg pf mo gl ca e d h := by
  have hD : ∀ c, c < 64 → hbB (cLo kf gf bl xf yf nd lo sgD pf gl ca h) (nI c) = dnB false bf (dnH kf gf xf yf nd bf lo sg pf gl ca (h + 1)) c := by
    intro c hc
    unfold cLo
    rw [lo_dn hgl hca hh.1 hbR (fun z hz hl => (hh.2 z hz hl).2.1) hc (h + 1) (by omega)]
    simp [dnB]
  unfold cV mV
  rw [su_eq hpl hD d, show (fun p => cSh kf gf xf yf (cLo kf gf bl xf yf nd lo sgD pf gl ca h) d p) = (fun p => shV kf gf (dnB false bf (dnH kf gf xf yf nd bf lo sg pf gl ca (h + 1))) (xf d) (yf d) p) from funext (fun p => sh_eq hpl hD d p)]
  exact lt_ml (hh.2 h hlt)
theorem mh_swap (V : Nat → Nat → Int32) (ne : Int32) (d0 : Nat) : ∀ n h, mhT V ne d0 (n + 1) h = mhT V ne d0 n h + enH V ne (d0 + n) h
  | n, 0 => rfl
  | n, h + 1 => by
    simp only [mhT, enH, mhH]
    rw [mh_swap V ne d0 n h]
    omega
theorem mh_0 (V : Nat → Nat → Int32) (ne : Int32) (d0 : Nat) : ∀ h, mhT V ne d0 0 h = 0
  | 0 => rfl
  | h + 1 => by simp only [mhT, mhH]; rw [mh_0 V ne d0 h]
theorem en_mh (V : Nat → Nat → Int32) (ne : Int32) (d0 : Nat) : ∀ n, enD V ne d0 n = mhT V ne d0 n 12
  | 0 => (mh_0 V ne d0 12).symm
  | n + 1 => by rw [enD, en_mh V ne d0 n, mh_swap]
theorem en_eq {kf gf xf yf : Nat → Int32} {bl : Int64} {nd : Nat} {bf lo : Nat → Bool} {brD sgD br sg pf : Nat → Int32} {mo ne gl ca e : Int32} (hpl : plI kf gf bl) (hgl : lim gl) (hca : lim ca) (hbR : ∀ c, c < 64 → hbB bl (nI c) = bf c) (hh : hrI lo brD sgD br sg pf) (d0 n : Nat) :
    enD (cV kf gf bl xf yf nd lo brD sgD pf mo gl ca e) ne d0 n = mhT (mV kf gf xf yf nd bf lo br sg pf mo gl ca e) ne d0 n 12 := by
  rw [enD_c n (fun d h _ _ hlt => v_eq hpl hgl hca hbR hh hlt), en_mh]
/-! choices -/
theorem icT_bit {cf : Nat → Int32} {ch : Nat} {k : Nat} (hk : k < 64) : ∀ n, (∀ q, q < n → vp_in (cf q) 64) → (hbB (icT cf ch n) (nI k) = true ↔ ∃ j, j < n ∧ ch.testBit j = true ∧ cf j = nI k)
  | 0, _ => by rw [icT, bv_0 hk]; simp
  | n + 1, h => by
    obtain ⟨e, hc⟩ := nI_back (h n (by omega)) (by omega)
    have ih := icT_bit (cf := cf) (ch := ch) hk n (fun q hq => h q (by omega))
    rw [icT]
    split
    · rename_i hb
      rw [bv_or _ _ hk, Bool.or_eq_true, ih, e, bv_one hc hk, decide_eq_true_eq]
      constructor
      · rintro (⟨j, h1, h2, h3⟩ | h1)
        · exact ⟨j, by omega, h2, h3⟩
        · exact ⟨n, by omega, hb, by rw [h1]; exact e⟩
      · rintro ⟨j, h1, h2, h3⟩
        by_cases q : j = n
        · subst q
          right
          rw [h3, nI_clamp (by omega)]
        · exact Or.inl ⟨j, by omega, h2, h3⟩
    · rename_i hb
      rw [ih]
      constructor
      · rintro ⟨j, h1, h2, h3⟩; exact ⟨j, by omega, h2, h3⟩
      · rintro ⟨j, h1, h2, h3⟩
        by_cases q : j = n
        · subst q; exact absurd h2 hb
        · exact ⟨j, by omega, h2, h3⟩
theorem dup_iff {cf : Nat → Int32} {ch k : Nat} : ∀ n, (dupM cf ch k n = true ↔ ¬ ∃ j, j < n ∧ ch.testBit j = true ∧ cf j = cf k)
  | 0 => by simp [dupM]
  | n + 1 => by
    simp only [dupM, Bool.and_eq_true, dup_iff n, Bool.not_eq_true', Bool.and_eq_false_iff, decide_eq_false_iff_not]
    constructor
    · rintro ⟨h1, h2⟩ ⟨j, h3, h4, h5⟩
      by_cases q : j = n
      · subst q
        rcases h2 with h2 | h2
        · rw [h4] at h2; cases h2
        · exact h2 h5
      · exact h1 ⟨j, by omega, h4, h5⟩
    · intro h
      refine ⟨fun ⟨j, h3, h4, h5⟩ => h ⟨j, by omega, h4, h5⟩, ?_⟩
      cases hb : ch.testBit n with
      | false => exact Or.inl rfl
      | true => exact Or.inr (fun q => h ⟨n, by omega, hb, q⟩)
theorem ic_eq {kf cf : Nat → Int32} {ch : Nat} : ∀ n, (∀ q, q < n → vp_in (cf q) 64) → icB kf cf ch n = icM kf cf ch n
  | 0, _ => rfl
  | n + 1, h => by
    rw [icB, icM, ic_eq n (fun q hq => h q (by omega))]
    congr 1
    split
    · congr 1
      obtain ⟨e, hc⟩ := nI_back (h n (by omega)) (by omega)
      have h1 := icT_bit (cf := cf) (ch := ch) hc n (fun q hq => h q (by omega))
      rw [← e] at h1
      rw [Bool.eq_iff_iff, dup_iff, Bool.not_eq_true', ← Bool.not_eq_true, h1]
    · rfl
def prI (pr : Nat → Int32) (no : Nat) : Prop := ∀ q, q < no → 0 ≤ (pr q).toInt ∧ (pr q).toInt ≤ 1000
theorem coL_b {pr : Nat → Int32} {ch no : Nat} (h : prI pr no) (hn : no ≤ 5) : ∀ n, n ≤ no → 0 ≤ (coL pr ch n).toInt ∧ (coL pr ch n).toInt ≤ 1000 * n
  | 0, _ => by
    have : (0 : Int32).toInt = 0 := by decide
    rw [coL, this]; omega
  | n + 1, hk => by
    obtain ⟨h1, h2⟩ := coL_b (ch := ch) h hn n (by omega)
    obtain ⟨h3, h4⟩ := h n (by omega)
    rw [coL]
    split
    · rw [i32_add (by omega) (by omega)]; omega
    · omega
theorem coL_ne {pr : Nat → Int32} {ch no : Nat} (h : prI pr no) (hn : no ≤ 5) : ¬ coL pr ch no = -1 := by
  intro e
  have := (coL_b (ch := ch) h hn no (Nat.le_refl _)).1
  rw [e] at this
  exact absurd this (by decide)
theorem fd_eq {EN EM : Nat → Nat} {pr cf kf : Nat → Int32} {no : Nat} {bud b0 o0 : Int32} (hE : ∀ c, icB kf cf c no = true → EN c = EM c) (hpr : prI pr no) (hn : no ≤ 5) (hcf : ∀ q, q < no → vp_in (cf q) 64) (hb : ¬ bud < 0) (h31 : EM 0 < 2 ^ 31) : ∀ c, fdS EN pr cf kf no bud (c + 1) = fdM EM pr cf kf no bud b0 o0 (c + 1) := by
  have st : ∀ c F1 F2, F1 = F2 → (if !decide (bud < coL pr c no) && icB kf cf c no then (if wgB F1.2.2 F1.2.1 (coL pr c no) (nI (EN c)) then (nI c, coL pr c no, nI (EN c)) else F1) else F1) = (if !decide (csM pr kf cf c no = -1) && !decide (bud < csM pr kf cf c no) then (if wgB F2.2.2 F2.2.1 (csM pr kf cf c no) (nI (EM c)) then (nI c, csM pr kf cf c no, nI (EM c)) else F2) else F2) := by
    intro c F1 F2 e
    subst e
    cases hi : icB kf cf c no with
    | true =>
      have e1 : csM pr kf cf c no = coL pr c no := by rw [csM, ← ic_eq no hcf, hi]; rfl
      rw [e1, hE c hi]
      have : decide (coL pr c no = -1) = false := by simp [coL_ne hpr hn]
      simp [this]
    | false =>
      have e1 : csM pr kf cf c no = -1 := by rw [csM, ← ic_eq no hcf, hi]; rfl
      simp [e1]
  intro c
  induction c with
  | zero =>
    have i0 : icB kf cf 0 no = true := by rw [ic_eq no hcf]; exact icM_0 kf cf no
    have e0 := hE 0 i0
    rw [fd_go (by rw [coL_0]; exact hb) i0, fm_t (by rw [csM_0]; decide) (by rw [csM_0]; exact hb) (by simp [fdM, wgB, m1_lt h31]), if_pos (by simp [fdS, wgB, e0, m1_lt h31]), coL_0, csM_0, e0]
  | succ c ih =>
    rw [fdS, fdM]
    exact st (c + 1) _ _ ih
theorem ens_eq {kf gf xf yf : Nat → Int32} {bl : Int64} {nd : Nat} {bf lo : Nat → Bool} {brD sgD br sg pf : Nat → Int32} {mo ne gl ca : Int32} {cf og : Nat → Int32} {no : Nat} (hpl : plI kf gf bl) (hof : ofI cf og no) (hgl : lim gl) (hca : lim ca) (hbR : ∀ c, c < 64 → hbB bl (nI c) = bf c) (hh : hrI lo brD sgD br sg pf) (c : Nat) (hi : icB kf cf c no = true) :
    enS kf gf bl xf yf nd lo brD sgD pf mo ne gl ca cf og no c = mnS kf gf xf yf nd bf lo br sg pf mo ne gl ca cf og no c := by
  unfold enS mnS
  exact en_eq (op_pl hpl hof c no (Nat.le_refl _)) hgl hca (by rw [op_b1 hpl hof hi no (Nat.le_refl _)]; exact hbR) hh 0 nd
theorem fd_same {kf gf xf yf : Nat → Int32} {bl : Int64} {nd : Nat} {bf lo : Nat → Bool} {brD sgD br sg pf : Nat → Int32} {mo ne gl ca : Int32} {cf og pr : Nat → Int32} {no : Nat} {bud b0 o0 : Int32} (hnd : nd ≤ 4) (hno : no ≤ 5) (hpl : plI kf gf bl) (hof : ofI cf og no) (hpr : prI pr no) (hgl : lim gl) (hca : lim ca) (hbR : ∀ c, c < 64 → hbB bl (nI c) = bf c) (hh : hrI lo brD sgD br sg pf) (hb : ¬ bud < 0) :
    fdS (enS kf gf bl xf yf nd lo brD sgD pf mo ne gl ca cf og no) pr cf kf no bud (2 ^ no) = fdM (mnS kf gf xf yf nd bf lo br sg pf mo ne gl ca cf og no) pr cf kf no bud b0 o0 (2 ^ no) := by
  obtain ⟨c, hc⟩ : ∃ c, 2 ^ no = c + 1 := ⟨2 ^ no - 1, by have := pow_1 no hno; omega⟩
  rw [hc]
  exact fd_eq (fun c hi => ens_eq hpl hof hgl hca hbR hh c hi) hpr hno (fun q hq => (hof q hq).1) hb (mnS_lt hnd) c
