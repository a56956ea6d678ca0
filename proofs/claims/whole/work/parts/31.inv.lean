/-! ===== what every call keeps ===== -/
def hbR (bl : Int64) (bf : Nat → Bool) : Prop := ∀ c, c < 64 → hbB bl (nI c) = bf c
theorem inb_rng {v a b : Int32} (h : inB v a b = true) : a.toInt ≤ v.toInt ∧ v.toInt ≤ b.toInt := by
  simp only [inB, Bool.and_eq_true, Bool.not_eq_true', decide_eq_false_iff_not, Int32.lt_iff_toInt_lt] at h
  omega
theorem gOK_of {v : Int32} (h : inB v 1 8 = true) : gOK v := by
  obtain ⟨h1, h2⟩ := inb_rng h
  have e1 : (1 : Int32).toInt = 1 := by decide
  have e8 : (8 : Int32).toInt = 8 := by decide
  obtain ⟨n, hn, rfl⟩ := nI_of (x := v) (by rw [Int32.lt_iff_toInt_lt]; have : (0 : Int32).toInt = 0 := by decide
                                            omega)
  rw [nI_toInt hn] at h1 h2
  exact ⟨n, by omega, by omega, rfl⟩
theorem lim_of {v : Int32} (h : inB v 0 1000 = true) : lim v := by
  obtain ⟨h1, h2⟩ := inb_rng h
  have e1 : (0 : Int32).toInt = 0 := by decide
  have e8 : (1000 : Int32).toInt = 1000 := by decide
  exact ⟨by omega, by omega⟩
theorem bu_ne {f : Nat → Bool} {i j : Nat} {b : Bool} (h : j ≠ i) : bu f i b j = f j := by simp [bu, h]
theorem cn_n {x y : Int32} (h : cellB x y = true) : y * 8 + x = nI (cn x y) := (nI_back (cn_in h) (by omega)).1
theorem pl_cell {kf gf : Nat → Int32} {bl : Int64} {x y v : Int32} (h : plI kf gf bl) : plI (nCellK kf x y v) (nCellG gf x y v) (nCellB bl x y v) := by
  unfold nCellK nCellG nCellB
  cases ok : okC x y v with
  | false => simpa using h
  | true =>
    simp only [if_true]
    simp only [okC, Bool.and_eq_true] at ok
    intro c hc
    rw [cn_n ok.1, bl_put _ _ (cn_lt ok.1) hc]
    by_cases q : c = cn x y
    · left
      rw [q, pk_us, pk_us, if_pos rfl]
      refine ⟨?_, rfl, rfl⟩
      have := ok.2
      rw [in01] at this
      simpa using this
    · rw [pk_un q, pk_un q, if_neg q]
      exact h c hc
theorem hb_cell {bl : Int64} {bf : Nat → Bool} {x y v : Int32} (h : hbR bl bf) : hbR (nCellB bl x y v) (nCellH bf x y v) := by
  unfold nCellB nCellH
  cases ok : okC x y v with
  | false => simpa using h
  | true =>
    simp only [if_true]
    simp only [okC, Bool.and_eq_true] at ok
    intro c hc
    rw [cn_n ok.1, bl_put _ _ (cn_lt ok.1) hc]
    by_cases q : c = cn x y
    · rw [if_pos q, q, bu_at]
    · rw [if_neg q, bu_ne q]; exact h c hc
theorem pl_win {kf gf : Nat → Int32} {bl : Int64} {x y v : Int32} {b : Bool} (h : plI kf gf bl) : plI (nWinK kf x y v) (nWinG gf x y v) (nWinB bl x y v b) := by
  unfold nWinK nWinG nWinB
  cases ok : okW x y v with
  | false => simpa using h
  | true =>
    simp only [if_true]
    simp only [okW, Bool.and_eq_true] at ok
    intro c hc
    rw [cn_n ok.1, bl_put _ _ (cn_lt ok.1) hc]
    by_cases q : c = cn x y
    · right
      rw [q, pk_us, pk_us]
      exact ⟨rfl, gOK_of ok.2⟩
    · rw [pk_un q, pk_un q, if_neg q]
      exact h c hc
theorem hb_win {bl : Int64} {bf : Nat → Bool} {x y v : Int32} {b : Bool} (h : hbR bl bf) : hbR (nWinB bl x y v b) (nWinH bf x y v b) := by
  unfold nWinB nWinH
  cases ok : okW x y v with
  | false => simpa using h
  | true =>
    simp only [if_true]
    simp only [okW, Bool.and_eq_true] at ok
    intro c hc
    rw [cn_n ok.1, bl_put _ _ (cn_lt ok.1) hc]
    by_cases q : c = cn x y
    · rw [if_pos q, q, bu_at]
    · rw [if_neg q, bu_ne q]; exact h c hc
theorem dk_desk {nd : Nat} {da xf yf : Nat → Int32} {x y : Int32} (h : dkI nd da xf yf) : dkI (nDeskN nd x y) (nDeskX da nd x y (y * 8 + x)) (nDeskX xf nd x y x) (nDeskX yf nd x y y) := by
  unfold nDeskN nDeskX
  cases ok : okD nd x y with
  | false => simpa using h
  | true =>
    simp only [if_true]
    simp only [okD, Bool.and_eq_true] at ok
    intro d hd
    by_cases q : d = nd
    · rw [q, pk_us, pk_us, pk_us]; exact ⟨ok.1, rfl⟩
    · rw [pk_un q, pk_un q, pk_un q]; exact h d (by omega)
theorem nd_desk {nd : Nat} {x y : Int32} (h : nd ≤ 4) : nDeskN nd x y ≤ 4 ∧ nd ≤ nDeskN nd x y := by
  unfold nDeskN
  cases ok : okD nd x y with
  | false => simpa using h
  | true =>
    simp only [okD, Bool.and_eq_true, decide_eq_true_eq] at ok
    simp only [if_true]
    omega
theorem dk_move {nd : Nat} {da xf yf : Nat → Int32} {e x y : Int32} (hn : nd ≤ 4) (h : dkI nd da xf yf) : dkI nd (nMove da nd e x y (y * 8 + x)) (nMove xf nd e x y x) (nMove yf nd e x y y) := by
  unfold nMove
  cases ok : okM nd e x y with
  | false => simpa using h
  | true =>
    simp only [if_true]
    simp only [okM, Bool.and_eq_true] at ok
    intro d hd
    by_cases q : d = e.toNatClampNeg
    · rw [q, pk_us, pk_us, pk_us]; exact ⟨ok.2, rfl⟩
    · rw [pk_un q, pk_un q, pk_un q]; exact h d hd
theorem hr_bri {lo : Nat → Bool} {brD sgD br sg pf : Nat → Int32} {h v : Int32} (q : hrI lo brD sgD br sg pf) : hrI (nBriL lo h v) (nBri brD h v v) (nBri sgD h v 0) (nBri br h v v) (nBri sg h v 0) pf := by
  unfold nBriL nBri
  cases ok : okB h v with
  | false => simpa using q
  | true =>
    simp only [if_true]
    refine ⟨q.1, fun k hk hl => ?_⟩
    by_cases e : k = h.toNatClampNeg
    · rw [e, pk_us, pk_us, pk_us, pk_us]; exact ⟨rfl, rfl, by decide⟩
    · rw [bu_ne e] at hl
      rw [pk_un e, pk_un e, pk_un e, pk_un e]; exact q.2 k hk hl
theorem hr_sun {lo : Nat → Bool} {brD sgD br sg pf : Nat → Int32} {h p v : Int32} (q : hrI lo brD sgD br sg pf) : hrI lo brD (nSun lo sgD h p v v) br (nSun lo sg h p v v) (nSun lo pf h p v p) := by
  unfold nSun
  cases ok : okS lo h p v with
  | false => simpa using q
  | true =>
    simp only [if_true]
    simp only [okS, Bool.and_eq_true] at ok
    refine ⟨fun k hk => ?_, fun k hk hl => ?_⟩
    · by_cases e : k = h.toNatClampNeg
      · rw [e, pk_us]; exact patch_in ok.1.1.2
      · rw [pk_un e]; exact q.1 k hk
    · by_cases e : k = h.toNatClampNeg
      · rw [e, pk_us, pk_us, ← e]
        exact ⟨(q.2 k hk hl).1, rfl, (lim_of ok.1.2).1⟩
      · rw [pk_un e, pk_un e]; exact q.2 k hk hl
theorem hr_lose {lo : Nat → Bool} {brD sgD br sg pf : Nat → Int32} {h : Int32} (q : hrI lo brD sgD br sg pf) : hrI (nLose lo h) brD sgD (nLoseZ br lo h) (nLoseZ sg lo h) pf := by
  unfold nLose nLoseZ
  cases ok : (hourB h && !lo h.toNatClampNeg) with
  | false => simpa using q
  | true =>
    simp only [if_true]
    refine ⟨q.1, fun k hk hl => ?_⟩
    by_cases e : k = h.toNatClampNeg
    · rw [e, bu_at] at hl; cases hl
    · rw [bu_ne e] at hl
      rw [pk_un e, pk_un e]; exact q.2 k hk hl
theorem li_law {f g c v : Int32} (h : lim f) (hv : okL g c = true → lim v) : lim (nLaw f g c v) := by
  unfold nLaw
  split
  · rename_i ok; exact hv ok
  · exact h
theorem okL_g {g c : Int32} (h : okL g c = true) : lim g ∧ lim c := by
  simp only [okL, Bool.and_eq_true] at h
  have h1 := lim_of h.1
  obtain ⟨h2, h3⟩ := inb_rng h.2
  have e1 : (0 : Int32).toInt = 0 := by decide
  exact ⟨h1, by omega, by have := h1.2; omega⟩
theorem of_off {cf og : Nat → Int32} {no : Nat} {x y g p : Int32} (h : ofI cf og no) : ofI (nOff cf no x y g p (y * 8 + x)) (nOff og no x y g p g) (nOffN no x y g p) := by
  unfold nOff nOffN
  cases ok : okO no x y g p with
  | false => simpa using h
  | true =>
    simp only [if_true]
    simp only [okO, Bool.and_eq_true] at ok
    intro q hq
    by_cases e : q = no
    · rw [e, pk_us, pk_us]; exact ⟨cn_in ok.1.1.1, gOK_of ok.1.1.2⟩
    · rw [pk_un e, pk_un e]; exact h q (by omega)
theorem pr_off {pr : Nat → Int32} {no : Nat} {x y g p : Int32} (h : prI pr no) : prI (nOff pr no x y g p p) (nOffN no x y g p) := by
  unfold nOff nOffN
  cases ok : okO no x y g p with
  | false => simpa using h
  | true =>
    simp only [if_true]
    simp only [okO, Bool.and_eq_true] at ok
    intro q hq
    by_cases e : q = no
    · rw [e, pk_us]; exact lim_of ok.1.2
    · rw [pk_un e]; exact h q (by omega)
theorem no_off {no : Nat} {x y g p : Int32} (h : no ≤ 5) : nOffN no x y g p ≤ 5 := by
  unfold nOffN
  cases ok : okO no x y g p with
  | false => simpa using h
  | true =>
    simp only [okO, Bool.and_eq_true, decide_eq_true_eq] at ok
    simp only [if_true]
    omega
theorem down_eq {kf gf xf yf : Nat → Int32} {bl : Int64} {nd : Nat} {bf lo : Nat → Bool} {brD sgD br sg pf : Nat → Int32} {gl ca x y h : Int32} (hgl : lim gl) (hca : lim ca) (hb : hbR bl bf) (hh : hrI lo brD sgD br sg pf) : aDown bl (cLo kf gf bl xf yf nd lo sgD pf gl ca) x y h = aDownM bf (fun z => dnH kf gf xf yf nd bf lo sg pf gl ca z) x y h := by
  unfold aDown aDownM
  cases hc : (cellB x y && hourB h) with
  | false => rfl
  | true =>
    simp only [Bool.and_eq_true] at hc
    have hn := cn_n hc.1
    have hl := cn_lt hc.1
    have hh2 := (nI_back (hour_in hc.2) (by omega)).2
    rw [hn, hb _ hl]
    unfold cLo
    rw [lo_dn hgl hca hh.1 hb (fun z hz hl => (hh.2 z hz hl).2.1) hl _ (by omega)]
    cases hbf : bf (cn x y) with
    | false => rfl
    | true => simp
theorem loss_eq {kf gf xf yf zf : Nat → Int32} {nd kn : Nat} {d : Int32} (hn : nd ≤ 4) (hk : kn ≤ nd) : aLoss kf gf xf yf zf nd (nI kn) d = aLossM kf gf xf yf zf (nI kn) d := by
  unfold aLoss aLossM
  rw [inb_has (by omega)]
  have : (hasB (nI nd) d && decide (d < nI kn)) = hasB (nI kn) d := by
    simp only [hasB]
    rw [Bool.eq_iff_iff]
    simp only [Bool.and_eq_true, Bool.not_eq_true', decide_eq_false_iff_not, decide_eq_true_eq, Int32.lt_iff_toInt_lt, Int32.le_iff_toInt_le, nI_toInt (show nd < 2 ^ 31 by omega), nI_toInt (show kn < 2 ^ 31 by omega)]
    omega
  rw [this]
theorem at_eq {kf gf : Nat → Int32} {bl : Int64} {bf : Nat → Bool} {x y w : Int32} (h : hbR bl bf) : aAt kf gf (hbB bl (y * 8 + x)) x y w = aAt kf gf (bf (cn x y)) x y w := by
  unfold aAt
  cases hc : cellB x y with
  | false => rfl
  | true => rw [cn_n hc, h _ (cn_lt hc)]
