/-! ===== make, best, enough, light: both sides ===== -/
theorem icB_0 (kf cf : Nat → Int32) : ∀ n, icB kf cf 0 n = true
  | 0 => rfl
  | n + 1 => by rw [icB, if_neg (by simp), icB_0 kf cf n]; rfl
theorem fd_ic {EN : Nat → Nat} {pr cf kf : Nat → Int32} {no : Nat} {bud : Int32} : ∀ n, n ≤ 32 → ∃ k, k < 32 ∧ (fdS EN pr cf kf no bud n).1 = nI k ∧ icB kf cf k no = true := by
  intro n
  induction n with
  | zero => intro _; exact ⟨0, by omega, rfl, icB_0 kf cf no⟩
  | succ n ih =>
    intro h
    rw [fdS]
    split
    · rename_i hc
      simp only [Bool.and_eq_true] at hc
      split
      · exact ⟨n, by omega, rfl, hc.2⟩
      · exact ih (by omega)
    · exact ih (by omega)
theorem fd_icK {EN : Nat → Nat} {pr cf kf : Nat → Int32} {no : Nat} {bud : Int32} {n : Nat} (hn : n ≤ 32) : icB kf cf (fdS EN pr cf kf no bud n).1.toNatClampNeg no = true := by
  obtain ⟨k, h1, h2, h3⟩ := fd_ic (EN := EN) (pr := pr) (cf := cf) (kf := kf) (no := no) (bud := bud) n hn
  rw [h2, nI_clamp (by omega)]
  exact h3
theorem pl_make {kf gf cf og : Nat → Int32} {bl : Int64} {no : Nat} {b : Int32} (hpl : plI kf gf bl) (hof : ofI cf og no) (K : Nat) : plI (nMake kf (opF cf K (fun _ => 2) kf no) b) (nMake gf (opF cf K og gf no) b) (nMakeB bl (opB cf K bl no) b) := by
  unfold nMake nMakeB
  cases okMk b with
  | false => simpa using hpl
  | true => simpa using op_pl hpl hof K no (Nat.le_refl _)
theorem hb_make {kf gf cf og : Nat → Int32} {bl : Int64} {bf : Nat → Bool} {no : Nat} {b : Int32} (hpl : plI kf gf bl) (hof : ofI cf og no) (h : hbR bl bf) {K : Nat} (hi : icB kf cf K no = true) : hbR (nMakeB bl (opB cf K bl no) b) bf := by
  unfold nMakeB
  rw [op_b1 hpl hof hi no (Nat.le_refl _)]
  simpa using h
theorem of_make {cf og : Nat → Int32} {no : Nat} {b : Int32} (h : ofI cf og no) : ofI cf og (nMakeN no b) := by
  unfold nMakeN
  split
  · exact fun q hq => absurd hq (Nat.not_lt_zero q)
  · exact h
theorem pr_make {pr : Nat → Int32} {no : Nat} {b : Int32} (h : prI pr no) : prI pr (nMakeN no b) := by
  unfold nMakeN
  split
  · exact fun q hq => absurd hq (Nat.not_lt_zero q)
  · exact h
theorem no_make {no : Nat} {b : Int32} (h : no ≤ 5) : nMakeN no b ≤ 5 := by
  unfold nMakeN
  split <;> omega
theorem nMake_c {f g1 g2 : Nat → Int32} {b : Int32} (h : okMk b = true → g1 = g2) : nMake f g1 b = nMake f g2 b := by
  unfold nMake
  cases ok : okMk b with
  | false => rfl
  | true => rw [h ok]
theorem aMake_c {F1 F2 : Int32 × Int32 × Int32} {b : Int32} (h : okMk b = true → F1 = F2) : aMake F1 b = aMake F2 b := by
  unfold aMake
  cases ok : okMk b with
  | false => rfl
  | true => rw [h ok]
theorem aBest_c {F1 F2 : Int32 × Int32 × Int32} {b w : Int32} (h : inB b 0 5000 = true → F1 = F2) : aBest F1 b w = aBest F2 b w := by
  unfold aBest
  cases ok : okBe b w with
  | false => rfl
  | true =>
    simp only [okBe, Bool.and_eq_true] at ok
    rw [h ok.1]
theorem aLight_c {nd : Nat} {V1 V2 : Nat → Nat → Int32} {d h e : Int32} (hV : ∀ d h, h < 12 → V1 d h = V2 d h) : aLight nd V1 d h e = aLight nd V2 d h e := by
  unfold aLight
  cases ok : (hasB (nI nd) d && hourB h) with
  | false => rfl
  | true =>
    simp only [Bool.and_eq_true] at ok
    rw [hV _ _ (nI_back (hour_in ok.2) (by omega)).2]
theorem aEnough_c {nd : Nat} {V1 V2 : Nat → Nat → Int32} {ne d e : Int32} (hV : ∀ d0 n, enD V1 ne d0 n = mhT V2 ne d0 n 12) : aEnough nd V1 ne d e = aEnoughM nd V2 ne d e := by
  unfold aEnough aEnoughM
  rw [hV]
