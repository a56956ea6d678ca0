theorem coL_0 (pr : Nat → Int32) : ∀ n, coL pr 0 n = 0
  | 0 => rfl
  | n + 1 => by rw [coL, if_neg (by simp), coL_0 pr n]
theorem icM_0 (kf cf : Nat → Int32) : ∀ n, icM kf cf 0 n = true
  | 0 => rfl
  | n + 1 => by rw [icM, if_neg (by simp), icM_0 kf cf n]; rfl
theorem csM_0 (pr kf cf : Nat → Int32) (n : Nat) : csM pr kf cf 0 n = 0 := by rw [csM, if_pos (icM_0 kf cf n), coL_0]
theorem mhH_le (V : Nat → Nat → Int32) (ne : Int32) (d0 h : Nat) : ∀ k, mhH V ne d0 h k ≤ k
  | 0 => Nat.le_refl _
  | k + 1 => by have := mhH_le V ne d0 h k; unfold mhH; split <;> omega
theorem mhT_le (V : Nat → Nat → Int32) (ne : Int32) (d0 n : Nat) : ∀ h, mhT V ne d0 n h ≤ h * n
  | 0 => Nat.zero_le _
  | h + 1 => by
    have h1 := mhT_le V ne d0 n h
    have h2 := mhH_le V ne d0 h n
    unfold mhT
    rw [Nat.succ_mul]
    omega
theorem m1_lt {n : Nat} (h : n < 2 ^ 31) : (-1 : Int32) < nI n := by
  rw [Int32.lt_iff_toInt_lt, nI_toInt h]
  have : (-1 : Int32).toInt = -1 := by decide
  omega
theorem fm_n {EN : Nat → Nat} {pr cf kf : Nat → Int32} {no : Nat} {bud b0 o0 : Int32} (hE : EN 0 < 2 ^ 31) (hb : ¬ bud < 0) : ∀ n, 1 ≤ n → n ≤ 32 → ∃ k, k < 32 ∧ (fdM EN pr cf kf no bud b0 o0 n).1 = nI k := by
  intro n
  induction n with
  | zero => intro h; omega
  | succ n ih =>
    intro _ hn
    by_cases z : n = 0
    · subst z
      refine ⟨0, by omega, ?_⟩
      rw [fm_t (by rw [csM_0]; decide) (by rw [csM_0]; exact hb) (by simp [fdM, wgB, m1_lt hE])]
    · rw [fdM]
      split
      · split
        · exact ⟨n, by omega, rfl⟩
        · exact ih (by omega) (by omega)
      · exact ih (by omega) (by omega)
theorem fm_k {EN : Nat → Nat} {pr cf kf : Nat → Int32} {no : Nat} {bud b0 o0 : Int32} {n : Nat} (hE : EN 0 < 2 ^ 31) (hb : ¬ bud < 0) (h1 : 1 ≤ n) (hn : n ≤ 32) : (fdM EN pr cf kf no bud b0 o0 n).1 = nI (fdM EN pr cf kf no bud b0 o0 n).1.toNatClampNeg ∧ (fdM EN pr cf kf no bud b0 o0 n).1.toNatClampNeg < 32 := by
  obtain ⟨k, h1, h2⟩ := fm_n (EN := EN) (pr := pr) (cf := cf) (kf := kf) (no := no) (bud := bud) (b0 := b0) (o0 := o0) hE hb n h1 hn
  rw [h2, nI_clamp (by omega)]
  exact ⟨rfl, h1⟩
theorem mnS_lt {kf gf xf yf : Nat → Int32} {nd : Nat} {hb lo : Nat → Bool} {br sg pf : Nat → Int32} {mo ne gl ca : Int32} {cf og : Nat → Int32} {no ch : Nat} (hn : nd ≤ 4) : mnS kf gf xf yf nd hb lo br sg pf mo ne gl ca cf og no ch < 2 ^ 31 := by
  unfold mnS
  have := mhT_le (mV (opF cf ch (fun _ => 2) kf no) (opF cf ch og gf no) xf yf nd hb lo br sg pf mo gl ca 0) ne 0 nd 12
  omega
theorem pow_1 : ∀ n, n ≤ 5 → 1 ≤ 2 ^ n := by decide
theorem inb_0 {b m : Int32} (h : inB b 0 m = true) : ¬ b < 0 := by
  simp only [inB, Bool.and_eq_true, Bool.not_eq_true', decide_eq_false_iff_not] at h
  exact h.1
