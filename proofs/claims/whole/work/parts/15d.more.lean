theorem at_u {kf gf : Nat → Int32} {q : Bool} {x y w : Int32} (h : cellB x y = true) : aAt kf gf q x y w = if w = 0 then kf (cn x y) else if w = 1 then gf (cn x y) else if w = 2 then b2i q else -3 := by simp [aAt, h]
theorem at_0 {kf gf : Nat → Int32} {q : Bool} {x y w : Int32} (h : cellB x y = true) (c : w = nI 0) : kf (cn x y) = aAt kf gf q x y w := by rw [at_u h, c]; rfl
theorem at_1 {kf gf : Nat → Int32} {q : Bool} {x y w : Int32} (h : cellB x y = true) (c : w = nI 1) : gf (cn x y) = aAt kf gf q x y w := by rw [at_u h, c]; rfl
theorem at_2 {kf gf : Nat → Int32} {q : Bool} {x y w : Int32} (h : cellB x y = true) (c : w = nI 2) : b2i q = aAt kf gf q x y w := by rw [at_u h, c]; rfl
theorem at_d {kf gf : Nat → Int32} {q : Bool} {x y w : Int32} (h : cellB x y = true) (c : w.toInt < 0 ∨ ((3 : Nat) : Int) - 1 < w.toInt) : -3 = aAt kf gf q x y w := by
  rw [at_u h, if_neg (show ¬ w = 0 from tw_no (k := 0) (by decide) (by decide) c), if_neg (show ¬ w = 1 from tw_no (k := 1) (by decide) (by decide) c), if_neg (show ¬ w = 2 from tw_no (k := 2) (by decide) (by decide) c)]
def okBe (b w : Int32) : Bool := inB b 0 5000 && inB w 0 2
def aBest (F : Int32 × Int32 × Int32) (b w : Int32) : Int32 := if !okBe b w then -3 else if w = 0 then F.1 else if w = 1 then F.2.1 else F.2.2
def okMk (b : Int32) : Bool := inB b 0 5000
def aMake (F : Int32 × Int32 × Int32) (b : Int32) : Int32 := if okMk b then F.1 else -3
def nMake (f g : Nat → Int32) (b : Int32) : Nat → Int32 := if okMk b then g else f
def nMakeB (f g : Int64) (b : Int32) : Int64 := if okMk b then g else f
def nMakeN (no : Nat) (b : Int32) : Nat := if okMk b then 0 else no
theorem fd_n {EN : Nat → Nat} {pr cf kf : Nat → Int32} {no : Nat} {bud : Int32} : ∀ n, n ≤ 32 → ∃ k, k < 32 ∧ (fdS EN pr cf kf no bud n).1 = nI k := by
  intro n
  induction n with
  | zero => intro _; exact ⟨0, by omega, rfl⟩
  | succ n ih =>
    intro h
    rw [fdS]
    split
    · split
      · exact ⟨n, by omega, rfl⟩
      · exact ih (by omega)
    · exact ih (by omega)
theorem fd_k {EN : Nat → Nat} {pr cf kf : Nat → Int32} {no : Nat} {bud : Int32} {n : Nat} (hn : n ≤ 32) : (fdS EN pr cf kf no bud n).1 = nI (fdS EN pr cf kf no bud n).1.toNatClampNeg ∧ (fdS EN pr cf kf no bud n).1.toNatClampNeg < 32 := by
  obtain ⟨k, h1, h2⟩ := fd_n (EN := EN) (pr := pr) (cf := cf) (kf := kf) (no := no) (bud := bud) n hn
  rw [h2, nI_clamp (by omega)]
  exact ⟨rfl, h1⟩
def kpF (kf gf xf yf : Nat → Int32) (m : Nat) (f : Nat → Int32) : Nat → Int32 := fun d => if d < m then skyV kf gf xf yf d else f d
theorem kp_0 (kf gf xf yf f : Nat → Int32) : f = kpF kf gf xf yf 0 f := by funext q; simp [kpF]
theorem kp_s {kf gf xf yf f : Nat → Int32} {i : Nat} : upd (kpF kf gf xf yf i f) i (skyV kf gf xf yf i) = kpF kf gf xf yf (i + 1) f := by
  funext q
  by_cases h : q = i
  · subst h
    rw [pk_us]
    simp only [kpF]
    rw [if_pos (by omega)]
  · rw [pk_un h]
    simp only [kpF]
    by_cases h2 : q < i
    · rw [if_pos h2, if_pos (by omega)]
    · rw [if_neg h2, if_neg (by omega)]
def aLoss (kf gf xf yf zf : Nat → Int32) (nd : Nat) (kp d : Int32) : Int32 := if hasB (nI nd) d && decide (d < kp) then zf d.toNatClampNeg - skyV kf gf xf yf d.toNatClampNeg else -2147483648
def aCount (nd no : Nat) (lo : Nat → Bool) (kf : Nat → Int32) (w : Int32) : Int32 := if w = 0 then nI nd else if w = 1 then nI no else if w = 2 then nI (cntB lo 12) else if w = 3 then nI (cntI kf 1 64) else if w = 4 then nI (cntI kf 2 64) else -3
theorem co_d {nd no : Nat} {lo : Nat → Bool} {kf : Nat → Int32} {w : Int32} (c : w.toInt < 0 ∨ ((5 : Nat) : Int) - 1 < w.toInt) : -3 = aCount nd no lo kf w := by
  rw [aCount, if_neg (show ¬ w = 0 from tw_no (k := 0) (by decide) (by decide) c), if_neg (show ¬ w = 1 from tw_no (k := 1) (by decide) (by decide) c), if_neg (show ¬ w = 2 from tw_no (k := 2) (by decide) (by decide) c), if_neg (show ¬ w = 3 from tw_no (k := 3) (by decide) (by decide) c), if_neg (show ¬ w = 4 from tw_no (k := 4) (by decide) (by decide) c)]
theorem co_k {nd no : Nat} {lo : Nat → Bool} {kf : Nat → Int32} {w : Int32} {k : Nat} (c : w = nI k) : aCount nd no lo kf w = aCount nd no lo kf (nI k) := by rw [c]
