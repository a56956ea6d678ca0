/-! ===== plain words of the answers ===== -/
def inB (v a b : Int32) : Bool := !decide (v < a) && !decide (b < v)
def cellB (x y : Int32) : Bool := inB x 0 7 && inB y 0 7
def hourB (h : Int32) : Bool := inB h 0 11
def patchB (h : Int32) : Bool := inB h 0 15
def endB (h : Int32) : Bool := inB h 0 1
def cn (x y : Int32) : Nat := (y * 8 + x).toNatClampNeg
def hbB (bits : Int64) (bit : Int32) : Bool := decide (((bits.toUInt64 >>> (bit.toInt64.toUInt64 &&& Int64.toUInt64 63)).toInt64 &&& 1) = 1)
theorem lt7 (x : Int32) : (7 < x) ↔ (8 ≤ x) := by rw [Int32.lt_iff_toInt_lt, Int32.le_iff_toInt_le]; have : (7 : Int32).toInt = 7 := by decide
                                                  have h8 : (8 : Int32).toInt = 8 := by decide
                                                  omega
theorem lt11 (x : Int32) : (11 < x) ↔ (12 ≤ x) := by rw [Int32.lt_iff_toInt_lt, Int32.le_iff_toInt_le]; have : (11 : Int32).toInt = 11 := by decide
                                                     have h8 : (12 : Int32).toInt = 12 := by decide
                                                     omega
theorem lt15 (x : Int32) : (15 < x) ↔ (16 ≤ x) := by rw [Int32.lt_iff_toInt_lt, Int32.le_iff_toInt_le]; have : (15 : Int32).toInt = 15 := by decide
                                                     have h8 : (16 : Int32).toInt = 16 := by decide
                                                     omega
theorem end_n {x : Int32} (h0 : ¬ x = 0) (h1 : ¬ x = 1) : endB x = false := by
  rw [← Int32.toInt_inj] at h0 h1
  have a0 : (0 : Int32).toInt = 0 := by decide
  have a1 : (1 : Int32).toInt = 1 := by decide
  unfold endB inB
  by_cases q : x < 0
  · simp [q]
  · have q2 : 1 < x := by rw [Int32.lt_iff_toInt_lt] at q ⊢; omega
    simp [q2]
theorem i32_of {x : Int32} (h0 : ¬ x < 0) : 0 ≤ x.toInt := by rw [Int32.lt_iff_toInt_lt] at h0; have a0 : (0 : Int32).toInt = 0 := by decide
                                                              omega
theorem i32_lt {x y : Int32} (h0 : ¬ y ≤ x) : x.toInt < y.toInt := by rw [Int32.le_iff_toInt_le] at h0; omega
theorem bm32 {z : Int} (h1 : -2147483648 ≤ z) (h2 : z < 2147483648) : z.bmod (2 ^ 32) = z := by
  rw [Int.bmod_eq_of_le] <;> omega
theorem i32_add {x y : Int32} (h1 : -2147483648 ≤ x.toInt + y.toInt) (h2 : x.toInt + y.toInt < 2147483648) : (x + y).toInt = x.toInt + y.toInt := by
  rw [Int32.toInt_add, bm32 h1 h2]
theorem i32_mul {x y : Int32} (h1 : -2147483648 ≤ x.toInt * y.toInt) (h2 : x.toInt * y.toInt < 2147483648) : (x * y).toInt = x.toInt * y.toInt := by
  rw [Int32.toInt_mul, bm32 h1 h2]
theorem cn_toInt {x y : Int32} (h1 : 0 ≤ x.toInt) (h2 : x.toInt < 8) (h3 : 0 ≤ y.toInt) (h4 : y.toInt < 8) : (y * 8 + x).toInt = y.toInt * 8 + x.toInt := by
  have a8 : (8 : Int32).toInt = 8 := by decide
  have e : (y * 8).toInt = y.toInt * 8 := by rw [i32_mul, a8] <;> rw [a8] <;> omega
  rw [i32_add, e] <;> rw [e] <;> omega
theorem cellB_iff (x y : Int32) : cellB x y = true ↔ (0 ≤ x.toInt ∧ x.toInt < 8 ∧ 0 ≤ y.toInt ∧ y.toInt < 8) := by
  have a0 : (0 : Int32).toInt = 0 := by decide
  have a7 : (7 : Int32).toInt = 7 := by decide
  simp only [cellB, inB, Bool.and_eq_true, Bool.not_eq_true', decide_eq_false_iff_not, Int32.lt_iff_toInt_lt, a0, a7]
  omega
theorem cn_in {x y : Int32} (h : cellB x y = true) : vp_in (y * 8 + x) 64 := by
  obtain ⟨h1, h2, h3, h4⟩ := (cellB_iff x y).mp h
  rw [vp_in_iff, cn_toInt h1 h2 h3 h4]
  omega
theorem cellB_of {x y : Int32} (h1 : ¬ x < 0) (h2 : ¬ 8 ≤ x) (h3 : ¬ y < 0) (h4 : ¬ 8 ≤ y) : cellB x y = true := by simp [cellB, inB, lt7, h1, h2, h3, h4]
theorem cn_in' {x y : Int32} (h : cellB x y = true) : vp_in (8 * y + x) 64 := by rw [Int32.mul_comm]; exact cn_in h
theorem cn' (x y : Int32) : (8 * y + x).toNatClampNeg = cn x y := by rw [Int32.mul_comm]; rfl
def wallB (kf : Nat → Int32) (x y : Int32) : Bool := cellB x y && decide (kf (cn x y) = 1)
def shutB (kf : Nat → Int32) (x y dx dy : Int32) : Bool :=
  wallB kf (x + dx) (y + dy) || (if dx = 0 ∨ dy = 0 then false else if dx = 2 ∨ dx = -2 then wallB kf (x + dx / 2) y && wallB kf (x + dx / 2) (y + dy) else if dy = 2 ∨ dy = -2 then wallB kf x (y + dy / 2) && wallB kf (x + dx) (y + dy / 2) else wallB kf (x + dx) y && wallB kf x (y + dy))
def hasB (nb d : Int32) : Bool := !decide (d < 0) && !decide (nb ≤ d)
def wgB (en co b c : Int32) : Bool := decide (en < c) || (decide (c = en) && !decide (co ≤ b))
def sunB (lo : Nat → Bool) (sg : Nat → Int32) (h : Nat) : Bool := !lo h && !decide (sg h ≤ 0)
def blPut (bl : Int64) (c : Int32) (b : Bool) : Int64 := if b then bl ||| (1 <<< (c.toInt64 &&& 63)) else bl &&& ((1 <<< (c.toInt64 &&& 63)) ^^^ (-1))
def cntB (f : Nat → Bool) : Nat → Nat
  | 0 => 0
  | n + 1 => cntB f n + (if f n then 1 else 0)
theorem stXY : ∀ p, p < 16 → stX ((p + 12) % 16) = stY p := by decide
def cntI (f : Nat → Int32) (v : Int32) : Nat → Nat
  | 0 => 0
  | n + 1 => cntI f v n + (if f n = v then 1 else 0)
theorem cntI_le (f : Nat → Int32) (v : Int32) : ∀ n, cntI f v n ≤ n
  | 0 => Nat.le_refl 0
  | n + 1 => by have := cntI_le f v n; unfold cntI; split <;> omega
theorem tw_split (n : Nat) (hn : n < 2 ^ 31) (x : Int32) : (x.toInt < 0 ∨ (n : Int) - 1 < x.toInt) ∨ ∃ k, k < n ∧ x = nI k := by
  rcases pk_ix x hn with h | h | ⟨j, hj, e⟩
  · left; left; rw [Int32.lt_iff_toInt_lt] at h; exact h
  · left; right; rw [Int32.le_iff_toInt_le, nI_toInt hn] at h; omega
  · exact Or.inr ⟨j, hj, e⟩
