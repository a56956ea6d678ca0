theorem d8 (x y : Int32) : 8 * y + x = y * 8 + x := by rw [Int32.mul_comm]
theorem inb_has {nd : Nat} (hn : nd ≤ 5) (d : Int32) : inB d 0 (nI nd - 1) = hasB (nI nd) d := by
  have e : (nI nd - 1).toInt = (nd : Int) - 1 := by
    rw [show (1 : Int32) = nI 1 from rfl, pk_sub_toInt (by omega) (by omega)]
    rfl
  have e2 : (nI nd).toInt = (nd : Int) := nI_toInt (by omega)
  simp only [inB, hasB]
  congr 2
  rw [decide_eq_decide, Int32.lt_iff_toInt_lt, Int32.le_iff_toInt_le, e, e2]
  omega
theorem ne4_of {n : Nat} (c : ¬ nI n = 4) (h : n ≤ 4) : n < 4 := by
  rcases Nat.lt_or_ge n 4 with q | q
  · exact q
  · exact absurd (by rw [show n = 4 by omega]; rfl) c
theorem eq4_of {n : Nat} (c : nI n = 4) (h : n ≤ 4) : decide (n < 4) = false := by
  have := (nI_eq (a := n) (b := 4) (by omega) (by omega)).mp c
  simp [this]
theorem ne5_of {n : Nat} (c : ¬ nI n = 5) (h : n ≤ 5) : n < 5 := by
  rcases Nat.lt_or_ge n 5 with q | q
  · exact q
  · exact absurd (by rw [show n = 5 by omega]; rfl) c
theorem eq5_of {n : Nat} (c : nI n = 5) (h : n ≤ 5) : decide (n < 5) = false := by
  have := (nI_eq (a := n) (b := 5) (by omega) (by omega)).mp c
  simp [this]
theorem sub1 (n : Nat) : nI n + 1 - 1 = nI n := by rw [nI_1]; exact nI_pred n
def nCellH (f : Nat → Bool) (x y v : Int32) : Nat → Bool := if okC x y v then bu f (cn x y) false else f
def nWinH (f : Nat → Bool) (x y v : Int32) (b : Bool) : Nat → Bool := if okW x y v then bu f (cn x y) b else f
def nLoseZ (f : Nat → Int32) (lo : Nat → Bool) (h : Int32) : Nat → Int32 := if hourB h && !lo h.toNatClampNeg then upd f h.toNatClampNeg 0 else f
theorem rayT_s {kf gf : Nat → Int32} {x y : Int32} {p k : Nat} {t : List Int32} (h : rayR kf (stX p) (stY p) 8 x y = some (k, t)) : (rayT kf gf x y p).1 = nI k := by
  unfold rayT; rw [h]; simp [trFin]
theorem rayT_n {kf gf : Nat → Int32} {x y : Int32} {p : Nat} (h : (rayR kf (stX p) (stY p) 8 x y).isSome = false) : (rayT kf gf x y p).1 = -1 := by
  unfold rayT
  cases e : rayR kf (stX p) (stY p) 8 x y with
  | none => rfl
  | some q => rw [e] at h; cases h
theorem mStep_no (gf : Nat → Int32) : mStep gf noD = shStep gf := by funext v c; rfl
theorem shV_no (kf gf : Nat → Int32) (x y : Int32) (p : Nat) : shV kf gf noD x y p = (rayT kf gf x y p).2.1 := by
  unfold shV rayT shM trFin
  rw [mStep_no]
  cases rayR kf (stX p) (stY p) 8 x y with
  | none => rfl
  | some q => rfl
theorem sky_e (kf gf xf yf : Nat → Int32) (d : Nat) : (1000 * sumL (fun p => shV kf gf noD (xf d) (yf d) p) 16 / 33554432).toInt32 = skyV kf gf xf yf d := by
  unfold skyV sumT
  rw [sumL_c 16 (fun k _ => shV_no kf gf (xf d) (yf d) k)]
def aDownM (bf : Nat → Bool) (DN : Nat → Nat → Bool) (x y h : Int32) : Int32 := if !(cellB x y && hourB h) then -2 else if !bf (cn x y) then -4 else b2i (DN (h.toNatClampNeg + 1) (cn x y))
def aEnoughM (nd : Nat) (V : Nat → Nat → Int32) (ne d e : Int32) : Int32 := if !hasB (nI nd) d then -2 else if !endB e then -3 else nI (mhT V ne d.toNatClampNeg 1 12)
def aLossM (kf gf xf yf zf : Nat → Int32) (kp d : Int32) : Int32 := if inB d 0 (kp - 1) then zf d.toNatClampNeg - skyV kf gf xf yf d.toNatClampNeg else -2147483648
