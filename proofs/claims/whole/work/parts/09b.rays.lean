/-! ===== rays, plainly ===== -/
def winB (kf : Nat → Int32) (x y : Int32) : Bool := cellB x y && decide (kf (cn x y) = 2)
def rayR (kf : Nat → Int32) (dx dy : Int32) : Nat → Int32 → Int32 → Option (Nat × List Int32)
  | 0, x, y => if cellB x y then none else some (0, [])
  | n + 1, x, y => if cellB x y then (if shutB kf x y dx dy then none else
      match rayR kf dx dy n (x + dx) (y + dy) with
      | none => none
      | some (k, t) => some (k + 1, if winB kf (x + dx) (y + dy) then ((y + dy) * 8 + (x + dx)) :: t else t)) else some (0, [])
def shStep (gf : Nat → Int32) (sh : Int64) (c : Int32) : Int64 := sh / 8 * (gf c.toNatClampNeg).toInt64
def meStep (me : Int64) (c : Int32) : Int64 := me ||| (1 <<< (c.toInt64 &&& 63))
def trFin (gf : Nat → Int32) (r : Option (Nat × List Int32)) (j : Nat) (sh me : Int64) : Int32 × Int64 × Int64 :=
  match r with
  | none => (-1, 0, 0)
  | some (k, t) => (nI (j + k), t.foldl (shStep gf) sh, t.foldl meStep me)
def rayT (kf gf : Nat → Int32) (x y : Int32) (p : Nat) : Int32 × Int64 × Int64 := trFin gf (rayR kf (stX p) (stY p) 8 x y) 0 2097152 0
def sumL (f : Nat → Int64) : Nat → Int64
  | 0 => 0
  | n + 1 => sumL f n + f n
def sumT (kf gf : Nat → Int32) (x y : Int32) : Int64 := sumL (fun p => (rayT kf gf x y p).2.1) 16
def plOK (kf gf : Nat → Int32) : Prop := ∀ c, c < 64 → (gf c ≤ 0 ↔ ¬ kf c = 2)
theorem cn_lt {x y : Int32} (h : cellB x y = true) : cn x y < 64 := by
  have := cn_in h
  unfold vp_in at this
  unfold cn
  omega
theorem win_t {kf gf : Nat → Int32} (hok : plOK kf gf) {x y : Int32} (h : cellB x y = true) (hg : ¬ gf (cn x y) ≤ 0) : winB kf x y = true := by
  have := (hok _ (cn_lt h))
  simp only [winB, h, Bool.true_and, decide_eq_true_eq]
  by_cases q : kf (cn x y) = 2
  · exact q
  · exact absurd (this.mpr q) hg
theorem win_f {kf gf : Nat → Int32} (hok : plOK kf gf) {x y : Int32} (h : cellB x y = true) (hg : gf (cn x y) ≤ 0) : winB kf x y = false := by
  have := (hok _ (cn_lt h)).mp hg
  simp [winB, h, this]
theorem win_n {kf : Nat → Int32} {x y : Int32} (h : cellB x y = false) : winB kf x y = false := by simp [winB, h]
theorem tr_out {kf gf : Nat → Int32} {dx dy x y : Int32} (h : cellB x y = false) (n j : Nat) (sh me : Int64) : trFin gf (rayR kf dx dy n x y) j sh me = (nI j, sh, me) := by
  cases n <;> simp [rayR, h, trFin]
theorem tr_end {kf gf : Nat → Int32} {dx dy x y : Int32} (h : cellB x y = true) (j : Nat) (sh me : Int64) : trFin gf (rayR kf dx dy 0 x y) j sh me = (-1, 0, 0) := by
  simp [rayR, h, trFin]
theorem tr_shut {kf gf : Nat → Int32} {dx dy x y : Int32} (h : cellB x y = true) (hs : shutB kf x y dx dy = true) (n j : Nat) (sh me : Int64) : trFin gf (rayR kf dx dy n x y) j sh me = (-1, 0, 0) := by
  cases n <;> simp [rayR, h, hs, trFin]
theorem tr_win {kf gf : Nat → Int32} {dx dy x y : Int32} (h : cellB x y = true) (hs : shutB kf x y dx dy = false) (hw : winB kf (x + dx) (y + dy) = true) {j : Nat} (hj : j < 8) (sh me : Int64) :
    trFin gf (rayR kf dx dy (8 - j) x y) j sh me = trFin gf (rayR kf dx dy (8 - (j + 1)) (x + dx) (y + dy)) (j + 1) (shStep gf sh ((y + dy) * 8 + (x + dx))) (meStep me ((y + dy) * 8 + (x + dx))) := by
  obtain ⟨n, hn⟩ : ∃ n, 8 - j = n + 1 := ⟨7 - j, by omega⟩
  have hn2 : 8 - (j + 1) = n := by omega
  rw [hn, hn2]
  simp only [rayR, h, hs, hw, if_true]
  cases rayR kf dx dy n (x + dx) (y + dy) with
  | none => simp [trFin]
  | some q => simp [trFin, Nat.add_assoc, Nat.add_comm 1]
theorem tr_no {kf gf : Nat → Int32} {dx dy x y : Int32} (h : cellB x y = true) (hs : shutB kf x y dx dy = false) (hw : winB kf (x + dx) (y + dy) = false) {j : Nat} (hj : j < 8) (sh me : Int64) :
    trFin gf (rayR kf dx dy (8 - j) x y) j sh me = trFin gf (rayR kf dx dy (8 - (j + 1)) (x + dx) (y + dy)) (j + 1) sh me := by
  obtain ⟨n, hn⟩ : ∃ n, 8 - j = n + 1 := ⟨7 - j, by omega⟩
  have hn2 : 8 - (j + 1) = n := by omega
  rw [hn, hn2]
  simp only [rayR, h, hs, hw, if_true]
  cases rayR kf dx dy n (x + dx) (y + dy) with
  | none => simp [trFin]
  | some q => simp [trFin, Nat.add_assoc, Nat.add_comm 1]
