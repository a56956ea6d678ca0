/-! ===== what the calls answer and leave, where both say it alike ===== -/
theorem in01 (v : Int32) : inB v 0 1 = (decide (v = 0) || decide (v = 1)) := by
  by_cases h0 : v = 0
  · subst h0; rfl
  · by_cases h1 : v = 1
    · subst h1; rfl
    · have := end_n h0 h1
      unfold endB at this
      simp [this, h0, h1]
def okC (x y v : Int32) : Bool := cellB x y && inB v 0 1
def aCell (kf : Nat → Int32) (x y v : Int32) : Int32 := if !cellB x y then -2 else if okC x y v then kf (cn x y) else -3
def nCellK (kf : Nat → Int32) (x y v : Int32) : Nat → Int32 := if okC x y v then upd kf (cn x y) v else kf
def nCellG (gf : Nat → Int32) (x y v : Int32) : Nat → Int32 := if okC x y v then upd gf (cn x y) 0 else gf
def nCellB (bl : Int64) (x y v : Int32) : Int64 := if okC x y v then blPut bl (y * 8 + x) false else bl
def okW (x y v : Int32) : Bool := cellB x y && inB v 1 8
def aWin (kf : Nat → Int32) (x y v : Int32) : Int32 := if !cellB x y then -2 else if okW x y v then kf (cn x y) else -3
def nWinK (kf : Nat → Int32) (x y v : Int32) : Nat → Int32 := if okW x y v then upd kf (cn x y) 2 else kf
def nWinG (gf : Nat → Int32) (x y v : Int32) : Nat → Int32 := if okW x y v then upd gf (cn x y) v else gf
def nWinB (bl : Int64) (x y v : Int32) (b : Bool) : Int64 := if okW x y v then blPut bl (y * 8 + x) b else bl
def aAt (kf gf : Nat → Int32) (q : Bool) (x y w : Int32) : Int32 := if !cellB x y then -2 else if w = 0 then kf (cn x y) else if w = 1 then gf (cn x y) else if w = 2 then b2i q else -3
def okD (nd : Nat) (x y : Int32) : Bool := cellB x y && decide (nd < 4)
def aDesk (nd : Nat) (x y : Int32) : Int32 := if !cellB x y then -2 else if okD nd x y then nI nd else -5
def nDeskN (nd : Nat) (x y : Int32) : Nat := if okD nd x y then nd + 1 else nd
def nDeskX (f : Nat → Int32) (nd : Nat) (x y v : Int32) : Nat → Int32 := if okD nd x y then upd f nd v else f
theorem lt4_of {n : Nat} (c : nI n < 4) (h : n ≤ 4) : n < 4 := by
  rcases Nat.lt_or_ge n 4 with q | q
  · exact q
  · exact absurd (show nI n < nI 4 from c) (nI_nlt q (by omega))
theorem nlt4_of {n : Nat} (c : ¬ nI n < 4) (h : n ≤ 4) : ¬ n < 4 := fun q => c (show nI n < nI 4 from nI_lt q (by omega))
theorem lt5_of {n : Nat} (c : nI n < 5) (h : n ≤ 5) : n < 5 := by
  rcases Nat.lt_or_ge n 5 with q | q
  · exact q
  · exact absurd (show nI n < nI 5 from c) (nI_nlt q (by omega))
theorem nlt5_of {n : Nat} (c : ¬ nI n < 5) (h : n ≤ 5) : ¬ n < 5 := fun q => c (show nI n < nI 5 from nI_lt q (by omega))
def okM (nd : Nat) (d x y : Int32) : Bool := hasB (nI nd) d && cellB x y
def aMove (nd : Nat) (d x y : Int32) : Int32 := if okM nd d x y then 1 else -2
def nMove (f : Nat → Int32) (nd : Nat) (d x y v : Int32) : Nat → Int32 := if okM nd d x y then upd f d.toNatClampNeg v else f
def aRay (kf gf xf yf : Nat → Int32) (nd : Nat) (d p : Int32) : Int32 := if hasB (nI nd) d && patchB p then (rayT kf gf (xf d.toNatClampNeg) (yf d.toNatClampNeg) p.toNatClampNeg).1 else -2
def skyV (kf gf xf yf : Nat → Int32) (d : Nat) : Int32 := (1000 * sumT kf gf (xf d) (yf d) / 33554432).toInt32
def aSky (kf gf xf yf : Nat → Int32) (nd : Nat) (d : Int32) : Int32 := if hasB (nI nd) d then skyV kf gf xf yf d.toNatClampNeg else -2
def okB (h v : Int32) : Bool := hourB h && inB v 0 1000
def aBri (h v : Int32) : Int32 := if !hourB h then -2 else if okB h v then 1 else -3
def nBri (f : Nat → Int32) (h v w : Int32) : Nat → Int32 := if okB h v then upd f h.toNatClampNeg w else f
def nBriL (f : Nat → Bool) (h v : Int32) : Nat → Bool := if okB h v then bu f h.toNatClampNeg false else f
def okS (lo : Nat → Bool) (h p v : Int32) : Bool := hourB h && patchB p && inB v 0 1000 && !lo h.toNatClampNeg
def aSun (lo : Nat → Bool) (h p v : Int32) : Int32 := if !(hourB h && patchB p) then -2 else if !inB v 0 1000 then -3 else if okS lo h p v then 1 else -4
def nSun (lo : Nat → Bool) (f : Nat → Int32) (h p v w : Int32) : Nat → Int32 := if okS lo h p v then upd f h.toNatClampNeg w else f
def aLose (lo : Nat → Bool) (h : Int32) : Int32 := if !hourB h then -2 else if lo h.toNatClampNeg then -4 else 1
def nLose (lo : Nat → Bool) (h : Int32) : Nat → Bool := if hourB h && !lo h.toNatClampNeg then bu lo h.toNatClampNeg true else lo
def aSet (mo ne w v : Int32) : Int32 := if decide (w = 0) && inB v 0 1000 then mo else if decide (w = 1) && inB v 0 2000 then ne else -3
def nSet0 (mo w v : Int32) : Int32 := if decide (w = 0) && inB v 0 1000 then v else mo
def nSet1 (ne w v : Int32) : Int32 := if decide (w = 1) && inB v 0 2000 then v else ne
def okL (g c : Int32) : Bool := inB g 0 1000 && inB c 0 g
def aLaw (g c : Int32) : Int32 := if okL g c then 1 else -3
def nLaw (f g c v : Int32) : Int32 := if okL g c then v else f
def aDown (bl : Int64) (L : Nat → Int64) (x y h : Int32) : Int32 := if !(cellB x y && hourB h) then -2 else if !hbB bl (y * 8 + x) then -4 else b2i (hbB (L h.toNatClampNeg) (y * 8 + x))
def aLight (nd : Nat) (V : Nat → Nat → Int32) (d h e : Int32) : Int32 := if !(hasB (nI nd) d && hourB h) then -2 else if !endB e then -3 else V d.toNatClampNeg h.toNatClampNeg
def aEnough (nd : Nat) (V : Nat → Nat → Int32) (ne d e : Int32) : Int32 := if !hasB (nI nd) d then -2 else if !endB e then -3 else nI (enD V ne d.toNatClampNeg 1)
def okO (no : Nat) (x y g p : Int32) : Bool := cellB x y && inB g 1 8 && inB p 0 1000 && decide (no < 5)
def aOff (no : Nat) (x y g p : Int32) : Int32 := if !cellB x y then -2 else if !(inB g 1 8 && inB p 0 1000) then -3 else if okO no x y g p then nI no else -5
def nOffN (no : Nat) (x y g p : Int32) : Nat := if okO no x y g p then no + 1 else no
def nOff (f : Nat → Int32) (no : Nat) (x y g p v : Int32) : Nat → Int32 := if okO no x y g p then upd f no v else f
theorem tw_no {x : Int32} {n k : Nat} (hk : k < n) (hn : n < 2 ^ 31) (h : x.toInt < 0 ∨ (n : Int) - 1 < x.toInt) : ¬ x = nI k := by
  intro e
  rw [e, nI_toInt (by omega)] at h
  omega
