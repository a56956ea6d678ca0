theorem bu_at (f : Nat → Bool) (j : Nat) (b : Bool) : bu f j b j = b := by simp [bu]
theorem gr_e1 {kf gf xf yf : Nat → Int32} {s : Int32} {p nd d : Nat} {c : Int32} (hz : ¬ s ≤ 0 ∨ d = 0) (e : d = nd) : grM kf gf xf yf s p c d = grV kf gf xf yf s p nd c := by
  subst e
  unfold grV
  split
  · rename_i h
    rcases hz with q | q
    · exact absurd h q
    · rw [q]; rfl
  · rfl
theorem gr_e2 {kf gf xf yf : Nat → Int32} {s : Int32} {p nd d : Nat} {c : Int32} (hz : ¬ s ≤ 0 ∨ d = 0) (h : s ≤ 0) : grM kf gf xf yf s p c d = grV kf gf xf yf s p nd c := by
  rcases hz with q | q
  · exact absurd h q
  · rw [q, grV, if_pos h]; rfl
def mV (kf gf xf yf : Nat → Int32) (nd : Nat) (hb lo : Nat → Bool) (br sg pf : Nat → Int32) (mo gl ca e : Int32) (d h : Nat) : Int32 :=
  mlV lo br sg pf mo (fun p => shV kf gf (dnB false hb (dnH kf gf xf yf nd hb lo sg pf gl ca (h + 1))) (xf d) (yf d) p) h e
def mhH (V : Nat → Nat → Int32) (ne : Int32) (d0 h : Nat) : Nat → Nat
  | 0 => 0
  | k + 1 => mhH V ne d0 h k + (if V (d0 + k) h < ne then 0 else 1)
def mhT (V : Nat → Nat → Int32) (ne : Int32) (d0 n : Nat) : Nat → Nat
  | 0 => 0
  | h + 1 => mhT V ne d0 n h + mhH V ne d0 h n
theorem gt_exit {h j : Nat} (hj : j ≤ h + 1) (hh : h < 12) (c : nI h < nI j) : j = h + 1 := by
  rcases Nat.lt_or_ge h j with q | q
  · omega
  · exact absurd c (nI_nlt q (by omega))
theorem gt_go {h j : Nat} (hh : h < 12) (hj : j ≤ h + 1) (c : ¬ nI h < nI j) : j < h + 1 := by
  rcases Nat.lt_or_ge j (h + 1) with q | q
  · exact q
  · exact absurd (nI_lt (a := h) (b := j) (by omega) (by omega)) c
theorem isSome_ne {o : Option (Nat × List Int32)} (h : o.isSome = true) : ∃ a, o = some a := Option.isSome_iff_exists.mp h
