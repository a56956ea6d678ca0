/-! ===== the static rows ===== -/
set_option maxRecDepth 20000 in
theorem start_X {args : Array Value} {s : State} (hts : ∀ w ∈ lw_tbl, w.before args s = true) (hgv : (Jvm.Cond.and given_1 narrow_1).before args s = true) : ∃ t : Nat, va_Z "DayLight" "STEP_X" "[I" (.ref t) (fun q => s.heap.size ≤ q) s s.heap ∧ va_T .int t 16 (fun j => .int (stX j)) (fun q => s.heap.size ≤ q) s s.heap := by
  have hs := flat_of_before _ hgv
  have hA : ∀ a : Nat, a < s.heap.size → ¬ (fun q => s.heap.size ≤ q) a := fun a h q => absurd h (Nat.not_lt.mpr q)
  have hw : ∀ w ∈ wsA, w.before args s = true := fun w h => hts w (wsA_in w h)
  have hel : ∀ j : Nat, j < 16 → (Term.elem (Term.static "DayLight" "STEP_X" "[I") (.int (Int32.ofNat j))).eval args s none [] s = some (.int (stX j)) := by
    intro j hj
    rcases (show j = 0 ∨ j = 1 ∨ j = 2 ∨ j = 3 ∨ j = 4 ∨ j = 5 ∨ j = 6 ∨ j = 7 ∨ j = 8 ∨ j = 9 ∨ j = 10 ∨ j = 11 ∨ j = 12 ∨ j = 13 ∨ j = 14 ∨ j = 15 by omega) with rfl | rfl | rfl | rfl | rfl | rfl | rfl | rfl | rfl | rfl | rfl | rfl | rfl | rfl | rfl | rfl
    · exact va_eqt (hs (.eq (.elem (Term.static "DayLight" "STEP_X" "[I") (.int 0)) (.int 1)) (by decide +kernel))
    · exact va_eqt (hs (.eq (.elem (Term.static "DayLight" "STEP_X" "[I") (.int 1)) (.int 2)) (by decide +kernel))
    · exact va_eqt (hs (.eq (.elem (Term.static "DayLight" "STEP_X" "[I") (.int 2)) (.int 1)) (by decide +kernel))
    · exact va_eqt (hs (.eq (.elem (Term.static "DayLight" "STEP_X" "[I") (.int 3)) (.int 1)) (by decide +kernel))
    · exact va_eqt (hs (.eq (.elem (Term.static "DayLight" "STEP_X" "[I") (.int 4)) (.int 0)) (by decide +kernel))
    · exact va_eqt (hs (.eq (.elem (Term.static "DayLight" "STEP_X" "[I") (.int 5)) (.int (-1))) (by decide +kernel))
    · exact va_eqt (hs (.eq (.elem (Term.static "DayLight" "STEP_X" "[I") (.int 6)) (.int (-1))) (by decide +kernel))
    · exact va_eqt (hs (.eq (.elem (Term.static "DayLight" "STEP_X" "[I") (.int 7)) (.int (-2))) (by decide +kernel))
    · exact va_eqt (hs (.eq (.elem (Term.static "DayLight" "STEP_X" "[I") (.int 8)) (.int (-1))) (by decide +kernel))
    · exact va_eqt (hs (.eq (.elem (Term.static "DayLight" "STEP_X" "[I") (.int 9)) (.int (-2))) (by decide +kernel))
    · exact va_eqt (hs (.eq (.elem (Term.static "DayLight" "STEP_X" "[I") (.int 10)) (.int (-1))) (by decide +kernel))
    · exact va_eqt (hs (.eq (.elem (Term.static "DayLight" "STEP_X" "[I") (.int 11)) (.int (-1))) (by decide +kernel))
    · exact va_eqt (hs (.eq (.elem (Term.static "DayLight" "STEP_X" "[I") (.int 12)) (.int 0)) (by decide +kernel))
    · exact va_eqt (hs (.eq (.elem (Term.static "DayLight" "STEP_X" "[I") (.int 13)) (.int 1)) (by decide +kernel))
    · exact va_eqt (hs (.eq (.elem (Term.static "DayLight" "STEP_X" "[I") (.int 14)) (.int 1)) (by decide +kernel))
    · exact va_eqt (hs (.eq (.elem (Term.static "DayLight" "STEP_X" "[I") (.int 15)) (.int 2)) (by decide +kernel))
  obtain ⟨t, h1, h2⟩ := va_Tof (tm := (Term.static "DayLight" "STEP_X" "[I")) (ty := .int) (N := 16) (f := fun j => .int (stX j)) (A := fun q => s.heap.size ≤ q) (by decide) (hs (.arrayOf (Term.static "DayLight" "STEP_X" "[I") .int) (by decide +kernel)) (va_eqt (hs (.eq (.length (Term.static "DayLight" "STEP_X" "[I")) (.int 16)) (by decide +kernel))) hel hA
  exact ⟨t, va_Zof (hts _ kLs_STEP_X) (hw _ kIni_X7) h1 hA, h2⟩
set_option maxRecDepth 20000 in
theorem start_Y {args : Array Value} {s : State} (hts : ∀ w ∈ lw_tbl, w.before args s = true) (hgv : (Jvm.Cond.and given_1 narrow_1).before args s = true) : ∃ t : Nat, va_Z "DayLight" "STEP_Y" "[I" (.ref t) (fun q => s.heap.size ≤ q) s s.heap ∧ va_T .int t 16 (fun j => .int (stY j)) (fun q => s.heap.size ≤ q) s s.heap := by
  have hs := flat_of_before _ hgv
  have hA : ∀ a : Nat, a < s.heap.size → ¬ (fun q => s.heap.size ≤ q) a := fun a h q => absurd h (Nat.not_lt.mpr q)
  have hw : ∀ w ∈ wsA, w.before args s = true := fun w h => hts w (wsA_in w h)
  have hel : ∀ j : Nat, j < 16 → (Term.elem (Term.static "DayLight" "STEP_Y" "[I") (.int (Int32.ofNat j))).eval args s none [] s = some (.int (stY j)) := by
    intro j hj
    rcases (show j = 0 ∨ j = 1 ∨ j = 2 ∨ j = 3 ∨ j = 4 ∨ j = 5 ∨ j = 6 ∨ j = 7 ∨ j = 8 ∨ j = 9 ∨ j = 10 ∨ j = 11 ∨ j = 12 ∨ j = 13 ∨ j = 14 ∨ j = 15 by omega) with rfl | rfl | rfl | rfl | rfl | rfl | rfl | rfl | rfl | rfl | rfl | rfl | rfl | rfl | rfl | rfl
    · exact va_eqt (hs (.eq (.elem (Term.static "DayLight" "STEP_Y" "[I") (.int 0)) (.int 0)) (by decide +kernel))
    · exact va_eqt (hs (.eq (.elem (Term.static "DayLight" "STEP_Y" "[I") (.int 1)) (.int 1)) (by decide +kernel))
    · exact va_eqt (hs (.eq (.elem (Term.static "DayLight" "STEP_Y" "[I") (.int 2)) (.int 1)) (by decide +kernel))
    · exact va_eqt (hs (.eq (.elem (Term.static "DayLight" "STEP_Y" "[I") (.int 3)) (.int 2)) (by decide +kernel))
    · exact va_eqt (hs (.eq (.elem (Term.static "DayLight" "STEP_Y" "[I") (.int 4)) (.int 1)) (by decide +kernel))
    · exact va_eqt (hs (.eq (.elem (Term.static "DayLight" "STEP_Y" "[I") (.int 5)) (.int 2)) (by decide +kernel))
    · exact va_eqt (hs (.eq (.elem (Term.static "DayLight" "STEP_Y" "[I") (.int 6)) (.int 1)) (by decide +kernel))
    · exact va_eqt (hs (.eq (.elem (Term.static "DayLight" "STEP_Y" "[I") (.int 7)) (.int 1)) (by decide +kernel))
    · exact va_eqt (hs (.eq (.elem (Term.static "DayLight" "STEP_Y" "[I") (.int 8)) (.int 0)) (by decide +kernel))
    · exact va_eqt (hs (.eq (.elem (Term.static "DayLight" "STEP_Y" "[I") (.int 9)) (.int (-1))) (by decide +kernel))
    · exact va_eqt (hs (.eq (.elem (Term.static "DayLight" "STEP_Y" "[I") (.int 10)) (.int (-1))) (by decide +kernel))
    · exact va_eqt (hs (.eq (.elem (Term.static "DayLight" "STEP_Y" "[I") (.int 11)) (.int (-2))) (by decide +kernel))
    · exact va_eqt (hs (.eq (.elem (Term.static "DayLight" "STEP_Y" "[I") (.int 12)) (.int (-1))) (by decide +kernel))
    · exact va_eqt (hs (.eq (.elem (Term.static "DayLight" "STEP_Y" "[I") (.int 13)) (.int (-2))) (by decide +kernel))
    · exact va_eqt (hs (.eq (.elem (Term.static "DayLight" "STEP_Y" "[I") (.int 14)) (.int (-1))) (by decide +kernel))
    · exact va_eqt (hs (.eq (.elem (Term.static "DayLight" "STEP_Y" "[I") (.int 15)) (.int (-1))) (by decide +kernel))
  obtain ⟨t, h1, h2⟩ := va_Tof (tm := (Term.static "DayLight" "STEP_Y" "[I")) (ty := .int) (N := 16) (f := fun j => .int (stY j)) (A := fun q => s.heap.size ≤ q) (by decide) (hs (.arrayOf (Term.static "DayLight" "STEP_Y" "[I") .int) (by decide +kernel)) (va_eqt (hs (.eq (.length (Term.static "DayLight" "STEP_Y" "[I")) (.int 16)) (by decide +kernel))) hel hA
  exact ⟨t, va_Zof (hts _ kLs_STEP_Y) (hw _ kIni_X7) h1 hA, h2⟩
theorem start_G {args : Array Value} {s : State} (hts : ∀ w ∈ lw_tbl, w.before args s = true) (hgv : (Jvm.Cond.and given_1 narrow_1).before args s = true) : ∃ G : gT, EK G s ∧ ST G (fun q => s.heap.size ≤ q) s s.heap := by
  obtain ⟨D, a, b, c, hE⟩ := start_E hts
  obtain ⟨t, t1, t2⟩ := start_X hts hgv
  obtain ⟨u, u1, u2⟩ := start_Y hts hgv
  exact ⟨(D, (a, b, c), (t, u)), hE _, t1, u1, t2, u2⟩
