set_option maxHeartbeats 4000000 in
set_option maxRecDepth 100000 in
theorem c_X7_isWithin (ln : Launch) (v : Int32) (a : Int32) (b : Int32)  : Met ln yX7_isWithin (wA (.code yX7_isWithin cX7_isWithin 3 (some .boolean))) ({ frames := 0, cells := 0, slots := 0, locals := 0 } : Room) (va_Pc [.int v, .int a, .int b] (fun _ => True)) (vp_Si (fun r => r = b2i (inB v a b))) 0 0 (fun _ => False) := by
  refine Met.ofW (cc := cX7_isWithin) (maxL := 3) (ret := (some .boolean)) (by decide) rfl ?_
  intro pg ev s mi args below meth cd s₁ B hml hv
  obtain ⟨rfl, -⟩ := hv
  have hx := B.exec
  have hb := B.bytes
  have hr := B.returns
  have hts0 := atoms_spec (ws := wA (.code yX7_isWithin cX7_isWithin 3 (some .boolean))) B.pre
  have hts : ∀ w ∈ wsA, w.before _ s = true := fun w h => hts0 w (List.mem_cons_of_mem _ h)
  have hown : s.vm.findClass RX7 = some mi.cls := findClass_of_methodNamed B.named
  have hlocks := B.notSynchronized
  have hS : va_S (fun _ => False) s.heap s.heap [] := va_S.rf
  have hl := lv_entry ([.int v, .int a, .int b]) (n := 3) (Nat.le_of_ble_eq_true rfl)
  rw [lg_entry_eq]
  generalize (lg_sl ([.int v, .int a, .int b]) ++ List.replicate (3 - (lg_sl ([.int v, .int a, .int b])).length) Slot.unset).toArray = ls at hl ⊢
  have hl : lv_has ls 3 [(0, .int v), (1, .int a), (2, .int b)] := hl
  refine lv_iload_n hx hb dX7_isWithin_0 rfl (lv_at hl 0 rfl) ?_
  refine lv_iload_n hx hb dX7_isWithin_1 rfl (lv_at hl 1 rfl) ?_
  refine lv_icmp_lt (tgt := 14) hx hb dX7_isWithin_2 (by decide) (fun c_2 => ?_) (fun c_2 => ?_)
  · skip
    refine lv_iconst (v := 0) hx hb dX7_isWithin_14 (by decide) ?_
    exact W.zret (v := 0) hx hb hr rfl (fun t ht hW => ⟨0, rfl, by simp [inB, b2i, c_2], ht⟩) hS.2.2 dX7_isWithin_15
  · skip
    refine lv_iload_n hx hb dX7_isWithin_5 rfl (lv_at hl 0 rfl) ?_
    refine lv_iload_n hx hb dX7_isWithin_6 rfl (lv_at hl 2 rfl) ?_
    refine lv_icmp_gt (tgt := 14) hx hb dX7_isWithin_7 (by decide) (fun c_7 => ?_) (fun c_7 => ?_)
    · skip
      refine lv_iconst (v := 0) hx hb dX7_isWithin_14 (by decide) ?_
      exact W.zret (v := 0) hx hb hr rfl (fun t ht hW => ⟨0, rfl, by simp [inB, b2i, c_2, c_7], ht⟩) hS.2.2 dX7_isWithin_15
    · skip
      refine lv_iconst (v := 1) hx hb dX7_isWithin_10 (by decide) ?_
      refine lv_goto (tgt := 15) hx hb dX7_isWithin_11 (by decide) ?_
      exact W.zret (v := 1) hx hb hr rfl (fun t ht hW => ⟨1, rfl, by simp [inB, b2i, c_2, c_7], ht⟩) hS.2.2 dX7_isWithin_15
set_option maxHeartbeats 4000000 in
set_option maxRecDepth 100000 in
theorem c_X7_isCell (ln : Launch) (x : Int32) (y : Int32)  : Met ln yX7_isCell (wA (.code yX7_isCell cX7_isCell 2 (some .boolean))) ({ frames := 0, cells := 0, slots := 0, locals := 0 } : Room) (va_Pc [.int x, .int y] (fun _ => True)) (vp_Si (fun r => r = b2i (cellB x y))) 0 0 (fun _ => False) := by
  refine Met.ofW (cc := cX7_isCell) (maxL := 2) (ret := (some .boolean)) (by decide) rfl ?_
  intro pg ev s mi args below meth cd s₁ B hml hv
  obtain ⟨rfl, -⟩ := hv
  have hx := B.exec
  have hb := B.bytes
  have hr := B.returns
  have hts0 := atoms_spec (ws := wA (.code yX7_isCell cX7_isCell 2 (some .boolean))) B.pre
  have hts : ∀ w ∈ wsA, w.before _ s = true := fun w h => hts0 w (List.mem_cons_of_mem _ h)
  have hown : s.vm.findClass RX7 = some mi.cls := findClass_of_methodNamed B.named
  have hlocks := B.notSynchronized
  have hS : va_S (fun _ => False) s.heap s.heap [] := va_S.rf
  have hl := lv_entry ([.int x, .int y]) (n := 2) (Nat.le_of_ble_eq_true rfl)
  rw [lg_entry_eq]
  generalize (lg_sl ([.int x, .int y]) ++ List.replicate (2 - (lg_sl ([.int x, .int y])).length) Slot.unset).toArray = ls at hl ⊢
  have hl : lv_has ls 2 [(0, .int x), (1, .int y)] := hl
  refine lv_iload_n hx hb dX7_isCell_0 rfl (lv_at hl 0 rfl) ?_
  refine lv_if_lt (tgt := 24) hx hb dX7_isCell_1 (by decide) (fun c_1 => ?_) (fun c_1 => ?_)
  · skip
    refine lv_iconst (v := 0) hx hb dX7_isCell_24 (by decide) ?_
    exact W.zret (v := 0) hx hb hr rfl (fun t ht hW => ⟨0, rfl, by simp [cellB, inB, b2i, lt7, c_1], ht⟩) hS.2.2 dX7_isCell_25
  · skip
    refine lv_iload_n hx hb dX7_isCell_4 rfl (lv_at hl 0 rfl) ?_
    refine lv_bipush (v := 8) hx hb dX7_isCell_5 (by decide) ?_
    refine lv_icmp_ge (tgt := 24) hx hb dX7_isCell_7 (by decide) (fun c_7 => ?_) (fun c_7 => ?_)
    · skip
      refine lv_iconst (v := 0) hx hb dX7_isCell_24 (by decide) ?_
      exact W.zret (v := 0) hx hb hr rfl (fun t ht hW => ⟨0, rfl, by simp [cellB, inB, b2i, lt7, c_1, c_7], ht⟩) hS.2.2 dX7_isCell_25
    · skip
      refine lv_iload_n hx hb dX7_isCell_10 rfl (lv_at hl 1 rfl) ?_
      refine lv_if_lt (tgt := 24) hx hb dX7_isCell_11 (by decide) (fun c_11 => ?_) (fun c_11 => ?_)
      · skip
        refine lv_iconst (v := 0) hx hb dX7_isCell_24 (by decide) ?_
        exact W.zret (v := 0) hx hb hr rfl (fun t ht hW => ⟨0, rfl, by simp [cellB, inB, b2i, lt7, c_1, c_7, c_11], ht⟩) hS.2.2 dX7_isCell_25
      · skip
        refine lv_iload_n hx hb dX7_isCell_14 rfl (lv_at hl 1 rfl) ?_
        refine lv_bipush (v := 8) hx hb dX7_isCell_15 (by decide) ?_
        refine lv_icmp_ge (tgt := 24) hx hb dX7_isCell_17 (by decide) (fun c_17 => ?_) (fun c_17 => ?_)
        · skip
          refine lv_iconst (v := 0) hx hb dX7_isCell_24 (by decide) ?_
          exact W.zret (v := 0) hx hb hr rfl (fun t ht hW => ⟨0, rfl, by simp [cellB, inB, b2i, lt7, c_1, c_7, c_11, c_17], ht⟩) hS.2.2 dX7_isCell_25
        · skip
          refine lv_iconst (v := 1) hx hb dX7_isCell_20 (by decide) ?_
          refine lv_goto (tgt := 25) hx hb dX7_isCell_21 (by decide) ?_
          exact W.zret (v := 1) hx hb hr rfl (fun t ht hW => ⟨1, rfl, by simp [cellB, inB, b2i, lt7, c_1, c_7, c_11, c_17], ht⟩) hS.2.2 dX7_isCell_25
set_option maxHeartbeats 4000000 in
set_option maxRecDepth 100000 in
theorem c_X7_isPatch (ln : Launch) (x : Int32)  : Met ln yX7_isPatch (wA (.code yX7_isPatch cX7_isPatch 1 (some .boolean))) ({ frames := 0, cells := 0, slots := 0, locals := 0 } : Room) (va_Pc [.int x] (fun _ => True)) (vp_Si (fun r => r = b2i (patchB x))) 0 0 (fun _ => False) := by
  refine Met.ofW (cc := cX7_isPatch) (maxL := 1) (ret := (some .boolean)) (by decide) rfl ?_
  intro pg ev s mi args below meth cd s₁ B hml hv
  obtain ⟨rfl, -⟩ := hv
  have hx := B.exec
  have hb := B.bytes
  have hr := B.returns
  have hts0 := atoms_spec (ws := wA (.code yX7_isPatch cX7_isPatch 1 (some .boolean))) B.pre
  have hts : ∀ w ∈ wsA, w.before _ s = true := fun w h => hts0 w (List.mem_cons_of_mem _ h)
  have hown : s.vm.findClass RX7 = some mi.cls := findClass_of_methodNamed B.named
  have hlocks := B.notSynchronized
  have hS : va_S (fun _ => False) s.heap s.heap [] := va_S.rf
  have hl := lv_entry ([.int x]) (n := 1) (Nat.le_of_ble_eq_true rfl)
  rw [lg_entry_eq]
  generalize (lg_sl ([.int x]) ++ List.replicate (1 - (lg_sl ([.int x])).length) Slot.unset).toArray = ls at hl ⊢
  have hl : lv_has ls 1 [(0, .int x)] := hl
  refine lv_iload_n hx hb dX7_isPatch_0 rfl (lv_at hl 0 rfl) ?_
  refine lv_if_lt (tgt := 14) hx hb dX7_isPatch_1 (by decide) (fun c_1 => ?_) (fun c_1 => ?_)
  · skip
    refine lv_iconst (v := 0) hx hb dX7_isPatch_14 (by decide) ?_
    exact W.zret (v := 0) hx hb hr rfl (fun t ht hW => ⟨0, rfl, by simp [patchB, inB, b2i, lt15, c_1], ht⟩) hS.2.2 dX7_isPatch_15
  · skip
    refine lv_iload_n hx hb dX7_isPatch_4 rfl (lv_at hl 0 rfl) ?_
    refine lv_bipush (v := 16) hx hb dX7_isPatch_5 (by decide) ?_
    refine lv_icmp_ge (tgt := 14) hx hb dX7_isPatch_7 (by decide) (fun c_7 => ?_) (fun c_7 => ?_)
    · skip
      refine lv_iconst (v := 0) hx hb dX7_isPatch_14 (by decide) ?_
      exact W.zret (v := 0) hx hb hr rfl (fun t ht hW => ⟨0, rfl, by simp [patchB, inB, b2i, lt15, c_1, c_7], ht⟩) hS.2.2 dX7_isPatch_15
    · skip
      refine lv_iconst (v := 1) hx hb dX7_isPatch_10 (by decide) ?_
      refine lv_goto (tgt := 15) hx hb dX7_isPatch_11 (by decide) ?_
      exact W.zret (v := 1) hx hb hr rfl (fun t ht hW => ⟨1, rfl, by simp [patchB, inB, b2i, lt15, c_1, c_7], ht⟩) hS.2.2 dX7_isPatch_15
set_option maxHeartbeats 4000000 in
set_option maxRecDepth 100000 in
theorem c_X7_isHour (ln : Launch) (x : Int32)  : Met ln yX7_isHour (wA (.code yX7_isHour cX7_isHour 1 (some .boolean))) ({ frames := 0, cells := 0, slots := 0, locals := 0 } : Room) (va_Pc [.int x] (fun _ => True)) (vp_Si (fun r => r = b2i (hourB x))) 0 0 (fun _ => False) := by
  refine Met.ofW (cc := cX7_isHour) (maxL := 1) (ret := (some .boolean)) (by decide) rfl ?_
  intro pg ev s mi args below meth cd s₁ B hml hv
  obtain ⟨rfl, -⟩ := hv
  have hx := B.exec
  have hb := B.bytes
  have hr := B.returns
  have hts0 := atoms_spec (ws := wA (.code yX7_isHour cX7_isHour 1 (some .boolean))) B.pre
  have hts : ∀ w ∈ wsA, w.before _ s = true := fun w h => hts0 w (List.mem_cons_of_mem _ h)
  have hown : s.vm.findClass RX7 = some mi.cls := findClass_of_methodNamed B.named
  have hlocks := B.notSynchronized
  have hS : va_S (fun _ => False) s.heap s.heap [] := va_S.rf
  have hl := lv_entry ([.int x]) (n := 1) (Nat.le_of_ble_eq_true rfl)
  rw [lg_entry_eq]
  generalize (lg_sl ([.int x]) ++ List.replicate (1 - (lg_sl ([.int x])).length) Slot.unset).toArray = ls at hl ⊢
  have hl : lv_has ls 1 [(0, .int x)] := hl
  refine lv_iload_n hx hb dX7_isHour_0 rfl (lv_at hl 0 rfl) ?_
  refine lv_if_lt (tgt := 14) hx hb dX7_isHour_1 (by decide) (fun c_1 => ?_) (fun c_1 => ?_)
  · skip
    refine lv_iconst (v := 0) hx hb dX7_isHour_14 (by decide) ?_
    exact W.zret (v := 0) hx hb hr rfl (fun t ht hW => ⟨0, rfl, by simp [hourB, inB, b2i, lt11, c_1], ht⟩) hS.2.2 dX7_isHour_15
  · skip
    refine lv_iload_n hx hb dX7_isHour_4 rfl (lv_at hl 0 rfl) ?_
    refine lv_bipush (v := 12) hx hb dX7_isHour_5 (by decide) ?_
    refine lv_icmp_ge (tgt := 14) hx hb dX7_isHour_7 (by decide) (fun c_7 => ?_) (fun c_7 => ?_)
    · skip
      refine lv_iconst (v := 0) hx hb dX7_isHour_14 (by decide) ?_
      exact W.zret (v := 0) hx hb hr rfl (fun t ht hW => ⟨0, rfl, by simp [hourB, inB, b2i, lt11, c_1, c_7], ht⟩) hS.2.2 dX7_isHour_15
    · skip
      refine lv_iconst (v := 1) hx hb dX7_isHour_10 (by decide) ?_
      refine lv_goto (tgt := 15) hx hb dX7_isHour_11 (by decide) ?_
      exact W.zret (v := 1) hx hb hr rfl (fun t ht hW => ⟨1, rfl, by simp [hourB, inB, b2i, lt11, c_1, c_7], ht⟩) hS.2.2 dX7_isHour_15
set_option maxHeartbeats 4000000 in
set_option maxRecDepth 100000 in
theorem c_X7_isEnd (ln : Launch) (x : Int32)  : Met ln yX7_isEnd (wA (.code yX7_isEnd cX7_isEnd 1 (some .boolean))) ({ frames := 0, cells := 0, slots := 0, locals := 0 } : Room) (va_Pc [.int x] (fun _ => True)) (vp_Si (fun r => r = b2i (endB x))) 0 0 (fun _ => False) := by
  refine Met.ofW (cc := cX7_isEnd) (maxL := 1) (ret := (some .boolean)) (by decide) rfl ?_
  intro pg ev s mi args below meth cd s₁ B hml hv
  obtain ⟨rfl, -⟩ := hv
  have hx := B.exec
  have hb := B.bytes
  have hr := B.returns
  have hts0 := atoms_spec (ws := wA (.code yX7_isEnd cX7_isEnd 1 (some .boolean))) B.pre
  have hts : ∀ w ∈ wsA, w.before _ s = true := fun w h => hts0 w (List.mem_cons_of_mem _ h)
  have hown : s.vm.findClass RX7 = some mi.cls := findClass_of_methodNamed B.named
  have hlocks := B.notSynchronized
  have hS : va_S (fun _ => False) s.heap s.heap [] := va_S.rf
  have hl := lv_entry ([.int x]) (n := 1) (Nat.le_of_ble_eq_true rfl)
  rw [lg_entry_eq]
  generalize (lg_sl ([.int x]) ++ List.replicate (1 - (lg_sl ([.int x])).length) Slot.unset).toArray = ls at hl ⊢
  have hl : lv_has ls 1 [(0, .int x)] := hl
  refine lv_iload_n hx hb dX7_isEnd_0 rfl (lv_at hl 0 rfl) ?_
  refine lv_if_eq (tgt := 9) hx hb dX7_isEnd_1 (by decide) (fun c_1 => ?_) (fun c_1 => ?_)
  · skip
    refine lv_iconst (v := 1) hx hb dX7_isEnd_9 (by decide) ?_
    refine lv_goto (tgt := 14) hx hb dX7_isEnd_10 (by decide) ?_
    exact W.zret (v := 1) hx hb hr rfl (fun t ht hW => ⟨1, rfl, by first | (rw [end_n (by assumption) (by assumption)]; rfl) | (subst_vars; rfl), ht⟩) hS.2.2 dX7_isEnd_14
  · skip
    refine lv_iload_n hx hb dX7_isEnd_4 rfl (lv_at hl 0 rfl) ?_
    refine lv_iconst (v := 1) hx hb dX7_isEnd_5 (by decide) ?_
    refine lv_icmp_ne (tgt := 13) hx hb dX7_isEnd_6 (by decide) (fun c_6 => ?_) (fun c_6 => ?_)
    · skip
      refine lv_iconst (v := 0) hx hb dX7_isEnd_13 (by decide) ?_
      exact W.zret (v := 0) hx hb hr rfl (fun t ht hW => ⟨0, rfl, by first | (rw [end_n (by assumption) (by assumption)]; rfl) | (subst_vars; rfl), ht⟩) hS.2.2 dX7_isEnd_14
    · skip
      refine lv_iconst (v := 1) hx hb dX7_isEnd_9 (by decide) ?_
      refine lv_goto (tgt := 14) hx hb dX7_isEnd_10 (by decide) ?_
      exact W.zret (v := 1) hx hb hr rfl (fun t ht hW => ⟨1, rfl, by first | (rw [end_n (by assumption) (by assumption)]; rfl) | (subst_vars; rfl), ht⟩) hS.2.2 dX7_isEnd_14
set_option maxHeartbeats 4000000 in
set_option maxRecDepth 100000 in
theorem c_X7_cellNumber (ln : Launch) (x : Int32) (y : Int32)  : Met ln yX7_cellNumber (wA (.code yX7_cellNumber cX7_cellNumber 2 (some .int))) ({ frames := 0, cells := 0, slots := 0, locals := 0 } : Room) (va_Pc [.int x, .int y] (fun _ => True)) (vp_Si (fun r => r = y * 8 + x)) 0 0 (fun _ => False) := by
  refine Met.ofW (cc := cX7_cellNumber) (maxL := 2) (ret := (some .int)) (by decide) rfl ?_
  intro pg ev s mi args below meth cd s₁ B hml hv
  obtain ⟨rfl, -⟩ := hv
  have hx := B.exec
  have hb := B.bytes
  have hr := B.returns
  have hts0 := atoms_spec (ws := wA (.code yX7_cellNumber cX7_cellNumber 2 (some .int))) B.pre
  have hts : ∀ w ∈ wsA, w.before _ s = true := fun w h => hts0 w (List.mem_cons_of_mem _ h)
  have hown : s.vm.findClass RX7 = some mi.cls := findClass_of_methodNamed B.named
  have hlocks := B.notSynchronized
  have hS : va_S (fun _ => False) s.heap s.heap [] := va_S.rf
  have hl := lv_entry ([.int x, .int y]) (n := 2) (Nat.le_of_ble_eq_true rfl)
  rw [lg_entry_eq]
  generalize (lg_sl ([.int x, .int y]) ++ List.replicate (2 - (lg_sl ([.int x, .int y])).length) Slot.unset).toArray = ls at hl ⊢
  have hl : lv_has ls 2 [(0, .int x), (1, .int y)] := hl
  refine lv_iload_n hx hb dX7_cellNumber_0 rfl (lv_at hl 1 rfl) ?_
  refine lv_bipush (v := 8) hx hb dX7_cellNumber_1 (by decide) ?_
  refine lv_imul hx hb dX7_cellNumber_3 ?_
  refine lv_iload_n hx hb dX7_cellNumber_4 rfl (lv_at hl 0 rfl) ?_
  refine lv_iadd hx hb dX7_cellNumber_5 ?_
  exact W.iret (v := (y * 8) + x) hx hb hr (fun t ht hW => ⟨(y * 8) + x, rfl, rfl, ht⟩) hS.2.2 dX7_cellNumber_6
set_option maxHeartbeats 4000000 in
set_option maxRecDepth 100000 in
theorem c_X7_rayNumber (ln : Launch) (x : Int32) (y : Int32)  : Met ln yX7_rayNumber (wA (.code yX7_rayNumber cX7_rayNumber 2 (some .int))) ({ frames := 0, cells := 0, slots := 0, locals := 0 } : Room) (va_Pc [.int x, .int y] (fun _ => True)) (vp_Si (fun r => r = x * 16 + y)) 0 0 (fun _ => False) := by
  refine Met.ofW (cc := cX7_rayNumber) (maxL := 2) (ret := (some .int)) (by decide) rfl ?_
  intro pg ev s mi args below meth cd s₁ B hml hv
  obtain ⟨rfl, -⟩ := hv
  have hx := B.exec
  have hb := B.bytes
  have hr := B.returns
  have hts0 := atoms_spec (ws := wA (.code yX7_rayNumber cX7_rayNumber 2 (some .int))) B.pre
  have hts : ∀ w ∈ wsA, w.before _ s = true := fun w h => hts0 w (List.mem_cons_of_mem _ h)
  have hown : s.vm.findClass RX7 = some mi.cls := findClass_of_methodNamed B.named
  have hlocks := B.notSynchronized
  have hS : va_S (fun _ => False) s.heap s.heap [] := va_S.rf
  have hl := lv_entry ([.int x, .int y]) (n := 2) (Nat.le_of_ble_eq_true rfl)
  rw [lg_entry_eq]
  generalize (lg_sl ([.int x, .int y]) ++ List.replicate (2 - (lg_sl ([.int x, .int y])).length) Slot.unset).toArray = ls at hl ⊢
  have hl : lv_has ls 2 [(0, .int x), (1, .int y)] := hl
  refine lv_iload_n hx hb dX7_rayNumber_0 rfl (lv_at hl 0 rfl) ?_
  refine lv_bipush (v := 16) hx hb dX7_rayNumber_1 (by decide) ?_
  refine lv_imul hx hb dX7_rayNumber_3 ?_
  refine lv_iload_n hx hb dX7_rayNumber_4 rfl (lv_at hl 1 rfl) ?_
  refine lv_iadd hx hb dX7_rayNumber_5 ?_
  exact W.iret (v := (x * 16) + y) hx hb hr (fun t ht hW => ⟨(x * 16) + y, rfl, rfl, ht⟩) hS.2.2 dX7_rayNumber_6
set_option maxHeartbeats 4000000 in
set_option maxRecDepth 100000 in
theorem c_X7_hasBit (ln : Launch) (w : Int64) (k : Int32)  : Met ln yX7_hasBit (wA (.code yX7_hasBit cX7_hasBit 3 (some .boolean))) ({ frames := 0, cells := 0, slots := 0, locals := 0 } : Room) (va_Pc [.long w, .int k] (fun _ => True)) (vp_Si (fun r => r = b2i (hbB w k))) 0 0 (fun _ => False) := by
  refine Met.ofW (cc := cX7_hasBit) (maxL := 3) (ret := (some .boolean)) (by decide) rfl ?_
  intro pg ev s mi args below meth cd s₁ B hml hv
  obtain ⟨rfl, -⟩ := hv
  have hx := B.exec
  have hb := B.bytes
  have hr := B.returns
  have hts0 := atoms_spec (ws := wA (.code yX7_hasBit cX7_hasBit 3 (some .boolean))) B.pre
  have hts : ∀ w ∈ wsA, w.before _ s = true := fun w h => hts0 w (List.mem_cons_of_mem _ h)
  have hown : s.vm.findClass RX7 = some mi.cls := findClass_of_methodNamed B.named
  have hlocks := B.notSynchronized
  have hS : va_S (fun _ => False) s.heap s.heap [] := va_S.rf
  have hl := lv_entry ([.long w, .int k]) (n := 3) (Nat.le_of_ble_eq_true rfl)
  rw [lg_entry_eq]
  generalize (lg_sl ([.long w, .int k]) ++ List.replicate (3 - (lg_sl ([.long w, .int k])).length) Slot.unset).toArray = ls at hl ⊢
  have hl : lv_has ls 3 [(0, .long w), (2, .int k)] := hl
  refine lv_lload_n hx hb dX7_hasBit_0 rfl (lv_at hl 0 rfl) ?_
  refine lv_iload_n hx hb dX7_hasBit_1 rfl (lv_at hl 1 rfl) ?_
  refine lv_lushr hx hb dX7_hasBit_2 rfl ?_
  refine lv_lconst (v := 1) hx hb dX7_hasBit_3 (by decide) ?_
  refine lv_land hx hb dX7_hasBit_4 ?_
  refine lv_lconst (v := 1) hx hb dX7_hasBit_5 (by decide) ?_
  refine W.lcmp hx hb dX7_hasBit_6 ?_
  refine lv_if_ne (tgt := 14) hx hb dX7_hasBit_7 (by decide) (fun c_7 => ?_) (fun c_7 => ?_)
  · skip
    rw [lg_cmp_eq] at c_7
    refine lv_iconst (v := 0) hx hb dX7_hasBit_14 (by decide) ?_
    exact W.zret (v := 0) hx hb hr rfl (fun t ht hW => ⟨0, rfl, by simp [hbB, b2i, c_7], ht⟩) hS.2.2 dX7_hasBit_15
  · skip
    rw [lg_cmp_eq] at c_7
    refine lv_iconst (v := 1) hx hb dX7_hasBit_10 (by decide) ?_
    refine lv_goto (tgt := 15) hx hb dX7_hasBit_11 (by decide) ?_
    exact W.zret (v := 1) hx hb hr rfl (fun t ht hW => ⟨1, rfl, by simp [hbB, b2i, c_7], ht⟩) hS.2.2 dX7_hasBit_15
set_option maxHeartbeats 4000000 in
set_option maxRecDepth 100000 in
theorem c_X8_in (ln : Launch) (v : Int32) (a : Int32) (b : Int32)  : Met ln yX8_in (wA (.code yX8_in cX8_in 3 (some .boolean))) ({ frames := 0, cells := 0, slots := 0, locals := 0 } : Room) (va_Pc [.int v, .int a, .int b] (fun _ => True)) (vp_Si (fun r => r = b2i (inB v a b))) 0 0 (fun _ => False) := by
  refine Met.ofW (cc := cX8_in) (maxL := 3) (ret := (some .boolean)) (by decide) rfl ?_
  intro pg ev s mi args below meth cd s₁ B hml hv
  obtain ⟨rfl, -⟩ := hv
  have hx := B.exec
  have hb := B.bytes
  have hr := B.returns
  have hts0 := atoms_spec (ws := wA (.code yX8_in cX8_in 3 (some .boolean))) B.pre
  have hts : ∀ w ∈ wsA, w.before _ s = true := fun w h => hts0 w (List.mem_cons_of_mem _ h)
  have hown : s.vm.findClass RX8 = some mi.cls := findClass_of_methodNamed B.named
  have hlocks := B.notSynchronized
  have hS : va_S (fun _ => False) s.heap s.heap [] := va_S.rf
  have hl := lv_entry ([.int v, .int a, .int b]) (n := 3) (Nat.le_of_ble_eq_true rfl)
  rw [lg_entry_eq]
  generalize (lg_sl ([.int v, .int a, .int b]) ++ List.replicate (3 - (lg_sl ([.int v, .int a, .int b])).length) Slot.unset).toArray = ls at hl ⊢
  have hl : lv_has ls 3 [(0, .int v), (1, .int a), (2, .int b)] := hl
  refine lv_iload_n hx hb dX8_in_0 rfl (lv_at hl 0 rfl) ?_
  refine lv_iload_n hx hb dX8_in_1 rfl (lv_at hl 1 rfl) ?_
  refine lv_icmp_lt (tgt := 14) hx hb dX8_in_2 (by decide) (fun c_2 => ?_) (fun c_2 => ?_)
  · skip
    refine lv_iconst (v := 0) hx hb dX8_in_14 (by decide) ?_
    exact W.zret (v := 0) hx hb hr rfl (fun t ht hW => ⟨0, rfl, by simp [inB, b2i, c_2], ht⟩) hS.2.2 dX8_in_15
  · skip
    refine lv_iload_n hx hb dX8_in_5 rfl (lv_at hl 0 rfl) ?_
    refine lv_iload_n hx hb dX8_in_6 rfl (lv_at hl 2 rfl) ?_
    refine lv_icmp_gt (tgt := 14) hx hb dX8_in_7 (by decide) (fun c_7 => ?_) (fun c_7 => ?_)
    · skip
      refine lv_iconst (v := 0) hx hb dX8_in_14 (by decide) ?_
      exact W.zret (v := 0) hx hb hr rfl (fun t ht hW => ⟨0, rfl, by simp [inB, b2i, c_2, c_7], ht⟩) hS.2.2 dX8_in_15
    · skip
      refine lv_iconst (v := 1) hx hb dX8_in_10 (by decide) ?_
      refine lv_goto (tgt := 15) hx hb dX8_in_11 (by decide) ?_
      exact W.zret (v := 1) hx hb hr rfl (fun t ht hW => ⟨1, rfl, by simp [inB, b2i, c_2, c_7], ht⟩) hS.2.2 dX8_in_15
set_option maxHeartbeats 4000000 in
set_option maxRecDepth 100000 in
theorem c_X8_isCell (ln : Launch) (x : Int32) (y : Int32)  : Met ln yX8_isCell (wA (.code yX8_isCell cX8_isCell 2 (some .boolean))) ({ frames := 1, cells := 0, slots := 0, locals := 22 } : Room) (va_Pc [.int x, .int y] (fun _ => True)) (vp_Si (fun r => r = b2i (cellB x y))) 0 0 (fun _ => False) := by
  refine Met.ofW (cc := cX8_isCell) (maxL := 2) (ret := (some .boolean)) (by decide) rfl ?_
  intro pg ev s mi args below meth cd s₁ B hml hv
  obtain ⟨rfl, -⟩ := hv
  have hx := B.exec
  have hb := B.bytes
  have hr := B.returns
  have hts0 := atoms_spec (ws := wA (.code yX8_isCell cX8_isCell 2 (some .boolean))) B.pre
  have hts : ∀ w ∈ wsA, w.before _ s = true := fun w h => hts0 w (List.mem_cons_of_mem _ h)
  have hown : s.vm.findClass RX8 = some mi.cls := findClass_of_methodNamed B.named
  have hlocks := B.notSynchronized
  have hS : va_S (fun _ => False) s.heap s.heap [] := va_S.rf
  have hl := lv_entry ([.int x, .int y]) (n := 2) (Nat.le_of_ble_eq_true rfl)
  rw [lg_entry_eq]
  generalize (lg_sl ([.int x, .int y]) ++ List.replicate (2 - (lg_sl ([.int x, .int y])).length) Slot.unset).toArray = ls at hl ⊢
  have hl : lv_has ls 2 [(0, .int x), (1, .int y)] := hl
  refine lv_iload_n hx hb dX8_isCell_0 rfl (lv_at hl 0 rfl) ?_
  refine lv_iconst (v := 0) hx hb dX8_isCell_1 (by decide) ?_
  refine lv_bipush (v := 7) hx hb dX8_isCell_2 (by decide) ?_
  refine ca_Si (val := b2i (inB x 0 7)) (va_runS (As := [.int x, .int 0, .int 7]) (rest := []) ⟨hx, hb, hml, hown, hts⟩ (c_X8_in ln x 0 7 ) (va_cwS 3 hts (gS kCode_X8_in kMl_X8_66 kSt_X8_in kIni_X8) rfl rfl rfl hd_X8_in ⟨Nat.le_of_ble_eq_true rfl, Nat.le_of_ble_eq_true rfl⟩) ⟨pu_blind, pu_pre⟩ rfl rfl hl.1 rfl (lv_room (Nat.le_of_ble_eq_true rfl)) dX8_isCell_4 ⟨Nat.zero_le _, Nat.zero_le _⟩) ?_
  refine lv_if_eq (tgt := 24) hx hb dX8_isCell_7 (by decide) (fun c_7 => ?_) (fun c_7 => ?_)
  · skip
    have c_7 := b2i_z c_7
    refine lv_iconst (v := 0) hx hb dX8_isCell_24 (by decide) ?_
    exact W.zret (v := 0) hx hb hr rfl (fun t ht hW => ⟨0, rfl, by simp [cellB, b2i, c_7], ht⟩) hS.2.2 dX8_isCell_25
  · skip
    have c_7 := b2i_n c_7
    refine lv_iload_n hx hb dX8_isCell_10 rfl (lv_at hl 1 rfl) ?_
    refine lv_iconst (v := 0) hx hb dX8_isCell_11 (by decide) ?_
    refine lv_bipush (v := 7) hx hb dX8_isCell_12 (by decide) ?_
    refine ca_Si (val := b2i (inB y 0 7)) (va_runS (As := [.int y, .int 0, .int 7]) (rest := []) ⟨hx, hb, hml, hown, hts⟩ (c_X8_in ln y 0 7 ) (va_cwS 3 hts (gS kCode_X8_in kMl_X8_66 kSt_X8_in kIni_X8) rfl rfl rfl hd_X8_in ⟨Nat.le_of_ble_eq_true rfl, Nat.le_of_ble_eq_true rfl⟩) ⟨pu_blind, pu_pre⟩ rfl rfl hl.1 rfl (lv_room (Nat.le_of_ble_eq_true rfl)) dX8_isCell_14 ⟨Nat.zero_le _, Nat.zero_le _⟩) ?_
    refine lv_if_eq (tgt := 24) hx hb dX8_isCell_17 (by decide) (fun c_17 => ?_) (fun c_17 => ?_)
    · skip
      have c_17 := b2i_z c_17
      refine lv_iconst (v := 0) hx hb dX8_isCell_24 (by decide) ?_
      exact W.zret (v := 0) hx hb hr rfl (fun t ht hW => ⟨0, rfl, by simp [cellB, b2i, c_7, c_17], ht⟩) hS.2.2 dX8_isCell_25
    · skip
      have c_17 := b2i_n c_17
      refine lv_iconst (v := 1) hx hb dX8_isCell_20 (by decide) ?_
      refine lv_goto (tgt := 25) hx hb dX8_isCell_21 (by decide) ?_
      exact W.zret (v := 1) hx hb hr rfl (fun t ht hW => ⟨1, rfl, by simp [cellB, b2i, c_7, c_17], ht⟩) hS.2.2 dX8_isCell_25
set_option maxHeartbeats 4000000 in
set_option maxRecDepth 100000 in
theorem c_X8_isHour (ln : Launch) (x : Int32)  : Met ln yX8_isHour (wA (.code yX8_isHour cX8_isHour 1 (some .boolean))) ({ frames := 1, cells := 0, slots := 0, locals := 22 } : Room) (va_Pc [.int x] (fun _ => True)) (vp_Si (fun r => r = b2i (hourB x))) 0 0 (fun _ => False) := by
  refine Met.ofW (cc := cX8_isHour) (maxL := 1) (ret := (some .boolean)) (by decide) rfl ?_
  intro pg ev s mi args below meth cd s₁ B hml hv
  obtain ⟨rfl, -⟩ := hv
  have hx := B.exec
  have hb := B.bytes
  have hr := B.returns
  have hts0 := atoms_spec (ws := wA (.code yX8_isHour cX8_isHour 1 (some .boolean))) B.pre
  have hts : ∀ w ∈ wsA, w.before _ s = true := fun w h => hts0 w (List.mem_cons_of_mem _ h)
  have hown : s.vm.findClass RX8 = some mi.cls := findClass_of_methodNamed B.named
  have hlocks := B.notSynchronized
  have hS : va_S (fun _ => False) s.heap s.heap [] := va_S.rf
  have hl := lv_entry ([.int x]) (n := 1) (Nat.le_of_ble_eq_true rfl)
  rw [lg_entry_eq]
  generalize (lg_sl ([.int x]) ++ List.replicate (1 - (lg_sl ([.int x])).length) Slot.unset).toArray = ls at hl ⊢
  have hl : lv_has ls 1 [(0, .int x)] := hl
  refine lv_iload_n hx hb dX8_isHour_0 rfl (lv_at hl 0 rfl) ?_
  refine lv_iconst (v := 0) hx hb dX8_isHour_1 (by decide) ?_
  refine lv_bipush (v := 11) hx hb dX8_isHour_2 (by decide) ?_
  refine ca_Si (val := b2i (inB x 0 11)) (va_runS (As := [.int x, .int 0, .int 11]) (rest := []) ⟨hx, hb, hml, hown, hts⟩ (c_X8_in ln x 0 11 ) (va_cwS 3 hts (gS kCode_X8_in kMl_X8_66 kSt_X8_in kIni_X8) rfl rfl rfl hd_X8_in ⟨Nat.le_of_ble_eq_true rfl, Nat.le_of_ble_eq_true rfl⟩) ⟨pu_blind, pu_pre⟩ rfl rfl hl.1 rfl (lv_room (Nat.le_of_ble_eq_true rfl)) dX8_isHour_4 ⟨Nat.zero_le _, Nat.zero_le _⟩) ?_
  exact W.zret (v := b2i (inB x 0 11)) hx hb hr (b2i_nar _) (fun t ht hW => ⟨b2i (inB x 0 11), rfl, rfl, ht⟩) hS.2.2 dX8_isHour_7
set_option maxHeartbeats 4000000 in
set_option maxRecDepth 100000 in
theorem c_X8_across (ln : Launch) (p : Nat) (hp : p < 16) : Met ln yX8_across (wA (.code yX8_across cX8_across 1 (some .int))) ({ frames := 0, cells := 0, slots := 0, locals := 0 } : Room) (va_Pc [.int (nI p)] (fun _ => True)) (vp_Si (fun r => r = stX p)) 0 0 (fun _ => False) := by
  refine Met.ofW (cc := cX8_across) (maxL := 1) (ret := (some .int)) (by decide) rfl ?_
  intro pg ev s mi args below meth cd s₁ B hml hv
  obtain ⟨rfl, -⟩ := hv
  have hx := B.exec
  have hb := B.bytes
  have hr := B.returns
  have hts0 := atoms_spec (ws := wA (.code yX8_across cX8_across 1 (some .int))) B.pre
  have hts : ∀ w ∈ wsA, w.before _ s = true := fun w h => hts0 w (List.mem_cons_of_mem _ h)
  have hown : s.vm.findClass RX8 = some mi.cls := findClass_of_methodNamed B.named
  have hlocks := B.notSynchronized
  have hS : va_S (fun _ => False) s.heap s.heap [] := va_S.rf
  have hl := lv_entry ([.int (nI p)]) (n := 1) (Nat.le_of_ble_eq_true rfl)
  rw [lg_entry_eq]
  generalize (lg_sl ([.int (nI p)]) ++ List.replicate (1 - (lg_sl ([.int (nI p)])).length) Slot.unset).toArray = ls at hl ⊢
  have hl : lv_has ls 1 [(0, .int (nI p))] := hl
  refine lv_iload_n hx hb dX8_across_0 rfl (lv_at hl 0 rfl) ?_
  rcases tw_split 16 (by decide) (nI p) with c_1 | ⟨kk_, hkk_, c_1⟩
  · skip
    refine lv_tableOut (tgt := 90) hx hb dX8_across_1 c_1 (by decide) ?_
    refine lv_bipush (v := -2) hx hb dX8_across_90 (by decide) ?_
    exact W.iret (v := (-2)) hx hb hr (fun t ht hW => ⟨(-2), rfl, by first | (exfalso; rw [nI_toInt (by omega)] at c_1; omega) | (have e_ := (nI_eq (by omega) (by decide)).mp c_1; subst e_; rfl), ht⟩) hS.2.2 dX8_across_92
  · skip
    rcases (show kk_ = 0 ∨ kk_ = 1 ∨ kk_ = 2 ∨ kk_ = 3 ∨ kk_ = 4 ∨ kk_ = 5 ∨ kk_ = 6 ∨ kk_ = 7 ∨ kk_ = 8 ∨ kk_ = 9 ∨ kk_ = 10 ∨ kk_ = 11 ∨ kk_ = 12 ∨ kk_ = 13 ∨ kk_ = 14 ∨ kk_ = 15 by omega) with rfl | rfl | rfl | rfl | rfl | rfl | rfl | rfl | rfl | rfl | rfl | rfl | rfl | rfl | rfl | rfl
    · skip
      have c_1i : ((nI p)).toInt = 0 := by rw [c_1]; decide
      refine lv_tableIn (off := 79) (tgt := 80) hx hb dX8_across_1 (by rw [c_1i]; decide) (by rw [c_1i]; decide) (by rw [c_1i]; decide) (by decide) ?_
      refine lv_iconst (v := 1) hx hb dX8_across_80 (by decide) ?_
      exact W.iret (v := 1) hx hb hr (fun t ht hW => ⟨1, rfl, by first | (exfalso; rw [nI_toInt (by omega)] at c_1; omega) | (have e_ := (nI_eq (by omega) (by decide)).mp c_1; subst e_; rfl), ht⟩) hS.2.2 dX8_across_81
    · skip
      have c_1i : ((nI p)).toInt = 1 := by rw [c_1]; decide
      refine lv_tableIn (off := 81) (tgt := 82) hx hb dX8_across_1 (by rw [c_1i]; decide) (by rw [c_1i]; decide) (by rw [c_1i]; decide) (by decide) ?_
      refine lv_iconst (v := 2) hx hb dX8_across_82 (by decide) ?_
      exact W.iret (v := 2) hx hb hr (fun t ht hW => ⟨2, rfl, by first | (exfalso; rw [nI_toInt (by omega)] at c_1; omega) | (have e_ := (nI_eq (by omega) (by decide)).mp c_1; subst e_; rfl), ht⟩) hS.2.2 dX8_across_83
    · skip
      have c_1i : ((nI p)).toInt = 2 := by rw [c_1]; decide
      refine lv_tableIn (off := 79) (tgt := 80) hx hb dX8_across_1 (by rw [c_1i]; decide) (by rw [c_1i]; decide) (by rw [c_1i]; decide) (by decide) ?_
      refine lv_iconst (v := 1) hx hb dX8_across_80 (by decide) ?_
      exact W.iret (v := 1) hx hb hr (fun t ht hW => ⟨1, rfl, by first | (exfalso; rw [nI_toInt (by omega)] at c_1; omega) | (have e_ := (nI_eq (by omega) (by decide)).mp c_1; subst e_; rfl), ht⟩) hS.2.2 dX8_across_81
    · skip
      have c_1i : ((nI p)).toInt = 3 := by rw [c_1]; decide
      refine lv_tableIn (off := 83) (tgt := 84) hx hb dX8_across_1 (by rw [c_1i]; decide) (by rw [c_1i]; decide) (by rw [c_1i]; decide) (by decide) ?_
      refine lv_iconst (v := 1) hx hb dX8_across_84 (by decide) ?_
      exact W.iret (v := 1) hx hb hr (fun t ht hW => ⟨1, rfl, by first | (exfalso; rw [nI_toInt (by omega)] at c_1; omega) | (have e_ := (nI_eq (by omega) (by decide)).mp c_1; subst e_; rfl), ht⟩) hS.2.2 dX8_across_85
    · skip
      have c_1i : ((nI p)).toInt = 4 := by rw [c_1]; decide
      refine lv_tableIn (off := 85) (tgt := 86) hx hb dX8_across_1 (by rw [c_1i]; decide) (by rw [c_1i]; decide) (by rw [c_1i]; decide) (by decide) ?_
      refine lv_iconst (v := 0) hx hb dX8_across_86 (by decide) ?_
      exact W.iret (v := 0) hx hb hr (fun t ht hW => ⟨0, rfl, by first | (exfalso; rw [nI_toInt (by omega)] at c_1; omega) | (have e_ := (nI_eq (by omega) (by decide)).mp c_1; subst e_; rfl), ht⟩) hS.2.2 dX8_across_87
    · skip
      have c_1i : ((nI p)).toInt = 5 := by rw [c_1]; decide
      refine lv_tableIn (off := 87) (tgt := 88) hx hb dX8_across_1 (by rw [c_1i]; decide) (by rw [c_1i]; decide) (by rw [c_1i]; decide) (by decide) ?_
      refine lv_iconst (v := -1) hx hb dX8_across_88 (by decide) ?_
      exact W.iret (v := (-1)) hx hb hr (fun t ht hW => ⟨(-1), rfl, by first | (exfalso; rw [nI_toInt (by omega)] at c_1; omega) | (have e_ := (nI_eq (by omega) (by decide)).mp c_1; subst e_; rfl), ht⟩) hS.2.2 dX8_across_89
    · skip
      have c_1i : ((nI p)).toInt = 6 := by rw [c_1]; decide
      refine lv_tableIn (off := 87) (tgt := 88) hx hb dX8_across_1 (by rw [c_1i]; decide) (by rw [c_1i]; decide) (by rw [c_1i]; decide) (by decide) ?_
      refine lv_iconst (v := -1) hx hb dX8_across_88 (by decide) ?_
      exact W.iret (v := (-1)) hx hb hr (fun t ht hW => ⟨(-1), rfl, by first | (exfalso; rw [nI_toInt (by omega)] at c_1; omega) | (have e_ := (nI_eq (by omega) (by decide)).mp c_1; subst e_; rfl), ht⟩) hS.2.2 dX8_across_89
    · skip
      have c_1i : ((nI p)).toInt = 7 := by rw [c_1]; decide
      refine lv_tableIn (off := 89) (tgt := 90) hx hb dX8_across_1 (by rw [c_1i]; decide) (by rw [c_1i]; decide) (by rw [c_1i]; decide) (by decide) ?_
      refine lv_bipush (v := -2) hx hb dX8_across_90 (by decide) ?_
      exact W.iret (v := (-2)) hx hb hr (fun t ht hW => ⟨(-2), rfl, by first | (exfalso; rw [nI_toInt (by omega)] at c_1; omega) | (have e_ := (nI_eq (by omega) (by decide)).mp c_1; subst e_; rfl), ht⟩) hS.2.2 dX8_across_92
    · skip
      have c_1i : ((nI p)).toInt = 8 := by rw [c_1]; decide
      refine lv_tableIn (off := 87) (tgt := 88) hx hb dX8_across_1 (by rw [c_1i]; decide) (by rw [c_1i]; decide) (by rw [c_1i]; decide) (by decide) ?_
      refine lv_iconst (v := -1) hx hb dX8_across_88 (by decide) ?_
      exact W.iret (v := (-1)) hx hb hr (fun t ht hW => ⟨(-1), rfl, by first | (exfalso; rw [nI_toInt (by omega)] at c_1; omega) | (have e_ := (nI_eq (by omega) (by decide)).mp c_1; subst e_; rfl), ht⟩) hS.2.2 dX8_across_89
    · skip
      have c_1i : ((nI p)).toInt = 9 := by rw [c_1]; decide
      refine lv_tableIn (off := 89) (tgt := 90) hx hb dX8_across_1 (by rw [c_1i]; decide) (by rw [c_1i]; decide) (by rw [c_1i]; decide) (by decide) ?_
      refine lv_bipush (v := -2) hx hb dX8_across_90 (by decide) ?_
      exact W.iret (v := (-2)) hx hb hr (fun t ht hW => ⟨(-2), rfl, by first | (exfalso; rw [nI_toInt (by omega)] at c_1; omega) | (have e_ := (nI_eq (by omega) (by decide)).mp c_1; subst e_; rfl), ht⟩) hS.2.2 dX8_across_92
    · skip
      have c_1i : ((nI p)).toInt = 10 := by rw [c_1]; decide
      refine lv_tableIn (off := 87) (tgt := 88) hx hb dX8_across_1 (by rw [c_1i]; decide) (by rw [c_1i]; decide) (by rw [c_1i]; decide) (by decide) ?_
      refine lv_iconst (v := -1) hx hb dX8_across_88 (by decide) ?_
      exact W.iret (v := (-1)) hx hb hr (fun t ht hW => ⟨(-1), rfl, by first | (exfalso; rw [nI_toInt (by omega)] at c_1; omega) | (have e_ := (nI_eq (by omega) (by decide)).mp c_1; subst e_; rfl), ht⟩) hS.2.2 dX8_across_89
    · skip
      have c_1i : ((nI p)).toInt = 11 := by rw [c_1]; decide
      refine lv_tableIn (off := 87) (tgt := 88) hx hb dX8_across_1 (by rw [c_1i]; decide) (by rw [c_1i]; decide) (by rw [c_1i]; decide) (by decide) ?_
      refine lv_iconst (v := -1) hx hb dX8_across_88 (by decide) ?_
      exact W.iret (v := (-1)) hx hb hr (fun t ht hW => ⟨(-1), rfl, by first | (exfalso; rw [nI_toInt (by omega)] at c_1; omega) | (have e_ := (nI_eq (by omega) (by decide)).mp c_1; subst e_; rfl), ht⟩) hS.2.2 dX8_across_89
    · skip
      have c_1i : ((nI p)).toInt = 12 := by rw [c_1]; decide
      refine lv_tableIn (off := 85) (tgt := 86) hx hb dX8_across_1 (by rw [c_1i]; decide) (by rw [c_1i]; decide) (by rw [c_1i]; decide) (by decide) ?_
      refine lv_iconst (v := 0) hx hb dX8_across_86 (by decide) ?_
      exact W.iret (v := 0) hx hb hr (fun t ht hW => ⟨0, rfl, by first | (exfalso; rw [nI_toInt (by omega)] at c_1; omega) | (have e_ := (nI_eq (by omega) (by decide)).mp c_1; subst e_; rfl), ht⟩) hS.2.2 dX8_across_87
    · skip
      have c_1i : ((nI p)).toInt = 13 := by rw [c_1]; decide
      refine lv_tableIn (off := 83) (tgt := 84) hx hb dX8_across_1 (by rw [c_1i]; decide) (by rw [c_1i]; decide) (by rw [c_1i]; decide) (by decide) ?_
      refine lv_iconst (v := 1) hx hb dX8_across_84 (by decide) ?_
      exact W.iret (v := 1) hx hb hr (fun t ht hW => ⟨1, rfl, by first | (exfalso; rw [nI_toInt (by omega)] at c_1; omega) | (have e_ := (nI_eq (by omega) (by decide)).mp c_1; subst e_; rfl), ht⟩) hS.2.2 dX8_across_85
    · skip
      have c_1i : ((nI p)).toInt = 14 := by rw [c_1]; decide
      refine lv_tableIn (off := 79) (tgt := 80) hx hb dX8_across_1 (by rw [c_1i]; decide) (by rw [c_1i]; decide) (by rw [c_1i]; decide) (by decide) ?_
      refine lv_iconst (v := 1) hx hb dX8_across_80 (by decide) ?_
      exact W.iret (v := 1) hx hb hr (fun t ht hW => ⟨1, rfl, by first | (exfalso; rw [nI_toInt (by omega)] at c_1; omega) | (have e_ := (nI_eq (by omega) (by decide)).mp c_1; subst e_; rfl), ht⟩) hS.2.2 dX8_across_81
    · skip
      have c_1i : ((nI p)).toInt = 15 := by rw [c_1]; decide
      refine lv_tableIn (off := 81) (tgt := 82) hx hb dX8_across_1 (by rw [c_1i]; decide) (by rw [c_1i]; decide) (by rw [c_1i]; decide) (by decide) ?_
      refine lv_iconst (v := 2) hx hb dX8_across_82 (by decide) ?_
      exact W.iret (v := 2) hx hb hr (fun t ht hW => ⟨2, rfl, by first | (exfalso; rw [nI_toInt (by omega)] at c_1; omega) | (have e_ := (nI_eq (by omega) (by decide)).mp c_1; subst e_; rfl), ht⟩) hS.2.2 dX8_across_83
set_option maxHeartbeats 4000000 in
set_option maxRecDepth 100000 in
theorem c_X8_along (ln : Launch) (p : Nat) (hp : p < 16) : Met ln yX8_along (wA (.code yX8_along cX8_along 1 (some .int))) ({ frames := 1, cells := 0, slots := 0, locals := 20 } : Room) (va_Pc [.int (nI p)] (fun _ => True)) (vp_Si (fun r => r = stY p)) 0 0 (fun _ => False) := by
  refine Met.ofW (cc := cX8_along) (maxL := 1) (ret := (some .int)) (by decide) rfl ?_
  intro pg ev s mi args below meth cd s₁ B hml hv
  obtain ⟨rfl, -⟩ := hv
  have hx := B.exec
  have hb := B.bytes
  have hr := B.returns
  have hts0 := atoms_spec (ws := wA (.code yX8_along cX8_along 1 (some .int))) B.pre
  have hts : ∀ w ∈ wsA, w.before _ s = true := fun w h => hts0 w (List.mem_cons_of_mem _ h)
  have hown : s.vm.findClass RX8 = some mi.cls := findClass_of_methodNamed B.named
  have hlocks := B.notSynchronized
  have hS : va_S (fun _ => False) s.heap s.heap [] := va_S.rf
  have hl := lv_entry ([.int (nI p)]) (n := 1) (Nat.le_of_ble_eq_true rfl)
  rw [lg_entry_eq]
  generalize (lg_sl ([.int (nI p)]) ++ List.replicate (1 - (lg_sl ([.int (nI p)])).length) Slot.unset).toArray = ls at hl ⊢
  have hl : lv_has ls 1 [(0, .int (nI p))] := hl
  refine lv_iload_n hx hb dX8_along_0 rfl (lv_at hl 0 rfl) ?_
  refine lv_bipush (v := 12) hx hb dX8_along_1 (by decide) ?_
  refine lv_iadd hx hb dX8_along_3 ?_
  refine lv_bipush (v := 16) hx hb dX8_along_4 (by decide) ?_
  refine lv_irem hx hb dX8_along_6 (by decide) ?_
  refine W.eq (g2 := F0 mi 7 ls (.int (nI ((p + 12) % 16)) :: [])) (by rw [show (((nI p) + 12) - ((nI p) + 12) / 16 * 16) = (nI ((p + 12) % 16)) from (by rw [show (12 : Int32) = nI 12 from rfl, show (16 : Int32) = nI 16 from rfl, nI_add]; exact pk_rem (by omega) (by omega) (by omega))]) ?_
  refine ca_Si (val := stX ((p + 12) % 16)) (va_runS (As := [.int (nI ((p + 12) % 16))]) (rest := []) ⟨hx, hb, hml, hown, hts⟩ (c_X8_across ln ((p + 12) % 16) (by omega)) (va_cwS 1 hts (gS kCode_X8_across kMl_X8_81 kSt_X8_across kIni_X8) rfl rfl rfl hd_X8_across ⟨Nat.le_of_ble_eq_true rfl, Nat.le_of_ble_eq_true rfl⟩) ⟨pu_blind, pu_pre⟩ rfl rfl hl.1 rfl (lv_room (Nat.le_of_ble_eq_true rfl)) dX8_along_7 ⟨Nat.zero_le _, Nat.zero_le _⟩) ?_
  exact W.iret (v := stX ((p + 12) % 16)) hx hb hr (fun t ht hW => ⟨stX ((p + 12) % 16), rfl, stXY p hp, ht⟩) hS.2.2 dX8_along_10
set_option maxHeartbeats 4000000 in
set_option maxRecDepth 100000 in
theorem c_X5_hasBlind (ln : Launch) (G : gT) (h0 : Nat) (ak : Nat) (ag : Nat) (bl : Int64) (k : Int32)  : Met ln yX5_hasBlind (wA (.code yX5_hasBlind cX5_hasBlind 2 (some .boolean))) ({ frames := 1, cells := 0, slots := 0, locals := 22 } : Room) (va_Pc [.ref h0, .int k] (roB G [(h0, .inr (5, [.ref ak, .ref ag, .long bl]))])) (vp_Si (fun r => r = b2i (hbB bl k))) 0 0 (fun _ => False) := by
  refine Met.ofW (cc := cX5_hasBlind) (maxL := 2) (ret := (some .boolean)) (by decide) rfl ?_
  intro pg ev s mi args below meth cd s₁ B hml hv
  obtain ⟨rfl, hP, hE, hT⟩ := hv
  have hx := B.exec
  have hb := B.bytes
  have hr := B.returns
  have hts0 := atoms_spec (ws := wA (.code yX5_hasBlind cX5_hasBlind 2 (some .boolean))) B.pre
  have hts : ∀ w ∈ wsA, w.before _ s = true := fun w h => hts0 w (List.mem_cons_of_mem _ h)
  have hown : s.vm.findClass RX5 = some mi.cls := findClass_of_methodNamed B.named
  have hlocks := B.notSynchronized
  have hS : va_S (fun _ => False) s.heap s.heap [] := va_S.rf
  have hl := lv_entry ([.ref h0, .int k]) (n := 2) (Nat.le_of_ble_eq_true rfl)
  rw [lg_entry_eq]
  generalize (lg_sl ([.ref h0, .int k]) ++ List.replicate (2 - (lg_sl ([.ref h0, .int k])).length) Slot.unset).toArray = ls at hl ⊢
  have hl : lv_has ls 2 [(0, .ref h0), (1, .int k)] := hl
  refine lv_aload_n hx hb dX5_hasBlind_0 rfl (lv_at hl 0 rfl) ?_
  refine va_get (ci := 5) (C := RX5) (T := TX5) (N := 3) hx hb hts hinX5 hown hE.1 hP 0 rfl rfl 2 (by decide) (hts _ kFl_X5_18) (fun _ h9 => h9) rfl dX5_hasBlind_1 ?_
  refine lv_iload_n hx hb dX5_hasBlind_4 rfl (lv_at hl 1 rfl) ?_
  refine ca_Si (val := b2i (hbB bl k)) (va_runSN (As := [.long bl, .int k]) (rest := []) ⟨hx, hb, hml, hown, hts⟩ (c_X7_hasBit ln bl k ) ⟨va_cnB 2 hts (gA kCode_X7_hasBit) rfl rfl rfl (nM_X5_24 hE.2) (hts _ kIni_X7) hd_X7_hasBit ⟨Nat.le_of_ble_eq_true rfl, Nat.le_of_ble_eq_true rfl⟩, hts _ kSt_X7_hasBit, trivial⟩ ⟨pu_blind, pu_pre⟩ rfl rfl hl.1 rfl (lv_room (Nat.le_of_ble_eq_true rfl)) dX5_hasBlind_5 ⟨Nat.zero_le _, Nat.zero_le _⟩) ?_
  exact W.zret (v := b2i (hbB bl k)) hx hb hr (b2i_nar _) (fun t ht hW => ⟨b2i (hbB bl k), rfl, rfl, ht⟩) hS.2.2 dX5_hasBlind_8
set_option maxHeartbeats 4000000 in
set_option maxRecDepth 100000 in
theorem c_X5_isWall (ln : Launch) (G : gT) (h0 : Nat) (ak : Nat) (ag : Nat) (bl : Int64) (kf : Nat → Int32) (x : Int32) (y : Int32)  : Met ln yX5_isWall (wA (.code yX5_isWall cX5_isWall 3 (some .boolean))) ({ frames := 0, cells := 0, slots := 0, locals := 0 } : Room) (va_Pc [.ref h0, .int x, .int y] (roB G [(h0, .inr (5, [.ref ak, .ref ag, .long bl])), eI G ak 64 kf])) (vp_Si (fun r => r = b2i (wallB kf x y))) 0 0 (fun _ => False) := by
  refine Met.ofW (cc := cX5_isWall) (maxL := 3) (ret := (some .boolean)) (by decide) rfl ?_
  intro pg ev s mi args below meth cd s₁ B hml hv
  obtain ⟨rfl, hP, hE, hT⟩ := hv
  have hx := B.exec
  have hb := B.bytes
  have hr := B.returns
  have hts0 := atoms_spec (ws := wA (.code yX5_isWall cX5_isWall 3 (some .boolean))) B.pre
  have hts : ∀ w ∈ wsA, w.before _ s = true := fun w h => hts0 w (List.mem_cons_of_mem _ h)
  have hown : s.vm.findClass RX5 = some mi.cls := findClass_of_methodNamed B.named
  have hlocks := B.notSynchronized
  have hS : va_S (fun _ => False) s.heap s.heap [] := va_S.rf
  have hl := lv_entry ([.ref h0, .int x, .int y]) (n := 3) (Nat.le_of_ble_eq_true rfl)
  rw [lg_entry_eq]
  generalize (lg_sl ([.ref h0, .int x, .int y]) ++ List.replicate (3 - (lg_sl ([.ref h0, .int x, .int y])).length) Slot.unset).toArray = ls at hl ⊢
  have hl : lv_has ls 3 [(0, .ref h0), (1, .int x), (2, .int y)] := hl
  refine lv_iload_n hx hb dX5_isWall_0 rfl (lv_at hl 1 rfl) ?_
  refine lv_if_lt (tgt := 39) hx hb dX5_isWall_1 (by decide) (fun c_1 => ?_) (fun c_1 => ?_)
  · skip
    refine lv_iconst (v := 0) hx hb dX5_isWall_39 (by decide) ?_
    exact W.zret (v := 0) hx hb hr rfl (fun t ht hW => ⟨0, rfl, by first | (simp [wallB, cellB_of (by assumption : ¬ x < 0) (by assumption : ¬ 8 ≤ x) (by assumption : ¬ y < 0) (by assumption : ¬ 8 ≤ y), b2i, c_1]; done) | simp [wallB, cellB, inB, b2i, lt7, c_1], ht⟩) hS.2.2 dX5_isWall_40
  · skip
    refine lv_iload_n hx hb dX5_isWall_4 rfl (lv_at hl 1 rfl) ?_
    refine lv_bipush (v := 8) hx hb dX5_isWall_5 (by decide) ?_
    refine lv_icmp_ge (tgt := 39) hx hb dX5_isWall_7 (by decide) (fun c_7 => ?_) (fun c_7 => ?_)
    · skip
      refine lv_iconst (v := 0) hx hb dX5_isWall_39 (by decide) ?_
      exact W.zret (v := 0) hx hb hr rfl (fun t ht hW => ⟨0, rfl, by first | (simp [wallB, cellB_of (by assumption : ¬ x < 0) (by assumption : ¬ 8 ≤ x) (by assumption : ¬ y < 0) (by assumption : ¬ 8 ≤ y), b2i, c_1, c_7]; done) | simp [wallB, cellB, inB, b2i, lt7, c_1, c_7], ht⟩) hS.2.2 dX5_isWall_40
    · skip
      refine lv_iload_n hx hb dX5_isWall_10 rfl (lv_at hl 2 rfl) ?_
      refine lv_if_lt (tgt := 39) hx hb dX5_isWall_11 (by decide) (fun c_11 => ?_) (fun c_11 => ?_)
      · skip
        refine lv_iconst (v := 0) hx hb dX5_isWall_39 (by decide) ?_
        exact W.zret (v := 0) hx hb hr rfl (fun t ht hW => ⟨0, rfl, by first | (simp [wallB, cellB_of (by assumption : ¬ x < 0) (by assumption : ¬ 8 ≤ x) (by assumption : ¬ y < 0) (by assumption : ¬ 8 ≤ y), b2i, c_1, c_7, c_11]; done) | simp [wallB, cellB, inB, b2i, lt7, c_1, c_7, c_11], ht⟩) hS.2.2 dX5_isWall_40
      · skip
        refine lv_iload_n hx hb dX5_isWall_14 rfl (lv_at hl 2 rfl) ?_
        refine lv_bipush (v := 8) hx hb dX5_isWall_15 (by decide) ?_
        refine lv_icmp_ge (tgt := 39) hx hb dX5_isWall_17 (by decide) (fun c_17 => ?_) (fun c_17 => ?_)
        · skip
          refine lv_iconst (v := 0) hx hb dX5_isWall_39 (by decide) ?_
          exact W.zret (v := 0) hx hb hr rfl (fun t ht hW => ⟨0, rfl, by first | (simp [wallB, cellB_of (by assumption : ¬ x < 0) (by assumption : ¬ 8 ≤ x) (by assumption : ¬ y < 0) (by assumption : ¬ 8 ≤ y), b2i, c_1, c_7, c_11, c_17]; done) | simp [wallB, cellB, inB, b2i, lt7, c_1, c_7, c_11, c_17], ht⟩) hS.2.2 dX5_isWall_40
        · skip
          refine lv_aload_n hx hb dX5_isWall_20 rfl (lv_at hl 0 rfl) ?_
          refine va_get (ci := 5) (C := RX5) (T := TX5) (N := 3) hx hb hts hinX5 hown hE.1 hP 0 rfl rfl 0 (by decide) (hts _ kFl_X5_9) (fun _ h9 => h9) rfl dX5_isWall_21 ?_
          refine lv_iload_n hx hb dX5_isWall_24 rfl (lv_at hl 2 rfl) ?_
          refine lv_bipush (v := 8) hx hb dX5_isWall_25 (by decide) ?_
          refine lv_imul hx hb dX5_isWall_27 ?_
          refine lv_iload_n hx hb dX5_isWall_28 rfl (lv_at hl 1 rfl) ?_
          refine lv_iadd hx hb dX5_isWall_29 ?_
          refine ri_ald (j := cn x y) hx hb hE hP 1 rfl rfl (cn_in (cellB_of c_1 c_7 c_11 c_17)) dX5_isWall_30 ?_
          refine lv_iconst (v := 1) hx hb dX5_isWall_31 (by decide) ?_
          refine lv_icmp_ne (tgt := 39) hx hb dX5_isWall_32 (by decide) (fun c_32 => ?_) (fun c_32 => ?_)
          · skip
            refine lv_iconst (v := 0) hx hb dX5_isWall_39 (by decide) ?_
            exact W.zret (v := 0) hx hb hr rfl (fun t ht hW => ⟨0, rfl, by first | (simp [wallB, cellB_of (by assumption : ¬ x < 0) (by assumption : ¬ 8 ≤ x) (by assumption : ¬ y < 0) (by assumption : ¬ 8 ≤ y), b2i, c_1, c_7, c_11, c_17, c_32]; done) | simp [wallB, cellB, inB, b2i, lt7, c_1, c_7, c_11, c_17, c_32], ht⟩) hS.2.2 dX5_isWall_40
          · skip
            refine lv_iconst (v := 1) hx hb dX5_isWall_35 (by decide) ?_
            refine lv_goto (tgt := 40) hx hb dX5_isWall_36 (by decide) ?_
            exact W.zret (v := 1) hx hb hr rfl (fun t ht hW => ⟨1, rfl, by first | (simp [wallB, cellB_of (by assumption : ¬ x < 0) (by assumption : ¬ 8 ≤ x) (by assumption : ¬ y < 0) (by assumption : ¬ 8 ≤ y), b2i, c_1, c_7, c_11, c_17, c_32]; done) | simp [wallB, cellB, inB, b2i, lt7, c_1, c_7, c_11, c_17, c_32], ht⟩) hS.2.2 dX5_isWall_40
theorem lf_X5_isShut_0 (h0 : Nat) (ak : Nat) (ag : Nat) (bl : Int64) (kf : Nat → Int32) (x : Int32) (y : Int32) (dx : Int32) (dy : Int32) (c_11 : (wallB kf (x + dx) (y + dy)) = false) (c_17 : dx = 0) : (0 : Int32) = b2i (shutB kf x y dx dy) := by simp_all [shutB, b2i]
theorem lf_X5_isShut_1 (h0 : Nat) (ak : Nat) (ag : Nat) (bl : Int64) (kf : Nat → Int32) (x : Int32) (y : Int32) (dx : Int32) (dy : Int32) (c_11 : (wallB kf (x + dx) (y + dy)) = false) (c_17 : ¬ dx = 0) (c_22 : ¬ dy = 0) (c_29 : dx = 2) (c_48 : (wallB kf (x + (dx / 2)) y) = false) : (0 : Int32) = b2i (shutB kf x y dx dy) := by simp_all [shutB, b2i]
theorem lf_X5_isShut_2 (h0 : Nat) (ak : Nat) (ag : Nat) (bl : Int64) (kf : Nat → Int32) (x : Int32) (y : Int32) (dx : Int32) (dy : Int32) (c_11 : (wallB kf (x + dx) (y + dy)) = false) (c_17 : ¬ dx = 0) (c_22 : ¬ dy = 0) (c_29 : dx = 2) (c_48 : (wallB kf (x + (dx / 2)) y) = true) (c_64 : (wallB kf (x + (dx / 2)) (y + dy)) = false) : (0 : Int32) = b2i (shutB kf x y dx dy) := by simp_all [shutB, b2i]
theorem lf_X5_isShut_3 (h0 : Nat) (ak : Nat) (ag : Nat) (bl : Int64) (kf : Nat → Int32) (x : Int32) (y : Int32) (dx : Int32) (dy : Int32) (c_11 : (wallB kf (x + dx) (y + dy)) = false) (c_17 : ¬ dx = 0) (c_22 : ¬ dy = 0) (c_29 : dx = 2) (c_48 : (wallB kf (x + (dx / 2)) y) = true) (c_64 : (wallB kf (x + (dx / 2)) (y + dy)) = true) : (1 : Int32) = b2i (shutB kf x y dx dy) := by simp_all [shutB, b2i]
theorem lf_X5_isShut_4 (h0 : Nat) (ak : Nat) (ag : Nat) (bl : Int64) (kf : Nat → Int32) (x : Int32) (y : Int32) (dx : Int32) (dy : Int32) (c_11 : (wallB kf (x + dx) (y + dy)) = false) (c_17 : ¬ dx = 0) (c_22 : ¬ dy = 0) (c_29 : ¬ dx = 2) (c_35 : ¬ dx = (-2)) (c_76 : dy = 2) (c_97 : (wallB kf x (y + (dy / 2))) = false) : (0 : Int32) = b2i (shutB kf x y dx dy) := by simp_all [shutB, b2i]
theorem lf_X5_isShut_5 (h0 : Nat) (ak : Nat) (ag : Nat) (bl : Int64) (kf : Nat → Int32) (x : Int32) (y : Int32) (dx : Int32) (dy : Int32) (c_11 : (wallB kf (x + dx) (y + dy)) = false) (c_17 : ¬ dx = 0) (c_22 : ¬ dy = 0) (c_29 : ¬ dx = 2) (c_35 : ¬ dx = (-2)) (c_76 : dy = 2) (c_97 : (wallB kf x (y + (dy / 2))) = true) (c_113 : (wallB kf (x + dx) (y + (dy / 2))) = false) : (0 : Int32) = b2i (shutB kf x y dx dy) := by simp_all [shutB, b2i]
theorem lf_X5_isShut_6 (h0 : Nat) (ak : Nat) (ag : Nat) (bl : Int64) (kf : Nat → Int32) (x : Int32) (y : Int32) (dx : Int32) (dy : Int32) (c_11 : (wallB kf (x + dx) (y + dy)) = false) (c_17 : ¬ dx = 0) (c_22 : ¬ dy = 0) (c_29 : ¬ dx = 2) (c_35 : ¬ dx = (-2)) (c_76 : dy = 2) (c_97 : (wallB kf x (y + (dy / 2))) = true) (c_113 : (wallB kf (x + dx) (y + (dy / 2))) = true) : (1 : Int32) = b2i (shutB kf x y dx dy) := by simp_all [shutB, b2i]
theorem lf_X5_isShut_7 (h0 : Nat) (ak : Nat) (ag : Nat) (bl : Int64) (kf : Nat → Int32) (x : Int32) (y : Int32) (dx : Int32) (dy : Int32) (c_11 : (wallB kf (x + dx) (y + dy)) = false) (c_17 : ¬ dx = 0) (c_22 : ¬ dy = 0) (c_29 : ¬ dx = 2) (c_35 : ¬ dx = (-2)) (c_76 : ¬ dy = 2) (c_83 : ¬ dy = (-2)) (c_130 : (wallB kf (x + dx) y) = false) : (0 : Int32) = b2i (shutB kf x y dx dy) := by simp_all [shutB, b2i]
theorem lf_X5_isShut_8 (h0 : Nat) (ak : Nat) (ag : Nat) (bl : Int64) (kf : Nat → Int32) (x : Int32) (y : Int32) (dx : Int32) (dy : Int32) (c_11 : (wallB kf (x + dx) (y + dy)) = false) (c_17 : ¬ dx = 0) (c_22 : ¬ dy = 0) (c_29 : ¬ dx = 2) (c_35 : ¬ dx = (-2)) (c_76 : ¬ dy = 2) (c_83 : ¬ dy = (-2)) (c_130 : (wallB kf (x + dx) y) = true) (c_142 : (wallB kf x (y + dy)) = false) : (0 : Int32) = b2i (shutB kf x y dx dy) := by simp_all [shutB, b2i]
theorem lf_X5_isShut_9 (h0 : Nat) (ak : Nat) (ag : Nat) (bl : Int64) (kf : Nat → Int32) (x : Int32) (y : Int32) (dx : Int32) (dy : Int32) (c_11 : (wallB kf (x + dx) (y + dy)) = false) (c_17 : ¬ dx = 0) (c_22 : ¬ dy = 0) (c_29 : ¬ dx = 2) (c_35 : ¬ dx = (-2)) (c_76 : ¬ dy = 2) (c_83 : ¬ dy = (-2)) (c_130 : (wallB kf (x + dx) y) = true) (c_142 : (wallB kf x (y + dy)) = true) : (1 : Int32) = b2i (shutB kf x y dx dy) := by simp_all [shutB, b2i]
theorem lf_X5_isShut_10 (h0 : Nat) (ak : Nat) (ag : Nat) (bl : Int64) (kf : Nat → Int32) (x : Int32) (y : Int32) (dx : Int32) (dy : Int32) (c_11 : (wallB kf (x + dx) (y + dy)) = false) (c_17 : ¬ dx = 0) (c_22 : ¬ dy = 0) (c_29 : ¬ dx = 2) (c_35 : ¬ dx = (-2)) (c_76 : ¬ dy = 2) (c_83 : dy = (-2)) (c_97 : (wallB kf x (y + (dy / 2))) = false) : (0 : Int32) = b2i (shutB kf x y dx dy) := by simp_all [shutB, b2i]
theorem lf_X5_isShut_11 (h0 : Nat) (ak : Nat) (ag : Nat) (bl : Int64) (kf : Nat → Int32) (x : Int32) (y : Int32) (dx : Int32) (dy : Int32) (c_11 : (wallB kf (x + dx) (y + dy)) = false) (c_17 : ¬ dx = 0) (c_22 : ¬ dy = 0) (c_29 : ¬ dx = 2) (c_35 : ¬ dx = (-2)) (c_76 : ¬ dy = 2) (c_83 : dy = (-2)) (c_97 : (wallB kf x (y + (dy / 2))) = true) (c_113 : (wallB kf (x + dx) (y + (dy / 2))) = false) : (0 : Int32) = b2i (shutB kf x y dx dy) := by simp_all [shutB, b2i]
theorem lf_X5_isShut_12 (h0 : Nat) (ak : Nat) (ag : Nat) (bl : Int64) (kf : Nat → Int32) (x : Int32) (y : Int32) (dx : Int32) (dy : Int32) (c_11 : (wallB kf (x + dx) (y + dy)) = false) (c_17 : ¬ dx = 0) (c_22 : ¬ dy = 0) (c_29 : ¬ dx = 2) (c_35 : ¬ dx = (-2)) (c_76 : ¬ dy = 2) (c_83 : dy = (-2)) (c_97 : (wallB kf x (y + (dy / 2))) = true) (c_113 : (wallB kf (x + dx) (y + (dy / 2))) = true) : (1 : Int32) = b2i (shutB kf x y dx dy) := by simp_all [shutB, b2i]
theorem lf_X5_isShut_13 (h0 : Nat) (ak : Nat) (ag : Nat) (bl : Int64) (kf : Nat → Int32) (x : Int32) (y : Int32) (dx : Int32) (dy : Int32) (c_11 : (wallB kf (x + dx) (y + dy)) = false) (c_17 : ¬ dx = 0) (c_22 : ¬ dy = 0) (c_29 : ¬ dx = 2) (c_35 : dx = (-2)) (c_48 : (wallB kf (x + (dx / 2)) y) = false) : (0 : Int32) = b2i (shutB kf x y dx dy) := by simp_all [shutB, b2i]
theorem lf_X5_isShut_14 (h0 : Nat) (ak : Nat) (ag : Nat) (bl : Int64) (kf : Nat → Int32) (x : Int32) (y : Int32) (dx : Int32) (dy : Int32) (c_11 : (wallB kf (x + dx) (y + dy)) = false) (c_17 : ¬ dx = 0) (c_22 : ¬ dy = 0) (c_29 : ¬ dx = 2) (c_35 : dx = (-2)) (c_48 : (wallB kf (x + (dx / 2)) y) = true) (c_64 : (wallB kf (x + (dx / 2)) (y + dy)) = false) : (0 : Int32) = b2i (shutB kf x y dx dy) := by simp_all [shutB, b2i]
theorem lf_X5_isShut_15 (h0 : Nat) (ak : Nat) (ag : Nat) (bl : Int64) (kf : Nat → Int32) (x : Int32) (y : Int32) (dx : Int32) (dy : Int32) (c_11 : (wallB kf (x + dx) (y + dy)) = false) (c_17 : ¬ dx = 0) (c_22 : ¬ dy = 0) (c_29 : ¬ dx = 2) (c_35 : dx = (-2)) (c_48 : (wallB kf (x + (dx / 2)) y) = true) (c_64 : (wallB kf (x + (dx / 2)) (y + dy)) = true) : (1 : Int32) = b2i (shutB kf x y dx dy) := by simp_all [shutB, b2i]
theorem lf_X5_isShut_16 (h0 : Nat) (ak : Nat) (ag : Nat) (bl : Int64) (kf : Nat → Int32) (x : Int32) (y : Int32) (dx : Int32) (dy : Int32) (c_11 : (wallB kf (x + dx) (y + dy)) = false) (c_17 : ¬ dx = 0) (c_22 : dy = 0) : (0 : Int32) = b2i (shutB kf x y dx dy) := by simp_all [shutB, b2i]
theorem lf_X5_isShut_17 (h0 : Nat) (ak : Nat) (ag : Nat) (bl : Int64) (kf : Nat → Int32) (x : Int32) (y : Int32) (dx : Int32) (dy : Int32) (c_11 : (wallB kf (x + dx) (y + dy)) = true) : (1 : Int32) = b2i (shutB kf x y dx dy) := by simp_all [shutB, b2i]
set_option maxHeartbeats 4000000 in
set_option maxRecDepth 100000 in
theorem c_X5_isShut (ln : Launch) (G : gT) (h0 : Nat) (ak : Nat) (ag : Nat) (bl : Int64) (kf : Nat → Int32) (x : Int32) (y : Int32) (dx : Int32) (dy : Int32)  : Met ln yX5_isShut (wA (.code yX5_isShut cX5_isShut 5 (some .boolean))) ({ frames := 1, cells := 0, slots := 0, locals := 22 } : Room) (va_Pc [.ref h0, .int x, .int y, .int dx, .int dy] (roB G [(h0, .inr (5, [.ref ak, .ref ag, .long bl])), eI G ak 64 kf])) (vp_Si (fun r => r = b2i (shutB kf x y dx dy))) 0 0 (fun _ => False) := by
  refine Met.ofW (cc := cX5_isShut) (maxL := 5) (ret := (some .boolean)) (by decide) rfl ?_
  intro pg ev s mi args below meth cd s₁ B hml hv
  obtain ⟨rfl, hP, hE, hT⟩ := hv
  have hx := B.exec
  have hb := B.bytes
  have hr := B.returns
  have hts0 := atoms_spec (ws := wA (.code yX5_isShut cX5_isShut 5 (some .boolean))) B.pre
  have hts : ∀ w ∈ wsA, w.before _ s = true := fun w h => hts0 w (List.mem_cons_of_mem _ h)
  have hown : s.vm.findClass RX5 = some mi.cls := findClass_of_methodNamed B.named
  have hlocks := B.notSynchronized
  have hS : va_S (fun _ => False) s.heap s.heap [] := va_S.rf
  have hl := lv_entry ([.ref h0, .int x, .int y, .int dx, .int dy]) (n := 5) (Nat.le_of_ble_eq_true rfl)
  rw [lg_entry_eq]
  generalize (lg_sl ([.ref h0, .int x, .int y, .int dx, .int dy]) ++ List.replicate (5 - (lg_sl ([.ref h0, .int x, .int y, .int dx, .int dy])).length) Slot.unset).toArray = ls at hl ⊢
  have hl : lv_has ls 5 [(0, .ref h0), (1, .int x), (2, .int y), (3, .int dx), (4, .int dy)] := hl
  refine lv_aload_n hx hb dX5_isShut_0 rfl (lv_at hl 0 rfl) ?_
  refine lv_iload_n hx hb dX5_isShut_1 rfl (lv_at hl 1 rfl) ?_
  refine lv_iload_n hx hb dX5_isShut_2 rfl (lv_at hl 3 rfl) ?_
  refine lv_iadd hx hb dX5_isShut_3 ?_
  refine lv_iload_n hx hb dX5_isShut_4 rfl (lv_at hl 2 rfl) ?_
  refine lv_iload hx hb dX5_isShut_5 (lv_at hl 4 rfl) ?_
  refine lv_iadd hx hb dX5_isShut_7 ?_
  refine ca_Si (val := b2i (wallB kf (x + dx) (y + dy))) (va_runV (As := [.int (x + dx), .int (y + dy)]) (rest := []) ⟨hx, hb, hml, hown, hts⟩ (c_X5_isWall ln G h0 ak ag bl kf (x + dx) (y + dy) ) (cwV 2 hts (gV kCode_X5_isWall kMl_X5_28 kIm_X5_isWall kSel_X5_isWall kIni_X5) rfl rfl rfl ⟨rfl, hd_X5_isWall⟩ ⟨Nat.le_of_ble_eq_true rfl, Nat.le_of_ble_eq_true rfl⟩) ⟨ro_blind, va_recv hE.1 hP (ci := 5) (q0 := 0) rfl rfl, (ro_pre (hP.sub [0, 1] rfl) hS hE hT)⟩ rfl rfl hl.1 rfl (lv_room (Nat.le_of_ble_eq_true rfl)) dX5_isShut_8 ⟨Nat.zero_le _, Nat.zero_le _⟩) ?_
  refine lv_if_eq (tgt := 16) hx hb dX5_isShut_11 (by decide) (fun c_11 => ?_) (fun c_11 => ?_)
  · skip
    have c_11 := b2i_z c_11
    refine lv_iload_n hx hb dX5_isShut_16 rfl (lv_at hl 3 rfl) ?_
    refine lv_if_eq (tgt := 25) hx hb dX5_isShut_17 (by decide) (fun c_17 => ?_) (fun c_17 => ?_)
    · skip
      refine lv_iconst (v := 0) hx hb dX5_isShut_25 (by decide) ?_
      exact W.zret (v := 0) hx hb hr rfl (fun t ht hW => ⟨0, rfl, (lf_X5_isShut_0 h0 ak ag bl kf x y dx dy c_11 c_17), ht⟩) hS.2.2 dX5_isShut_26
    · skip
      refine lv_iload hx hb dX5_isShut_20 (lv_at hl 4 rfl) ?_
      refine lv_if_ne (tgt := 27) hx hb dX5_isShut_22 (by decide) (fun c_22 => ?_) (fun c_22 => ?_)
      · skip
        refine lv_iload_n hx hb dX5_isShut_27 rfl (lv_at hl 3 rfl) ?_
        refine lv_iconst (v := 2) hx hb dX5_isShut_28 (by decide) ?_
        refine lv_icmp_eq (tgt := 38) hx hb dX5_isShut_29 (by decide) (fun c_29 => ?_) (fun c_29 => ?_)
        · skip
          refine lv_aload_n hx hb dX5_isShut_38 rfl (lv_at hl 0 rfl) ?_
          refine lv_iload_n hx hb dX5_isShut_39 rfl (lv_at hl 1 rfl) ?_
          refine lv_iload_n hx hb dX5_isShut_40 rfl (lv_at hl 3 rfl) ?_
          refine lv_iconst (v := 2) hx hb dX5_isShut_41 (by decide) ?_
          refine lv_idiv hx hb dX5_isShut_42 (by decide) ?_
          refine lv_iadd hx hb dX5_isShut_43 ?_
          refine lv_iload_n hx hb dX5_isShut_44 rfl (lv_at hl 2 rfl) ?_
          refine ca_Si (val := b2i (wallB kf (x + (dx / 2)) y)) (va_runV (As := [.int (x + (dx / 2)), .int y]) (rest := []) ⟨hx, hb, hml, hown, hts⟩ (c_X5_isWall ln G h0 ak ag bl kf (x + (dx / 2)) y ) (cwV 2 hts (gV kCode_X5_isWall kMl_X5_28 kIm_X5_isWall kSel_X5_isWall kIni_X5) rfl rfl rfl ⟨rfl, hd_X5_isWall⟩ ⟨Nat.le_of_ble_eq_true rfl, Nat.le_of_ble_eq_true rfl⟩) ⟨ro_blind, va_recv hE.1 hP (ci := 5) (q0 := 0) rfl rfl, (ro_pre (hP.sub [0, 1] rfl) hS hE hT)⟩ rfl rfl hl.1 rfl (lv_room (Nat.le_of_ble_eq_true rfl)) dX5_isShut_45 ⟨Nat.zero_le _, Nat.zero_le _⟩) ?_
          refine lv_if_eq (tgt := 71) hx hb dX5_isShut_48 (by decide) (fun c_48 => ?_) (fun c_48 => ?_)
          · skip
            have c_48 := b2i_z c_48
            refine lv_iconst (v := 0) hx hb dX5_isShut_71 (by decide) ?_
            exact W.zret (v := 0) hx hb hr rfl (fun t ht hW => ⟨0, rfl, (lf_X5_isShut_1 h0 ak ag bl kf x y dx dy c_11 c_17 c_22 c_29 c_48), ht⟩) hS.2.2 dX5_isShut_72
          · skip
            have c_48 := b2i_n c_48
            refine lv_aload_n hx hb dX5_isShut_51 rfl (lv_at hl 0 rfl) ?_
            refine lv_iload_n hx hb dX5_isShut_52 rfl (lv_at hl 1 rfl) ?_
            refine lv_iload_n hx hb dX5_isShut_53 rfl (lv_at hl 3 rfl) ?_
            refine lv_iconst (v := 2) hx hb dX5_isShut_54 (by decide) ?_
            refine lv_idiv hx hb dX5_isShut_55 (by decide) ?_
            refine lv_iadd hx hb dX5_isShut_56 ?_
            refine lv_iload_n hx hb dX5_isShut_57 rfl (lv_at hl 2 rfl) ?_
            refine lv_iload hx hb dX5_isShut_58 (lv_at hl 4 rfl) ?_
            refine lv_iadd hx hb dX5_isShut_60 ?_
            refine ca_Si (val := b2i (wallB kf (x + (dx / 2)) (y + dy))) (va_runV (As := [.int (x + (dx / 2)), .int (y + dy)]) (rest := []) ⟨hx, hb, hml, hown, hts⟩ (c_X5_isWall ln G h0 ak ag bl kf (x + (dx / 2)) (y + dy) ) (cwV 2 hts (gV kCode_X5_isWall kMl_X5_28 kIm_X5_isWall kSel_X5_isWall kIni_X5) rfl rfl rfl ⟨rfl, hd_X5_isWall⟩ ⟨Nat.le_of_ble_eq_true rfl, Nat.le_of_ble_eq_true rfl⟩) ⟨ro_blind, va_recv hE.1 hP (ci := 5) (q0 := 0) rfl rfl, (ro_pre (hP.sub [0, 1] rfl) hS hE hT)⟩ rfl rfl hl.1 rfl (lv_room (Nat.le_of_ble_eq_true rfl)) dX5_isShut_61 ⟨Nat.zero_le _, Nat.zero_le _⟩) ?_
            refine lv_if_eq (tgt := 71) hx hb dX5_isShut_64 (by decide) (fun c_64 => ?_) (fun c_64 => ?_)
            · skip
              have c_64 := b2i_z c_64
              refine lv_iconst (v := 0) hx hb dX5_isShut_71 (by decide) ?_
              exact W.zret (v := 0) hx hb hr rfl (fun t ht hW => ⟨0, rfl, (lf_X5_isShut_2 h0 ak ag bl kf x y dx dy c_11 c_17 c_22 c_29 c_48 c_64), ht⟩) hS.2.2 dX5_isShut_72
            · skip
              have c_64 := b2i_n c_64
              refine lv_iconst (v := 1) hx hb dX5_isShut_67 (by decide) ?_
              refine lv_goto (tgt := 72) hx hb dX5_isShut_68 (by decide) ?_
              exact W.zret (v := 1) hx hb hr rfl (fun t ht hW => ⟨1, rfl, (lf_X5_isShut_3 h0 ak ag bl kf x y dx dy c_11 c_17 c_22 c_29 c_48 c_64), ht⟩) hS.2.2 dX5_isShut_72
        · skip
          refine lv_iload_n hx hb dX5_isShut_32 rfl (lv_at hl 3 rfl) ?_
          refine lv_bipush (v := -2) hx hb dX5_isShut_33 (by decide) ?_
          refine lv_icmp_ne (tgt := 73) hx hb dX5_isShut_35 (by decide) (fun c_35 => ?_) (fun c_35 => ?_)
          · skip
            refine lv_iload hx hb dX5_isShut_73 (lv_at hl 4 rfl) ?_
            refine lv_iconst (v := 2) hx hb dX5_isShut_75 (by decide) ?_
            refine lv_icmp_eq (tgt := 86) hx hb dX5_isShut_76 (by decide) (fun c_76 => ?_) (fun c_76 => ?_)
            · skip
              refine lv_aload_n hx hb dX5_isShut_86 rfl (lv_at hl 0 rfl) ?_
              refine lv_iload_n hx hb dX5_isShut_87 rfl (lv_at hl 1 rfl) ?_
              refine lv_iload_n hx hb dX5_isShut_88 rfl (lv_at hl 2 rfl) ?_
              refine lv_iload hx hb dX5_isShut_89 (lv_at hl 4 rfl) ?_
              refine lv_iconst (v := 2) hx hb dX5_isShut_91 (by decide) ?_
              refine lv_idiv hx hb dX5_isShut_92 (by decide) ?_
              refine lv_iadd hx hb dX5_isShut_93 ?_
              refine ca_Si (val := b2i (wallB kf x (y + (dy / 2)))) (va_runV (As := [.int x, .int (y + (dy / 2))]) (rest := []) ⟨hx, hb, hml, hown, hts⟩ (c_X5_isWall ln G h0 ak ag bl kf x (y + (dy / 2)) ) (cwV 2 hts (gV kCode_X5_isWall kMl_X5_28 kIm_X5_isWall kSel_X5_isWall kIni_X5) rfl rfl rfl ⟨rfl, hd_X5_isWall⟩ ⟨Nat.le_of_ble_eq_true rfl, Nat.le_of_ble_eq_true rfl⟩) ⟨ro_blind, va_recv hE.1 hP (ci := 5) (q0 := 0) rfl rfl, (ro_pre (hP.sub [0, 1] rfl) hS hE hT)⟩ rfl rfl hl.1 rfl (lv_room (Nat.le_of_ble_eq_true rfl)) dX5_isShut_94 ⟨Nat.zero_le _, Nat.zero_le _⟩) ?_
              refine lv_if_eq (tgt := 120) hx hb dX5_isShut_97 (by decide) (fun c_97 => ?_) (fun c_97 => ?_)
              · skip
                have c_97 := b2i_z c_97
                refine lv_iconst (v := 0) hx hb dX5_isShut_120 (by decide) ?_
                exact W.zret (v := 0) hx hb hr rfl (fun t ht hW => ⟨0, rfl, (lf_X5_isShut_4 h0 ak ag bl kf x y dx dy c_11 c_17 c_22 c_29 c_35 c_76 c_97), ht⟩) hS.2.2 dX5_isShut_121
              · skip
                have c_97 := b2i_n c_97
                refine lv_aload_n hx hb dX5_isShut_100 rfl (lv_at hl 0 rfl) ?_
                refine lv_iload_n hx hb dX5_isShut_101 rfl (lv_at hl 1 rfl) ?_
                refine lv_iload_n hx hb dX5_isShut_102 rfl (lv_at hl 3 rfl) ?_
                refine lv_iadd hx hb dX5_isShut_103 ?_
                refine lv_iload_n hx hb dX5_isShut_104 rfl (lv_at hl 2 rfl) ?_
                refine lv_iload hx hb dX5_isShut_105 (lv_at hl 4 rfl) ?_
                refine lv_iconst (v := 2) hx hb dX5_isShut_107 (by decide) ?_
                refine lv_idiv hx hb dX5_isShut_108 (by decide) ?_
                refine lv_iadd hx hb dX5_isShut_109 ?_
                refine ca_Si (val := b2i (wallB kf (x + dx) (y + (dy / 2)))) (va_runV (As := [.int (x + dx), .int (y + (dy / 2))]) (rest := []) ⟨hx, hb, hml, hown, hts⟩ (c_X5_isWall ln G h0 ak ag bl kf (x + dx) (y + (dy / 2)) ) (cwV 2 hts (gV kCode_X5_isWall kMl_X5_28 kIm_X5_isWall kSel_X5_isWall kIni_X5) rfl rfl rfl ⟨rfl, hd_X5_isWall⟩ ⟨Nat.le_of_ble_eq_true rfl, Nat.le_of_ble_eq_true rfl⟩) ⟨ro_blind, va_recv hE.1 hP (ci := 5) (q0 := 0) rfl rfl, (ro_pre (hP.sub [0, 1] rfl) hS hE hT)⟩ rfl rfl hl.1 rfl (lv_room (Nat.le_of_ble_eq_true rfl)) dX5_isShut_110 ⟨Nat.zero_le _, Nat.zero_le _⟩) ?_
                refine lv_if_eq (tgt := 120) hx hb dX5_isShut_113 (by decide) (fun c_113 => ?_) (fun c_113 => ?_)
                · skip
                  have c_113 := b2i_z c_113
                  refine lv_iconst (v := 0) hx hb dX5_isShut_120 (by decide) ?_
                  exact W.zret (v := 0) hx hb hr rfl (fun t ht hW => ⟨0, rfl, (lf_X5_isShut_5 h0 ak ag bl kf x y dx dy c_11 c_17 c_22 c_29 c_35 c_76 c_97 c_113), ht⟩) hS.2.2 dX5_isShut_121
                · skip
                  have c_113 := b2i_n c_113
                  refine lv_iconst (v := 1) hx hb dX5_isShut_116 (by decide) ?_
                  refine lv_goto (tgt := 121) hx hb dX5_isShut_117 (by decide) ?_
                  exact W.zret (v := 1) hx hb hr rfl (fun t ht hW => ⟨1, rfl, (lf_X5_isShut_6 h0 ak ag bl kf x y dx dy c_11 c_17 c_22 c_29 c_35 c_76 c_97 c_113), ht⟩) hS.2.2 dX5_isShut_121
            · skip
              refine lv_iload hx hb dX5_isShut_79 (lv_at hl 4 rfl) ?_
              refine lv_bipush (v := -2) hx hb dX5_isShut_81 (by decide) ?_
              refine lv_icmp_ne (tgt := 122) hx hb dX5_isShut_83 (by decide) (fun c_83 => ?_) (fun c_83 => ?_)
              · skip
                refine lv_aload_n hx hb dX5_isShut_122 rfl (lv_at hl 0 rfl) ?_
                refine lv_iload_n hx hb dX5_isShut_123 rfl (lv_at hl 1 rfl) ?_
                refine lv_iload_n hx hb dX5_isShut_124 rfl (lv_at hl 3 rfl) ?_
                refine lv_iadd hx hb dX5_isShut_125 ?_
                refine lv_iload_n hx hb dX5_isShut_126 rfl (lv_at hl 2 rfl) ?_
                refine ca_Si (val := b2i (wallB kf (x + dx) y)) (va_runV (As := [.int (x + dx), .int y]) (rest := []) ⟨hx, hb, hml, hown, hts⟩ (c_X5_isWall ln G h0 ak ag bl kf (x + dx) y ) (cwV 2 hts (gV kCode_X5_isWall kMl_X5_28 kIm_X5_isWall kSel_X5_isWall kIni_X5) rfl rfl rfl ⟨rfl, hd_X5_isWall⟩ ⟨Nat.le_of_ble_eq_true rfl, Nat.le_of_ble_eq_true rfl⟩) ⟨ro_blind, va_recv hE.1 hP (ci := 5) (q0 := 0) rfl rfl, (ro_pre (hP.sub [0, 1] rfl) hS hE hT)⟩ rfl rfl hl.1 rfl (lv_room (Nat.le_of_ble_eq_true rfl)) dX5_isShut_127 ⟨Nat.zero_le _, Nat.zero_le _⟩) ?_
                refine lv_if_eq (tgt := 149) hx hb dX5_isShut_130 (by decide) (fun c_130 => ?_) (fun c_130 => ?_)
                · skip
                  have c_130 := b2i_z c_130
                  refine lv_iconst (v := 0) hx hb dX5_isShut_149 (by decide) ?_
                  exact W.zret (v := 0) hx hb hr rfl (fun t ht hW => ⟨0, rfl, (lf_X5_isShut_7 h0 ak ag bl kf x y dx dy c_11 c_17 c_22 c_29 c_35 c_76 c_83 c_130), ht⟩) hS.2.2 dX5_isShut_150
                · skip
                  have c_130 := b2i_n c_130
                  refine lv_aload_n hx hb dX5_isShut_133 rfl (lv_at hl 0 rfl) ?_
                  refine lv_iload_n hx hb dX5_isShut_134 rfl (lv_at hl 1 rfl) ?_
                  refine lv_iload_n hx hb dX5_isShut_135 rfl (lv_at hl 2 rfl) ?_
                  refine lv_iload hx hb dX5_isShut_136 (lv_at hl 4 rfl) ?_
                  refine lv_iadd hx hb dX5_isShut_138 ?_
                  refine ca_Si (val := b2i (wallB kf x (y + dy))) (va_runV (As := [.int x, .int (y + dy)]) (rest := []) ⟨hx, hb, hml, hown, hts⟩ (c_X5_isWall ln G h0 ak ag bl kf x (y + dy) ) (cwV 2 hts (gV kCode_X5_isWall kMl_X5_28 kIm_X5_isWall kSel_X5_isWall kIni_X5) rfl rfl rfl ⟨rfl, hd_X5_isWall⟩ ⟨Nat.le_of_ble_eq_true rfl, Nat.le_of_ble_eq_true rfl⟩) ⟨ro_blind, va_recv hE.1 hP (ci := 5) (q0 := 0) rfl rfl, (ro_pre (hP.sub [0, 1] rfl) hS hE hT)⟩ rfl rfl hl.1 rfl (lv_room (Nat.le_of_ble_eq_true rfl)) dX5_isShut_139 ⟨Nat.zero_le _, Nat.zero_le _⟩) ?_
                  refine lv_if_eq (tgt := 149) hx hb dX5_isShut_142 (by decide) (fun c_142 => ?_) (fun c_142 => ?_)
                  · skip
                    have c_142 := b2i_z c_142
                    refine lv_iconst (v := 0) hx hb dX5_isShut_149 (by decide) ?_
                    exact W.zret (v := 0) hx hb hr rfl (fun t ht hW => ⟨0, rfl, (lf_X5_isShut_8 h0 ak ag bl kf x y dx dy c_11 c_17 c_22 c_29 c_35 c_76 c_83 c_130 c_142), ht⟩) hS.2.2 dX5_isShut_150
                  · skip
                    have c_142 := b2i_n c_142
                    refine lv_iconst (v := 1) hx hb dX5_isShut_145 (by decide) ?_
                    refine lv_goto (tgt := 150) hx hb dX5_isShut_146 (by decide) ?_
                    exact W.zret (v := 1) hx hb hr rfl (fun t ht hW => ⟨1, rfl, (lf_X5_isShut_9 h0 ak ag bl kf x y dx dy c_11 c_17 c_22 c_29 c_35 c_76 c_83 c_130 c_142), ht⟩) hS.2.2 dX5_isShut_150
              · skip
                refine lv_aload_n hx hb dX5_isShut_86 rfl (lv_at hl 0 rfl) ?_
                refine lv_iload_n hx hb dX5_isShut_87 rfl (lv_at hl 1 rfl) ?_
                refine lv_iload_n hx hb dX5_isShut_88 rfl (lv_at hl 2 rfl) ?_
                refine lv_iload hx hb dX5_isShut_89 (lv_at hl 4 rfl) ?_
                refine lv_iconst (v := 2) hx hb dX5_isShut_91 (by decide) ?_
                refine lv_idiv hx hb dX5_isShut_92 (by decide) ?_
                refine lv_iadd hx hb dX5_isShut_93 ?_
                refine ca_Si (val := b2i (wallB kf x (y + (dy / 2)))) (va_runV (As := [.int x, .int (y + (dy / 2))]) (rest := []) ⟨hx, hb, hml, hown, hts⟩ (c_X5_isWall ln G h0 ak ag bl kf x (y + (dy / 2)) ) (cwV 2 hts (gV kCode_X5_isWall kMl_X5_28 kIm_X5_isWall kSel_X5_isWall kIni_X5) rfl rfl rfl ⟨rfl, hd_X5_isWall⟩ ⟨Nat.le_of_ble_eq_true rfl, Nat.le_of_ble_eq_true rfl⟩) ⟨ro_blind, va_recv hE.1 hP (ci := 5) (q0 := 0) rfl rfl, (ro_pre (hP.sub [0, 1] rfl) hS hE hT)⟩ rfl rfl hl.1 rfl (lv_room (Nat.le_of_ble_eq_true rfl)) dX5_isShut_94 ⟨Nat.zero_le _, Nat.zero_le _⟩) ?_
                refine lv_if_eq (tgt := 120) hx hb dX5_isShut_97 (by decide) (fun c_97 => ?_) (fun c_97 => ?_)
                · skip
                  have c_97 := b2i_z c_97
                  refine lv_iconst (v := 0) hx hb dX5_isShut_120 (by decide) ?_
                  exact W.zret (v := 0) hx hb hr rfl (fun t ht hW => ⟨0, rfl, (lf_X5_isShut_10 h0 ak ag bl kf x y dx dy c_11 c_17 c_22 c_29 c_35 c_76 c_83 c_97), ht⟩) hS.2.2 dX5_isShut_121
                · skip
                  have c_97 := b2i_n c_97
                  refine lv_aload_n hx hb dX5_isShut_100 rfl (lv_at hl 0 rfl) ?_
                  refine lv_iload_n hx hb dX5_isShut_101 rfl (lv_at hl 1 rfl) ?_
                  refine lv_iload_n hx hb dX5_isShut_102 rfl (lv_at hl 3 rfl) ?_
                  refine lv_iadd hx hb dX5_isShut_103 ?_
                  refine lv_iload_n hx hb dX5_isShut_104 rfl (lv_at hl 2 rfl) ?_
                  refine lv_iload hx hb dX5_isShut_105 (lv_at hl 4 rfl) ?_
                  refine lv_iconst (v := 2) hx hb dX5_isShut_107 (by decide) ?_
                  refine lv_idiv hx hb dX5_isShut_108 (by decide) ?_
                  refine lv_iadd hx hb dX5_isShut_109 ?_
                  refine ca_Si (val := b2i (wallB kf (x + dx) (y + (dy / 2)))) (va_runV (As := [.int (x + dx), .int (y + (dy / 2))]) (rest := []) ⟨hx, hb, hml, hown, hts⟩ (c_X5_isWall ln G h0 ak ag bl kf (x + dx) (y + (dy / 2)) ) (cwV 2 hts (gV kCode_X5_isWall kMl_X5_28 kIm_X5_isWall kSel_X5_isWall kIni_X5) rfl rfl rfl ⟨rfl, hd_X5_isWall⟩ ⟨Nat.le_of_ble_eq_true rfl, Nat.le_of_ble_eq_true rfl⟩) ⟨ro_blind, va_recv hE.1 hP (ci := 5) (q0 := 0) rfl rfl, (ro_pre (hP.sub [0, 1] rfl) hS hE hT)⟩ rfl rfl hl.1 rfl (lv_room (Nat.le_of_ble_eq_true rfl)) dX5_isShut_110 ⟨Nat.zero_le _, Nat.zero_le _⟩) ?_
                  refine lv_if_eq (tgt := 120) hx hb dX5_isShut_113 (by decide) (fun c_113 => ?_) (fun c_113 => ?_)
                  · skip
                    have c_113 := b2i_z c_113
                    refine lv_iconst (v := 0) hx hb dX5_isShut_120 (by decide) ?_
                    exact W.zret (v := 0) hx hb hr rfl (fun t ht hW => ⟨0, rfl, (lf_X5_isShut_11 h0 ak ag bl kf x y dx dy c_11 c_17 c_22 c_29 c_35 c_76 c_83 c_97 c_113), ht⟩) hS.2.2 dX5_isShut_121
                  · skip
                    have c_113 := b2i_n c_113
                    refine lv_iconst (v := 1) hx hb dX5_isShut_116 (by decide) ?_
                    refine lv_goto (tgt := 121) hx hb dX5_isShut_117 (by decide) ?_
                    exact W.zret (v := 1) hx hb hr rfl (fun t ht hW => ⟨1, rfl, (lf_X5_isShut_12 h0 ak ag bl kf x y dx dy c_11 c_17 c_22 c_29 c_35 c_76 c_83 c_97 c_113), ht⟩) hS.2.2 dX5_isShut_121
          · skip
            refine lv_aload_n hx hb dX5_isShut_38 rfl (lv_at hl 0 rfl) ?_
            refine lv_iload_n hx hb dX5_isShut_39 rfl (lv_at hl 1 rfl) ?_
            refine lv_iload_n hx hb dX5_isShut_40 rfl (lv_at hl 3 rfl) ?_
            refine lv_iconst (v := 2) hx hb dX5_isShut_41 (by decide) ?_
            refine lv_idiv hx hb dX5_isShut_42 (by decide) ?_
            refine lv_iadd hx hb dX5_isShut_43 ?_
            refine lv_iload_n hx hb dX5_isShut_44 rfl (lv_at hl 2 rfl) ?_
            refine ca_Si (val := b2i (wallB kf (x + (dx / 2)) y)) (va_runV (As := [.int (x + (dx / 2)), .int y]) (rest := []) ⟨hx, hb, hml, hown, hts⟩ (c_X5_isWall ln G h0 ak ag bl kf (x + (dx / 2)) y ) (cwV 2 hts (gV kCode_X5_isWall kMl_X5_28 kIm_X5_isWall kSel_X5_isWall kIni_X5) rfl rfl rfl ⟨rfl, hd_X5_isWall⟩ ⟨Nat.le_of_ble_eq_true rfl, Nat.le_of_ble_eq_true rfl⟩) ⟨ro_blind, va_recv hE.1 hP (ci := 5) (q0 := 0) rfl rfl, (ro_pre (hP.sub [0, 1] rfl) hS hE hT)⟩ rfl rfl hl.1 rfl (lv_room (Nat.le_of_ble_eq_true rfl)) dX5_isShut_45 ⟨Nat.zero_le _, Nat.zero_le _⟩) ?_
            refine lv_if_eq (tgt := 71) hx hb dX5_isShut_48 (by decide) (fun c_48 => ?_) (fun c_48 => ?_)
            · skip
              have c_48 := b2i_z c_48
              refine lv_iconst (v := 0) hx hb dX5_isShut_71 (by decide) ?_
              exact W.zret (v := 0) hx hb hr rfl (fun t ht hW => ⟨0, rfl, (lf_X5_isShut_13 h0 ak ag bl kf x y dx dy c_11 c_17 c_22 c_29 c_35 c_48), ht⟩) hS.2.2 dX5_isShut_72
            · skip
              have c_48 := b2i_n c_48
              refine lv_aload_n hx hb dX5_isShut_51 rfl (lv_at hl 0 rfl) ?_
              refine lv_iload_n hx hb dX5_isShut_52 rfl (lv_at hl 1 rfl) ?_
              refine lv_iload_n hx hb dX5_isShut_53 rfl (lv_at hl 3 rfl) ?_
              refine lv_iconst (v := 2) hx hb dX5_isShut_54 (by decide) ?_
              refine lv_idiv hx hb dX5_isShut_55 (by decide) ?_
              refine lv_iadd hx hb dX5_isShut_56 ?_
              refine lv_iload_n hx hb dX5_isShut_57 rfl (lv_at hl 2 rfl) ?_
              refine lv_iload hx hb dX5_isShut_58 (lv_at hl 4 rfl) ?_
              refine lv_iadd hx hb dX5_isShut_60 ?_
              refine ca_Si (val := b2i (wallB kf (x + (dx / 2)) (y + dy))) (va_runV (As := [.int (x + (dx / 2)), .int (y + dy)]) (rest := []) ⟨hx, hb, hml, hown, hts⟩ (c_X5_isWall ln G h0 ak ag bl kf (x + (dx / 2)) (y + dy) ) (cwV 2 hts (gV kCode_X5_isWall kMl_X5_28 kIm_X5_isWall kSel_X5_isWall kIni_X5) rfl rfl rfl ⟨rfl, hd_X5_isWall⟩ ⟨Nat.le_of_ble_eq_true rfl, Nat.le_of_ble_eq_true rfl⟩) ⟨ro_blind, va_recv hE.1 hP (ci := 5) (q0 := 0) rfl rfl, (ro_pre (hP.sub [0, 1] rfl) hS hE hT)⟩ rfl rfl hl.1 rfl (lv_room (Nat.le_of_ble_eq_true rfl)) dX5_isShut_61 ⟨Nat.zero_le _, Nat.zero_le _⟩) ?_
              refine lv_if_eq (tgt := 71) hx hb dX5_isShut_64 (by decide) (fun c_64 => ?_) (fun c_64 => ?_)
              · skip
                have c_64 := b2i_z c_64
                refine lv_iconst (v := 0) hx hb dX5_isShut_71 (by decide) ?_
                exact W.zret (v := 0) hx hb hr rfl (fun t ht hW => ⟨0, rfl, (lf_X5_isShut_14 h0 ak ag bl kf x y dx dy c_11 c_17 c_22 c_29 c_35 c_48 c_64), ht⟩) hS.2.2 dX5_isShut_72
              · skip
                have c_64 := b2i_n c_64
                refine lv_iconst (v := 1) hx hb dX5_isShut_67 (by decide) ?_
                refine lv_goto (tgt := 72) hx hb dX5_isShut_68 (by decide) ?_
                exact W.zret (v := 1) hx hb hr rfl (fun t ht hW => ⟨1, rfl, (lf_X5_isShut_15 h0 ak ag bl kf x y dx dy c_11 c_17 c_22 c_29 c_35 c_48 c_64), ht⟩) hS.2.2 dX5_isShut_72
      · skip
        refine lv_iconst (v := 0) hx hb dX5_isShut_25 (by decide) ?_
        exact W.zret (v := 0) hx hb hr rfl (fun t ht hW => ⟨0, rfl, (lf_X5_isShut_16 h0 ak ag bl kf x y dx dy c_11 c_17 c_22), ht⟩) hS.2.2 dX5_isShut_26
  · skip
    have c_11 := b2i_n c_11
    refine lv_iconst (v := 1) hx hb dX5_isShut_14 (by decide) ?_
    exact W.zret (v := 1) hx hb hr rfl (fun t ht hW => ⟨1, rfl, (lf_X5_isShut_17 h0 ak ag bl kf x y dx dy c_11), ht⟩) hS.2.2 dX5_isShut_15
set_option maxHeartbeats 4000000 in
set_option maxRecDepth 100000 in
theorem c_X5_howMany (ln : Launch) (G : gT) (h0 : Nat) (ak : Nat) (ag : Nat) (bl : Int64) (kf : Nat → Int32) (v : Int32)  : Met ln yX5_howMany (wA (.code yX5_howMany cX5_howMany 4 (some .int))) ({ frames := 0, cells := 0, slots := 0, locals := 0 } : Room) (va_Pc [.ref h0, .int v] (roB G [(h0, .inr (5, [.ref ak, .ref ag, .long bl])), eI G ak 64 kf])) (vp_Si (fun r => r = nI (cntI kf v 64))) 0 0 (fun _ => False) := by
  refine Met.ofW (cc := cX5_howMany) (maxL := 4) (ret := (some .int)) (by decide) rfl ?_
  intro pg ev s mi args below meth cd s₁ B hml hv
  obtain ⟨rfl, hP, hE, hT⟩ := hv
  have hx := B.exec
  have hb := B.bytes
  have hr := B.returns
  have hts0 := atoms_spec (ws := wA (.code yX5_howMany cX5_howMany 4 (some .int))) B.pre
  have hts : ∀ w ∈ wsA, w.before _ s = true := fun w h => hts0 w (List.mem_cons_of_mem _ h)
  have hown : s.vm.findClass RX5 = some mi.cls := findClass_of_methodNamed B.named
  have hlocks := B.notSynchronized
  have hS : va_S (fun _ => False) s.heap s.heap [] := va_S.rf
  have hl := lv_entry ([.ref h0, .int v]) (n := 4) (Nat.le_of_ble_eq_true rfl)
  rw [lg_entry_eq]
  generalize (lg_sl ([.ref h0, .int v]) ++ List.replicate (4 - (lg_sl ([.ref h0, .int v])).length) Slot.unset).toArray = ls at hl ⊢
  have hl : lv_has ls 4 [(0, .ref h0), (1, .int v)] := hl
  refine lv_iconst (v := 0) hx hb dX5_howMany_0 (by decide) ?_
  refine lv_istore_n (lv' := [(2, .int 0), (0, .ref h0), (1, .int v)]) hx hb dX5_howMany_1 rfl hl (by decide) rfl (fun ls hl => ?_)
  refine lv_iconst (v := 0) hx hb dX5_howMany_2 (by decide) ?_
  refine lv_istore_n (lv' := [(3, .int 0), (2, .int 0), (0, .ref h0), (1, .int v)]) hx hb dX5_howMany_3 rfl hl (by decide) rfl (fun ls hl => ?_)
  have J_4 : ∀ (n_ : Nat), ∀ (j : Nat), (j ≤ 64) → (65 ≤ j + n_) → ∀ (ls : Array Slot), lv_has ls 4 [(3, .int (nI j)), (2, .int (nI (cntI kf v j))), (0, .ref h0), (1, .int v)] → W pg ln ev ({ frames := 0, cells := 0, slots := 0, locals := 0 } : Room) s mi ([.ref h0, .int v] : List Value).toArray below meth cd s.heap [] 0 0 (MQ below (vp_Si (fun r => r = nI (cntI kf v 64))) ([.ref h0, .int v] : List Value).toArray s 0 0 (fun _ => False)) (F0 mi 4 ls []) := by
    intro n_
    induction n_ with
    | zero =>
      intro j hj hf ls hl
      exact absurd hf (by omega)
    | succ n_ ih_4 =>
      intro j hj hf ls hl
      refine lv_iload_n hx hb dX5_howMany_4 rfl (lv_at hl 0 rfl) ?_
      refine lv_bipush (v := 64) hx hb dX5_howMany_5 (by decide) ?_
      refine lv_icmp_ge (tgt := 29) hx hb dX5_howMany_7 (by decide) (fun c_7 => ?_) (fun c_7 => ?_)
      · skip
        have e_hlt : j = 64 := by
          rcases Nat.lt_or_ge j 64 with q | q
          · exact absurd (show nI 64 ≤ nI j from c_7) (nI_ge q (by omega))
          · omega
        refine lv_iload_n hx hb dX5_howMany_29 rfl (lv_at hl 1 rfl) ?_
        exact W.iret (v := nI (cntI kf v j)) hx hb hr (fun t ht hW => ⟨nI (cntI kf v j), rfl, by rw [e_hlt], ht⟩) hS.2.2 dX5_howMany_30
      · skip
        have hlt : j < 64 := by
          rcases Nat.lt_or_ge j 64 with q | q
          · exact q
          · exact absurd (show _ ≤ nI j from (nI_le (a := 64) (b := j) q (by omega))) c_7
        refine lv_aload_n hx hb dX5_howMany_10 rfl (lv_at hl 2 rfl) ?_
        refine va_get (ci := 5) (C := RX5) (T := TX5) (N := 3) hx hb hts hinX5 hown hE.1 hP 0 rfl rfl 0 (by decide) (hts _ kFl_X5_9) (fun _ h9 => h9) rfl dX5_howMany_11 ?_
        refine lv_iload_n hx hb dX5_howMany_14 rfl (lv_at hl 0 rfl) ?_
        refine ri_ald (j := j) hx hb hE hP 1 rfl (nI_clamp (by omega)) (vp_in_nI (by omega) (by omega)) dX5_howMany_15 ?_
        refine lv_iload_n hx hb dX5_howMany_16 rfl (lv_at hl 3 rfl) ?_
        refine lv_icmp_ne (tgt := 23) hx hb dX5_howMany_17 (by decide) (fun c_17 => ?_) (fun c_17 => ?_)
        · skip
          refine lv_iinc (v := nI (j + 1)) (lv' := [(3, .int (nI (j + 1))), (2, .int (nI (cntI kf v j))), (0, .ref h0), (1, .int v)]) hx hb dX5_howMany_23 hl (k := 0) rfl (nI_1 _) (by decide) rfl (fun ls hl => ?_)
          refine lv_goto (tgt := 4) hx hb dX5_howMany_26 (by decide) ?_
          have q9_1 : (nI (cntI kf v j)) = (nI (cntI kf v (j + 1))) := by simp [cntI, c_7, c_17]
          exact ih_4 (j + 1) (by omega) (by omega) ls (lv_cast (lv_sub hl [0, 1, 2, 3] rfl) (lcons rfl (lcons (congrArg (fun z => (2, Value.int z)) q9_1) (lcons rfl (lcons rfl rfl)))))
        · skip
          refine lv_iinc (v := nI (cntI kf v j + 1)) (lv' := [(2, .int (nI (cntI kf v j + 1))), (3, .int (nI j)), (0, .ref h0), (1, .int v)]) hx hb dX5_howMany_20 hl (k := 1) rfl (nI_1 _) (by decide) rfl (fun ls hl => ?_)
          refine lv_iinc (v := nI (j + 1)) (lv' := [(3, .int (nI (j + 1))), (2, .int (nI (cntI kf v j + 1))), (0, .ref h0), (1, .int v)]) hx hb dX5_howMany_23 hl (k := 1) rfl (nI_1 _) (by decide) rfl (fun ls hl => ?_)
          refine lv_goto (tgt := 4) hx hb dX5_howMany_26 (by decide) ?_
          have q9_2 : (nI (cntI kf v j + 1)) = (nI (cntI kf v (j + 1))) := by simp [cntI, c_7, c_17]
          exact ih_4 (j + 1) (by omega) (by omega) ls (lv_cast (lv_sub hl [0, 1, 2, 3] rfl) (lcons rfl (lcons (congrArg (fun z => (2, Value.int z)) q9_2) (lcons rfl (lcons rfl rfl)))))
  have q9_3 : 0 = (nI 0) := rfl
  have q9_4 : 0 = (nI (cntI kf v 0)) := rfl
  exact J_4 65 0 (by omega) (by omega) ls (lv_cast (lv_sub hl [0, 1, 2, 3] rfl) (lcons (congrArg (fun z => (3, Value.int z)) q9_3) (lcons (congrArg (fun z => (2, Value.int z)) q9_4) (lcons rfl (lcons rfl rfl)))))
set_option maxHeartbeats 4000000 in
set_option maxRecDepth 100000 in
theorem c_X5_put (ln : Launch) (G : gT) (h0 : Nat) (ak : Nat) (ag : Nat) (bl : Int64) (kf : Nat → Int32) (gf : Nat → Int32) (c : Int32) (kd : Int32) (g : Int32) (b : Bool) (sz : Nat) (hc : vp_in c 64) : Met ln yX5_put (wA (.code yX5_put cX5_put 8 (some .int))) ({ frames := 0, cells := 0, slots := 0, locals := 0 } : Room) (va_Pc [.ref h0, .int c, .int kd, .int g, .int (b2i b)] (rwB G [(h0, .inr (5, [.ref ak, .ref ag, .long bl])), eI G ak 64 kf, eI G ag 64 gf] sz)) (va_Qi (S := Unit) (fun (r : Int32) (_ : Unit) => r = kf c.toNatClampNeg) (fun u => wdB G (va_A [(h0, .inr (5, [.ref ak, .ref ag, .long bl])), eI G ak 64 kf, eI G ag 64 gf] sz) [(h0, .inr (5, [.ref ak, .ref ag, .long (blPut bl c b)])), eI G ak 64 (upd kf c.toNatClampNeg kd), eI G ag 64 (upd gf c.toNatClampNeg g)]) (va_A [(h0, .inr (5, [.ref ak, .ref ag, .long bl])), eI G ak 64 kf, eI G ag 64 gf] sz)) 0 0 (va_A [(h0, .inr (5, [.ref ak, .ref ag, .long bl])), eI G ak 64 kf, eI G ag 64 gf] sz) := by
  refine Met.ofW (cc := cX5_put) (maxL := 8) (ret := (some .int)) (by decide) rfl ?_
  intro pg ev s mi args below meth cd s₁ B hml hv
  obtain ⟨rfl, hsz, hP, hE, hD0, hT⟩ := hv
  have hx := B.exec
  have hb := B.bytes
  have hr := B.returns
  have hts0 := atoms_spec (ws := wA (.code yX5_put cX5_put 8 (some .int))) B.pre
  have hts : ∀ w ∈ wsA, w.before _ s = true := fun w h => hts0 w (List.mem_cons_of_mem _ h)
  have hown : s.vm.findClass RX5 = some mi.cls := findClass_of_methodNamed B.named
  have hlocks := B.notSynchronized
  subst hsz
  have hD := hD0.self (sz := s.heap.size)
  generalize hAe : va_A [(h0, .inr (5, [.ref ak, .ref ag, .long bl])), eI G ak 64 kf, eI G ag 64 gf] s.heap.size = A at hD hT ⊢
  have hA : ∀ q : Nat, s.heap.size ≤ q → A q := fun q h => by rw [← hAe]; exact Or.inr h
  have hS : va_S A s.heap s.heap [] := va_S.rf
  have hl := lv_entry ([.ref h0, .int c, .int kd, .int g, .int (b2i b)]) (n := 8) (Nat.le_of_ble_eq_true rfl)
  rw [lg_entry_eq]
  generalize (lg_sl ([.ref h0, .int c, .int kd, .int g, .int (b2i b)]) ++ List.replicate (8 - (lg_sl ([.ref h0, .int c, .int kd, .int g, .int (b2i b)])).length) Slot.unset).toArray = ls at hl ⊢
  have hl : lv_has ls 8 [(0, .ref h0), (1, .int c), (2, .int kd), (3, .int g), (4, .int (b2i b))] := hl
  refine lv_aload_n hx hb dX5_put_0 rfl (lv_at hl 0 rfl) ?_
  refine va_get (ci := 5) (C := RX5) (T := TX5) (N := 3) hx hb hts hinX5 hown hE.1 hP 0 rfl rfl 0 (by decide) (hts _ kFl_X5_9) (fun _ h9 => h9) rfl dX5_put_1 ?_
  refine lv_iload_n hx hb dX5_put_4 rfl (lv_at hl 1 rfl) ?_
  refine ri_ald (j := c.toNatClampNeg) hx hb hE hP 1 rfl rfl hc dX5_put_5 ?_
  refine lv_istore (lv' := [(5, .int (kf c.toNatClampNeg)), (0, .ref h0), (1, .int c), (2, .int kd), (3, .int g), (4, .int (b2i b))]) hx hb dX5_put_6 hl (by decide) rfl (fun ls hl => ?_)
  refine lv_aload_n hx hb dX5_put_8 rfl (lv_at hl 1 rfl) ?_
  refine va_get (ci := 5) (C := RX5) (T := TX5) (N := 3) hx hb hts hinX5 hown hE.1 hP 0 rfl rfl 0 (by decide) (hts _ kFl_X5_9) (fun _ h9 => h9) rfl dX5_put_9 ?_
  refine lv_iload_n hx hb dX5_put_12 rfl (lv_at hl 2 rfl) ?_
  refine lv_iload_n hx hb dX5_put_13 rfl (lv_at hl 3 rfl) ?_
  refine ri_ast (j := c.toNatClampNeg) hx hb hE hP hD hS 1 rfl rfl hc dX5_put_14 (fun H locs hP hD hS => ?_)
  have hP : va_P G.1 vwCl [(h0, .inr (5, [.ref ak, .ref ag, .long bl])), eI G ak 64 (upd kf c.toNatClampNeg kd), eI G ag 64 gf] H := hP
  have hD : va_D A [(h0, .inr (5, [.ref ak, .ref ag, .long bl])), eI G ak 64 (upd kf c.toNatClampNeg kd), eI G ag 64 gf] := hD
  refine lv_aload_n hx hb dX5_put_15 rfl (lv_at hl 1 rfl) ?_
  refine va_get (ci := 5) (C := RX5) (T := TX5) (N := 3) hx hb hts hinX5 hown hE.1 hP 0 rfl rfl 1 (by decide) (hts _ kFl_X5_15) (fun _ h9 => h9) rfl dX5_put_16 ?_
  refine lv_iload_n hx hb dX5_put_19 rfl (lv_at hl 2 rfl) ?_
  refine lv_iload_n hx hb dX5_put_20 rfl (lv_at hl 4 rfl) ?_
  refine ri_ast (j := c.toNatClampNeg) hx hb hE hP hD hS 2 rfl rfl hc dX5_put_21 (fun H locs hP hD hS => ?_)
  have hP : va_P G.1 vwCl [(h0, .inr (5, [.ref ak, .ref ag, .long bl])), eI G ak 64 (upd kf c.toNatClampNeg kd), eI G ag 64 (upd gf c.toNatClampNeg g)] H := hP
  have hD : va_D A [(h0, .inr (5, [.ref ak, .ref ag, .long bl])), eI G ak 64 (upd kf c.toNatClampNeg kd), eI G ag 64 (upd gf c.toNatClampNeg g)] := hD
  refine lv_lconst (v := 1) hx hb dX5_put_22 (by decide) ?_
  refine lv_iload_n hx hb dX5_put_23 rfl (lv_at hl 2 rfl) ?_
  refine lv_lshl hx hb dX5_put_24 rfl ?_
  refine lv_lstore (lv' := [(6, .long ((1 : Int64) <<< (c.toInt64 &&& 63))), (5, .int (kf c.toNatClampNeg)), (0, .ref h0), (1, .int c), (2, .int kd), (3, .int g), (4, .int (b2i b))]) hx hb dX5_put_25 hl (by decide) rfl (fun ls hl => ?_)
  refine lv_aload_n hx hb dX5_put_27 rfl (lv_at hl 2 rfl) ?_
  refine lv_iload hx hb dX5_put_28 (lv_at hl 6 rfl) ?_
  refine lv_if_eq (tgt := 43) hx hb dX5_put_30 (by decide) (fun c_30 => ?_) (fun c_30 => ?_)
  · skip
    have c_30 := b2i_z c_30
    refine lv_aload_n hx hb dX5_put_43 rfl (lv_at hl 2 rfl) ?_
    refine va_get (ci := 5) (C := RX5) (T := TX5) (N := 3) hx hb hts hinX5 hown hE.1 hP 0 rfl rfl 2 (by decide) (hts _ kFl_X5_18) (fun _ h9 => h9) rfl dX5_put_44 ?_
    refine lv_lload hx hb dX5_put_47 (lv_at hl 0 rfl) ?_
    refine lv_ldc2 hx hb hown (hts _ kCl_X5_22) dX5_put_49 ?_
    refine lv_lxor hx hb dX5_put_52 ?_
    refine lv_land hx hb dX5_put_53 ?_
    refine va_put (ci := 5) (v := .long (bl &&& (((1 : Int64) <<< (c.toInt64 &&& 63)) ^^^ (-1)))) (ty := .long) (C := RX5) (T := TX5) (N := 3) hx hb hts hinX5 tyX5 tyX5_ok nmX5 hown hE.1 hP hD hS 0 rfl rfl 2 (by decide) (hts _ kFl_X5_18) (fun _ h9 => h9) rfl (by decide +kernel) rfl rfl (Nat.le_of_ble_eq_true rfl) dX5_put_54 (fun H locs hP hD hS => ?_)
    have hP : va_P G.1 vwCl [(h0, .inr (5, [.ref ak, .ref ag, .long (bl &&& (((1 : Int64) <<< (c.toInt64 &&& 63)) ^^^ (-1)))])), eI G ak 64 (upd kf c.toNatClampNeg kd), eI G ag 64 (upd gf c.toNatClampNeg g)] H := hP
    have hD : va_D A [(h0, .inr (5, [.ref ak, .ref ag, .long (bl &&& (((1 : Int64) <<< (c.toInt64 &&& 63)) ^^^ (-1)))])), eI G ak 64 (upd kf c.toNatClampNeg kd), eI G ag 64 (upd gf c.toNatClampNeg g)] := hD
    refine lv_iload hx hb dX5_put_57 (lv_at hl 1 rfl) ?_
    have hP9 := hP.sub (ws' := [(h0, .inr (5, [.ref ak, .ref ag, .long (bl &&& (((1 : Int64) <<< (c.toInt64 &&& 63)) ^^^ (-1)))])), eI G ak 64 (upd kf c.toNatClampNeg kd), eI G ag 64 (upd gf c.toNatClampNeg g)]) [0, 1, 2] rfl
    have hD9 := hD.sub (ws' := [(h0, .inr (5, [.ref ak, .ref ag, .long (bl &&& (((1 : Int64) <<< (c.toInt64 &&& 63)) ^^^ (-1)))])), eI G ak 64 (upd kf c.toNatClampNeg kd), eI G ag 64 (upd gf c.toNatClampNeg g)]) [0, 1, 2] (by decide) rfl
    have q9_1 : (bl &&& (((1 : Int64) <<< (c.toInt64 &&& 63)) ^^^ (-1))) = (blPut bl c b) := by simp [blPut, c_30]
    have cw9 : ([(h0, .inr (5, [.ref ak, .ref ag, .long (bl &&& (((1 : Int64) <<< (c.toInt64 &&& 63)) ^^^ (-1)))])), eI G ak 64 (upd kf c.toNatClampNeg kd), eI G ag 64 (upd gf c.toNatClampNeg g)] : va_W) = [(h0, .inr (5, [.ref ak, .ref ag, .long (blPut bl c b)])), eI G ak 64 (upd kf c.toNatClampNeg kd), eI G ag 64 (upd gf c.toNatClampNeg g)] := (lcons (congrArg (fun z => ((h0, Sum.inr (5, [.ref ak, .ref ag, Value.long z])) : Nat × va_E)) q9_1) (lcons rfl (lcons rfl rfl)))
    have hP9 := va_castP hP9 cw9
    have hD9 := va_castD hD9 cw9
    exact W.iret (v := kf c.toNatClampNeg) hx hb hr (fun t ht hW => ⟨⟨kf c.toNatClampNeg, (), rfl, rfl, by rw [ht]; exact hP9, hD9⟩, hS.F ht⟩) hS.2.2 dX5_put_59
  · skip
    have c_30 := b2i_n c_30
    refine lv_aload_n hx hb dX5_put_33 rfl (lv_at hl 2 rfl) ?_
    refine va_get (ci := 5) (C := RX5) (T := TX5) (N := 3) hx hb hts hinX5 hown hE.1 hP 0 rfl rfl 2 (by decide) (hts _ kFl_X5_18) (fun _ h9 => h9) rfl dX5_put_34 ?_
    refine lv_lload hx hb dX5_put_37 (lv_at hl 0 rfl) ?_
    refine lv_lor hx hb dX5_put_39 ?_
    refine lv_goto (tgt := 54) hx hb dX5_put_40 (by decide) ?_
    refine va_put (ci := 5) (v := .long (bl ||| ((1 : Int64) <<< (c.toInt64 &&& 63)))) (ty := .long) (C := RX5) (T := TX5) (N := 3) hx hb hts hinX5 tyX5 tyX5_ok nmX5 hown hE.1 hP hD hS 0 rfl rfl 2 (by decide) (hts _ kFl_X5_18) (fun _ h9 => h9) rfl (by decide +kernel) rfl rfl (Nat.le_of_ble_eq_true rfl) dX5_put_54 (fun H locs hP hD hS => ?_)
    have hP : va_P G.1 vwCl [(h0, .inr (5, [.ref ak, .ref ag, .long (bl ||| ((1 : Int64) <<< (c.toInt64 &&& 63)))])), eI G ak 64 (upd kf c.toNatClampNeg kd), eI G ag 64 (upd gf c.toNatClampNeg g)] H := hP
    have hD : va_D A [(h0, .inr (5, [.ref ak, .ref ag, .long (bl ||| ((1 : Int64) <<< (c.toInt64 &&& 63)))])), eI G ak 64 (upd kf c.toNatClampNeg kd), eI G ag 64 (upd gf c.toNatClampNeg g)] := hD
    refine lv_iload hx hb dX5_put_57 (lv_at hl 1 rfl) ?_
    have hP9 := hP.sub (ws' := [(h0, .inr (5, [.ref ak, .ref ag, .long (bl ||| ((1 : Int64) <<< (c.toInt64 &&& 63)))])), eI G ak 64 (upd kf c.toNatClampNeg kd), eI G ag 64 (upd gf c.toNatClampNeg g)]) [0, 1, 2] rfl
    have hD9 := hD.sub (ws' := [(h0, .inr (5, [.ref ak, .ref ag, .long (bl ||| ((1 : Int64) <<< (c.toInt64 &&& 63)))])), eI G ak 64 (upd kf c.toNatClampNeg kd), eI G ag 64 (upd gf c.toNatClampNeg g)]) [0, 1, 2] (by decide) rfl
    have q9_2 : (bl ||| ((1 : Int64) <<< (c.toInt64 &&& 63))) = (blPut bl c b) := by simp [blPut, c_30]
    have cw9 : ([(h0, .inr (5, [.ref ak, .ref ag, .long (bl ||| ((1 : Int64) <<< (c.toInt64 &&& 63)))])), eI G ak 64 (upd kf c.toNatClampNeg kd), eI G ag 64 (upd gf c.toNatClampNeg g)] : va_W) = [(h0, .inr (5, [.ref ak, .ref ag, .long (blPut bl c b)])), eI G ak 64 (upd kf c.toNatClampNeg kd), eI G ag 64 (upd gf c.toNatClampNeg g)] := (lcons (congrArg (fun z => ((h0, Sum.inr (5, [.ref ak, .ref ag, Value.long z])) : Nat × va_E)) q9_2) (lcons rfl (lcons rfl rfl)))
    have hP9 := va_castP hP9 cw9
    have hD9 := va_castD hD9 cw9
    exact W.iret (v := kf c.toNatClampNeg) hx hb hr (fun t ht hW => ⟨⟨kf c.toNatClampNeg, (), rfl, rfl, by rw [ht]; exact hP9, hD9⟩, hS.F ht⟩) hS.2.2 dX5_put_59
set_option maxHeartbeats 4000000 in
set_option maxRecDepth 100000 in
theorem c_X1_has (ln : Launch) (G : gT) (h0 : Nat) (ax : Nat) (ay : Nat) (az : Nat) (nb : Int32) (kp : Int32) (d : Int32)  : Met ln yX1_has (wA (.code yX1_has cX1_has 2 (some .boolean))) ({ frames := 0, cells := 0, slots := 0, locals := 0 } : Room) (va_Pc [.ref h0, .int d] (roB G [(h0, .inr (1, [.ref ax, .ref ay, .ref az, .int nb, .int kp]))])) (vp_Si (fun r => r = b2i (hasB nb d))) 0 0 (fun _ => False) := by
  refine Met.ofW (cc := cX1_has) (maxL := 2) (ret := (some .boolean)) (by decide) rfl ?_
  intro pg ev s mi args below meth cd s₁ B hml hv
  obtain ⟨rfl, hP, hE, hT⟩ := hv
  have hx := B.exec
  have hb := B.bytes
  have hr := B.returns
  have hts0 := atoms_spec (ws := wA (.code yX1_has cX1_has 2 (some .boolean))) B.pre
  have hts : ∀ w ∈ wsA, w.before _ s = true := fun w h => hts0 w (List.mem_cons_of_mem _ h)
  have hown : s.vm.findClass RX1 = some mi.cls := findClass_of_methodNamed B.named
  have hlocks := B.notSynchronized
  have hS : va_S (fun _ => False) s.heap s.heap [] := va_S.rf
  have hl := lv_entry ([.ref h0, .int d]) (n := 2) (Nat.le_of_ble_eq_true rfl)
  rw [lg_entry_eq]
  generalize (lg_sl ([.ref h0, .int d]) ++ List.replicate (2 - (lg_sl ([.ref h0, .int d])).length) Slot.unset).toArray = ls at hl ⊢
  have hl : lv_has ls 2 [(0, .ref h0), (1, .int d)] := hl
  refine lv_iload_n hx hb dX1_has_0 rfl (lv_at hl 1 rfl) ?_
  refine lv_if_lt (tgt := 16) hx hb dX1_has_1 (by decide) (fun c_1 => ?_) (fun c_1 => ?_)
  · skip
    refine lv_iconst (v := 0) hx hb dX1_has_16 (by decide) ?_
    exact W.zret (v := 0) hx hb hr rfl (fun t ht hW => ⟨0, rfl, by simp [hasB, b2i, c_1], ht⟩) hS.2.2 dX1_has_17
  · skip
    refine lv_iload_n hx hb dX1_has_4 rfl (lv_at hl 1 rfl) ?_
    refine lv_aload_n hx hb dX1_has_5 rfl (lv_at hl 0 rfl) ?_
    refine va_get (ci := 1) (C := RX1) (T := TX1) (N := 5) hx hb hts hinX1 hown hE.1 hP 0 rfl rfl 3 (by decide) (hts _ kFl_X1_21) (fun _ h9 => h9) rfl dX1_has_6 ?_
    refine lv_icmp_ge (tgt := 16) hx hb dX1_has_9 (by decide) (fun c_9 => ?_) (fun c_9 => ?_)
    · skip
      refine lv_iconst (v := 0) hx hb dX1_has_16 (by decide) ?_
      exact W.zret (v := 0) hx hb hr rfl (fun t ht hW => ⟨0, rfl, by simp [hasB, b2i, c_1, c_9], ht⟩) hS.2.2 dX1_has_17
    · skip
      refine lv_iconst (v := 1) hx hb dX1_has_12 (by decide) ?_
      refine lv_goto (tgt := 17) hx hb dX1_has_13 (by decide) ?_
      exact W.zret (v := 1) hx hb hr rfl (fun t ht hW => ⟨1, rfl, by simp [hasB, b2i, c_1, c_9], ht⟩) hS.2.2 dX1_has_17
set_option maxHeartbeats 4000000 in
set_option maxRecDepth 100000 in
theorem c_X1_put (ln : Launch) (G : gT) (h0 : Nat) (ax : Nat) (ay : Nat) (az : Nat) (nb : Int32) (kp : Int32) (xf : Nat → Int32) (yf : Nat → Int32) (d : Int32) (x : Int32) (y : Int32) (sz : Nat) (hd : vp_in d 4) : Met ln yX1_put (wA (.code yX1_put cX1_put 4 none)) ({ frames := 0, cells := 0, slots := 0, locals := 0 } : Room) (va_Pc [.ref h0, .int d, .int x, .int y] (rwB G [(h0, .inr (1, [.ref ax, .ref ay, .ref az, .int nb, .int kp])), eI G ax 4 xf, eI G ay 4 yf] sz)) (va_Qv (S := Unit) (fun (_ : Unit) => True) (fun u => wdB G (va_A [(h0, .inr (1, [.ref ax, .ref ay, .ref az, .int nb, .int kp])), eI G ax 4 xf, eI G ay 4 yf] sz) [(h0, .inr (1, [.ref ax, .ref ay, .ref az, .int nb, .int kp])), eI G ax 4 (upd xf d.toNatClampNeg x), eI G ay 4 (upd yf d.toNatClampNeg y)]) (va_A [(h0, .inr (1, [.ref ax, .ref ay, .ref az, .int nb, .int kp])), eI G ax 4 xf, eI G ay 4 yf] sz)) 0 0 (va_A [(h0, .inr (1, [.ref ax, .ref ay, .ref az, .int nb, .int kp])), eI G ax 4 xf, eI G ay 4 yf] sz) := by
  refine Met.ofW (cc := cX1_put) (maxL := 4) (ret := none) (by decide) rfl ?_
  intro pg ev s mi args below meth cd s₁ B hml hv
  obtain ⟨rfl, hsz, hP, hE, hD0, hT⟩ := hv
  have hx := B.exec
  have hb := B.bytes
  have hr := B.returns
  have hts0 := atoms_spec (ws := wA (.code yX1_put cX1_put 4 none)) B.pre
  have hts : ∀ w ∈ wsA, w.before _ s = true := fun w h => hts0 w (List.mem_cons_of_mem _ h)
  have hown : s.vm.findClass RX1 = some mi.cls := findClass_of_methodNamed B.named
  have hlocks := B.notSynchronized
  subst hsz
  have hD := hD0.self (sz := s.heap.size)
  generalize hAe : va_A [(h0, .inr (1, [.ref ax, .ref ay, .ref az, .int nb, .int kp])), eI G ax 4 xf, eI G ay 4 yf] s.heap.size = A at hD hT ⊢
  have hA : ∀ q : Nat, s.heap.size ≤ q → A q := fun q h => by rw [← hAe]; exact Or.inr h
  have hS : va_S A s.heap s.heap [] := va_S.rf
  have hl := lv_entry ([.ref h0, .int d, .int x, .int y]) (n := 4) (Nat.le_of_ble_eq_true rfl)
  rw [lg_entry_eq]
  generalize (lg_sl ([.ref h0, .int d, .int x, .int y]) ++ List.replicate (4 - (lg_sl ([.ref h0, .int d, .int x, .int y])).length) Slot.unset).toArray = ls at hl ⊢
  have hl : lv_has ls 4 [(0, .ref h0), (1, .int d), (2, .int x), (3, .int y)] := hl
  refine lv_aload_n hx hb dX1_put_0 rfl (lv_at hl 0 rfl) ?_
  refine va_get (ci := 1) (C := RX1) (T := TX1) (N := 5) hx hb hts hinX1 hown hE.1 hP 0 rfl rfl 0 (by decide) (hts _ kFl_X1_9) (fun _ h9 => h9) rfl dX1_put_1 ?_
  refine lv_iload_n hx hb dX1_put_4 rfl (lv_at hl 1 rfl) ?_
  refine lv_iload_n hx hb dX1_put_5 rfl (lv_at hl 2 rfl) ?_
  refine ri_ast (j := d.toNatClampNeg) hx hb hE hP hD hS 1 rfl rfl hd dX1_put_6 (fun H locs hP hD hS => ?_)
  have hP : va_P G.1 vwCl [(h0, .inr (1, [.ref ax, .ref ay, .ref az, .int nb, .int kp])), eI G ax 4 (upd xf d.toNatClampNeg x), eI G ay 4 yf] H := hP
  have hD : va_D A [(h0, .inr (1, [.ref ax, .ref ay, .ref az, .int nb, .int kp])), eI G ax 4 (upd xf d.toNatClampNeg x), eI G ay 4 yf] := hD
  refine lv_aload_n hx hb dX1_put_7 rfl (lv_at hl 0 rfl) ?_
  refine va_get (ci := 1) (C := RX1) (T := TX1) (N := 5) hx hb hts hinX1 hown hE.1 hP 0 rfl rfl 1 (by decide) (hts _ kFl_X1_15) (fun _ h9 => h9) rfl dX1_put_8 ?_
  refine lv_iload_n hx hb dX1_put_11 rfl (lv_at hl 1 rfl) ?_
  refine lv_iload_n hx hb dX1_put_12 rfl (lv_at hl 3 rfl) ?_
  refine ri_ast (j := d.toNatClampNeg) hx hb hE hP hD hS 2 rfl rfl hd dX1_put_13 (fun H locs hP hD hS => ?_)
  have hP : va_P G.1 vwCl [(h0, .inr (1, [.ref ax, .ref ay, .ref az, .int nb, .int kp])), eI G ax 4 (upd xf d.toNatClampNeg x), eI G ay 4 (upd yf d.toNatClampNeg y)] H := hP
  have hD : va_D A [(h0, .inr (1, [.ref ax, .ref ay, .ref az, .int nb, .int kp])), eI G ax 4 (upd xf d.toNatClampNeg x), eI G ay 4 (upd yf d.toNatClampNeg y)] := hD
  have hP9 := hP.sub (ws' := [(h0, .inr (1, [.ref ax, .ref ay, .ref az, .int nb, .int kp])), eI G ax 4 (upd xf d.toNatClampNeg x), eI G ay 4 (upd yf d.toNatClampNeg y)]) [0, 1, 2] rfl
  have hD9 := hD.sub (ws' := [(h0, .inr (1, [.ref ax, .ref ay, .ref az, .int nb, .int kp])), eI G ax 4 (upd xf d.toNatClampNeg x), eI G ay 4 (upd yf d.toNatClampNeg y)]) [0, 1, 2] (by decide) rfl
  exact W.vret hx hb hr (fun t ht hW => ⟨⟨(), rfl, trivial, by rw [ht]; exact hP9, hD9⟩, hS.F ht⟩) hS.2.2 dX1_put_14
set_option maxHeartbeats 4000000 in
set_option maxRecDepth 100000 in
theorem c_X2_clear (ln : Launch) (G : gT) (h0 : Nat) (ch : Int32) (co : Int32) (en : Int32) (sz : Nat)  : Met ln yX2_clear (wA (.code yX2_clear cX2_clear 1 none)) ({ frames := 0, cells := 0, slots := 0, locals := 0 } : Room) (va_Pc [.ref h0] (rwB G [(h0, .inr (2, [.int ch, .int co, .int en]))] sz)) (va_Qv (S := Unit) (fun (_ : Unit) => True) (fun u => wdB G (va_A [(h0, .inr (2, [.int ch, .int co, .int en]))] sz) [(h0, .inr (2, [.int 0, .int 0, .int (-1)]))]) (va_A [(h0, .inr (2, [.int ch, .int co, .int en]))] sz)) 0 0 (va_A [(h0, .inr (2, [.int ch, .int co, .int en]))] sz) := by
  refine Met.ofW (cc := cX2_clear) (maxL := 1) (ret := none) (by decide) rfl ?_
  intro pg ev s mi args below meth cd s₁ B hml hv
  obtain ⟨rfl, hsz, hP, hE, hD0, hT⟩ := hv
  have hx := B.exec
  have hb := B.bytes
  have hr := B.returns
  have hts0 := atoms_spec (ws := wA (.code yX2_clear cX2_clear 1 none)) B.pre
  have hts : ∀ w ∈ wsA, w.before _ s = true := fun w h => hts0 w (List.mem_cons_of_mem _ h)
  have hown : s.vm.findClass RX2 = some mi.cls := findClass_of_methodNamed B.named
  have hlocks := B.notSynchronized
  subst hsz
  have hD := hD0.self (sz := s.heap.size)
  generalize hAe : va_A [(h0, .inr (2, [.int ch, .int co, .int en]))] s.heap.size = A at hD hT ⊢
  have hA : ∀ q : Nat, s.heap.size ≤ q → A q := fun q h => by rw [← hAe]; exact Or.inr h
  have hS : va_S A s.heap s.heap [] := va_S.rf
  have hl := lv_entry ([.ref h0]) (n := 1) (Nat.le_of_ble_eq_true rfl)
  rw [lg_entry_eq]
  generalize (lg_sl ([.ref h0]) ++ List.replicate (1 - (lg_sl ([.ref h0])).length) Slot.unset).toArray = ls at hl ⊢
  have hl : lv_has ls 1 [(0, .ref h0)] := hl
  refine lv_aload_n hx hb dX2_clear_0 rfl (lv_at hl 0 rfl) ?_
  refine lv_iconst (v := 0) hx hb dX2_clear_1 (by decide) ?_
  refine va_put (ci := 2) (v := .int 0) (ty := .int) (C := RX2) (T := TX2) (N := 3) hx hb hts hinX2 tyX2 tyX2_ok nmX2 hown hE.1 hP hD hS 0 rfl rfl 0 (by decide) (hts _ kFl_X2_9) (fun _ h9 => h9) rfl (by decide +kernel) rfl rfl (Nat.le_of_ble_eq_true rfl) dX2_clear_2 (fun H locs hP hD hS => ?_)
  have hP : va_P G.1 vwCl [(h0, .inr (2, [.int 0, .int co, .int en]))] H := hP
  have hD : va_D A [(h0, .inr (2, [.int 0, .int co, .int en]))] := hD
  refine lv_aload_n hx hb dX2_clear_5 rfl (lv_at hl 0 rfl) ?_
  refine lv_iconst (v := 0) hx hb dX2_clear_6 (by decide) ?_
  refine va_put (ci := 2) (v := .int 0) (ty := .int) (C := RX2) (T := TX2) (N := 3) hx hb hts hinX2 tyX2 tyX2_ok nmX2 hown hE.1 hP hD hS 0 rfl rfl 1 (by decide) (hts _ kFl_X2_15) (fun _ h9 => h9) rfl (by decide +kernel) rfl rfl (Nat.le_of_ble_eq_true rfl) dX2_clear_7 (fun H locs hP hD hS => ?_)
  have hP : va_P G.1 vwCl [(h0, .inr (2, [.int 0, .int 0, .int en]))] H := hP
  have hD : va_D A [(h0, .inr (2, [.int 0, .int 0, .int en]))] := hD
  refine lv_aload_n hx hb dX2_clear_10 rfl (lv_at hl 0 rfl) ?_
  refine lv_iconst (v := -1) hx hb dX2_clear_11 (by decide) ?_
  refine va_put (ci := 2) (v := .int (-1)) (ty := .int) (C := RX2) (T := TX2) (N := 3) hx hb hts hinX2 tyX2 tyX2_ok nmX2 hown hE.1 hP hD hS 0 rfl rfl 2 (by decide) (hts _ kFl_X2_18) (fun _ h9 => h9) rfl (by decide +kernel) rfl rfl (Nat.le_of_ble_eq_true rfl) dX2_clear_12 (fun H locs hP hD hS => ?_)
  have hP : va_P G.1 vwCl [(h0, .inr (2, [.int 0, .int 0, .int (-1)]))] H := hP
  have hD : va_D A [(h0, .inr (2, [.int 0, .int 0, .int (-1)]))] := hD
  have hP9 := hP.sub (ws' := [(h0, .inr (2, [.int 0, .int 0, .int (-1)]))]) [0] rfl
  have hD9 := hD.sub (ws' := [(h0, .inr (2, [.int 0, .int 0, .int (-1)]))]) [0] (by decide) rfl
  exact W.vret hx hb hr (fun t ht hW => ⟨⟨(), rfl, trivial, by rw [ht]; exact hP9, hD9⟩, hS.F ht⟩) hS.2.2 dX2_clear_15
set_option maxHeartbeats 4000000 in
set_option maxRecDepth 100000 in
theorem c_X2_weigh (ln : Launch) (G : gT) (h0 : Nat) (ch : Int32) (co : Int32) (en : Int32) (a : Int32) (b : Int32) (c : Int32) (sz : Nat)  : Met ln yX2_weigh (wA (.code yX2_weigh cX2_weigh 4 none)) ({ frames := 0, cells := 0, slots := 0, locals := 0 } : Room) (va_Pc [.ref h0, .int a, .int b, .int c] (rwB G [(h0, .inr (2, [.int ch, .int co, .int en]))] sz)) (va_Qv (S := Unit) (fun (_ : Unit) => True) (fun u => wdB G (va_A [(h0, .inr (2, [.int ch, .int co, .int en]))] sz) [(h0, .inr (2, [.int (if wgB en co b c then a else ch), .int (if wgB en co b c then b else co), .int (if wgB en co b c then c else en)]))]) (va_A [(h0, .inr (2, [.int ch, .int co, .int en]))] sz)) 0 0 (va_A [(h0, .inr (2, [.int ch, .int co, .int en]))] sz) := by
  refine Met.ofW (cc := cX2_weigh) (maxL := 4) (ret := none) (by decide) rfl ?_
  intro pg ev s mi args below meth cd s₁ B hml hv
  obtain ⟨rfl, hsz, hP, hE, hD0, hT⟩ := hv
  have hx := B.exec
  have hb := B.bytes
  have hr := B.returns
  have hts0 := atoms_spec (ws := wA (.code yX2_weigh cX2_weigh 4 none)) B.pre
  have hts : ∀ w ∈ wsA, w.before _ s = true := fun w h => hts0 w (List.mem_cons_of_mem _ h)
  have hown : s.vm.findClass RX2 = some mi.cls := findClass_of_methodNamed B.named
  have hlocks := B.notSynchronized
  subst hsz
  have hD := hD0.self (sz := s.heap.size)
  generalize hAe : va_A [(h0, .inr (2, [.int ch, .int co, .int en]))] s.heap.size = A at hD hT ⊢
  have hA : ∀ q : Nat, s.heap.size ≤ q → A q := fun q h => by rw [← hAe]; exact Or.inr h
  have hS : va_S A s.heap s.heap [] := va_S.rf
  have hl := lv_entry ([.ref h0, .int a, .int b, .int c]) (n := 4) (Nat.le_of_ble_eq_true rfl)
  rw [lg_entry_eq]
  generalize (lg_sl ([.ref h0, .int a, .int b, .int c]) ++ List.replicate (4 - (lg_sl ([.ref h0, .int a, .int b, .int c])).length) Slot.unset).toArray = ls at hl ⊢
  have hl : lv_has ls 4 [(0, .ref h0), (1, .int a), (2, .int b), (3, .int c)] := hl
  refine lv_iload_n hx hb dX2_weigh_0 rfl (lv_at hl 3 rfl) ?_
  refine lv_aload_n hx hb dX2_weigh_1 rfl (lv_at hl 0 rfl) ?_
  refine va_get (ci := 2) (C := RX2) (T := TX2) (N := 3) hx hb hts hinX2 hown hE.1 hP 0 rfl rfl 2 (by decide) (hts _ kFl_X2_18) (fun _ h9 => h9) rfl dX2_weigh_2 ?_
  refine lv_icmp_gt (tgt := 24) hx hb dX2_weigh_5 (by decide) (fun c_5 => ?_) (fun c_5 => ?_)
  · skip
    refine lv_aload_n hx hb dX2_weigh_24 rfl (lv_at hl 0 rfl) ?_
    refine lv_iload_n hx hb dX2_weigh_25 rfl (lv_at hl 1 rfl) ?_
    refine va_put (ci := 2) (v := .int a) (ty := .int) (C := RX2) (T := TX2) (N := 3) hx hb hts hinX2 tyX2 tyX2_ok nmX2 hown hE.1 hP hD hS 0 rfl rfl 0 (by decide) (hts _ kFl_X2_9) (fun _ h9 => h9) rfl (by decide +kernel) rfl rfl (Nat.le_of_ble_eq_true rfl) dX2_weigh_26 (fun H locs hP hD hS => ?_)
    have hP : va_P G.1 vwCl [(h0, .inr (2, [.int a, .int co, .int en]))] H := hP
    have hD : va_D A [(h0, .inr (2, [.int a, .int co, .int en]))] := hD
    refine lv_aload_n hx hb dX2_weigh_29 rfl (lv_at hl 0 rfl) ?_
    refine lv_iload_n hx hb dX2_weigh_30 rfl (lv_at hl 2 rfl) ?_
    refine va_put (ci := 2) (v := .int b) (ty := .int) (C := RX2) (T := TX2) (N := 3) hx hb hts hinX2 tyX2 tyX2_ok nmX2 hown hE.1 hP hD hS 0 rfl rfl 1 (by decide) (hts _ kFl_X2_15) (fun _ h9 => h9) rfl (by decide +kernel) rfl rfl (Nat.le_of_ble_eq_true rfl) dX2_weigh_31 (fun H locs hP hD hS => ?_)
    have hP : va_P G.1 vwCl [(h0, .inr (2, [.int a, .int b, .int en]))] H := hP
    have hD : va_D A [(h0, .inr (2, [.int a, .int b, .int en]))] := hD
    refine lv_aload_n hx hb dX2_weigh_34 rfl (lv_at hl 0 rfl) ?_
    refine lv_iload_n hx hb dX2_weigh_35 rfl (lv_at hl 3 rfl) ?_
    refine va_put (ci := 2) (v := .int c) (ty := .int) (C := RX2) (T := TX2) (N := 3) hx hb hts hinX2 tyX2 tyX2_ok nmX2 hown hE.1 hP hD hS 0 rfl rfl 2 (by decide) (hts _ kFl_X2_18) (fun _ h9 => h9) rfl (by decide +kernel) rfl rfl (Nat.le_of_ble_eq_true rfl) dX2_weigh_36 (fun H locs hP hD hS => ?_)
    have hP : va_P G.1 vwCl [(h0, .inr (2, [.int a, .int b, .int c]))] H := hP
    have hD : va_D A [(h0, .inr (2, [.int a, .int b, .int c]))] := hD
    have hP9 := hP.sub (ws' := [(h0, .inr (2, [.int a, .int b, .int c]))]) [0] rfl
    have hD9 := hD.sub (ws' := [(h0, .inr (2, [.int a, .int b, .int c]))]) [0] (by decide) rfl
    have q9_1 : a = (if wgB en co b c then a else ch) := by simp [wgB, c_5]
    have q9_2 : b = (if wgB en co b c then b else co) := by simp [wgB, c_5]
    have q9_3 : c = (if wgB en co b c then c else en) := by simp [wgB, c_5]
    have cw9 : ([(h0, .inr (2, [.int a, .int b, .int c]))] : va_W) = [(h0, .inr (2, [.int (if wgB en co b c then a else ch), .int (if wgB en co b c then b else co), .int (if wgB en co b c then c else en)]))] := (lcons (((congrArg (fun z => ((h0, Sum.inr (2, [Value.int z, .int b, .int c])) : Nat × va_E)) q9_1).trans (congrArg (fun z => ((h0, Sum.inr (2, [.int (if wgB en co b c then a else ch), Value.int z, .int c])) : Nat × va_E)) q9_2)).trans (congrArg (fun z => ((h0, Sum.inr (2, [.int (if wgB en co b c then a else ch), .int (if wgB en co b c then b else co), Value.int z])) : Nat × va_E)) q9_3)) rfl)
    have hP9 := va_castP hP9 cw9
    have hD9 := va_castD hD9 cw9
    exact W.vret hx hb hr (fun t ht hW => ⟨⟨(), rfl, trivial, by rw [ht]; exact hP9, hD9⟩, hS.F ht⟩) hS.2.2 dX2_weigh_39
  · skip
    refine lv_iload_n hx hb dX2_weigh_8 rfl (lv_at hl 3 rfl) ?_
    refine lv_aload_n hx hb dX2_weigh_9 rfl (lv_at hl 0 rfl) ?_
    refine va_get (ci := 2) (C := RX2) (T := TX2) (N := 3) hx hb hts hinX2 hown hE.1 hP 0 rfl rfl 2 (by decide) (hts _ kFl_X2_18) (fun _ h9 => h9) rfl dX2_weigh_10 ?_
    refine lv_icmp_ne (tgt := 39) hx hb dX2_weigh_13 (by decide) (fun c_13 => ?_) (fun c_13 => ?_)
    · skip
      have hP9 := hP.sub (ws' := [(h0, .inr (2, [.int ch, .int co, .int en]))]) [0] rfl
      have hD9 := hD.sub (ws' := [(h0, .inr (2, [.int ch, .int co, .int en]))]) [0] (by decide) rfl
      have q9_4 : ch = (if wgB en co b c then a else ch) := by simp [wgB, c_5, c_13]
      have q9_5 : co = (if wgB en co b c then b else co) := by simp [wgB, c_5, c_13]
      have q9_6 : en = (if wgB en co b c then c else en) := by simp [wgB, c_5, c_13]
      have cw9 : ([(h0, .inr (2, [.int ch, .int co, .int en]))] : va_W) = [(h0, .inr (2, [.int (if wgB en co b c then a else ch), .int (if wgB en co b c then b else co), .int (if wgB en co b c then c else en)]))] := (lcons (((congrArg (fun z => ((h0, Sum.inr (2, [Value.int z, .int co, .int en])) : Nat × va_E)) q9_4).trans (congrArg (fun z => ((h0, Sum.inr (2, [.int (if wgB en co b c then a else ch), Value.int z, .int en])) : Nat × va_E)) q9_5)).trans (congrArg (fun z => ((h0, Sum.inr (2, [.int (if wgB en co b c then a else ch), .int (if wgB en co b c then b else co), Value.int z])) : Nat × va_E)) q9_6)) rfl)
      have hP9 := va_castP hP9 cw9
      have hD9 := va_castD hD9 cw9
      exact W.vret hx hb hr (fun t ht hW => ⟨⟨(), rfl, trivial, by rw [ht]; exact hP9, hD9⟩, hS.F ht⟩) hS.2.2 dX2_weigh_39
    · skip
      refine lv_iload_n hx hb dX2_weigh_16 rfl (lv_at hl 2 rfl) ?_
      refine lv_aload_n hx hb dX2_weigh_17 rfl (lv_at hl 0 rfl) ?_
      refine va_get (ci := 2) (C := RX2) (T := TX2) (N := 3) hx hb hts hinX2 hown hE.1 hP 0 rfl rfl 1 (by decide) (hts _ kFl_X2_15) (fun _ h9 => h9) rfl dX2_weigh_18 ?_
      refine lv_icmp_ge (tgt := 39) hx hb dX2_weigh_21 (by decide) (fun c_21 => ?_) (fun c_21 => ?_)
      · skip
        have hP9 := hP.sub (ws' := [(h0, .inr (2, [.int ch, .int co, .int en]))]) [0] rfl
        have hD9 := hD.sub (ws' := [(h0, .inr (2, [.int ch, .int co, .int en]))]) [0] (by decide) rfl
        have q9_7 : ch = (if wgB en co b c then a else ch) := by simp [wgB, c_5, c_13, c_21]
        have q9_8 : co = (if wgB en co b c then b else co) := by simp [wgB, c_5, c_13, c_21]
        have q9_9 : en = (if wgB en co b c then c else en) := by simp [wgB, c_5, c_13, c_21]
        have cw9 : ([(h0, .inr (2, [.int ch, .int co, .int en]))] : va_W) = [(h0, .inr (2, [.int (if wgB en co b c then a else ch), .int (if wgB en co b c then b else co), .int (if wgB en co b c then c else en)]))] := (lcons (((congrArg (fun z => ((h0, Sum.inr (2, [Value.int z, .int co, .int en])) : Nat × va_E)) q9_7).trans (congrArg (fun z => ((h0, Sum.inr (2, [.int (if wgB en co b c then a else ch), Value.int z, .int en])) : Nat × va_E)) q9_8)).trans (congrArg (fun z => ((h0, Sum.inr (2, [.int (if wgB en co b c then a else ch), .int (if wgB en co b c then b else co), Value.int z])) : Nat × va_E)) q9_9)) rfl)
        have hP9 := va_castP hP9 cw9
        have hD9 := va_castD hD9 cw9
        exact W.vret hx hb hr (fun t ht hW => ⟨⟨(), rfl, trivial, by rw [ht]; exact hP9, hD9⟩, hS.F ht⟩) hS.2.2 dX2_weigh_39
      · skip
        refine lv_aload_n hx hb dX2_weigh_24 rfl (lv_at hl 0 rfl) ?_
        refine lv_iload_n hx hb dX2_weigh_25 rfl (lv_at hl 1 rfl) ?_
        refine va_put (ci := 2) (v := .int a) (ty := .int) (C := RX2) (T := TX2) (N := 3) hx hb hts hinX2 tyX2 tyX2_ok nmX2 hown hE.1 hP hD hS 0 rfl rfl 0 (by decide) (hts _ kFl_X2_9) (fun _ h9 => h9) rfl (by decide +kernel) rfl rfl (Nat.le_of_ble_eq_true rfl) dX2_weigh_26 (fun H locs hP hD hS => ?_)
        have hP : va_P G.1 vwCl [(h0, .inr (2, [.int a, .int co, .int en]))] H := hP
        have hD : va_D A [(h0, .inr (2, [.int a, .int co, .int en]))] := hD
        refine lv_aload_n hx hb dX2_weigh_29 rfl (lv_at hl 0 rfl) ?_
        refine lv_iload_n hx hb dX2_weigh_30 rfl (lv_at hl 2 rfl) ?_
        refine va_put (ci := 2) (v := .int b) (ty := .int) (C := RX2) (T := TX2) (N := 3) hx hb hts hinX2 tyX2 tyX2_ok nmX2 hown hE.1 hP hD hS 0 rfl rfl 1 (by decide) (hts _ kFl_X2_15) (fun _ h9 => h9) rfl (by decide +kernel) rfl rfl (Nat.le_of_ble_eq_true rfl) dX2_weigh_31 (fun H locs hP hD hS => ?_)
        have hP : va_P G.1 vwCl [(h0, .inr (2, [.int a, .int b, .int en]))] H := hP
        have hD : va_D A [(h0, .inr (2, [.int a, .int b, .int en]))] := hD
        refine lv_aload_n hx hb dX2_weigh_34 rfl (lv_at hl 0 rfl) ?_
        refine lv_iload_n hx hb dX2_weigh_35 rfl (lv_at hl 3 rfl) ?_
        refine va_put (ci := 2) (v := .int c) (ty := .int) (C := RX2) (T := TX2) (N := 3) hx hb hts hinX2 tyX2 tyX2_ok nmX2 hown hE.1 hP hD hS 0 rfl rfl 2 (by decide) (hts _ kFl_X2_18) (fun _ h9 => h9) rfl (by decide +kernel) rfl rfl (Nat.le_of_ble_eq_true rfl) dX2_weigh_36 (fun H locs hP hD hS => ?_)
        have hP : va_P G.1 vwCl [(h0, .inr (2, [.int a, .int b, .int c]))] H := hP
        have hD : va_D A [(h0, .inr (2, [.int a, .int b, .int c]))] := hD
        have hP9 := hP.sub (ws' := [(h0, .inr (2, [.int a, .int b, .int c]))]) [0] rfl
        have hD9 := hD.sub (ws' := [(h0, .inr (2, [.int a, .int b, .int c]))]) [0] (by decide) rfl
        have q9_10 : a = (if wgB en co b c then a else ch) := by simp [wgB, c_5, c_13, c_21]
        have q9_11 : b = (if wgB en co b c then b else co) := by simp [wgB, c_5, c_13, c_21]
        have q9_12 : c = (if wgB en co b c then c else en) := by simp [wgB, c_5, c_13, c_21]
        have cw9 : ([(h0, .inr (2, [.int a, .int b, .int c]))] : va_W) = [(h0, .inr (2, [.int (if wgB en co b c then a else ch), .int (if wgB en co b c then b else co), .int (if wgB en co b c then c else en)]))] := (lcons (((congrArg (fun z => ((h0, Sum.inr (2, [Value.int z, .int b, .int c])) : Nat × va_E)) q9_10).trans (congrArg (fun z => ((h0, Sum.inr (2, [.int (if wgB en co b c then a else ch), Value.int z, .int c])) : Nat × va_E)) q9_11)).trans (congrArg (fun z => ((h0, Sum.inr (2, [.int (if wgB en co b c then a else ch), .int (if wgB en co b c then b else co), Value.int z])) : Nat × va_E)) q9_12)) rfl)
        have hP9 := va_castP hP9 cw9
        have hD9 := va_castD hD9 cw9
        exact W.vret hx hb hr (fun t ht hW => ⟨⟨(), rfl, trivial, by rw [ht]; exact hP9, hD9⟩, hS.F ht⟩) hS.2.2 dX2_weigh_39
set_option maxHeartbeats 4000000 in
set_option maxRecDepth 100000 in
theorem c_X3_hasSun (ln : Launch) (G : gT) (h0 : Nat) (ab : Nat) (ap : Nat) (ag : Nat) (al : Nat) (mo : Int32) (ne : Int32) (sg : Nat → Int32) (lo : Nat → Bool) (h : Int32) (hh : vp_in h 12) : Met ln yX3_hasSun (wA (.code yX3_hasSun cX3_hasSun 2 (some .boolean))) ({ frames := 0, cells := 0, slots := 0, locals := 0 } : Room) (va_Pc [.ref h0, .int h] (roB G [(h0, .inr (3, [.ref ab, .ref ap, .ref ag, .ref al, .int mo, .int ne])), eI G ag 12 sg, eZ G al 12 lo])) (vp_Si (fun r => r = b2i (sunB lo sg h.toNatClampNeg))) 0 0 (fun _ => False) := by
  refine Met.ofW (cc := cX3_hasSun) (maxL := 2) (ret := (some .boolean)) (by decide) rfl ?_
  intro pg ev s mi args below meth cd s₁ B hml hv
  obtain ⟨rfl, hP, hE, hT⟩ := hv
  have hx := B.exec
  have hb := B.bytes
  have hr := B.returns
  have hts0 := atoms_spec (ws := wA (.code yX3_hasSun cX3_hasSun 2 (some .boolean))) B.pre
  have hts : ∀ w ∈ wsA, w.before _ s = true := fun w h => hts0 w (List.mem_cons_of_mem _ h)
  have hown : s.vm.findClass RX3 = some mi.cls := findClass_of_methodNamed B.named
  have hlocks := B.notSynchronized
  have hS : va_S (fun _ => False) s.heap s.heap [] := va_S.rf
  have hl := lv_entry ([.ref h0, .int h]) (n := 2) (Nat.le_of_ble_eq_true rfl)
  rw [lg_entry_eq]
  generalize (lg_sl ([.ref h0, .int h]) ++ List.replicate (2 - (lg_sl ([.ref h0, .int h])).length) Slot.unset).toArray = ls at hl ⊢
  have hl : lv_has ls 2 [(0, .ref h0), (1, .int h)] := hl
  refine lv_aload_n hx hb dX3_hasSun_0 rfl (lv_at hl 0 rfl) ?_
  refine va_get (ci := 3) (C := RX3) (T := TX3) (N := 6) hx hb hts hinX3 hown hE.1 hP 0 rfl rfl 3 (by decide) (hts _ kFl_X3_21) (fun _ h9 => h9) rfl dX3_hasSun_1 ?_
  refine lv_iload_n hx hb dX3_hasSun_4 rfl (lv_at hl 1 rfl) ?_
  refine rz_ald (j := h.toNatClampNeg) hx hb hE hP 2 rfl rfl hh dX3_hasSun_5 ?_
  refine lv_if_ne (tgt := 22) hx hb dX3_hasSun_6 (by decide) (fun c_6 => ?_) (fun c_6 => ?_)
  · skip
    have c_6 := b2i_n c_6
    refine lv_iconst (v := 0) hx hb dX3_hasSun_22 (by decide) ?_
    exact W.zret (v := 0) hx hb hr rfl (fun t ht hW => ⟨0, rfl, by simp [sunB, b2i, c_6], ht⟩) hS.2.2 dX3_hasSun_23
  · skip
    have c_6 := b2i_z c_6
    refine lv_aload_n hx hb dX3_hasSun_9 rfl (lv_at hl 0 rfl) ?_
    refine va_get (ci := 3) (C := RX3) (T := TX3) (N := 6) hx hb hts hinX3 hown hE.1 hP 0 rfl rfl 2 (by decide) (hts _ kFl_X3_18) (fun _ h9 => h9) rfl dX3_hasSun_10 ?_
    refine lv_iload_n hx hb dX3_hasSun_13 rfl (lv_at hl 1 rfl) ?_
    refine ri_ald (j := h.toNatClampNeg) hx hb hE hP 1 rfl rfl hh dX3_hasSun_14 ?_
    refine lv_if_le (tgt := 22) hx hb dX3_hasSun_15 (by decide) (fun c_15 => ?_) (fun c_15 => ?_)
    · skip
      refine lv_iconst (v := 0) hx hb dX3_hasSun_22 (by decide) ?_
      exact W.zret (v := 0) hx hb hr rfl (fun t ht hW => ⟨0, rfl, by simp [sunB, b2i, c_6, c_15], ht⟩) hS.2.2 dX3_hasSun_23
    · skip
      refine lv_iconst (v := 1) hx hb dX3_hasSun_18 (by decide) ?_
      refine lv_goto (tgt := 23) hx hb dX3_hasSun_19 (by decide) ?_
      exact W.zret (v := 1) hx hb hr rfl (fun t ht hW => ⟨1, rfl, by simp [sunB, b2i, c_6, c_15], ht⟩) hS.2.2 dX3_hasSun_23
set_option maxHeartbeats 4000000 in
set_option maxRecDepth 100000 in
theorem c_X3_howManyLost (ln : Launch) (G : gT) (h0 : Nat) (ab : Nat) (ap : Nat) (ag : Nat) (al : Nat) (mo : Int32) (ne : Int32) (lo : Nat → Bool)  : Met ln yX3_howManyLost (wA (.code yX3_howManyLost cX3_howManyLost 3 (some .int))) ({ frames := 0, cells := 0, slots := 0, locals := 0 } : Room) (va_Pc [.ref h0] (roB G [(h0, .inr (3, [.ref ab, .ref ap, .ref ag, .ref al, .int mo, .int ne])), eZ G al 12 lo])) (vp_Si (fun r => r = nI (cntB lo 12))) 0 0 (fun _ => False) := by
  refine Met.ofW (cc := cX3_howManyLost) (maxL := 3) (ret := (some .int)) (by decide) rfl ?_
  intro pg ev s mi args below meth cd s₁ B hml hv
  obtain ⟨rfl, hP, hE, hT⟩ := hv
  have hx := B.exec
  have hb := B.bytes
  have hr := B.returns
  have hts0 := atoms_spec (ws := wA (.code yX3_howManyLost cX3_howManyLost 3 (some .int))) B.pre
  have hts : ∀ w ∈ wsA, w.before _ s = true := fun w h => hts0 w (List.mem_cons_of_mem _ h)
  have hown : s.vm.findClass RX3 = some mi.cls := findClass_of_methodNamed B.named
  have hlocks := B.notSynchronized
  have hS : va_S (fun _ => False) s.heap s.heap [] := va_S.rf
  have hl := lv_entry ([.ref h0]) (n := 3) (Nat.le_of_ble_eq_true rfl)
  rw [lg_entry_eq]
  generalize (lg_sl ([.ref h0]) ++ List.replicate (3 - (lg_sl ([.ref h0])).length) Slot.unset).toArray = ls at hl ⊢
  have hl : lv_has ls 3 [(0, .ref h0)] := hl
  refine lv_iconst (v := 0) hx hb dX3_howManyLost_0 (by decide) ?_
  refine lv_istore_n (lv' := [(1, .int 0), (0, .ref h0)]) hx hb dX3_howManyLost_1 rfl hl (by decide) rfl (fun ls hl => ?_)
  refine lv_iconst (v := 0) hx hb dX3_howManyLost_2 (by decide) ?_
  refine lv_istore_n (lv' := [(2, .int 0), (1, .int 0), (0, .ref h0)]) hx hb dX3_howManyLost_3 rfl hl (by decide) rfl (fun ls hl => ?_)
  have J_4 : ∀ (n_ : Nat), ∀ (j : Nat), (j ≤ 12) → (13 ≤ j + n_) → ∀ (ls : Array Slot), lv_has ls 3 [(2, .int (nI j)), (1, .int (nI (cntB lo j))), (0, .ref h0)] → W pg ln ev ({ frames := 0, cells := 0, slots := 0, locals := 0 } : Room) s mi ([.ref h0] : List Value).toArray below meth cd s.heap [] 0 0 (MQ below (vp_Si (fun r => r = nI (cntB lo 12))) ([.ref h0] : List Value).toArray s 0 0 (fun _ => False)) (F0 mi 4 ls []) := by
    intro n_
    induction n_ with
    | zero =>
      intro j hj hf ls hl
      exact absurd hf (by omega)
    | succ n_ ih_4 =>
      intro j hj hf ls hl
      refine lv_iload_n hx hb dX3_howManyLost_4 rfl (lv_at hl 0 rfl) ?_
      refine lv_bipush (v := 12) hx hb dX3_howManyLost_5 (by decide) ?_
      refine lv_icmp_ge (tgt := 28) hx hb dX3_howManyLost_7 (by decide) (fun c_7 => ?_) (fun c_7 => ?_)
      · skip
        have e_hlt : j = 12 := by
          rcases Nat.lt_or_ge j 12 with q | q
          · exact absurd (show nI 12 ≤ nI j from c_7) (nI_ge q (by omega))
          · omega
        refine lv_iload_n hx hb dX3_howManyLost_28 rfl (lv_at hl 1 rfl) ?_
        exact W.iret (v := nI (cntB lo j)) hx hb hr (fun t ht hW => ⟨nI (cntB lo j), rfl, by rw [e_hlt], ht⟩) hS.2.2 dX3_howManyLost_29
      · skip
        have hlt : j < 12 := by
          rcases Nat.lt_or_ge j 12 with q | q
          · exact q
          · exact absurd (show _ ≤ nI j from (nI_le (a := 12) (b := j) q (by omega))) c_7
        refine lv_aload_n hx hb dX3_howManyLost_10 rfl (lv_at hl 2 rfl) ?_
        refine va_get (ci := 3) (C := RX3) (T := TX3) (N := 6) hx hb hts hinX3 hown hE.1 hP 0 rfl rfl 3 (by decide) (hts _ kFl_X3_21) (fun _ h9 => h9) rfl dX3_howManyLost_11 ?_
        refine lv_iload_n hx hb dX3_howManyLost_14 rfl (lv_at hl 0 rfl) ?_
        refine rz_ald (j := j) hx hb hE hP 1 rfl (nI_clamp (by omega)) (vp_in_nI (by omega) (by omega)) dX3_howManyLost_15 ?_
        refine lv_if_eq (tgt := 22) hx hb dX3_howManyLost_16 (by decide) (fun c_16 => ?_) (fun c_16 => ?_)
        · skip
          have c_16 := b2i_z c_16
          refine lv_iinc (v := nI (j + 1)) (lv' := [(2, .int (nI (j + 1))), (1, .int (nI (cntB lo j))), (0, .ref h0)]) hx hb dX3_howManyLost_22 hl (k := 0) rfl (nI_1 _) (by decide) rfl (fun ls hl => ?_)
          refine lv_goto (tgt := 4) hx hb dX3_howManyLost_25 (by decide) ?_
          have q9_1 : (nI (cntB lo j)) = (nI (cntB lo (j + 1))) := by simp [cntB, c_7, c_16]
          exact ih_4 (j + 1) (by omega) (by omega) ls (lv_cast (lv_sub hl [0, 1, 2] rfl) (lcons rfl (lcons (congrArg (fun z => (1, Value.int z)) q9_1) (lcons rfl rfl))))
        · skip
          have c_16 := b2i_n c_16
          refine lv_iinc (v := nI (cntB lo j + 1)) (lv' := [(1, .int (nI (cntB lo j + 1))), (2, .int (nI j)), (0, .ref h0)]) hx hb dX3_howManyLost_19 hl (k := 1) rfl (nI_1 _) (by decide) rfl (fun ls hl => ?_)
          refine lv_iinc (v := nI (j + 1)) (lv' := [(2, .int (nI (j + 1))), (1, .int (nI (cntB lo j + 1))), (0, .ref h0)]) hx hb dX3_howManyLost_22 hl (k := 1) rfl (nI_1 _) (by decide) rfl (fun ls hl => ?_)
          refine lv_goto (tgt := 4) hx hb dX3_howManyLost_25 (by decide) ?_
          have q9_2 : (nI (cntB lo j + 1)) = (nI (cntB lo (j + 1))) := by simp [cntB, c_7, c_16]
          exact ih_4 (j + 1) (by omega) (by omega) ls (lv_cast (lv_sub hl [0, 1, 2] rfl) (lcons rfl (lcons (congrArg (fun z => (1, Value.int z)) q9_2) (lcons rfl rfl))))
  have q9_3 : 0 = (nI 0) := rfl
  have q9_4 : 0 = (nI (cntB lo 0)) := rfl
  exact J_4 13 0 (by omega) (by omega) ls (lv_cast (lv_sub hl [0, 1, 2] rfl) (lcons (congrArg (fun z => (2, Value.int z)) q9_3) (lcons (congrArg (fun z => (1, Value.int z)) q9_4) (lcons rfl rfl))))
set_option maxHeartbeats 4000000 in
set_option maxRecDepth 100000 in
theorem c_X4_add (ln : Launch) (G : gT) (h0 : Nat) (ac : Nat) (ag : Nat) (ap : Nat) (nb : Int32) (cf : Nat → Int32) (gf : Nat → Int32) (pf : Nat → Int32) (c : Int32) (g : Int32) (p : Int32) (sz : Nat) (hn : vp_in nb 5) : Met ln yX4_add (wA (.code yX4_add cX4_add 5 (some .int))) ({ frames := 0, cells := 0, slots := 0, locals := 0 } : Room) (va_Pc [.ref h0, .int c, .int g, .int p] (rwB G [(h0, .inr (4, [.ref ac, .ref ag, .ref ap, .int nb])), eI G ac 5 cf, eI G ag 5 gf, eI G ap 5 pf] sz)) (va_Qi (S := Unit) (fun (r : Int32) (_ : Unit) => r = nb) (fun u => wdB G (va_A [(h0, .inr (4, [.ref ac, .ref ag, .ref ap, .int nb])), eI G ac 5 cf, eI G ag 5 gf, eI G ap 5 pf] sz) [(h0, .inr (4, [.ref ac, .ref ag, .ref ap, .int (nb + 1)])), eI G ac 5 (upd cf nb.toNatClampNeg c), eI G ag 5 (upd gf nb.toNatClampNeg g), eI G ap 5 (upd pf nb.toNatClampNeg p)]) (va_A [(h0, .inr (4, [.ref ac, .ref ag, .ref ap, .int nb])), eI G ac 5 cf, eI G ag 5 gf, eI G ap 5 pf] sz)) 0 0 (va_A [(h0, .inr (4, [.ref ac, .ref ag, .ref ap, .int nb])), eI G ac 5 cf, eI G ag 5 gf, eI G ap 5 pf] sz) := by
  refine Met.ofW (cc := cX4_add) (maxL := 5) (ret := (some .int)) (by decide) rfl ?_
  intro pg ev s mi args below meth cd s₁ B hml hv
  obtain ⟨rfl, hsz, hP, hE, hD0, hT⟩ := hv
  have hx := B.exec
  have hb := B.bytes
  have hr := B.returns
  have hts0 := atoms_spec (ws := wA (.code yX4_add cX4_add 5 (some .int))) B.pre
  have hts : ∀ w ∈ wsA, w.before _ s = true := fun w h => hts0 w (List.mem_cons_of_mem _ h)
  have hown : s.vm.findClass RX4 = some mi.cls := findClass_of_methodNamed B.named
  have hlocks := B.notSynchronized
  subst hsz
  have hD := hD0.self (sz := s.heap.size)
  generalize hAe : va_A [(h0, .inr (4, [.ref ac, .ref ag, .ref ap, .int nb])), eI G ac 5 cf, eI G ag 5 gf, eI G ap 5 pf] s.heap.size = A at hD hT ⊢
  have hA : ∀ q : Nat, s.heap.size ≤ q → A q := fun q h => by rw [← hAe]; exact Or.inr h
  have hS : va_S A s.heap s.heap [] := va_S.rf
  have hl := lv_entry ([.ref h0, .int c, .int g, .int p]) (n := 5) (Nat.le_of_ble_eq_true rfl)
  rw [lg_entry_eq]
  generalize (lg_sl ([.ref h0, .int c, .int g, .int p]) ++ List.replicate (5 - (lg_sl ([.ref h0, .int c, .int g, .int p])).length) Slot.unset).toArray = ls at hl ⊢
  have hl : lv_has ls 5 [(0, .ref h0), (1, .int c), (2, .int g), (3, .int p)] := hl
  refine lv_aload_n hx hb dX4_add_0 rfl (lv_at hl 0 rfl) ?_
  refine va_get (ci := 4) (C := RX4) (T := TX4) (N := 4) hx hb hts hinX4 hown hE.1 hP 0 rfl rfl 3 (by decide) (hts _ kFl_X4_21) (fun _ h9 => h9) rfl dX4_add_1 ?_
  refine lv_istore (lv' := [(4, .int nb), (0, .ref h0), (1, .int c), (2, .int g), (3, .int p)]) hx hb dX4_add_4 hl (by decide) rfl (fun ls hl => ?_)
  refine lv_aload_n hx hb dX4_add_6 rfl (lv_at hl 1 rfl) ?_
  refine va_get (ci := 4) (C := RX4) (T := TX4) (N := 4) hx hb hts hinX4 hown hE.1 hP 0 rfl rfl 0 (by decide) (hts _ kFl_X4_9) (fun _ h9 => h9) rfl dX4_add_7 ?_
  refine lv_iload hx hb dX4_add_10 (lv_at hl 0 rfl) ?_
  refine lv_iload_n hx hb dX4_add_12 rfl (lv_at hl 2 rfl) ?_
  refine ri_ast (j := nb.toNatClampNeg) hx hb hE hP hD hS 1 rfl rfl hn dX4_add_13 (fun H locs hP hD hS => ?_)
  have hP : va_P G.1 vwCl [(h0, .inr (4, [.ref ac, .ref ag, .ref ap, .int nb])), eI G ac 5 (upd cf nb.toNatClampNeg c), eI G ag 5 gf, eI G ap 5 pf] H := hP
  have hD : va_D A [(h0, .inr (4, [.ref ac, .ref ag, .ref ap, .int nb])), eI G ac 5 (upd cf nb.toNatClampNeg c), eI G ag 5 gf, eI G ap 5 pf] := hD
  refine lv_aload_n hx hb dX4_add_14 rfl (lv_at hl 1 rfl) ?_
  refine va_get (ci := 4) (C := RX4) (T := TX4) (N := 4) hx hb hts hinX4 hown hE.1 hP 0 rfl rfl 1 (by decide) (hts _ kFl_X4_15) (fun _ h9 => h9) rfl dX4_add_15 ?_
  refine lv_iload hx hb dX4_add_18 (lv_at hl 0 rfl) ?_
  refine lv_iload_n hx hb dX4_add_20 rfl (lv_at hl 3 rfl) ?_
  refine ri_ast (j := nb.toNatClampNeg) hx hb hE hP hD hS 2 rfl rfl hn dX4_add_21 (fun H locs hP hD hS => ?_)
  have hP : va_P G.1 vwCl [(h0, .inr (4, [.ref ac, .ref ag, .ref ap, .int nb])), eI G ac 5 (upd cf nb.toNatClampNeg c), eI G ag 5 (upd gf nb.toNatClampNeg g), eI G ap 5 pf] H := hP
  have hD : va_D A [(h0, .inr (4, [.ref ac, .ref ag, .ref ap, .int nb])), eI G ac 5 (upd cf nb.toNatClampNeg c), eI G ag 5 (upd gf nb.toNatClampNeg g), eI G ap 5 pf] := hD
  refine lv_aload_n hx hb dX4_add_22 rfl (lv_at hl 1 rfl) ?_
  refine va_get (ci := 4) (C := RX4) (T := TX4) (N := 4) hx hb hts hinX4 hown hE.1 hP 0 rfl rfl 2 (by decide) (hts _ kFl_X4_18) (fun _ h9 => h9) rfl dX4_add_23 ?_
  refine lv_iload hx hb dX4_add_26 (lv_at hl 0 rfl) ?_
  refine lv_iload_n hx hb dX4_add_28 rfl (lv_at hl 4 rfl) ?_
  refine ri_ast (j := nb.toNatClampNeg) hx hb hE hP hD hS 3 rfl rfl hn dX4_add_29 (fun H locs hP hD hS => ?_)
  have hP : va_P G.1 vwCl [(h0, .inr (4, [.ref ac, .ref ag, .ref ap, .int nb])), eI G ac 5 (upd cf nb.toNatClampNeg c), eI G ag 5 (upd gf nb.toNatClampNeg g), eI G ap 5 (upd pf nb.toNatClampNeg p)] H := hP
  have hD : va_D A [(h0, .inr (4, [.ref ac, .ref ag, .ref ap, .int nb])), eI G ac 5 (upd cf nb.toNatClampNeg c), eI G ag 5 (upd gf nb.toNatClampNeg g), eI G ap 5 (upd pf nb.toNatClampNeg p)] := hD
  refine lv_aload_n hx hb dX4_add_30 rfl (lv_at hl 1 rfl) ?_
  refine lv_dup hx hb dX4_add_31 rfl ?_
  refine va_get (ci := 4) (C := RX4) (T := TX4) (N := 4) hx hb hts hinX4 hown hE.1 hP 0 rfl rfl 3 (by decide) (hts _ kFl_X4_21) (fun _ h9 => h9) rfl dX4_add_32 ?_
  refine lv_iconst (v := 1) hx hb dX4_add_35 (by decide) ?_
  refine lv_iadd hx hb dX4_add_36 ?_
  refine va_put (ci := 4) (v := .int (nb + 1)) (ty := .int) (C := RX4) (T := TX4) (N := 4) hx hb hts hinX4 tyX4 tyX4_ok nmX4 hown hE.1 hP hD hS 0 rfl rfl 3 (by decide) (hts _ kFl_X4_21) (fun _ h9 => h9) rfl (by decide +kernel) rfl rfl (Nat.le_of_ble_eq_true rfl) dX4_add_37 (fun H locs hP hD hS => ?_)
  have hP : va_P G.1 vwCl [(h0, .inr (4, [.ref ac, .ref ag, .ref ap, .int (nb + 1)])), eI G ac 5 (upd cf nb.toNatClampNeg c), eI G ag 5 (upd gf nb.toNatClampNeg g), eI G ap 5 (upd pf nb.toNatClampNeg p)] H := hP
  have hD : va_D A [(h0, .inr (4, [.ref ac, .ref ag, .ref ap, .int (nb + 1)])), eI G ac 5 (upd cf nb.toNatClampNeg c), eI G ag 5 (upd gf nb.toNatClampNeg g), eI G ap 5 (upd pf nb.toNatClampNeg p)] := hD
  refine lv_iload hx hb dX4_add_40 (lv_at hl 0 rfl) ?_
  have hP9 := hP.sub (ws' := [(h0, .inr (4, [.ref ac, .ref ag, .ref ap, .int (nb + 1)])), eI G ac 5 (upd cf nb.toNatClampNeg c), eI G ag 5 (upd gf nb.toNatClampNeg g), eI G ap 5 (upd pf nb.toNatClampNeg p)]) [0, 1, 2, 3] rfl
  have hD9 := hD.sub (ws' := [(h0, .inr (4, [.ref ac, .ref ag, .ref ap, .int (nb + 1)])), eI G ac 5 (upd cf nb.toNatClampNeg c), eI G ag 5 (upd gf nb.toNatClampNeg g), eI G ap 5 (upd pf nb.toNatClampNeg p)]) [0, 1, 2, 3] (by decide) rfl
  exact W.iret (v := nb) hx hb hr (fun t ht hW => ⟨⟨nb, (), rfl, rfl, by rw [ht]; exact hP9, hD9⟩, hS.F ht⟩) hS.2.2 dX4_add_42
set_option maxHeartbeats 4000000 in
set_option maxRecDepth 100000 in
theorem c_X6_skyOf (ln : Launch) (G : gT) (h0 : Nat) (as_ : Nat) (ah : Nat) (aw : Nat) (au : Nat) (sf : Nat → Int64) (d : Int32) (hd : vp_in d 4) : Met ln yX6_skyOf (wA (.code yX6_skyOf cX6_skyOf 2 (some .int))) ({ frames := 0, cells := 0, slots := 0, locals := 0 } : Room) (va_Pc [.ref h0, .int d] (roB G [(h0, .inr (6, [.ref as_, .ref ah, .ref aw, .ref au])), eJ G au 4 sf])) (vp_Si (fun r => r = (1000 * sf d.toNatClampNeg / 33554432).toInt32)) 0 0 (fun _ => False) := by
  refine Met.ofW (cc := cX6_skyOf) (maxL := 2) (ret := (some .int)) (by decide) rfl ?_
  intro pg ev s mi args below meth cd s₁ B hml hv
  obtain ⟨rfl, hP, hE, hT⟩ := hv
  have hx := B.exec
  have hb := B.bytes
  have hr := B.returns
  have hts0 := atoms_spec (ws := wA (.code yX6_skyOf cX6_skyOf 2 (some .int))) B.pre
  have hts : ∀ w ∈ wsA, w.before _ s = true := fun w h => hts0 w (List.mem_cons_of_mem _ h)
  have hown : s.vm.findClass RX6 = some mi.cls := findClass_of_methodNamed B.named
  have hlocks := B.notSynchronized
  have hS : va_S (fun _ => False) s.heap s.heap [] := va_S.rf
  have hl := lv_entry ([.ref h0, .int d]) (n := 2) (Nat.le_of_ble_eq_true rfl)
  rw [lg_entry_eq]
  generalize (lg_sl ([.ref h0, .int d]) ++ List.replicate (2 - (lg_sl ([.ref h0, .int d])).length) Slot.unset).toArray = ls at hl ⊢
  have hl : lv_has ls 2 [(0, .ref h0), (1, .int d)] := hl
  refine lv_ldc2 hx hb hown (hts _ kCl_X6_71) dX6_skyOf_0 ?_
  refine lv_aload_n hx hb dX6_skyOf_3 rfl (lv_at hl 0 rfl) ?_
  refine va_get (ci := 6) (C := RX6) (T := TX6) (N := 4) hx hb hts hinX6 hown hE.1 hP 0 rfl rfl 3 (by decide) (hts _ kFl_X6_22) (fun _ h9 => h9) rfl dX6_skyOf_4 ?_
  refine lv_iload_n hx hb dX6_skyOf_7 rfl (lv_at hl 1 rfl) ?_
  refine rj_ald (j := d.toNatClampNeg) hx hb hE hP 1 rfl rfl hd dX6_skyOf_8 ?_
  refine lv_lmul hx hb dX6_skyOf_9 ?_
  refine lv_ldc2 hx hb hown (hts _ kCl_X6_73) dX6_skyOf_10 ?_
  refine lv_ldiv hx hb dX6_skyOf_13 (by decide) ?_
  refine lv_l2i hx hb dX6_skyOf_14 rfl ?_
  exact W.iret (v := ((1000 * (sf d.toNatClampNeg)) / 33554432).toInt32) hx hb hr (fun t ht hW => ⟨((1000 * (sf d.toNatClampNeg)) / 33554432).toInt32, rfl, rfl, ht⟩) hS.2.2 dX6_skyOf_15
