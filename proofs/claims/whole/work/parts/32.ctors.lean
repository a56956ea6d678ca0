set_option maxHeartbeats 4000000 in
set_option maxRecDepth 100000 in
theorem c_X5_init (ln : Launch) (G : gT) (h0 : Nat) (sz : Nat)  : Met ln yX5_init (wA (.code yX5_init cX5_init 1 none)) ({ frames := 1, cells := 2, slots := 128, locals := 32 } : Room) (va_Pc [.ref h0] (rwB G [(h0, .inr (5, [.null, .null, .long 0]))] sz)) (va_Qv (S := Nat × Nat) (fun (_ : Nat × Nat) => True) (fun u => wdB G (va_A [(h0, .inr (5, [.null, .null, .long 0]))] sz) [(h0, .inr (5, [.ref u.1, .ref u.2, .long 0])), eI G u.1 64 (fun _ => 0), eI G u.2 64 (fun _ => 0)]) (va_A [(h0, .inr (5, [.null, .null, .long 0]))] sz)) 2 128 (va_A [(h0, .inr (5, [.null, .null, .long 0]))] sz) := by
  refine Met.ofW (cc := cX5_init) (maxL := 1) (ret := none) (by decide) rfl ?_
  intro pg ev s mi args below meth cd s₁ B hml hv
  obtain ⟨rfl, hsz, hP, hE, hD0, hT⟩ := hv
  have hx := B.exec
  have hb := B.bytes
  have hr := B.returns
  have hts0 := atoms_spec (ws := wA (.code yX5_init cX5_init 1 none)) B.pre
  have hts : ∀ w ∈ wsA, w.before _ s = true := fun w h => hts0 w (List.mem_cons_of_mem _ h)
  have hown : s.vm.findClass RX5 = some mi.cls := findClass_of_methodNamed B.named
  have hlocks := B.notSynchronized
  have hin : meth.name = "<init>" := (name_of_methodNamed B.named B.method).1
  subst hsz
  have hD := hD0.self (sz := s.heap.size)
  generalize hAe : va_A [(h0, .inr (5, [.null, .null, .long 0]))] s.heap.size = A at hD hT ⊢
  have hA : ∀ q : Nat, s.heap.size ≤ q → A q := fun q h => by rw [← hAe]; exact Or.inr h
  have hS : va_S A s.heap s.heap [] := va_S.rf
  have hl := lv_entry ([.ref h0]) (n := 1) (Nat.le_of_ble_eq_true rfl)
  rw [lg_entry_eq]
  generalize (lg_sl ([.ref h0]) ++ List.replicate (1 - (lg_sl ([.ref h0])).length) Slot.unset).toArray = ls at hl ⊢
  have hl : lv_has ls 1 [(0, .ref h0)] := hl
  refine lv_aload_n hx hb dX5_init_0 rfl (lv_at hl 0 rfl) ?_
  refine W.objInit hx hb hown (hts _ kMl_X5_3) (hts _ kIm_bjectInit) (hts _ kCode_bjectInit) rfl (by rw [hml]; exact hl.1) rfl dX5_init_1 (Nat.le_of_ble_eq_true rfl) (Nat.le_of_ble_eq_true rfl) ?_
  refine W.eq (g2 := F0 mi 4 ls []) rfl ?_
  refine lv_aload_n hx hb dX5_init_4 rfl (lv_at hl 0 rfl) ?_
  refine lv_bipush (v := 64) hx hb dX5_init_5 (by decide) ?_
  refine r_newa (atype := .int) hx hb (hts _ kArr_I) rfl 0 rfl (fun C h => by cases h) hE hP hD hS hA (a0 := (64, .inl (fun _ => 0))) (fun cA => rfl) (by decide) rfl (by decide) (Nat.le_of_ble_eq_true rfl) (Nat.le_of_ble_eq_true rfl) dX5_init_7 (fun q_7 H hP hD hS => ?_)
  have hP : va_P G.1 vwCl [(h0, .inr (5, [.null, .null, .long 0])), eI G q_7 64 (fun _ => 0)] H := hP
  have hD : va_D A [(h0, .inr (5, [.null, .null, .long 0])), eI G q_7 64 (fun _ => 0)] := hD
  refine va_putF (ci := 5) (v := .ref q_7) (ty := (.array .int)) (C := RX5) (T := TX5) (N := 3) hx hb hts hinX5 tyX5 tyX5_ok nmX5 hown hE.1 hP hD hS 0 rfl rfl 0 (by decide) (hts _ kFl_X5_9) (fun _ h9 => h9) rfl hin rfl (by decide +kernel) rfl rfl (Nat.le_of_ble_eq_true rfl) dX5_init_9 (fun H locs hP hD hS => ?_)
  have hP : va_P G.1 vwCl [(h0, .inr (5, [.ref q_7, .null, .long 0])), eI G q_7 64 (fun _ => 0)] H := hP
  have hD : va_D A [(h0, .inr (5, [.ref q_7, .null, .long 0])), eI G q_7 64 (fun _ => 0)] := hD
  refine lv_aload_n hx hb dX5_init_12 rfl (lv_at hl 0 rfl) ?_
  refine lv_bipush (v := 64) hx hb dX5_init_13 (by decide) ?_
  refine r_newa (atype := .int) hx hb (hts _ kArr_I) rfl 0 rfl (fun C h => by cases h) hE hP hD hS hA (a0 := (64, .inl (fun _ => 0))) (fun cA => rfl) (by decide) rfl (by decide) (Nat.le_of_ble_eq_true rfl) (Nat.le_of_ble_eq_true rfl) dX5_init_15 (fun q_15 H hP hD hS => ?_)
  have hP : va_P G.1 vwCl [(h0, .inr (5, [.ref q_7, .null, .long 0])), eI G q_7 64 (fun _ => 0), eI G q_15 64 (fun _ => 0)] H := hP
  have hD : va_D A [(h0, .inr (5, [.ref q_7, .null, .long 0])), eI G q_7 64 (fun _ => 0), eI G q_15 64 (fun _ => 0)] := hD
  refine va_putF (ci := 5) (v := .ref q_15) (ty := (.array .int)) (C := RX5) (T := TX5) (N := 3) hx hb hts hinX5 tyX5 tyX5_ok nmX5 hown hE.1 hP hD hS 0 rfl rfl 1 (by decide) (hts _ kFl_X5_15) (fun _ h9 => h9) rfl hin rfl (by decide +kernel) rfl rfl (Nat.le_of_ble_eq_true rfl) dX5_init_17 (fun H locs hP hD hS => ?_)
  have hP : va_P G.1 vwCl [(h0, .inr (5, [.ref q_7, .ref q_15, .long 0])), eI G q_7 64 (fun _ => 0), eI G q_15 64 (fun _ => 0)] H := hP
  have hD : va_D A [(h0, .inr (5, [.ref q_7, .ref q_15, .long 0])), eI G q_7 64 (fun _ => 0), eI G q_15 64 (fun _ => 0)] := hD
  refine lv_aload_n hx hb dX5_init_20 rfl (lv_at hl 0 rfl) ?_
  refine lv_lconst (v := 0) hx hb dX5_init_21 (by decide) ?_
  refine va_put (ci := 5) (v := .long (0 : Int64)) (ty := .long) (C := RX5) (T := TX5) (N := 3) hx hb hts hinX5 tyX5 tyX5_ok nmX5 hown hE.1 hP hD hS 0 rfl rfl 2 (by decide) (hts _ kFl_X5_18) (fun _ h9 => h9) rfl (by decide +kernel) rfl rfl (Nat.le_of_ble_eq_true rfl) dX5_init_22 (fun H locs hP hD hS => ?_)
  have hP : va_P G.1 vwCl [(h0, .inr (5, [.ref q_7, .ref q_15, .long (0 : Int64)])), eI G q_7 64 (fun _ => 0), eI G q_15 64 (fun _ => 0)] H := hP
  have hD : va_D A [(h0, .inr (5, [.ref q_7, .ref q_15, .long (0 : Int64)])), eI G q_7 64 (fun _ => 0), eI G q_15 64 (fun _ => 0)] := hD
  have hP9 := hP.sub (ws' := [(h0, .inr (5, [.ref q_7, .ref q_15, .long (0 : Int64)])), eI G q_7 64 (fun _ => 0), eI G q_15 64 (fun _ => 0)]) [0, 1, 2] rfl
  have hD9 := hD.sub (ws' := [(h0, .inr (5, [.ref q_7, .ref q_15, .long (0 : Int64)])), eI G q_7 64 (fun _ => 0), eI G q_15 64 (fun _ => 0)]) [0, 1, 2] (by decide) rfl
  have q9_1 : (0 : Int64) = 0 := by first | rfl | simp []
  have cw9 : ([(h0, .inr (5, [.ref q_7, .ref q_15, .long (0 : Int64)])), eI G q_7 64 (fun _ => 0), eI G q_15 64 (fun _ => 0)] : va_W) = [(h0, .inr (5, [.ref q_7, .ref q_15, .long 0])), eI G q_7 64 (fun _ => 0), eI G q_15 64 (fun _ => 0)] := (lcons (congrArg (fun z => ((h0, Sum.inr (5, [.ref q_7, .ref q_15, Value.long z])) : Nat × va_E)) q9_1) (lcons rfl (lcons rfl rfl)))
  have hP9 := va_castP hP9 cw9
  have hD9 := va_castD hD9 cw9
  exact W.vret hx hb hr (fun t_ ht_ hW_ => ⟨⟨(q_7, q_15), rfl, trivial, by rw [ht_]; exact hP9, hD9⟩, hS.F ht_⟩) hS.2.2 dX5_init_25
set_option maxHeartbeats 4000000 in
set_option maxRecDepth 100000 in
theorem c_X0_init (ln : Launch) (G : gT) (h0 : Nat) (sz : Nat)  : Met ln yX0_init (wA (.code yX0_init cX0_init 1 none)) ({ frames := 1, cells := 1, slots := 12, locals := 32 } : Room) (va_Pc [.ref h0] (rwB G [(h0, .inr (0, [.null, .int 0, .int 0]))] sz)) (va_Qv (S := Nat) (fun (_ : Nat) => True) (fun u => wdB G (va_A [(h0, .inr (0, [.null, .int 0, .int 0]))] sz) [(h0, .inr (0, [.ref u, .int 300, .int 100])), eJ G u 12 (fun _ => 0)]) (va_A [(h0, .inr (0, [.null, .int 0, .int 0]))] sz)) 1 12 (va_A [(h0, .inr (0, [.null, .int 0, .int 0]))] sz) := by
  refine Met.ofW (cc := cX0_init) (maxL := 1) (ret := none) (by decide) rfl ?_
  intro pg ev s mi args below meth cd s₁ B hml hv
  obtain ⟨rfl, hsz, hP, hE, hD0, hT⟩ := hv
  have hx := B.exec
  have hb := B.bytes
  have hr := B.returns
  have hts0 := atoms_spec (ws := wA (.code yX0_init cX0_init 1 none)) B.pre
  have hts : ∀ w ∈ wsA, w.before _ s = true := fun w h => hts0 w (List.mem_cons_of_mem _ h)
  have hown : s.vm.findClass RX0 = some mi.cls := findClass_of_methodNamed B.named
  have hlocks := B.notSynchronized
  have hin : meth.name = "<init>" := (name_of_methodNamed B.named B.method).1
  subst hsz
  have hD := hD0.self (sz := s.heap.size)
  generalize hAe : va_A [(h0, .inr (0, [.null, .int 0, .int 0]))] s.heap.size = A at hD hT ⊢
  have hA : ∀ q : Nat, s.heap.size ≤ q → A q := fun q h => by rw [← hAe]; exact Or.inr h
  have hS : va_S A s.heap s.heap [] := va_S.rf
  have hl := lv_entry ([.ref h0]) (n := 1) (Nat.le_of_ble_eq_true rfl)
  rw [lg_entry_eq]
  generalize (lg_sl ([.ref h0]) ++ List.replicate (1 - (lg_sl ([.ref h0])).length) Slot.unset).toArray = ls at hl ⊢
  have hl : lv_has ls 1 [(0, .ref h0)] := hl
  refine lv_aload_n hx hb dX0_init_0 rfl (lv_at hl 0 rfl) ?_
  refine W.objInit hx hb hown (hts _ kMl_X0_3) (hts _ kIm_bjectInit) (hts _ kCode_bjectInit) rfl (by rw [hml]; exact hl.1) rfl dX0_init_1 (Nat.le_of_ble_eq_true rfl) (Nat.le_of_ble_eq_true rfl) ?_
  refine W.eq (g2 := F0 mi 4 ls []) rfl ?_
  refine lv_aload_n hx hb dX0_init_4 rfl (lv_at hl 0 rfl) ?_
  refine lv_bipush (v := 12) hx hb dX0_init_5 (by decide) ?_
  refine r_newa (atype := .long) hx hb (hts _ kArr_J) rfl 1 rfl (fun C h => by cases h) hE hP hD hS hA (a0 := (12, .inr (.inl (fun _ => 0)))) (fun cA => rfl) (by decide) rfl (by decide) (Nat.le_of_ble_eq_true rfl) (Nat.le_of_ble_eq_true rfl) dX0_init_7 (fun q_7 H hP hD hS => ?_)
  have hP : va_P G.1 vwCl [(h0, .inr (0, [.null, .int 0, .int 0])), eJ G q_7 12 (fun _ => 0)] H := hP
  have hD : va_D A [(h0, .inr (0, [.null, .int 0, .int 0])), eJ G q_7 12 (fun _ => 0)] := hD
  refine va_putF (ci := 0) (v := .ref q_7) (ty := (.array .long)) (C := RX0) (T := TX0) (N := 3) hx hb hts hinX0 tyX0 tyX0_ok nmX0 hown hE.1 hP hD hS 0 rfl rfl 0 (by decide) (hts _ kFl_X0_9) (fun _ h9 => h9) rfl hin rfl (by decide +kernel) rfl rfl (Nat.le_of_ble_eq_true rfl) dX0_init_9 (fun H locs hP hD hS => ?_)
  have hP : va_P G.1 vwCl [(h0, .inr (0, [.ref q_7, .int 0, .int 0])), eJ G q_7 12 (fun _ => 0)] H := hP
  have hD : va_D A [(h0, .inr (0, [.ref q_7, .int 0, .int 0])), eJ G q_7 12 (fun _ => 0)] := hD
  refine lv_aload_n hx hb dX0_init_12 rfl (lv_at hl 0 rfl) ?_
  refine lv_sipush (v := 300) hx hb dX0_init_13 (by decide) ?_
  refine va_put (ci := 0) (v := .int 300) (ty := .int) (C := RX0) (T := TX0) (N := 3) hx hb hts hinX0 tyX0 tyX0_ok nmX0 hown hE.1 hP hD hS 0 rfl rfl 1 (by decide) (hts _ kFl_X0_15) (fun _ h9 => h9) rfl (by decide +kernel) rfl rfl (Nat.le_of_ble_eq_true rfl) dX0_init_16 (fun H locs hP hD hS => ?_)
  have hP : va_P G.1 vwCl [(h0, .inr (0, [.ref q_7, .int 300, .int 0])), eJ G q_7 12 (fun _ => 0)] H := hP
  have hD : va_D A [(h0, .inr (0, [.ref q_7, .int 300, .int 0])), eJ G q_7 12 (fun _ => 0)] := hD
  refine lv_aload_n hx hb dX0_init_19 rfl (lv_at hl 0 rfl) ?_
  refine lv_bipush (v := 100) hx hb dX0_init_20 (by decide) ?_
  refine va_put (ci := 0) (v := .int 100) (ty := .int) (C := RX0) (T := TX0) (N := 3) hx hb hts hinX0 tyX0 tyX0_ok nmX0 hown hE.1 hP hD hS 0 rfl rfl 2 (by decide) (hts _ kFl_X0_19) (fun _ h9 => h9) rfl (by decide +kernel) rfl rfl (Nat.le_of_ble_eq_true rfl) dX0_init_22 (fun H locs hP hD hS => ?_)
  have hP : va_P G.1 vwCl [(h0, .inr (0, [.ref q_7, .int 300, .int 100])), eJ G q_7 12 (fun _ => 0)] H := hP
  have hD : va_D A [(h0, .inr (0, [.ref q_7, .int 300, .int 100])), eJ G q_7 12 (fun _ => 0)] := hD
  have hP9 := hP.sub (ws' := [(h0, .inr (0, [.ref q_7, .int 300, .int 100])), eJ G q_7 12 (fun _ => 0)]) [0, 1] rfl
  have hD9 := hD.sub (ws' := [(h0, .inr (0, [.ref q_7, .int 300, .int 100])), eJ G q_7 12 (fun _ => 0)]) [0, 1] (by decide) rfl
  exact W.vret hx hb hr (fun t_ ht_ hW_ => ⟨⟨q_7, rfl, trivial, by rw [ht_]; exact hP9, hD9⟩, hS.F ht_⟩) hS.2.2 dX0_init_25
set_option maxHeartbeats 4000000 in
set_option maxRecDepth 100000 in
theorem c_X1_init (ln : Launch) (G : gT) (h0 : Nat) (sz : Nat)  : Met ln yX1_init (wA (.code yX1_init cX1_init 1 none)) ({ frames := 1, cells := 3, slots := 12, locals := 32 } : Room) (va_Pc [.ref h0] (rwB G [(h0, .inr (1, [.null, .null, .null, .int 0, .int 0]))] sz)) (va_Qv (S := Nat × Nat × Nat) (fun (_ : Nat × Nat × Nat) => True) (fun u => wdB G (va_A [(h0, .inr (1, [.null, .null, .null, .int 0, .int 0]))] sz) [(h0, .inr (1, [.ref u.1, .ref u.2.1, .ref u.2.2, .int 0, .int 0])), eI G u.1 4 (fun _ => 0), eI G u.2.1 4 (fun _ => 0), eI G u.2.2 4 (fun _ => 0)]) (va_A [(h0, .inr (1, [.null, .null, .null, .int 0, .int 0]))] sz)) 3 12 (va_A [(h0, .inr (1, [.null, .null, .null, .int 0, .int 0]))] sz) := by
  refine Met.ofW (cc := cX1_init) (maxL := 1) (ret := none) (by decide) rfl ?_
  intro pg ev s mi args below meth cd s₁ B hml hv
  obtain ⟨rfl, hsz, hP, hE, hD0, hT⟩ := hv
  have hx := B.exec
  have hb := B.bytes
  have hr := B.returns
  have hts0 := atoms_spec (ws := wA (.code yX1_init cX1_init 1 none)) B.pre
  have hts : ∀ w ∈ wsA, w.before _ s = true := fun w h => hts0 w (List.mem_cons_of_mem _ h)
  have hown : s.vm.findClass RX1 = some mi.cls := findClass_of_methodNamed B.named
  have hlocks := B.notSynchronized
  have hin : meth.name = "<init>" := (name_of_methodNamed B.named B.method).1
  subst hsz
  have hD := hD0.self (sz := s.heap.size)
  generalize hAe : va_A [(h0, .inr (1, [.null, .null, .null, .int 0, .int 0]))] s.heap.size = A at hD hT ⊢
  have hA : ∀ q : Nat, s.heap.size ≤ q → A q := fun q h => by rw [← hAe]; exact Or.inr h
  have hS : va_S A s.heap s.heap [] := va_S.rf
  have hl := lv_entry ([.ref h0]) (n := 1) (Nat.le_of_ble_eq_true rfl)
  rw [lg_entry_eq]
  generalize (lg_sl ([.ref h0]) ++ List.replicate (1 - (lg_sl ([.ref h0])).length) Slot.unset).toArray = ls at hl ⊢
  have hl : lv_has ls 1 [(0, .ref h0)] := hl
  refine lv_aload_n hx hb dX1_init_0 rfl (lv_at hl 0 rfl) ?_
  refine W.objInit hx hb hown (hts _ kMl_X1_3) (hts _ kIm_bjectInit) (hts _ kCode_bjectInit) rfl (by rw [hml]; exact hl.1) rfl dX1_init_1 (Nat.le_of_ble_eq_true rfl) (Nat.le_of_ble_eq_true rfl) ?_
  refine W.eq (g2 := F0 mi 4 ls []) rfl ?_
  refine lv_aload_n hx hb dX1_init_4 rfl (lv_at hl 0 rfl) ?_
  refine lv_iconst (v := 4) hx hb dX1_init_5 (by decide) ?_
  refine r_newa (atype := .int) hx hb (hts _ kArr_I) rfl 0 rfl (fun C h => by cases h) hE hP hD hS hA (a0 := (4, .inl (fun _ => 0))) (fun cA => rfl) (by decide) rfl (by decide) (Nat.le_of_ble_eq_true rfl) (Nat.le_of_ble_eq_true rfl) dX1_init_6 (fun q_6 H hP hD hS => ?_)
  have hP : va_P G.1 vwCl [(h0, .inr (1, [.null, .null, .null, .int 0, .int 0])), eI G q_6 4 (fun _ => 0)] H := hP
  have hD : va_D A [(h0, .inr (1, [.null, .null, .null, .int 0, .int 0])), eI G q_6 4 (fun _ => 0)] := hD
  refine va_putF (ci := 1) (v := .ref q_6) (ty := (.array .int)) (C := RX1) (T := TX1) (N := 5) hx hb hts hinX1 tyX1 tyX1_ok nmX1 hown hE.1 hP hD hS 0 rfl rfl 0 (by decide) (hts _ kFl_X1_9) (fun _ h9 => h9) rfl hin rfl (by decide +kernel) rfl rfl (Nat.le_of_ble_eq_true rfl) dX1_init_8 (fun H locs hP hD hS => ?_)
  have hP : va_P G.1 vwCl [(h0, .inr (1, [.ref q_6, .null, .null, .int 0, .int 0])), eI G q_6 4 (fun _ => 0)] H := hP
  have hD : va_D A [(h0, .inr (1, [.ref q_6, .null, .null, .int 0, .int 0])), eI G q_6 4 (fun _ => 0)] := hD
  refine lv_aload_n hx hb dX1_init_11 rfl (lv_at hl 0 rfl) ?_
  refine lv_iconst (v := 4) hx hb dX1_init_12 (by decide) ?_
  refine r_newa (atype := .int) hx hb (hts _ kArr_I) rfl 0 rfl (fun C h => by cases h) hE hP hD hS hA (a0 := (4, .inl (fun _ => 0))) (fun cA => rfl) (by decide) rfl (by decide) (Nat.le_of_ble_eq_true rfl) (Nat.le_of_ble_eq_true rfl) dX1_init_13 (fun q_13 H hP hD hS => ?_)
  have hP : va_P G.1 vwCl [(h0, .inr (1, [.ref q_6, .null, .null, .int 0, .int 0])), eI G q_6 4 (fun _ => 0), eI G q_13 4 (fun _ => 0)] H := hP
  have hD : va_D A [(h0, .inr (1, [.ref q_6, .null, .null, .int 0, .int 0])), eI G q_6 4 (fun _ => 0), eI G q_13 4 (fun _ => 0)] := hD
  refine va_putF (ci := 1) (v := .ref q_13) (ty := (.array .int)) (C := RX1) (T := TX1) (N := 5) hx hb hts hinX1 tyX1 tyX1_ok nmX1 hown hE.1 hP hD hS 0 rfl rfl 1 (by decide) (hts _ kFl_X1_15) (fun _ h9 => h9) rfl hin rfl (by decide +kernel) rfl rfl (Nat.le_of_ble_eq_true rfl) dX1_init_15 (fun H locs hP hD hS => ?_)
  have hP : va_P G.1 vwCl [(h0, .inr (1, [.ref q_6, .ref q_13, .null, .int 0, .int 0])), eI G q_6 4 (fun _ => 0), eI G q_13 4 (fun _ => 0)] H := hP
  have hD : va_D A [(h0, .inr (1, [.ref q_6, .ref q_13, .null, .int 0, .int 0])), eI G q_6 4 (fun _ => 0), eI G q_13 4 (fun _ => 0)] := hD
  refine lv_aload_n hx hb dX1_init_18 rfl (lv_at hl 0 rfl) ?_
  refine lv_iconst (v := 4) hx hb dX1_init_19 (by decide) ?_
  refine r_newa (atype := .int) hx hb (hts _ kArr_I) rfl 0 rfl (fun C h => by cases h) hE hP hD hS hA (a0 := (4, .inl (fun _ => 0))) (fun cA => rfl) (by decide) rfl (by decide) (Nat.le_of_ble_eq_true rfl) (Nat.le_of_ble_eq_true rfl) dX1_init_20 (fun q_20 H hP hD hS => ?_)
  have hP : va_P G.1 vwCl [(h0, .inr (1, [.ref q_6, .ref q_13, .null, .int 0, .int 0])), eI G q_6 4 (fun _ => 0), eI G q_13 4 (fun _ => 0), eI G q_20 4 (fun _ => 0)] H := hP
  have hD : va_D A [(h0, .inr (1, [.ref q_6, .ref q_13, .null, .int 0, .int 0])), eI G q_6 4 (fun _ => 0), eI G q_13 4 (fun _ => 0), eI G q_20 4 (fun _ => 0)] := hD
  refine va_putF (ci := 1) (v := .ref q_20) (ty := (.array .int)) (C := RX1) (T := TX1) (N := 5) hx hb hts hinX1 tyX1 tyX1_ok nmX1 hown hE.1 hP hD hS 0 rfl rfl 2 (by decide) (hts _ kFl_X1_18) (fun _ h9 => h9) rfl hin rfl (by decide +kernel) rfl rfl (Nat.le_of_ble_eq_true rfl) dX1_init_22 (fun H locs hP hD hS => ?_)
  have hP : va_P G.1 vwCl [(h0, .inr (1, [.ref q_6, .ref q_13, .ref q_20, .int 0, .int 0])), eI G q_6 4 (fun _ => 0), eI G q_13 4 (fun _ => 0), eI G q_20 4 (fun _ => 0)] H := hP
  have hD : va_D A [(h0, .inr (1, [.ref q_6, .ref q_13, .ref q_20, .int 0, .int 0])), eI G q_6 4 (fun _ => 0), eI G q_13 4 (fun _ => 0), eI G q_20 4 (fun _ => 0)] := hD
  refine lv_aload_n hx hb dX1_init_25 rfl (lv_at hl 0 rfl) ?_
  refine lv_iconst (v := 0) hx hb dX1_init_26 (by decide) ?_
  refine va_put (ci := 1) (v := .int 0) (ty := .int) (C := RX1) (T := TX1) (N := 5) hx hb hts hinX1 tyX1 tyX1_ok nmX1 hown hE.1 hP hD hS 0 rfl rfl 3 (by decide) (hts _ kFl_X1_21) (fun _ h9 => h9) rfl (by decide +kernel) rfl rfl (Nat.le_of_ble_eq_true rfl) dX1_init_27 (fun H locs hP hD hS => ?_)
  have hP : va_P G.1 vwCl [(h0, .inr (1, [.ref q_6, .ref q_13, .ref q_20, .int 0, .int 0])), eI G q_6 4 (fun _ => 0), eI G q_13 4 (fun _ => 0), eI G q_20 4 (fun _ => 0)] H := hP
  have hD : va_D A [(h0, .inr (1, [.ref q_6, .ref q_13, .ref q_20, .int 0, .int 0])), eI G q_6 4 (fun _ => 0), eI G q_13 4 (fun _ => 0), eI G q_20 4 (fun _ => 0)] := hD
  refine lv_aload_n hx hb dX1_init_30 rfl (lv_at hl 0 rfl) ?_
  refine lv_iconst (v := 0) hx hb dX1_init_31 (by decide) ?_
  refine va_put (ci := 1) (v := .int 0) (ty := .int) (C := RX1) (T := TX1) (N := 5) hx hb hts hinX1 tyX1 tyX1_ok nmX1 hown hE.1 hP hD hS 0 rfl rfl 4 (by decide) (hts _ kFl_X1_25) (fun _ h9 => h9) rfl (by decide +kernel) rfl rfl (Nat.le_of_ble_eq_true rfl) dX1_init_32 (fun H locs hP hD hS => ?_)
  have hP : va_P G.1 vwCl [(h0, .inr (1, [.ref q_6, .ref q_13, .ref q_20, .int 0, .int 0])), eI G q_6 4 (fun _ => 0), eI G q_13 4 (fun _ => 0), eI G q_20 4 (fun _ => 0)] H := hP
  have hD : va_D A [(h0, .inr (1, [.ref q_6, .ref q_13, .ref q_20, .int 0, .int 0])), eI G q_6 4 (fun _ => 0), eI G q_13 4 (fun _ => 0), eI G q_20 4 (fun _ => 0)] := hD
  have hP9 := hP.sub (ws' := [(h0, .inr (1, [.ref q_6, .ref q_13, .ref q_20, .int 0, .int 0])), eI G q_6 4 (fun _ => 0), eI G q_13 4 (fun _ => 0), eI G q_20 4 (fun _ => 0)]) [0, 1, 2, 3] rfl
  have hD9 := hD.sub (ws' := [(h0, .inr (1, [.ref q_6, .ref q_13, .ref q_20, .int 0, .int 0])), eI G q_6 4 (fun _ => 0), eI G q_13 4 (fun _ => 0), eI G q_20 4 (fun _ => 0)]) [0, 1, 2, 3] (by decide) rfl
  exact W.vret hx hb hr (fun t_ ht_ hW_ => ⟨⟨(q_6, q_13, q_20), rfl, trivial, by rw [ht_]; exact hP9, hD9⟩, hS.F ht_⟩) hS.2.2 dX1_init_35
set_option maxHeartbeats 4000000 in
set_option maxRecDepth 100000 in
theorem c_X2_init (ln : Launch) (G : gT) (h0 : Nat) (sz : Nat)  : Met ln yX2_init (wA (.code yX2_init cX2_init 1 none)) ({ frames := 1, cells := 0, slots := 0, locals := 32 } : Room) (va_Pc [.ref h0] (rwB G [(h0, .inr (2, [.int 0, .int 0, .int 0]))] sz)) (va_Qv (S := Unit) (fun (_ : Unit) => True) (fun u => wdB G (va_A [(h0, .inr (2, [.int 0, .int 0, .int 0]))] sz) [(h0, .inr (2, [.int 0, .int 0, .int (-1)]))]) (va_A [(h0, .inr (2, [.int 0, .int 0, .int 0]))] sz)) 0 0 (va_A [(h0, .inr (2, [.int 0, .int 0, .int 0]))] sz) := by
  refine Met.ofW (cc := cX2_init) (maxL := 1) (ret := none) (by decide) rfl ?_
  intro pg ev s mi args below meth cd s₁ B hml hv
  obtain ⟨rfl, hsz, hP, hE, hD0, hT⟩ := hv
  have hx := B.exec
  have hb := B.bytes
  have hr := B.returns
  have hts0 := atoms_spec (ws := wA (.code yX2_init cX2_init 1 none)) B.pre
  have hts : ∀ w ∈ wsA, w.before _ s = true := fun w h => hts0 w (List.mem_cons_of_mem _ h)
  have hown : s.vm.findClass RX2 = some mi.cls := findClass_of_methodNamed B.named
  have hlocks := B.notSynchronized
  have hin : meth.name = "<init>" := (name_of_methodNamed B.named B.method).1
  subst hsz
  have hD := hD0.self (sz := s.heap.size)
  generalize hAe : va_A [(h0, .inr (2, [.int 0, .int 0, .int 0]))] s.heap.size = A at hD hT ⊢
  have hA : ∀ q : Nat, s.heap.size ≤ q → A q := fun q h => by rw [← hAe]; exact Or.inr h
  have hS : va_S A s.heap s.heap [] := va_S.rf
  have hl := lv_entry ([.ref h0]) (n := 1) (Nat.le_of_ble_eq_true rfl)
  rw [lg_entry_eq]
  generalize (lg_sl ([.ref h0]) ++ List.replicate (1 - (lg_sl ([.ref h0])).length) Slot.unset).toArray = ls at hl ⊢
  have hl : lv_has ls 1 [(0, .ref h0)] := hl
  refine lv_aload_n hx hb dX2_init_0 rfl (lv_at hl 0 rfl) ?_
  refine W.objInit hx hb hown (hts _ kMl_X2_3) (hts _ kIm_bjectInit) (hts _ kCode_bjectInit) rfl (by rw [hml]; exact hl.1) rfl dX2_init_1 (Nat.le_of_ble_eq_true rfl) (Nat.le_of_ble_eq_true rfl) ?_
  refine W.eq (g2 := F0 mi 4 ls []) rfl ?_
  refine lv_aload_n hx hb dX2_init_4 rfl (lv_at hl 0 rfl) ?_
  refine lv_iconst (v := 0) hx hb dX2_init_5 (by decide) ?_
  refine va_put (ci := 2) (v := .int 0) (ty := .int) (C := RX2) (T := TX2) (N := 3) hx hb hts hinX2 tyX2 tyX2_ok nmX2 hown hE.1 hP hD hS 0 rfl rfl 0 (by decide) (hts _ kFl_X2_9) (fun _ h9 => h9) rfl (by decide +kernel) rfl rfl (Nat.le_of_ble_eq_true rfl) dX2_init_6 (fun H locs hP hD hS => ?_)
  have hP : va_P G.1 vwCl [(h0, .inr (2, [.int 0, .int 0, .int 0]))] H := hP
  have hD : va_D A [(h0, .inr (2, [.int 0, .int 0, .int 0]))] := hD
  refine lv_aload_n hx hb dX2_init_9 rfl (lv_at hl 0 rfl) ?_
  refine lv_iconst (v := 0) hx hb dX2_init_10 (by decide) ?_
  refine va_put (ci := 2) (v := .int 0) (ty := .int) (C := RX2) (T := TX2) (N := 3) hx hb hts hinX2 tyX2 tyX2_ok nmX2 hown hE.1 hP hD hS 0 rfl rfl 1 (by decide) (hts _ kFl_X2_15) (fun _ h9 => h9) rfl (by decide +kernel) rfl rfl (Nat.le_of_ble_eq_true rfl) dX2_init_11 (fun H locs hP hD hS => ?_)
  have hP : va_P G.1 vwCl [(h0, .inr (2, [.int 0, .int 0, .int 0]))] H := hP
  have hD : va_D A [(h0, .inr (2, [.int 0, .int 0, .int 0]))] := hD
  refine lv_aload_n hx hb dX2_init_14 rfl (lv_at hl 0 rfl) ?_
  refine lv_iconst (v := -1) hx hb dX2_init_15 (by decide) ?_
  refine va_put (ci := 2) (v := .int (-1)) (ty := .int) (C := RX2) (T := TX2) (N := 3) hx hb hts hinX2 tyX2 tyX2_ok nmX2 hown hE.1 hP hD hS 0 rfl rfl 2 (by decide) (hts _ kFl_X2_18) (fun _ h9 => h9) rfl (by decide +kernel) rfl rfl (Nat.le_of_ble_eq_true rfl) dX2_init_16 (fun H locs hP hD hS => ?_)
  have hP : va_P G.1 vwCl [(h0, .inr (2, [.int 0, .int 0, .int (-1)]))] H := hP
  have hD : va_D A [(h0, .inr (2, [.int 0, .int 0, .int (-1)]))] := hD
  have hP9 := hP.sub (ws' := [(h0, .inr (2, [.int 0, .int 0, .int (-1)]))]) [0] rfl
  have hD9 := hD.sub (ws' := [(h0, .inr (2, [.int 0, .int 0, .int (-1)]))]) [0] (by decide) rfl
  exact W.vret hx hb hr (fun t_ ht_ hW_ => ⟨⟨(), rfl, trivial, by rw [ht_]; exact hP9, hD9⟩, hS.F ht_⟩) hS.2.2 dX2_init_19
set_option maxHeartbeats 4000000 in
set_option maxRecDepth 100000 in
theorem c_X3_init (ln : Launch) (G : gT) (h0 : Nat) (sz : Nat)  : Met ln yX3_init (wA (.code yX3_init cX3_init 1 none)) ({ frames := 1, cells := 4, slots := 48, locals := 32 } : Room) (va_Pc [.ref h0] (rwB G [(h0, .inr (3, [.null, .null, .null, .null, .int 0, .int 0]))] sz)) (va_Qv (S := Nat × Nat × Nat × Nat) (fun (_ : Nat × Nat × Nat × Nat) => True) (fun u => wdB G (va_A [(h0, .inr (3, [.null, .null, .null, .null, .int 0, .int 0]))] sz) [(h0, .inr (3, [.ref u.1, .ref u.2.1, .ref u.2.2.1, .ref u.2.2.2, .int 1000, .int 300])), eI G u.1 12 (fun _ => 0), eI G u.2.1 12 (fun _ => 0), eI G u.2.2.1 12 (fun _ => 0), eZ G u.2.2.2 12 (fun _ => false)]) (va_A [(h0, .inr (3, [.null, .null, .null, .null, .int 0, .int 0]))] sz)) 4 48 (va_A [(h0, .inr (3, [.null, .null, .null, .null, .int 0, .int 0]))] sz) := by
  refine Met.ofW (cc := cX3_init) (maxL := 1) (ret := none) (by decide) rfl ?_
  intro pg ev s mi args below meth cd s₁ B hml hv
  obtain ⟨rfl, hsz, hP, hE, hD0, hT⟩ := hv
  have hx := B.exec
  have hb := B.bytes
  have hr := B.returns
  have hts0 := atoms_spec (ws := wA (.code yX3_init cX3_init 1 none)) B.pre
  have hts : ∀ w ∈ wsA, w.before _ s = true := fun w h => hts0 w (List.mem_cons_of_mem _ h)
  have hown : s.vm.findClass RX3 = some mi.cls := findClass_of_methodNamed B.named
  have hlocks := B.notSynchronized
  have hin : meth.name = "<init>" := (name_of_methodNamed B.named B.method).1
  subst hsz
  have hD := hD0.self (sz := s.heap.size)
  generalize hAe : va_A [(h0, .inr (3, [.null, .null, .null, .null, .int 0, .int 0]))] s.heap.size = A at hD hT ⊢
  have hA : ∀ q : Nat, s.heap.size ≤ q → A q := fun q h => by rw [← hAe]; exact Or.inr h
  have hS : va_S A s.heap s.heap [] := va_S.rf
  have hl := lv_entry ([.ref h0]) (n := 1) (Nat.le_of_ble_eq_true rfl)
  rw [lg_entry_eq]
  generalize (lg_sl ([.ref h0]) ++ List.replicate (1 - (lg_sl ([.ref h0])).length) Slot.unset).toArray = ls at hl ⊢
  have hl : lv_has ls 1 [(0, .ref h0)] := hl
  refine lv_aload_n hx hb dX3_init_0 rfl (lv_at hl 0 rfl) ?_
  refine W.objInit hx hb hown (hts _ kMl_X3_3) (hts _ kIm_bjectInit) (hts _ kCode_bjectInit) rfl (by rw [hml]; exact hl.1) rfl dX3_init_1 (Nat.le_of_ble_eq_true rfl) (Nat.le_of_ble_eq_true rfl) ?_
  refine W.eq (g2 := F0 mi 4 ls []) rfl ?_
  refine lv_aload_n hx hb dX3_init_4 rfl (lv_at hl 0 rfl) ?_
  refine lv_bipush (v := 12) hx hb dX3_init_5 (by decide) ?_
  refine r_newa (atype := .int) hx hb (hts _ kArr_I) rfl 0 rfl (fun C h => by cases h) hE hP hD hS hA (a0 := (12, .inl (fun _ => 0))) (fun cA => rfl) (by decide) rfl (by decide) (Nat.le_of_ble_eq_true rfl) (Nat.le_of_ble_eq_true rfl) dX3_init_7 (fun q_7 H hP hD hS => ?_)
  have hP : va_P G.1 vwCl [(h0, .inr (3, [.null, .null, .null, .null, .int 0, .int 0])), eI G q_7 12 (fun _ => 0)] H := hP
  have hD : va_D A [(h0, .inr (3, [.null, .null, .null, .null, .int 0, .int 0])), eI G q_7 12 (fun _ => 0)] := hD
  refine va_putF (ci := 3) (v := .ref q_7) (ty := (.array .int)) (C := RX3) (T := TX3) (N := 6) hx hb hts hinX3 tyX3 tyX3_ok nmX3 hown hE.1 hP hD hS 0 rfl rfl 0 (by decide) (hts _ kFl_X3_9) (fun _ h9 => h9) rfl hin rfl (by decide +kernel) rfl rfl (Nat.le_of_ble_eq_true rfl) dX3_init_9 (fun H locs hP hD hS => ?_)
  have hP : va_P G.1 vwCl [(h0, .inr (3, [.ref q_7, .null, .null, .null, .int 0, .int 0])), eI G q_7 12 (fun _ => 0)] H := hP
  have hD : va_D A [(h0, .inr (3, [.ref q_7, .null, .null, .null, .int 0, .int 0])), eI G q_7 12 (fun _ => 0)] := hD
  refine lv_aload_n hx hb dX3_init_12 rfl (lv_at hl 0 rfl) ?_
  refine lv_bipush (v := 12) hx hb dX3_init_13 (by decide) ?_
  refine r_newa (atype := .int) hx hb (hts _ kArr_I) rfl 0 rfl (fun C h => by cases h) hE hP hD hS hA (a0 := (12, .inl (fun _ => 0))) (fun cA => rfl) (by decide) rfl (by decide) (Nat.le_of_ble_eq_true rfl) (Nat.le_of_ble_eq_true rfl) dX3_init_15 (fun q_15 H hP hD hS => ?_)
  have hP : va_P G.1 vwCl [(h0, .inr (3, [.ref q_7, .null, .null, .null, .int 0, .int 0])), eI G q_7 12 (fun _ => 0), eI G q_15 12 (fun _ => 0)] H := hP
  have hD : va_D A [(h0, .inr (3, [.ref q_7, .null, .null, .null, .int 0, .int 0])), eI G q_7 12 (fun _ => 0), eI G q_15 12 (fun _ => 0)] := hD
  refine va_putF (ci := 3) (v := .ref q_15) (ty := (.array .int)) (C := RX3) (T := TX3) (N := 6) hx hb hts hinX3 tyX3 tyX3_ok nmX3 hown hE.1 hP hD hS 0 rfl rfl 1 (by decide) (hts _ kFl_X3_15) (fun _ h9 => h9) rfl hin rfl (by decide +kernel) rfl rfl (Nat.le_of_ble_eq_true rfl) dX3_init_17 (fun H locs hP hD hS => ?_)
  have hP : va_P G.1 vwCl [(h0, .inr (3, [.ref q_7, .ref q_15, .null, .null, .int 0, .int 0])), eI G q_7 12 (fun _ => 0), eI G q_15 12 (fun _ => 0)] H := hP
  have hD : va_D A [(h0, .inr (3, [.ref q_7, .ref q_15, .null, .null, .int 0, .int 0])), eI G q_7 12 (fun _ => 0), eI G q_15 12 (fun _ => 0)] := hD
  refine lv_aload_n hx hb dX3_init_20 rfl (lv_at hl 0 rfl) ?_
  refine lv_bipush (v := 12) hx hb dX3_init_21 (by decide) ?_
  refine r_newa (atype := .int) hx hb (hts _ kArr_I) rfl 0 rfl (fun C h => by cases h) hE hP hD hS hA (a0 := (12, .inl (fun _ => 0))) (fun cA => rfl) (by decide) rfl (by decide) (Nat.le_of_ble_eq_true rfl) (Nat.le_of_ble_eq_true rfl) dX3_init_23 (fun q_23 H hP hD hS => ?_)
  have hP : va_P G.1 vwCl [(h0, .inr (3, [.ref q_7, .ref q_15, .null, .null, .int 0, .int 0])), eI G q_7 12 (fun _ => 0), eI G q_15 12 (fun _ => 0), eI G q_23 12 (fun _ => 0)] H := hP
  have hD : va_D A [(h0, .inr (3, [.ref q_7, .ref q_15, .null, .null, .int 0, .int 0])), eI G q_7 12 (fun _ => 0), eI G q_15 12 (fun _ => 0), eI G q_23 12 (fun _ => 0)] := hD
  refine va_putF (ci := 3) (v := .ref q_23) (ty := (.array .int)) (C := RX3) (T := TX3) (N := 6) hx hb hts hinX3 tyX3 tyX3_ok nmX3 hown hE.1 hP hD hS 0 rfl rfl 2 (by decide) (hts _ kFl_X3_18) (fun _ h9 => h9) rfl hin rfl (by decide +kernel) rfl rfl (Nat.le_of_ble_eq_true rfl) dX3_init_25 (fun H locs hP hD hS => ?_)
  have hP : va_P G.1 vwCl [(h0, .inr (3, [.ref q_7, .ref q_15, .ref q_23, .null, .int 0, .int 0])), eI G q_7 12 (fun _ => 0), eI G q_15 12 (fun _ => 0), eI G q_23 12 (fun _ => 0)] H := hP
  have hD : va_D A [(h0, .inr (3, [.ref q_7, .ref q_15, .ref q_23, .null, .int 0, .int 0])), eI G q_7 12 (fun _ => 0), eI G q_15 12 (fun _ => 0), eI G q_23 12 (fun _ => 0)] := hD
  refine lv_aload_n hx hb dX3_init_28 rfl (lv_at hl 0 rfl) ?_
  refine lv_bipush (v := 12) hx hb dX3_init_29 (by decide) ?_
  refine r_newa (atype := .boolean) hx hb (hts _ kArr_Z) rfl 2 rfl (fun C h => by cases h) hE hP hD hS hA (a0 := (12, .inl (fun _ => 0))) (fun cA => rfl) (by decide) rfl (by decide) (Nat.le_of_ble_eq_true rfl) (Nat.le_of_ble_eq_true rfl) dX3_init_31 (fun q_31 H hP hD hS => ?_)
  have hP : va_P G.1 vwCl [(h0, .inr (3, [.ref q_7, .ref q_15, .ref q_23, .null, .int 0, .int 0])), eI G q_7 12 (fun _ => 0), eI G q_15 12 (fun _ => 0), eI G q_23 12 (fun _ => 0), eZ G q_31 12 (fun _ => false)] H := hP
  have hD : va_D A [(h0, .inr (3, [.ref q_7, .ref q_15, .ref q_23, .null, .int 0, .int 0])), eI G q_7 12 (fun _ => 0), eI G q_15 12 (fun _ => 0), eI G q_23 12 (fun _ => 0), eZ G q_31 12 (fun _ => false)] := hD
  refine va_putF (ci := 3) (v := .ref q_31) (ty := (.array .boolean)) (C := RX3) (T := TX3) (N := 6) hx hb hts hinX3 tyX3 tyX3_ok nmX3 hown hE.1 hP hD hS 0 rfl rfl 3 (by decide) (hts _ kFl_X3_21) (fun _ h9 => h9) rfl hin rfl (by decide +kernel) rfl rfl (Nat.le_of_ble_eq_true rfl) dX3_init_33 (fun H locs hP hD hS => ?_)
  have hP : va_P G.1 vwCl [(h0, .inr (3, [.ref q_7, .ref q_15, .ref q_23, .ref q_31, .int 0, .int 0])), eI G q_7 12 (fun _ => 0), eI G q_15 12 (fun _ => 0), eI G q_23 12 (fun _ => 0), eZ G q_31 12 (fun _ => false)] H := hP
  have hD : va_D A [(h0, .inr (3, [.ref q_7, .ref q_15, .ref q_23, .ref q_31, .int 0, .int 0])), eI G q_7 12 (fun _ => 0), eI G q_15 12 (fun _ => 0), eI G q_23 12 (fun _ => 0), eZ G q_31 12 (fun _ => false)] := hD
  refine lv_aload_n hx hb dX3_init_36 rfl (lv_at hl 0 rfl) ?_
  refine lv_sipush (v := 1000) hx hb dX3_init_37 (by decide) ?_
  refine va_put (ci := 3) (v := .int 1000) (ty := .int) (C := RX3) (T := TX3) (N := 6) hx hb hts hinX3 tyX3 tyX3_ok nmX3 hown hE.1 hP hD hS 0 rfl rfl 4 (by decide) (hts _ kFl_X3_25) (fun _ h9 => h9) rfl (by decide +kernel) rfl rfl (Nat.le_of_ble_eq_true rfl) dX3_init_40 (fun H locs hP hD hS => ?_)
  have hP : va_P G.1 vwCl [(h0, .inr (3, [.ref q_7, .ref q_15, .ref q_23, .ref q_31, .int 1000, .int 0])), eI G q_7 12 (fun _ => 0), eI G q_15 12 (fun _ => 0), eI G q_23 12 (fun _ => 0), eZ G q_31 12 (fun _ => false)] H := hP
  have hD : va_D A [(h0, .inr (3, [.ref q_7, .ref q_15, .ref q_23, .ref q_31, .int 1000, .int 0])), eI G q_7 12 (fun _ => 0), eI G q_15 12 (fun _ => 0), eI G q_23 12 (fun _ => 0), eZ G q_31 12 (fun _ => false)] := hD
  refine lv_aload_n hx hb dX3_init_43 rfl (lv_at hl 0 rfl) ?_
  refine lv_sipush (v := 300) hx hb dX3_init_44 (by decide) ?_
  refine va_put (ci := 3) (v := .int 300) (ty := .int) (C := RX3) (T := TX3) (N := 6) hx hb hts hinX3 tyX3 tyX3_ok nmX3 hown hE.1 hP hD hS 0 rfl rfl 5 (by decide) (hts _ kFl_X3_29) (fun _ h9 => h9) rfl (by decide +kernel) rfl rfl (Nat.le_of_ble_eq_true rfl) dX3_init_47 (fun H locs hP hD hS => ?_)
  have hP : va_P G.1 vwCl [(h0, .inr (3, [.ref q_7, .ref q_15, .ref q_23, .ref q_31, .int 1000, .int 300])), eI G q_7 12 (fun _ => 0), eI G q_15 12 (fun _ => 0), eI G q_23 12 (fun _ => 0), eZ G q_31 12 (fun _ => false)] H := hP
  have hD : va_D A [(h0, .inr (3, [.ref q_7, .ref q_15, .ref q_23, .ref q_31, .int 1000, .int 300])), eI G q_7 12 (fun _ => 0), eI G q_15 12 (fun _ => 0), eI G q_23 12 (fun _ => 0), eZ G q_31 12 (fun _ => false)] := hD
  have hP9 := hP.sub (ws' := [(h0, .inr (3, [.ref q_7, .ref q_15, .ref q_23, .ref q_31, .int 1000, .int 300])), eI G q_7 12 (fun _ => 0), eI G q_15 12 (fun _ => 0), eI G q_23 12 (fun _ => 0), eZ G q_31 12 (fun _ => false)]) [0, 1, 2, 3, 4] rfl
  have hD9 := hD.sub (ws' := [(h0, .inr (3, [.ref q_7, .ref q_15, .ref q_23, .ref q_31, .int 1000, .int 300])), eI G q_7 12 (fun _ => 0), eI G q_15 12 (fun _ => 0), eI G q_23 12 (fun _ => 0), eZ G q_31 12 (fun _ => false)]) [0, 1, 2, 3, 4] (by decide) rfl
  exact W.vret hx hb hr (fun t_ ht_ hW_ => ⟨⟨(q_7, q_15, q_23, q_31), rfl, trivial, by rw [ht_]; exact hP9, hD9⟩, hS.F ht_⟩) hS.2.2 dX3_init_50
set_option maxHeartbeats 4000000 in
set_option maxRecDepth 100000 in
theorem c_X4_init (ln : Launch) (G : gT) (h0 : Nat) (sz : Nat)  : Met ln yX4_init (wA (.code yX4_init cX4_init 1 none)) ({ frames := 1, cells := 3, slots := 15, locals := 32 } : Room) (va_Pc [.ref h0] (rwB G [(h0, .inr (4, [.null, .null, .null, .int 0]))] sz)) (va_Qv (S := Nat × Nat × Nat) (fun (_ : Nat × Nat × Nat) => True) (fun u => wdB G (va_A [(h0, .inr (4, [.null, .null, .null, .int 0]))] sz) [(h0, .inr (4, [.ref u.1, .ref u.2.1, .ref u.2.2, .int 0])), eI G u.1 5 (fun _ => 0), eI G u.2.1 5 (fun _ => 0), eI G u.2.2 5 (fun _ => 0)]) (va_A [(h0, .inr (4, [.null, .null, .null, .int 0]))] sz)) 3 15 (va_A [(h0, .inr (4, [.null, .null, .null, .int 0]))] sz) := by
  refine Met.ofW (cc := cX4_init) (maxL := 1) (ret := none) (by decide) rfl ?_
  intro pg ev s mi args below meth cd s₁ B hml hv
  obtain ⟨rfl, hsz, hP, hE, hD0, hT⟩ := hv
  have hx := B.exec
  have hb := B.bytes
  have hr := B.returns
  have hts0 := atoms_spec (ws := wA (.code yX4_init cX4_init 1 none)) B.pre
  have hts : ∀ w ∈ wsA, w.before _ s = true := fun w h => hts0 w (List.mem_cons_of_mem _ h)
  have hown : s.vm.findClass RX4 = some mi.cls := findClass_of_methodNamed B.named
  have hlocks := B.notSynchronized
  have hin : meth.name = "<init>" := (name_of_methodNamed B.named B.method).1
  subst hsz
  have hD := hD0.self (sz := s.heap.size)
  generalize hAe : va_A [(h0, .inr (4, [.null, .null, .null, .int 0]))] s.heap.size = A at hD hT ⊢
  have hA : ∀ q : Nat, s.heap.size ≤ q → A q := fun q h => by rw [← hAe]; exact Or.inr h
  have hS : va_S A s.heap s.heap [] := va_S.rf
  have hl := lv_entry ([.ref h0]) (n := 1) (Nat.le_of_ble_eq_true rfl)
  rw [lg_entry_eq]
  generalize (lg_sl ([.ref h0]) ++ List.replicate (1 - (lg_sl ([.ref h0])).length) Slot.unset).toArray = ls at hl ⊢
  have hl : lv_has ls 1 [(0, .ref h0)] := hl
  refine lv_aload_n hx hb dX4_init_0 rfl (lv_at hl 0 rfl) ?_
  refine W.objInit hx hb hown (hts _ kMl_X4_3) (hts _ kIm_bjectInit) (hts _ kCode_bjectInit) rfl (by rw [hml]; exact hl.1) rfl dX4_init_1 (Nat.le_of_ble_eq_true rfl) (Nat.le_of_ble_eq_true rfl) ?_
  refine W.eq (g2 := F0 mi 4 ls []) rfl ?_
  refine lv_aload_n hx hb dX4_init_4 rfl (lv_at hl 0 rfl) ?_
  refine lv_iconst (v := 5) hx hb dX4_init_5 (by decide) ?_
  refine r_newa (atype := .int) hx hb (hts _ kArr_I) rfl 0 rfl (fun C h => by cases h) hE hP hD hS hA (a0 := (5, .inl (fun _ => 0))) (fun cA => rfl) (by decide) rfl (by decide) (Nat.le_of_ble_eq_true rfl) (Nat.le_of_ble_eq_true rfl) dX4_init_6 (fun q_6 H hP hD hS => ?_)
  have hP : va_P G.1 vwCl [(h0, .inr (4, [.null, .null, .null, .int 0])), eI G q_6 5 (fun _ => 0)] H := hP
  have hD : va_D A [(h0, .inr (4, [.null, .null, .null, .int 0])), eI G q_6 5 (fun _ => 0)] := hD
  refine va_putF (ci := 4) (v := .ref q_6) (ty := (.array .int)) (C := RX4) (T := TX4) (N := 4) hx hb hts hinX4 tyX4 tyX4_ok nmX4 hown hE.1 hP hD hS 0 rfl rfl 0 (by decide) (hts _ kFl_X4_9) (fun _ h9 => h9) rfl hin rfl (by decide +kernel) rfl rfl (Nat.le_of_ble_eq_true rfl) dX4_init_8 (fun H locs hP hD hS => ?_)
  have hP : va_P G.1 vwCl [(h0, .inr (4, [.ref q_6, .null, .null, .int 0])), eI G q_6 5 (fun _ => 0)] H := hP
  have hD : va_D A [(h0, .inr (4, [.ref q_6, .null, .null, .int 0])), eI G q_6 5 (fun _ => 0)] := hD
  refine lv_aload_n hx hb dX4_init_11 rfl (lv_at hl 0 rfl) ?_
  refine lv_iconst (v := 5) hx hb dX4_init_12 (by decide) ?_
  refine r_newa (atype := .int) hx hb (hts _ kArr_I) rfl 0 rfl (fun C h => by cases h) hE hP hD hS hA (a0 := (5, .inl (fun _ => 0))) (fun cA => rfl) (by decide) rfl (by decide) (Nat.le_of_ble_eq_true rfl) (Nat.le_of_ble_eq_true rfl) dX4_init_13 (fun q_13 H hP hD hS => ?_)
  have hP : va_P G.1 vwCl [(h0, .inr (4, [.ref q_6, .null, .null, .int 0])), eI G q_6 5 (fun _ => 0), eI G q_13 5 (fun _ => 0)] H := hP
  have hD : va_D A [(h0, .inr (4, [.ref q_6, .null, .null, .int 0])), eI G q_6 5 (fun _ => 0), eI G q_13 5 (fun _ => 0)] := hD
  refine va_putF (ci := 4) (v := .ref q_13) (ty := (.array .int)) (C := RX4) (T := TX4) (N := 4) hx hb hts hinX4 tyX4 tyX4_ok nmX4 hown hE.1 hP hD hS 0 rfl rfl 1 (by decide) (hts _ kFl_X4_15) (fun _ h9 => h9) rfl hin rfl (by decide +kernel) rfl rfl (Nat.le_of_ble_eq_true rfl) dX4_init_15 (fun H locs hP hD hS => ?_)
  have hP : va_P G.1 vwCl [(h0, .inr (4, [.ref q_6, .ref q_13, .null, .int 0])), eI G q_6 5 (fun _ => 0), eI G q_13 5 (fun _ => 0)] H := hP
  have hD : va_D A [(h0, .inr (4, [.ref q_6, .ref q_13, .null, .int 0])), eI G q_6 5 (fun _ => 0), eI G q_13 5 (fun _ => 0)] := hD
  refine lv_aload_n hx hb dX4_init_18 rfl (lv_at hl 0 rfl) ?_
  refine lv_iconst (v := 5) hx hb dX4_init_19 (by decide) ?_
  refine r_newa (atype := .int) hx hb (hts _ kArr_I) rfl 0 rfl (fun C h => by cases h) hE hP hD hS hA (a0 := (5, .inl (fun _ => 0))) (fun cA => rfl) (by decide) rfl (by decide) (Nat.le_of_ble_eq_true rfl) (Nat.le_of_ble_eq_true rfl) dX4_init_20 (fun q_20 H hP hD hS => ?_)
  have hP : va_P G.1 vwCl [(h0, .inr (4, [.ref q_6, .ref q_13, .null, .int 0])), eI G q_6 5 (fun _ => 0), eI G q_13 5 (fun _ => 0), eI G q_20 5 (fun _ => 0)] H := hP
  have hD : va_D A [(h0, .inr (4, [.ref q_6, .ref q_13, .null, .int 0])), eI G q_6 5 (fun _ => 0), eI G q_13 5 (fun _ => 0), eI G q_20 5 (fun _ => 0)] := hD
  refine va_putF (ci := 4) (v := .ref q_20) (ty := (.array .int)) (C := RX4) (T := TX4) (N := 4) hx hb hts hinX4 tyX4 tyX4_ok nmX4 hown hE.1 hP hD hS 0 rfl rfl 2 (by decide) (hts _ kFl_X4_18) (fun _ h9 => h9) rfl hin rfl (by decide +kernel) rfl rfl (Nat.le_of_ble_eq_true rfl) dX4_init_22 (fun H locs hP hD hS => ?_)
  have hP : va_P G.1 vwCl [(h0, .inr (4, [.ref q_6, .ref q_13, .ref q_20, .int 0])), eI G q_6 5 (fun _ => 0), eI G q_13 5 (fun _ => 0), eI G q_20 5 (fun _ => 0)] H := hP
  have hD : va_D A [(h0, .inr (4, [.ref q_6, .ref q_13, .ref q_20, .int 0])), eI G q_6 5 (fun _ => 0), eI G q_13 5 (fun _ => 0), eI G q_20 5 (fun _ => 0)] := hD
  refine lv_aload_n hx hb dX4_init_25 rfl (lv_at hl 0 rfl) ?_
  refine lv_iconst (v := 0) hx hb dX4_init_26 (by decide) ?_
  refine va_put (ci := 4) (v := .int 0) (ty := .int) (C := RX4) (T := TX4) (N := 4) hx hb hts hinX4 tyX4 tyX4_ok nmX4 hown hE.1 hP hD hS 0 rfl rfl 3 (by decide) (hts _ kFl_X4_21) (fun _ h9 => h9) rfl (by decide +kernel) rfl rfl (Nat.le_of_ble_eq_true rfl) dX4_init_27 (fun H locs hP hD hS => ?_)
  have hP : va_P G.1 vwCl [(h0, .inr (4, [.ref q_6, .ref q_13, .ref q_20, .int 0])), eI G q_6 5 (fun _ => 0), eI G q_13 5 (fun _ => 0), eI G q_20 5 (fun _ => 0)] H := hP
  have hD : va_D A [(h0, .inr (4, [.ref q_6, .ref q_13, .ref q_20, .int 0])), eI G q_6 5 (fun _ => 0), eI G q_13 5 (fun _ => 0), eI G q_20 5 (fun _ => 0)] := hD
  have hP9 := hP.sub (ws' := [(h0, .inr (4, [.ref q_6, .ref q_13, .ref q_20, .int 0])), eI G q_6 5 (fun _ => 0), eI G q_13 5 (fun _ => 0), eI G q_20 5 (fun _ => 0)]) [0, 1, 2, 3] rfl
  have hD9 := hD.sub (ws' := [(h0, .inr (4, [.ref q_6, .ref q_13, .ref q_20, .int 0])), eI G q_6 5 (fun _ => 0), eI G q_13 5 (fun _ => 0), eI G q_20 5 (fun _ => 0)]) [0, 1, 2, 3] (by decide) rfl
  exact W.vret hx hb hr (fun t_ ht_ hW_ => ⟨⟨(q_6, q_13, q_20), rfl, trivial, by rw [ht_]; exact hP9, hD9⟩, hS.F ht_⟩) hS.2.2 dX4_init_30
set_option maxHeartbeats 4000000 in
set_option maxRecDepth 100000 in
theorem c_X6_init (ln : Launch) (G : gT) (h0 : Nat) (sz : Nat)  : Met ln yX6_init (wA (.code yX6_init cX6_init 1 none)) ({ frames := 1, cells := 4, slots := 196, locals := 32 } : Room) (va_Pc [.ref h0] (rwB G [(h0, .inr (6, [.null, .null, .null, .null]))] sz)) (va_Qv (S := Nat × Nat × Nat × Nat) (fun (_ : Nat × Nat × Nat × Nat) => True) (fun u => wdB G (va_A [(h0, .inr (6, [.null, .null, .null, .null]))] sz) [(h0, .inr (6, [.ref u.1, .ref u.2.1, .ref u.2.2.1, .ref u.2.2.2])), eI G u.1 64 (fun _ => 0), eJ G u.2.1 64 (fun _ => 0), eJ G u.2.2.1 64 (fun _ => 0), eJ G u.2.2.2 4 (fun _ => 0)]) (va_A [(h0, .inr (6, [.null, .null, .null, .null]))] sz)) 4 196 (va_A [(h0, .inr (6, [.null, .null, .null, .null]))] sz) := by
  refine Met.ofW (cc := cX6_init) (maxL := 1) (ret := none) (by decide) rfl ?_
  intro pg ev s mi args below meth cd s₁ B hml hv
  obtain ⟨rfl, hsz, hP, hE, hD0, hT⟩ := hv
  have hx := B.exec
  have hb := B.bytes
  have hr := B.returns
  have hts0 := atoms_spec (ws := wA (.code yX6_init cX6_init 1 none)) B.pre
  have hts : ∀ w ∈ wsA, w.before _ s = true := fun w h => hts0 w (List.mem_cons_of_mem _ h)
  have hown : s.vm.findClass RX6 = some mi.cls := findClass_of_methodNamed B.named
  have hlocks := B.notSynchronized
  have hin : meth.name = "<init>" := (name_of_methodNamed B.named B.method).1
  subst hsz
  have hD := hD0.self (sz := s.heap.size)
  generalize hAe : va_A [(h0, .inr (6, [.null, .null, .null, .null]))] s.heap.size = A at hD hT ⊢
  have hA : ∀ q : Nat, s.heap.size ≤ q → A q := fun q h => by rw [← hAe]; exact Or.inr h
  have hS : va_S A s.heap s.heap [] := va_S.rf
  have hl := lv_entry ([.ref h0]) (n := 1) (Nat.le_of_ble_eq_true rfl)
  rw [lg_entry_eq]
  generalize (lg_sl ([.ref h0]) ++ List.replicate (1 - (lg_sl ([.ref h0])).length) Slot.unset).toArray = ls at hl ⊢
  have hl : lv_has ls 1 [(0, .ref h0)] := hl
  refine lv_aload_n hx hb dX6_init_0 rfl (lv_at hl 0 rfl) ?_
  refine W.objInit hx hb hown (hts _ kMl_X6_3) (hts _ kIm_bjectInit) (hts _ kCode_bjectInit) rfl (by rw [hml]; exact hl.1) rfl dX6_init_1 (Nat.le_of_ble_eq_true rfl) (Nat.le_of_ble_eq_true rfl) ?_
  refine W.eq (g2 := F0 mi 4 ls []) rfl ?_
  refine lv_aload_n hx hb dX6_init_4 rfl (lv_at hl 0 rfl) ?_
  refine lv_bipush (v := 64) hx hb dX6_init_5 (by decide) ?_
  refine r_newa (atype := .int) hx hb (hts _ kArr_I) rfl 0 rfl (fun C h => by cases h) hE hP hD hS hA (a0 := (64, .inl (fun _ => 0))) (fun cA => rfl) (by decide) rfl (by decide) (Nat.le_of_ble_eq_true rfl) (Nat.le_of_ble_eq_true rfl) dX6_init_7 (fun q_7 H hP hD hS => ?_)
  have hP : va_P G.1 vwCl [(h0, .inr (6, [.null, .null, .null, .null])), eI G q_7 64 (fun _ => 0)] H := hP
  have hD : va_D A [(h0, .inr (6, [.null, .null, .null, .null])), eI G q_7 64 (fun _ => 0)] := hD
  refine va_putF (ci := 6) (v := .ref q_7) (ty := (.array .int)) (C := RX6) (T := TX6) (N := 4) hx hb hts hinX6 tyX6 tyX6_ok nmX6 hown hE.1 hP hD hS 0 rfl rfl 0 (by decide) (hts _ kFl_X6_9) (fun _ h9 => h9) rfl hin rfl (by decide +kernel) rfl rfl (Nat.le_of_ble_eq_true rfl) dX6_init_9 (fun H locs hP hD hS => ?_)
  have hP : va_P G.1 vwCl [(h0, .inr (6, [.ref q_7, .null, .null, .null])), eI G q_7 64 (fun _ => 0)] H := hP
  have hD : va_D A [(h0, .inr (6, [.ref q_7, .null, .null, .null])), eI G q_7 64 (fun _ => 0)] := hD
  refine lv_aload_n hx hb dX6_init_12 rfl (lv_at hl 0 rfl) ?_
  refine lv_bipush (v := 64) hx hb dX6_init_13 (by decide) ?_
  refine r_newa (atype := .long) hx hb (hts _ kArr_J) rfl 1 rfl (fun C h => by cases h) hE hP hD hS hA (a0 := (64, .inr (.inl (fun _ => 0)))) (fun cA => rfl) (by decide) rfl (by decide) (Nat.le_of_ble_eq_true rfl) (Nat.le_of_ble_eq_true rfl) dX6_init_15 (fun q_15 H hP hD hS => ?_)
  have hP : va_P G.1 vwCl [(h0, .inr (6, [.ref q_7, .null, .null, .null])), eI G q_7 64 (fun _ => 0), eJ G q_15 64 (fun _ => 0)] H := hP
  have hD : va_D A [(h0, .inr (6, [.ref q_7, .null, .null, .null])), eI G q_7 64 (fun _ => 0), eJ G q_15 64 (fun _ => 0)] := hD
  refine va_putF (ci := 6) (v := .ref q_15) (ty := (.array .long)) (C := RX6) (T := TX6) (N := 4) hx hb hts hinX6 tyX6 tyX6_ok nmX6 hown hE.1 hP hD hS 0 rfl rfl 1 (by decide) (hts _ kFl_X6_15) (fun _ h9 => h9) rfl hin rfl (by decide +kernel) rfl rfl (Nat.le_of_ble_eq_true rfl) dX6_init_17 (fun H locs hP hD hS => ?_)
  have hP : va_P G.1 vwCl [(h0, .inr (6, [.ref q_7, .ref q_15, .null, .null])), eI G q_7 64 (fun _ => 0), eJ G q_15 64 (fun _ => 0)] H := hP
  have hD : va_D A [(h0, .inr (6, [.ref q_7, .ref q_15, .null, .null])), eI G q_7 64 (fun _ => 0), eJ G q_15 64 (fun _ => 0)] := hD
  refine lv_aload_n hx hb dX6_init_20 rfl (lv_at hl 0 rfl) ?_
  refine lv_bipush (v := 64) hx hb dX6_init_21 (by decide) ?_
  refine r_newa (atype := .long) hx hb (hts _ kArr_J) rfl 1 rfl (fun C h => by cases h) hE hP hD hS hA (a0 := (64, .inr (.inl (fun _ => 0)))) (fun cA => rfl) (by decide) rfl (by decide) (Nat.le_of_ble_eq_true rfl) (Nat.le_of_ble_eq_true rfl) dX6_init_23 (fun q_23 H hP hD hS => ?_)
  have hP : va_P G.1 vwCl [(h0, .inr (6, [.ref q_7, .ref q_15, .null, .null])), eI G q_7 64 (fun _ => 0), eJ G q_15 64 (fun _ => 0), eJ G q_23 64 (fun _ => 0)] H := hP
  have hD : va_D A [(h0, .inr (6, [.ref q_7, .ref q_15, .null, .null])), eI G q_7 64 (fun _ => 0), eJ G q_15 64 (fun _ => 0), eJ G q_23 64 (fun _ => 0)] := hD
  refine va_putF (ci := 6) (v := .ref q_23) (ty := (.array .long)) (C := RX6) (T := TX6) (N := 4) hx hb hts hinX6 tyX6 tyX6_ok nmX6 hown hE.1 hP hD hS 0 rfl rfl 2 (by decide) (hts _ kFl_X6_19) (fun _ h9 => h9) rfl hin rfl (by decide +kernel) rfl rfl (Nat.le_of_ble_eq_true rfl) dX6_init_25 (fun H locs hP hD hS => ?_)
  have hP : va_P G.1 vwCl [(h0, .inr (6, [.ref q_7, .ref q_15, .ref q_23, .null])), eI G q_7 64 (fun _ => 0), eJ G q_15 64 (fun _ => 0), eJ G q_23 64 (fun _ => 0)] H := hP
  have hD : va_D A [(h0, .inr (6, [.ref q_7, .ref q_15, .ref q_23, .null])), eI G q_7 64 (fun _ => 0), eJ G q_15 64 (fun _ => 0), eJ G q_23 64 (fun _ => 0)] := hD
  refine lv_aload_n hx hb dX6_init_28 rfl (lv_at hl 0 rfl) ?_
  refine lv_iconst (v := 4) hx hb dX6_init_29 (by decide) ?_
  refine r_newa (atype := .long) hx hb (hts _ kArr_J) rfl 1 rfl (fun C h => by cases h) hE hP hD hS hA (a0 := (4, .inr (.inl (fun _ => 0)))) (fun cA => rfl) (by decide) rfl (by decide) (Nat.le_of_ble_eq_true rfl) (Nat.le_of_ble_eq_true rfl) dX6_init_30 (fun q_30 H hP hD hS => ?_)
  have hP : va_P G.1 vwCl [(h0, .inr (6, [.ref q_7, .ref q_15, .ref q_23, .null])), eI G q_7 64 (fun _ => 0), eJ G q_15 64 (fun _ => 0), eJ G q_23 64 (fun _ => 0), eJ G q_30 4 (fun _ => 0)] H := hP
  have hD : va_D A [(h0, .inr (6, [.ref q_7, .ref q_15, .ref q_23, .null])), eI G q_7 64 (fun _ => 0), eJ G q_15 64 (fun _ => 0), eJ G q_23 64 (fun _ => 0), eJ G q_30 4 (fun _ => 0)] := hD
  refine va_putF (ci := 6) (v := .ref q_30) (ty := (.array .long)) (C := RX6) (T := TX6) (N := 4) hx hb hts hinX6 tyX6 tyX6_ok nmX6 hown hE.1 hP hD hS 0 rfl rfl 3 (by decide) (hts _ kFl_X6_22) (fun _ h9 => h9) rfl hin rfl (by decide +kernel) rfl rfl (Nat.le_of_ble_eq_true rfl) dX6_init_32 (fun H locs hP hD hS => ?_)
  have hP : va_P G.1 vwCl [(h0, .inr (6, [.ref q_7, .ref q_15, .ref q_23, .ref q_30])), eI G q_7 64 (fun _ => 0), eJ G q_15 64 (fun _ => 0), eJ G q_23 64 (fun _ => 0), eJ G q_30 4 (fun _ => 0)] H := hP
  have hD : va_D A [(h0, .inr (6, [.ref q_7, .ref q_15, .ref q_23, .ref q_30])), eI G q_7 64 (fun _ => 0), eJ G q_15 64 (fun _ => 0), eJ G q_23 64 (fun _ => 0), eJ G q_30 4 (fun _ => 0)] := hD
  have hP9 := hP.sub (ws' := [(h0, .inr (6, [.ref q_7, .ref q_15, .ref q_23, .ref q_30])), eI G q_7 64 (fun _ => 0), eJ G q_15 64 (fun _ => 0), eJ G q_23 64 (fun _ => 0), eJ G q_30 4 (fun _ => 0)]) [0, 1, 2, 3, 4] rfl
  have hD9 := hD.sub (ws' := [(h0, .inr (6, [.ref q_7, .ref q_15, .ref q_23, .ref q_30])), eI G q_7 64 (fun _ => 0), eJ G q_15 64 (fun _ => 0), eJ G q_23 64 (fun _ => 0), eJ G q_30 4 (fun _ => 0)]) [0, 1, 2, 3, 4] (by decide) rfl
  exact W.vret hx hb hr (fun t_ ht_ hW_ => ⟨⟨(q_7, q_15, q_23, q_30), rfl, trivial, by rw [ht_]; exact hP9, hD9⟩, hS.F ht_⟩) hS.2.2 dX6_init_35
