set_option maxHeartbeats 4000000 in
set_option maxRecDepth 100000 in
theorem c_X4_costOf (ln : Launch) (G : gT) (h0 : Nat) (ac : Nat) (ago : Nat) (apr : Nat) (no : Nat) (pr : Nat → Int32) (chn : Nat) (hno : no ≤ 5) (hch : chn < 32) : Met ln yX4_costOf (wA (.code yX4_costOf cX4_costOf 4 (some .int))) ({ frames := 1, cells := 0, slots := 0, locals := 22 } : Room) (va_Pc [.ref h0, .int (nI chn)] (roB G [(h0, .inr (4, [.ref ac, .ref ago, .ref apr, .int (nI no)])), eI G apr 5 pr])) (vp_Si (fun r => r = coL pr chn no)) 0 0 (fun _ => False) := by
  refine Met.ofW (cc := cX4_costOf) (maxL := 4) (ret := (some .int)) (by decide) rfl ?_
  intro pg ev s mi args below meth cd s₁ B hml hv
  obtain ⟨rfl, hP, hE, hT⟩ := hv
  have hx := B.exec
  have hb := B.bytes
  have hr := B.returns
  have hts0 := atoms_spec (ws := wA (.code yX4_costOf cX4_costOf 4 (some .int))) B.pre
  have hts : ∀ w ∈ wsA, w.before _ s = true := fun w h => hts0 w (List.mem_cons_of_mem _ h)
  have hown : s.vm.findClass RX4 = some mi.cls := findClass_of_methodNamed B.named
  have hlocks := B.notSynchronized
  have hS : va_S (fun _ => False) s.heap s.heap [] := va_S.rf
  have hl := lv_entry ([.ref h0, .int (nI chn)]) (n := 4) (Nat.le_of_ble_eq_true rfl)
  rw [lg_entry_eq]
  generalize (lg_sl ([.ref h0, .int (nI chn)]) ++ List.replicate (4 - (lg_sl ([.ref h0, .int (nI chn)])).length) Slot.unset).toArray = ls at hl ⊢
  have hl : lv_has ls 4 [(0, .ref h0), (1, .int (nI chn))] := hl
  refine lv_iconst (v := 0) hx hb dX4_costOf_0 (by decide) ?_
  refine lv_istore_n (lv' := [(2, .int 0), (0, .ref h0), (1, .int (nI chn))]) hx hb dX4_costOf_1 rfl hl (by decide) rfl (fun ls hl => ?_)
  refine lv_iconst (v := 0) hx hb dX4_costOf_2 (by decide) ?_
  refine lv_istore_n (lv' := [(3, .int 0), (2, .int 0), (0, .ref h0), (1, .int (nI chn))]) hx hb dX4_costOf_3 rfl hl (by decide) rfl (fun ls hl => ?_)
  have J_4 : ∀ (n_ : Nat), ∀ (j : Nat), (j ≤ no) → (6 ≤ j + n_) → ∀ (ls : Array Slot), lv_has ls 4 [(3, .int (nI j)), (2, .int (coL pr chn j)), (0, .ref h0), (1, .int (nI chn))] → W pg ln ev ({ frames := 1, cells := 0, slots := 0, locals := 22 } : Room) s mi ([.ref h0, .int (nI chn)] : List Value).toArray below meth cd s.heap [] 0 0 (MQ below (vp_Si (fun r => r = coL pr chn no)) ([.ref h0, .int (nI chn)] : List Value).toArray s 0 0 (fun _ => False)) (F0 mi 4 ls []) := by
    intro n_
    induction n_ with
    | zero =>
      intro j hj hfj ls hl
      exact absurd hfj (by omega)
    | succ n_ ih_4 =>
      intro j hj hfj ls hl
      refine lv_iload_n hx hb dX4_costOf_4 rfl (lv_at hl 0 rfl) ?_
      refine lv_aload_n hx hb dX4_costOf_5 rfl (lv_at hl 2 rfl) ?_
      refine va_get (ci := 4) (C := RX4) (T := TX4) (N := 4) hx hb hts hinX4 hown hE.1 hP 0 rfl rfl 3 (by decide) (hts _ kFl_X4_21) (fun _ h9 => h9) rfl dX4_costOf_6 ?_
      refine lv_icmp_ge (tgt := 36) hx hb dX4_costOf_9 (by decide) (fun c_9 => ?_) (fun c_9 => ?_)
      · skip
        have e_hlt : j = no := by
          rcases Nat.lt_or_ge j no with q | q
          · exact absurd (show nI no ≤ nI j from c_9) (nI_ge q (by omega))
          · omega
        refine lv_iload_n hx hb dX4_costOf_36 rfl (lv_at hl 1 rfl) ?_
        exact W.iret (v := coL pr chn j) hx hb hr (fun t ht hW => ⟨coL pr chn j, rfl, by rw [e_hlt], ht⟩) hS.2.2 dX4_costOf_37
      · skip
        have hlt : j < no := by
          rcases Nat.lt_or_ge j no with q | q
          · exact q
          · exact absurd (show _ ≤ nI j from (nI_le (a := no) (b := j) q (by omega))) c_9
        refine lv_iload_n hx hb dX4_costOf_12 rfl (lv_at hl 3 rfl) ?_
        refine lv_i2l hx hb dX4_costOf_13 rfl ?_
        refine lv_iload_n hx hb dX4_costOf_14 rfl (lv_at hl 0 rfl) ?_
        refine ca_Si (val := b2i (hbB ((nI chn).toInt64) (nI j))) (va_runSN (As := [.long ((nI chn).toInt64), .int (nI j)]) (rest := []) ⟨hx, hb, hml, hown, hts⟩ (c_X7_hasBit ln ((nI chn).toInt64) (nI j) ) ⟨va_cnB 2 hts (gA kCode_X7_hasBit) rfl rfl rfl (nM_X4_25 hE.2) (hts _ kIni_X7) hd_X7_hasBit ⟨Nat.le_of_ble_eq_true rfl, Nat.le_of_ble_eq_true rfl⟩, hts _ kSt_X7_hasBit, trivial⟩ ⟨pu_blind, pu_pre⟩ rfl rfl hl.1 rfl (lv_room (Nat.le_of_ble_eq_true rfl)) dX4_costOf_15 ⟨Nat.zero_le _, Nat.zero_le _⟩) ?_
        rw [show (b2i (hbB ((nI chn).toInt64) (nI j))) = (b2i (chn.testBit j)) from by rw [bit_h chn hch j (by omega)]]
        refine lv_if_eq (tgt := 30) hx hb dX4_costOf_18 (by decide) (fun c_18 => ?_) (fun c_18 => ?_)
        · skip
          have c_18 := b2i_z c_18
          refine lv_iinc (v := nI (j + 1)) (lv' := [(3, .int (nI (j + 1))), (2, .int (coL pr chn j)), (0, .ref h0), (1, .int (nI chn))]) hx hb dX4_costOf_30 hl (k := 0) rfl (nI_1 _) (by decide) rfl (fun ls hl => ?_)
          refine lv_goto (tgt := 4) hx hb dX4_costOf_33 (by decide) ?_
          have q9_1 : (coL pr chn j) = (coL pr chn (j + 1)) := by simp only [coL]; simp [c_18]
          exact ih_4 (j + 1) (by omega) (by omega) ls (lv_cast (lv_sub hl [0, 1, 2, 3] rfl) (lcons rfl (lcons (congrArg (fun z => (2, Value.int z)) q9_1) (lcons rfl (lcons rfl rfl)))))
        · skip
          have c_18 := b2i_n c_18
          refine lv_iload_n hx hb dX4_costOf_21 rfl (lv_at hl 1 rfl) ?_
          refine lv_aload_n hx hb dX4_costOf_22 rfl (lv_at hl 2 rfl) ?_
          refine va_get (ci := 4) (C := RX4) (T := TX4) (N := 4) hx hb hts hinX4 hown hE.1 hP 0 rfl rfl 2 (by decide) (hts _ kFl_X4_18) (fun _ h9 => h9) rfl dX4_costOf_23 ?_
          refine lv_iload_n hx hb dX4_costOf_26 rfl (lv_at hl 0 rfl) ?_
          refine ri_ald (j := j) hx hb hE hP 1 rfl (nI_clamp (by omega)) (vp_in_nI (by omega) (by omega)) dX4_costOf_27 ?_
          refine lv_iadd hx hb dX4_costOf_28 ?_
          refine lv_istore_n (lv' := [(2, .int ((coL pr chn j) + (pr j))), (3, .int (nI j)), (0, .ref h0), (1, .int (nI chn))]) hx hb dX4_costOf_29 rfl hl (by decide) rfl (fun ls hl => ?_)
          refine lv_iinc (v := nI (j + 1)) (lv' := [(3, .int (nI (j + 1))), (2, .int ((coL pr chn j) + (pr j))), (0, .ref h0), (1, .int (nI chn))]) hx hb dX4_costOf_30 hl (k := 1) rfl (nI_1 _) (by decide) rfl (fun ls hl => ?_)
          refine lv_goto (tgt := 4) hx hb dX4_costOf_33 (by decide) ?_
          have q9_2 : ((coL pr chn j) + (pr j)) = (coL pr chn (j + 1)) := by simp only [coL]; simp [c_18]
          exact ih_4 (j + 1) (by omega) (by omega) ls (lv_cast (lv_sub hl [0, 1, 2, 3] rfl) (lcons rfl (lcons (congrArg (fun z => (2, Value.int z)) q9_2) (lcons rfl (lcons rfl rfl)))))
  have q9_3 : 0 = (nI 0) := rfl
  have q9_4 : 0 = (coL pr chn 0) := rfl
  exact J_4 6 0 (by omega) (by omega) ls (lv_cast (lv_sub hl [0, 1, 2, 3] rfl) (lcons (congrArg (fun z => (3, Value.int z)) q9_3) (lcons (congrArg (fun z => (2, Value.int z)) q9_4) (lcons rfl (lcons rfl rfl)))))
set_option maxHeartbeats 4000000 in
set_option maxRecDepth 100000 in
theorem c_X4_isChoice (ln : Launch) (G : gT) (h0 : Nat) (ac : Nat) (ago : Nat) (apr : Nat) (no : Nat) (pl : Nat) (ak : Nat) (ag : Nat) (bl : Int64) (cf : Nat → Int32) (kf : Nat → Int32) (chn : Nat) (hno : no ≤ 5) (hch : chn < 32) (hcf : ∀ q, q < no → vp_in (cf q) 64) : Met ln yX4_isChoice (wA (.code yX4_isChoice cX4_isChoice 6 (some .boolean))) ({ frames := 1, cells := 0, slots := 0, locals := 22 } : Room) (va_Pc [.ref h0, .ref pl, .int (nI chn)] (roB G [(h0, .inr (4, [.ref ac, .ref ago, .ref apr, .int (nI no)])), eI G ac 5 cf, (pl, .inr (5, [.ref ak, .ref ag, .long bl])), eI G ak 64 kf])) (vp_Si (fun r => r = b2i (icB kf cf chn no))) 0 0 (fun _ => False) := by
  refine Met.ofW (cc := cX4_isChoice) (maxL := 6) (ret := (some .boolean)) (by decide) rfl ?_
  intro pg ev s mi args below meth cd s₁ B hml hv
  obtain ⟨rfl, hP, hE, hT⟩ := hv
  have hx := B.exec
  have hb := B.bytes
  have hr := B.returns
  have hts0 := atoms_spec (ws := wA (.code yX4_isChoice cX4_isChoice 6 (some .boolean))) B.pre
  have hts : ∀ w ∈ wsA, w.before _ s = true := fun w h => hts0 w (List.mem_cons_of_mem _ h)
  have hown : s.vm.findClass RX4 = some mi.cls := findClass_of_methodNamed B.named
  have hlocks := B.notSynchronized
  have hS : va_S (fun _ => False) s.heap s.heap [] := va_S.rf
  have hl := lv_entry ([.ref h0, .ref pl, .int (nI chn)]) (n := 6) (Nat.le_of_ble_eq_true rfl)
  rw [lg_entry_eq]
  generalize (lg_sl ([.ref h0, .ref pl, .int (nI chn)]) ++ List.replicate (6 - (lg_sl ([.ref h0, .ref pl, .int (nI chn)])).length) Slot.unset).toArray = ls at hl ⊢
  have hl : lv_has ls 6 [(0, .ref h0), (1, .ref pl), (2, .int (nI chn))] := hl
  refine lv_lconst (v := 0) hx hb dX4_isChoice_0 (by decide) ?_
  refine lv_lstore_n (lv' := [(3, .long (0 : Int64)), (0, .ref h0), (1, .ref pl), (2, .int (nI chn))]) hx hb dX4_isChoice_1 rfl hl (by decide) rfl (fun ls hl => ?_)
  refine lv_iconst (v := 0) hx hb dX4_isChoice_2 (by decide) ?_
  refine lv_istore (lv' := [(5, .int 0), (3, .long (0 : Int64)), (0, .ref h0), (1, .ref pl), (2, .int (nI chn))]) hx hb dX4_isChoice_3 hl (by decide) rfl (fun ls hl => ?_)
  have J_5 : ∀ (n_ : Nat), ∀ (j : Nat), (j ≤ no) → (6 ≤ j + n_) → (icB kf cf chn j = true) → ∀ (ls : Array Slot), lv_has ls 6 [(5, .int (nI j)), (3, .long (icT cf chn j)), (0, .ref h0), (1, .ref pl), (2, .int (nI chn))] → W pg ln ev ({ frames := 1, cells := 0, slots := 0, locals := 22 } : Room) s mi ([.ref h0, .ref pl, .int (nI chn)] : List Value).toArray below meth cd s.heap [] 0 0 (MQ below (vp_Si (fun r => r = b2i (icB kf cf chn no))) ([.ref h0, .ref pl, .int (nI chn)] : List Value).toArray s 0 0 (fun _ => False)) (F0 mi 5 ls []) := by
    intro n_
    induction n_ with
    | zero =>
      intro j hj hfj hic ls hl
      exact absurd hfj (by omega)
    | succ n_ ih_5 =>
      intro j hj hfj hic ls hl
      refine lv_iload hx hb dX4_isChoice_5 (lv_at hl 0 rfl) ?_
      refine lv_aload_n hx hb dX4_isChoice_7 rfl (lv_at hl 2 rfl) ?_
      refine va_get (ci := 4) (C := RX4) (T := TX4) (N := 4) hx hb hts hinX4 hown hE.1 hP 0 rfl rfl 3 (by decide) (hts _ kFl_X4_21) (fun _ h9 => h9) rfl dX4_isChoice_8 ?_
      refine lv_icmp_ge (tgt := 74) hx hb dX4_isChoice_11 (by decide) (fun c_11 => ?_) (fun c_11 => ?_)
      · skip
        have e_hlt : j = no := by
          rcases Nat.lt_or_ge j no with q | q
          · exact absurd (show nI no ≤ nI j from c_11) (nI_ge q (by omega))
          · omega
        refine lv_iconst (v := 1) hx hb dX4_isChoice_74 (by decide) ?_
        exact W.zret (v := 1) hx hb hr rfl (fun t ht hW => ⟨1, rfl, by rw [← e_hlt, hic]; rfl, ht⟩) hS.2.2 dX4_isChoice_75
      · skip
        have hlt : j < no := by
          rcases Nat.lt_or_ge j no with q | q
          · exact q
          · exact absurd (show _ ≤ nI j from (nI_le (a := no) (b := j) q (by omega))) c_11
        refine lv_iload_n hx hb dX4_isChoice_14 rfl (lv_at hl 4 rfl) ?_
        refine lv_i2l hx hb dX4_isChoice_15 rfl ?_
        refine lv_iload hx hb dX4_isChoice_16 (lv_at hl 0 rfl) ?_
        refine ca_Si (val := b2i (hbB ((nI chn).toInt64) (nI j))) (va_runSN (As := [.long ((nI chn).toInt64), .int (nI j)]) (rest := []) ⟨hx, hb, hml, hown, hts⟩ (c_X7_hasBit ln ((nI chn).toInt64) (nI j) ) ⟨va_cnB 2 hts (gA kCode_X7_hasBit) rfl rfl rfl (nM_X4_25 hE.2) (hts _ kIni_X7) hd_X7_hasBit ⟨Nat.le_of_ble_eq_true rfl, Nat.le_of_ble_eq_true rfl⟩, hts _ kSt_X7_hasBit, trivial⟩ ⟨pu_blind, pu_pre⟩ rfl rfl hl.1 rfl (lv_room (Nat.le_of_ble_eq_true rfl)) dX4_isChoice_18 ⟨Nat.zero_le _, Nat.zero_le _⟩) ?_
        rw [show (b2i (hbB ((nI chn).toInt64) (nI j))) = (b2i (chn.testBit j)) from by rw [bit_h chn hch j (by omega)]]
        refine lv_if_eq (tgt := 68) hx hb dX4_isChoice_21 (by decide) (fun c_21 => ?_) (fun c_21 => ?_)
        · skip
          have c_21 := b2i_z c_21
          refine lv_iinc (v := nI (j + 1)) (lv' := [(5, .int (nI (j + 1))), (3, .long (icT cf chn j)), (0, .ref h0), (1, .ref pl), (2, .int (nI chn))]) hx hb dX4_isChoice_68 hl (k := 0) rfl (nI_1 _) (by decide) rfl (fun ls hl => ?_)
          refine lv_goto (tgt := 5) hx hb dX4_isChoice_71 (by decide) ?_
          have q9_1 : (icT cf chn j) = (icT cf chn (j + 1)) := by simp only [icT]; simp [c_21]
          exact ih_5 (j + 1) (by omega) (by omega) (by simp [icB, hic, c_11, c_21]) ls (lv_cast (lv_sub hl [0, 1, 2, 3, 4] rfl) (lcons rfl (lcons (congrArg (fun z => (3, Value.long z)) q9_1) (lcons rfl (lcons rfl (lcons rfl rfl))))))
        · skip
          have c_21 := b2i_n c_21
          refine lv_aload_n hx hb dX4_isChoice_24 rfl (lv_at hl 3 rfl) ?_
          refine va_getN (ci := 5) (C := RX5) (T := TX5) (N := 3) hx hb hts hinX5 hown hE.1 hP 2 rfl rfl 0 (by decide) (nF_X4_29 hE.2) (fun _ h9 => h9) rfl dX4_isChoice_25 ?_
          refine lv_aload_n hx hb dX4_isChoice_28 rfl (lv_at hl 2 rfl) ?_
          refine va_get (ci := 4) (C := RX4) (T := TX4) (N := 4) hx hb hts hinX4 hown hE.1 hP 0 rfl rfl 0 (by decide) (hts _ kFl_X4_9) (fun _ h9 => h9) rfl dX4_isChoice_29 ?_
          refine lv_iload hx hb dX4_isChoice_32 (lv_at hl 0 rfl) ?_
          refine ri_ald (j := j) hx hb hE hP 1 rfl (nI_clamp (by omega)) (vp_in_nI (by omega) (by omega)) dX4_isChoice_34 ?_
          refine ri_ald (j := (cf j).toNatClampNeg) hx hb hE hP 3 rfl rfl (hcf j hlt) dX4_isChoice_35 ?_
          refine lv_iconst (v := 1) hx hb dX4_isChoice_36 (by decide) ?_
          refine lv_icmp_ne (tgt := 54) hx hb dX4_isChoice_37 (by decide) (fun c_37 => ?_) (fun c_37 => ?_)
          · skip
            refine lv_iconst (v := 0) hx hb dX4_isChoice_54 (by decide) ?_
            exact W.zret (v := 0) hx hb hr rfl (fun t ht hW => ⟨0, rfl, by rw [icB_dn (j := j) (by simp [icB, c_11, c_21, c_37]) no (by omega)]; rfl, ht⟩) hS.2.2 dX4_isChoice_55
          · skip
            refine lv_lload_n hx hb dX4_isChoice_40 rfl (lv_at hl 1 rfl) ?_
            refine lv_aload_n hx hb dX4_isChoice_41 rfl (lv_at hl 2 rfl) ?_
            refine va_get (ci := 4) (C := RX4) (T := TX4) (N := 4) hx hb hts hinX4 hown hE.1 hP 0 rfl rfl 0 (by decide) (hts _ kFl_X4_9) (fun _ h9 => h9) rfl dX4_isChoice_42 ?_
            refine lv_iload hx hb dX4_isChoice_45 (lv_at hl 0 rfl) ?_
            refine ri_ald (j := j) hx hb hE hP 1 rfl (nI_clamp (by omega)) (vp_in_nI (by omega) (by omega)) dX4_isChoice_47 ?_
            refine ca_Si (val := b2i (hbB (icT cf chn j) (cf j))) (va_runSN (As := [.long (icT cf chn j), .int (cf j)]) (rest := []) ⟨hx, hb, hml, hown, hts⟩ (c_X7_hasBit ln (icT cf chn j) (cf j) ) ⟨va_cnB 2 hts (gA kCode_X7_hasBit) rfl rfl rfl (nM_X4_25 hE.2) (hts _ kIni_X7) hd_X7_hasBit ⟨Nat.le_of_ble_eq_true rfl, Nat.le_of_ble_eq_true rfl⟩, hts _ kSt_X7_hasBit, trivial⟩ ⟨pu_blind, pu_pre⟩ rfl rfl hl.1 rfl (lv_room (Nat.le_of_ble_eq_true rfl)) dX4_isChoice_48 ⟨Nat.zero_le _, Nat.zero_le _⟩) ?_
            refine lv_if_eq (tgt := 56) hx hb dX4_isChoice_51 (by decide) (fun c_51 => ?_) (fun c_51 => ?_)
            · skip
              have c_51 := b2i_z c_51
              refine lv_lload_n hx hb dX4_isChoice_56 rfl (lv_at hl 1 rfl) ?_
              refine lv_lconst (v := 1) hx hb dX4_isChoice_57 (by decide) ?_
              refine lv_aload_n hx hb dX4_isChoice_58 rfl (lv_at hl 2 rfl) ?_
              refine va_get (ci := 4) (C := RX4) (T := TX4) (N := 4) hx hb hts hinX4 hown hE.1 hP 0 rfl rfl 0 (by decide) (hts _ kFl_X4_9) (fun _ h9 => h9) rfl dX4_isChoice_59 ?_
              refine lv_iload hx hb dX4_isChoice_62 (lv_at hl 0 rfl) ?_
              refine ri_ald (j := j) hx hb hE hP 1 rfl (nI_clamp (by omega)) (vp_in_nI (by omega) (by omega)) dX4_isChoice_64 ?_
              refine lv_lshl hx hb dX4_isChoice_65 rfl ?_
              refine lv_lor hx hb dX4_isChoice_66 ?_
              refine lv_lstore_n (lv' := [(3, .long ((icT cf chn j) ||| ((1 : Int64) <<< ((cf j).toInt64 &&& 63)))), (5, .int (nI j)), (0, .ref h0), (1, .ref pl), (2, .int (nI chn))]) hx hb dX4_isChoice_67 rfl hl (by decide) rfl (fun ls hl => ?_)
              refine lv_iinc (v := nI (j + 1)) (lv' := [(5, .int (nI (j + 1))), (3, .long ((icT cf chn j) ||| ((1 : Int64) <<< ((cf j).toInt64 &&& 63)))), (0, .ref h0), (1, .ref pl), (2, .int (nI chn))]) hx hb dX4_isChoice_68 hl (k := 1) rfl (nI_1 _) (by decide) rfl (fun ls hl => ?_)
              refine lv_goto (tgt := 5) hx hb dX4_isChoice_71 (by decide) ?_
              have q9_2 : ((icT cf chn j) ||| ((1 : Int64) <<< ((cf j).toInt64 &&& 63))) = (icT cf chn (j + 1)) := by simp only [icT]; simp [c_21]
              exact ih_5 (j + 1) (by omega) (by omega) (by simp [icB, hic, c_11, c_21, c_37, c_51]) ls (lv_cast (lv_sub hl [0, 1, 2, 3, 4] rfl) (lcons rfl (lcons (congrArg (fun z => (3, Value.long z)) q9_2) (lcons rfl (lcons rfl (lcons rfl rfl))))))
            · skip
              have c_51 := b2i_n c_51
              refine lv_iconst (v := 0) hx hb dX4_isChoice_54 (by decide) ?_
              exact W.zret (v := 0) hx hb hr rfl (fun t ht hW => ⟨0, rfl, by rw [icB_dn (j := j) (by simp [icB, c_11, c_21, c_37, c_51]) no (by omega)]; rfl, ht⟩) hS.2.2 dX4_isChoice_55
  have q9_3 : 0 = (nI 0) := rfl
  have q9_4 : (0 : Int64) = (icT cf chn 0) := rfl
  exact J_5 6 0 (by omega) (by omega) rfl ls (lv_cast (lv_sub hl [0, 1, 2, 3, 4] rfl) (lcons (congrArg (fun z => (5, Value.int z)) q9_3) (lcons (congrArg (fun z => (3, Value.long z)) q9_4) (lcons rfl (lcons rfl (lcons rfl rfl))))))
set_option maxHeartbeats 4000000 in
set_option maxRecDepth 100000 in
theorem c_X4_openIn (ln : Launch) (G : gT) (h0 : Nat) (ac : Nat) (ago : Nat) (apr : Nat) (no : Nat) (pl : Nat) (ak : Nat) (ag : Nat) (bl : Int64) (cf : Nat → Int32) (og : Nat → Int32) (kf : Nat → Int32) (gf : Nat → Int32) (chn : Nat) (sz : Nat) (hno : no ≤ 5) (hch : chn < 32) (hcf : ∀ q, q < no → vp_in (cf q) 64) : Met ln yX4_openIn (wA (.code yX4_openIn cX4_openIn 4 none)) ({ frames := 1, cells := 0, slots := 0, locals := 27 } : Room) (va_Pc [.ref h0, .ref pl, .int (nI chn)] (rwB G [(h0, .inr (4, [.ref ac, .ref ago, .ref apr, .int (nI no)])), eI G ac 5 cf, eI G ago 5 og, (pl, .inr (5, [.ref ak, .ref ag, .long bl])), eI G ak 64 kf, eI G ag 64 gf] sz)) (va_Qv (S := Unit) (fun (_ : Unit) => True) (fun u => wdB G (va_A [(h0, .inr (4, [.ref ac, .ref ago, .ref apr, .int (nI no)])), eI G ac 5 cf, eI G ago 5 og, (pl, .inr (5, [.ref ak, .ref ag, .long bl])), eI G ak 64 kf, eI G ag 64 gf] sz) [(h0, .inr (4, [.ref ac, .ref ago, .ref apr, .int (nI no)])), eI G ac 5 cf, eI G ago 5 og, (pl, .inr (5, [.ref ak, .ref ag, .long (opB cf chn bl no)])), eI G ak 64 (opF cf chn (fun _ => 2) kf no), eI G ag 64 (opF cf chn og gf no)]) (va_A [(h0, .inr (4, [.ref ac, .ref ago, .ref apr, .int (nI no)])), eI G ac 5 cf, eI G ago 5 og, (pl, .inr (5, [.ref ak, .ref ag, .long bl])), eI G ak 64 kf, eI G ag 64 gf] sz)) 0 0 (va_A [(h0, .inr (4, [.ref ac, .ref ago, .ref apr, .int (nI no)])), eI G ac 5 cf, eI G ago 5 og, (pl, .inr (5, [.ref ak, .ref ag, .long bl])), eI G ak 64 kf, eI G ag 64 gf] sz) := by
  refine Met.ofW (cc := cX4_openIn) (maxL := 4) (ret := none) (by decide) rfl ?_
  intro pg ev s mi args below meth cd s₁ B hml hv
  obtain ⟨rfl, hsz, hP, hE, hD0, hT⟩ := hv
  have hx := B.exec
  have hb := B.bytes
  have hr := B.returns
  have hts0 := atoms_spec (ws := wA (.code yX4_openIn cX4_openIn 4 none)) B.pre
  have hts : ∀ w ∈ wsA, w.before _ s = true := fun w h => hts0 w (List.mem_cons_of_mem _ h)
  have hown : s.vm.findClass RX4 = some mi.cls := findClass_of_methodNamed B.named
  have hlocks := B.notSynchronized
  subst hsz
  have hD := hD0.self (sz := s.heap.size)
  generalize hAe : va_A [(h0, .inr (4, [.ref ac, .ref ago, .ref apr, .int (nI no)])), eI G ac 5 cf, eI G ago 5 og, (pl, .inr (5, [.ref ak, .ref ag, .long bl])), eI G ak 64 kf, eI G ag 64 gf] s.heap.size = A at hD hT ⊢
  have hA : ∀ q : Nat, s.heap.size ≤ q → A q := fun q h => by rw [← hAe]; exact Or.inr h
  have hS : va_S A s.heap s.heap [] := va_S.rf
  have hl := lv_entry ([.ref h0, .ref pl, .int (nI chn)]) (n := 4) (Nat.le_of_ble_eq_true rfl)
  rw [lg_entry_eq]
  generalize (lg_sl ([.ref h0, .ref pl, .int (nI chn)]) ++ List.replicate (4 - (lg_sl ([.ref h0, .ref pl, .int (nI chn)])).length) Slot.unset).toArray = ls at hl ⊢
  have hl : lv_has ls 4 [(0, .ref h0), (1, .ref pl), (2, .int (nI chn))] := hl
  refine lv_iconst (v := 0) hx hb dX4_openIn_0 (by decide) ?_
  refine lv_istore_n (lv' := [(3, .int 0), (0, .ref h0), (1, .ref pl), (2, .int (nI chn))]) hx hb dX4_openIn_1 rfl hl (by decide) rfl (fun ls hl => ?_)
  have J_2 : ∀ (n_ : Nat), ∀ (j : Nat), (j ≤ no) → (6 ≤ j + n_) → ∀ (H : Heap) (locs : List Loc), va_P G.1 vwCl [(h0, .inr (4, [.ref ac, .ref ago, .ref apr, .int (nI no)])), eI G ac 5 cf, eI G ago 5 og, (pl, .inr (5, [.ref ak, .ref ag, .long (opB cf chn bl j)])), eI G ak 64 (opF cf chn (fun _ => 2) kf j), eI G ag 64 (opF cf chn og gf j)] H → va_D A [(h0, .inr (4, [.ref ac, .ref ago, .ref apr, .int (nI no)])), eI G ac 5 cf, eI G ago 5 og, (pl, .inr (5, [.ref ak, .ref ag, .long (opB cf chn bl j)])), eI G ak 64 (opF cf chn (fun _ => 2) kf j), eI G ag 64 (opF cf chn og gf j)] → va_S A s.heap H locs → ∀ (ls : Array Slot), lv_has ls 4 [(3, .int (nI j)), (0, .ref h0), (1, .ref pl), (2, .int (nI chn))] → W pg ln ev ({ frames := 1, cells := 0, slots := 0, locals := 27 } : Room) s mi ([.ref h0, .ref pl, .int (nI chn)] : List Value).toArray below meth cd H locs 0 0 (MQ below (va_Qv (S := Unit) (fun (_ : Unit) => True) (fun u => wdB G A [(h0, .inr (4, [.ref ac, .ref ago, .ref apr, .int (nI no)])), eI G ac 5 cf, eI G ago 5 og, (pl, .inr (5, [.ref ak, .ref ag, .long (opB cf chn bl no)])), eI G ak 64 (opF cf chn (fun _ => 2) kf no), eI G ag 64 (opF cf chn og gf no)]) A) ([.ref h0, .ref pl, .int (nI chn)] : List Value).toArray s 0 0 A) (F0 mi 2 ls []) := by
    intro n_
    induction n_ with
    | zero =>
      intro j hj hfj H locs hP hD hS ls hl
      exact absurd hfj (by omega)
    | succ n_ ih_2 =>
      intro j hj hfj H locs hP hD hS ls hl
      refine lv_iload_n hx hb dX4_openIn_2 rfl (lv_at hl 0 rfl) ?_
      refine lv_aload_n hx hb dX4_openIn_3 rfl (lv_at hl 1 rfl) ?_
      refine va_get (ci := 4) (C := RX4) (T := TX4) (N := 4) hx hb hts hinX4 hown hE.1 hP 0 rfl rfl 3 (by decide) (hts _ kFl_X4_21) (fun _ h9 => h9) rfl dX4_openIn_4 ?_
      refine lv_icmp_ge (tgt := 44) hx hb dX4_openIn_7 (by decide) (fun c_7 => ?_) (fun c_7 => ?_)
      · skip
        have e_hlt : j = no := by
          rcases Nat.lt_or_ge j no with q | q
          · exact absurd (show nI no ≤ nI j from c_7) (nI_ge q (by omega))
          · omega
        have hP9 := hP.sub (ws' := [(h0, .inr (4, [.ref ac, .ref ago, .ref apr, .int (nI no)])), eI G ac 5 cf, eI G ago 5 og, (pl, .inr (5, [.ref ak, .ref ag, .long (opB cf chn bl j)])), eI G ak 64 (opF cf chn (fun _ => 2) kf j), eI G ag 64 (opF cf chn og gf j)]) [0, 1, 2, 3, 4, 5] rfl
        have hD9 := hD.sub (ws' := [(h0, .inr (4, [.ref ac, .ref ago, .ref apr, .int (nI no)])), eI G ac 5 cf, eI G ago 5 og, (pl, .inr (5, [.ref ak, .ref ag, .long (opB cf chn bl j)])), eI G ak 64 (opF cf chn (fun _ => 2) kf j), eI G ag 64 (opF cf chn og gf j)]) [0, 1, 2, 3, 4, 5] (by decide) rfl
        have q9_1 : (opB cf chn bl j) = (opB cf chn bl no) := by rw [e_hlt]
        have q9_2 : (opF cf chn (fun _ => 2) kf j) = (opF cf chn (fun _ => 2) kf no) := by rw [e_hlt]
        have q9_3 : (opF cf chn og gf j) = (opF cf chn og gf no) := by rw [e_hlt]
        have cw9 : ([(h0, .inr (4, [.ref ac, .ref ago, .ref apr, .int (nI no)])), eI G ac 5 cf, eI G ago 5 og, (pl, .inr (5, [.ref ak, .ref ag, .long (opB cf chn bl j)])), eI G ak 64 (opF cf chn (fun _ => 2) kf j), eI G ag 64 (opF cf chn og gf j)] : va_W) = [(h0, .inr (4, [.ref ac, .ref ago, .ref apr, .int (nI no)])), eI G ac 5 cf, eI G ago 5 og, (pl, .inr (5, [.ref ak, .ref ag, .long (opB cf chn bl no)])), eI G ak 64 (opF cf chn (fun _ => 2) kf no), eI G ag 64 (opF cf chn og gf no)] := (lcons rfl (lcons rfl (lcons rfl (lcons (congrArg (fun z => ((pl, Sum.inr (5, [.ref ak, .ref ag, Value.long z])) : Nat × va_E)) q9_1) (lcons (congrArg (fun z => eI G ak 64 z) q9_2) (lcons (congrArg (fun z => eI G ag 64 z) q9_3) rfl))))))
        have hP9 := va_castP hP9 cw9
        have hD9 := va_castD hD9 cw9
        exact W.vret hx hb hr (fun t ht hW => ⟨⟨(), rfl, trivial, by rw [ht]; exact hP9, hD9⟩, hS.F ht⟩) hS.2.2 dX4_openIn_44
      · skip
        have hlt : j < no := by
          rcases Nat.lt_or_ge j no with q | q
          · exact q
          · exact absurd (show _ ≤ nI j from (nI_le (a := no) (b := j) q (by omega))) c_7
        refine lv_iload_n hx hb dX4_openIn_10 rfl (lv_at hl 3 rfl) ?_
        refine lv_i2l hx hb dX4_openIn_11 rfl ?_
        refine lv_iload_n hx hb dX4_openIn_12 rfl (lv_at hl 0 rfl) ?_
        refine ca_Si (val := b2i (hbB ((nI chn).toInt64) (nI j))) (va_runSN (As := [.long ((nI chn).toInt64), .int (nI j)]) (rest := []) ⟨hx, hb, hml, hown, hts⟩ (c_X7_hasBit ln ((nI chn).toInt64) (nI j) ) ⟨va_cnB 2 hts (gA kCode_X7_hasBit) rfl rfl rfl (nM_X4_25 hE.2) (hts _ kIni_X7) hd_X7_hasBit ⟨Nat.le_of_ble_eq_true rfl, Nat.le_of_ble_eq_true rfl⟩, hts _ kSt_X7_hasBit, trivial⟩ ⟨pu_blind, pu_pre⟩ rfl rfl hl.1 rfl (lv_room (Nat.le_of_ble_eq_true rfl)) dX4_openIn_13 ⟨Nat.zero_le _, Nat.zero_le _⟩) ?_
        rw [show (b2i (hbB ((nI chn).toInt64) (nI j))) = (b2i (chn.testBit j)) from by rw [bit_h chn hch j (by omega)]]
        refine lv_if_eq (tgt := 38) hx hb dX4_openIn_16 (by decide) (fun c_16 => ?_) (fun c_16 => ?_)
        · skip
          have c_16 := b2i_z c_16
          refine lv_iinc (v := nI (j + 1)) (lv' := [(3, .int (nI (j + 1))), (0, .ref h0), (1, .ref pl), (2, .int (nI chn))]) hx hb dX4_openIn_38 hl (k := 0) rfl (nI_1 _) (by decide) rfl (fun ls hl => ?_)
          refine lv_goto (tgt := 2) hx hb dX4_openIn_41 (by decide) ?_
          have q9_4 : (opB cf chn bl j) = (opB cf chn bl (j + 1)) := by simp only [opF, opB]; simp [c_16]
          have q9_5 : (opF cf chn (fun _ => 2) kf j) = (opF cf chn (fun _ => 2) kf (j + 1)) := by simp only [opF, opB]; simp [c_16]
          have q9_6 : (opF cf chn og gf j) = (opF cf chn og gf (j + 1)) := by simp only [opF, opB]; simp [c_16]
          have cw9 : ([(h0, .inr (4, [.ref ac, .ref ago, .ref apr, .int (nI no)])), eI G ac 5 cf, eI G ago 5 og, (pl, .inr (5, [.ref ak, .ref ag, .long (opB cf chn bl j)])), eI G ak 64 (opF cf chn (fun _ => 2) kf j), eI G ag 64 (opF cf chn og gf j)] : va_W) = [(h0, .inr (4, [.ref ac, .ref ago, .ref apr, .int (nI no)])), eI G ac 5 cf, eI G ago 5 og, (pl, .inr (5, [.ref ak, .ref ag, .long (opB cf chn bl (j + 1))])), eI G ak 64 (opF cf chn (fun _ => 2) kf (j + 1)), eI G ag 64 (opF cf chn og gf (j + 1))] := (lcons rfl (lcons rfl (lcons rfl (lcons (congrArg (fun z => ((pl, Sum.inr (5, [.ref ak, .ref ag, Value.long z])) : Nat × va_E)) q9_4) (lcons (congrArg (fun z => eI G ak 64 z) q9_5) (lcons (congrArg (fun z => eI G ag 64 z) q9_6) rfl))))))
          exact ih_2 (j + 1) (by omega) (by omega) _ _ (va_castP (hP.sub [0, 1, 2, 3, 4, 5] rfl) cw9) (va_castD (hD.sub [0, 1, 2, 3, 4, 5] (by decide) rfl) cw9) hS ls (lv_sub hl [0, 1, 2, 3] rfl)
        · skip
          have c_16 := b2i_n c_16
          refine lv_aload_n hx hb dX4_openIn_19 rfl (lv_at hl 2 rfl) ?_
          refine lv_aload_n hx hb dX4_openIn_20 rfl (lv_at hl 1 rfl) ?_
          refine va_get (ci := 4) (C := RX4) (T := TX4) (N := 4) hx hb hts hinX4 hown hE.1 hP 0 rfl rfl 0 (by decide) (hts _ kFl_X4_9) (fun _ h9 => h9) rfl dX4_openIn_21 ?_
          refine lv_iload_n hx hb dX4_openIn_24 rfl (lv_at hl 0 rfl) ?_
          refine ri_ald (j := j) hx hb hE hP 1 rfl (nI_clamp (by omega)) (vp_in_nI (by omega) (by omega)) dX4_openIn_25 ?_
          refine lv_iconst (v := 2) hx hb dX4_openIn_26 (by decide) ?_
          refine lv_aload_n hx hb dX4_openIn_27 rfl (lv_at hl 1 rfl) ?_
          refine va_get (ci := 4) (C := RX4) (T := TX4) (N := 4) hx hb hts hinX4 hown hE.1 hP 0 rfl rfl 1 (by decide) (hts _ kFl_X4_15) (fun _ h9 => h9) rfl dX4_openIn_28 ?_
          refine lv_iload_n hx hb dX4_openIn_31 rfl (lv_at hl 0 rfl) ?_
          refine ri_ald (j := j) hx hb hE hP 2 rfl (nI_clamp (by omega)) (vp_in_nI (by omega) (by omega)) dX4_openIn_32 ?_
          refine lv_iconst (v := 0) hx hb dX4_openIn_33 (by decide) ?_
          have hF_ := va_free (wc := [(pl, .inr (5, [.ref ak, .ref ag, .long (opB cf chn bl j)])), eI G ak 64 (opF cf chn (fun _ => 2) kf j), eI G ag 64 (opF cf chn og gf j)]) hD hS hA [3, 4, 5] rfl
          refine ca_Qi (wr := [(h0, .inr (4, [.ref ac, .ref ago, .ref apr, .int (nI no)])), eI G ac 5 cf, eI G ago 5 og]) (va_runVN (As := [.int (cf j), .int 2, .int (og j), .int 0]) (rest := []) ⟨hx, hb, hml, hown, hts⟩ (c_X5_put ln G pl ak ag (opB cf chn bl j) (opF cf chn (fun _ => 2) kf j) (opF cf chn og gf j) (cf j) 2 (og j) false H.size (hcf j hlt)) ⟨va_cnB 4 hts (gA kCode_X5_put) rfl rfl rfl (nM_X4_34 hE.2) (hts _ kIni_X5) hd_X5_put ⟨Nat.le_of_ble_eq_true rfl, Nat.le_of_ble_eq_true rfl⟩, hts _ kIm_X5_put, hts _ kSel_X5_put⟩ ⟨rw_blind, va_recv hE.1 hP (ci := 5) (q0 := 3) rfl rfl, (rw_pre (hP.sub [3, 4, 5] rfl) (hD.sub [3, 4, 5] (by decide) rfl) hF_ hS hE hT)⟩ rfl rfl hl.1 rfl (lv_room (Nat.le_of_ble_eq_true rfl)) dX4_openIn_34 ⟨Nat.zero_le _, Nat.zero_le _⟩) hP hD hS hA [3, 4, 5] [0, 1, 2] rfl rfl rfl (by decide) (fun r_34 u_34 H locs w_34 hP hD hS => ?_)
          have hP : va_P G.1 vwCl [(h0, .inr (4, [.ref ac, .ref ago, .ref apr, .int (nI no)])), eI G ac 5 cf, eI G ago 5 og, (pl, .inr (5, [.ref ak, .ref ag, .long (blPut (opB cf chn bl j) (cf j) false)])), eI G ak 64 (upd (opF cf chn (fun _ => 2) kf j) (cf j).toNatClampNeg 2), eI G ag 64 (upd (opF cf chn og gf j) (cf j).toNatClampNeg (og j))] H := hP
          have hD : va_D A [(h0, .inr (4, [.ref ac, .ref ago, .ref apr, .int (nI no)])), eI G ac 5 cf, eI G ago 5 og, (pl, .inr (5, [.ref ak, .ref ag, .long (blPut (opB cf chn bl j) (cf j) false)])), eI G ak 64 (upd (opF cf chn (fun _ => 2) kf j) (cf j).toNatClampNeg 2), eI G ag 64 (upd (opF cf chn og gf j) (cf j).toNatClampNeg (og j))] := hD
          obtain rfl : r_34 = (opF cf chn (fun _ => 2) kf j) (cf j).toNatClampNeg := w_34
          refine lv_pop hx hb dX4_openIn_37 rfl ?_
          refine lv_iinc (v := nI (j + 1)) (lv' := [(3, .int (nI (j + 1))), (0, .ref h0), (1, .ref pl), (2, .int (nI chn))]) hx hb dX4_openIn_38 hl (k := 0) rfl (nI_1 _) (by decide) rfl (fun ls hl => ?_)
          refine lv_goto (tgt := 2) hx hb dX4_openIn_41 (by decide) ?_
          have q9_7 : (blPut (opB cf chn bl j) (cf j) false) = (opB cf chn bl (j + 1)) := by simp only [opF, opB]; simp [c_16]
          have q9_8 : (upd (opF cf chn (fun _ => 2) kf j) (cf j).toNatClampNeg 2) = (opF cf chn (fun _ => 2) kf (j + 1)) := by simp only [opF, opB]; simp [c_16]
          have q9_9 : (upd (opF cf chn og gf j) (cf j).toNatClampNeg (og j)) = (opF cf chn og gf (j + 1)) := by simp only [opF, opB]; simp [c_16]
          have cw9 : ([(h0, .inr (4, [.ref ac, .ref ago, .ref apr, .int (nI no)])), eI G ac 5 cf, eI G ago 5 og, (pl, .inr (5, [.ref ak, .ref ag, .long (blPut (opB cf chn bl j) (cf j) false)])), eI G ak 64 (upd (opF cf chn (fun _ => 2) kf j) (cf j).toNatClampNeg 2), eI G ag 64 (upd (opF cf chn og gf j) (cf j).toNatClampNeg (og j))] : va_W) = [(h0, .inr (4, [.ref ac, .ref ago, .ref apr, .int (nI no)])), eI G ac 5 cf, eI G ago 5 og, (pl, .inr (5, [.ref ak, .ref ag, .long (opB cf chn bl (j + 1))])), eI G ak 64 (opF cf chn (fun _ => 2) kf (j + 1)), eI G ag 64 (opF cf chn og gf (j + 1))] := (lcons rfl (lcons rfl (lcons rfl (lcons (congrArg (fun z => ((pl, Sum.inr (5, [.ref ak, .ref ag, Value.long z])) : Nat × va_E)) q9_7) (lcons (congrArg (fun z => eI G ak 64 z) q9_8) (lcons (congrArg (fun z => eI G ag 64 z) q9_9) rfl))))))
          exact ih_2 (j + 1) (by omega) (by omega) _ _ (va_castP (hP.sub [0, 1, 2, 3, 4, 5] rfl) cw9) (va_castD (hD.sub [0, 1, 2, 3, 4, 5] (by decide) rfl) cw9) hS ls (lv_sub hl [0, 1, 2, 3] rfl)
  have q9_10 : 0 = (nI 0) := rfl
  have q9_11 : bl = (opB cf chn bl 0) := rfl
  have q9_12 : kf = (opF cf chn (fun _ => 2) kf 0) := rfl
  have q9_13 : gf = (opF cf chn og gf 0) := rfl
  have cw9 : ([(h0, .inr (4, [.ref ac, .ref ago, .ref apr, .int (nI no)])), eI G ac 5 cf, eI G ago 5 og, (pl, .inr (5, [.ref ak, .ref ag, .long bl])), eI G ak 64 kf, eI G ag 64 gf] : va_W) = [(h0, .inr (4, [.ref ac, .ref ago, .ref apr, .int (nI no)])), eI G ac 5 cf, eI G ago 5 og, (pl, .inr (5, [.ref ak, .ref ag, .long (opB cf chn bl 0)])), eI G ak 64 (opF cf chn (fun _ => 2) kf 0), eI G ag 64 (opF cf chn og gf 0)] := (lcons rfl (lcons rfl (lcons rfl (lcons (congrArg (fun z => ((pl, Sum.inr (5, [.ref ak, .ref ag, Value.long z])) : Nat × va_E)) q9_11) (lcons (congrArg (fun z => eI G ak 64 z) q9_12) (lcons (congrArg (fun z => eI G ag 64 z) q9_13) rfl))))))
  exact J_2 6 0 (by omega) (by omega) _ _ (va_castP (hP.sub [0, 1, 2, 3, 4, 5] rfl) cw9) (va_castD (hD.sub [0, 1, 2, 3, 4, 5] (by decide) rfl) cw9) hS ls (lv_cast (lv_sub hl [0, 1, 2, 3] rfl) (lcons (congrArg (fun z => (3, Value.int z)) q9_10) (lcons rfl (lcons rfl (lcons rfl rfl)))))
set_option maxHeartbeats 4000000 in
set_option maxRecDepth 100000 in
theorem c_X4_closeIn (ln : Launch) (G : gT) (h0 : Nat) (ac : Nat) (ago : Nat) (apr : Nat) (no : Nat) (pl : Nat) (ak : Nat) (ag : Nat) (bl : Int64) (cf : Nat → Int32) (kf : Nat → Int32) (gf : Nat → Int32) (chn : Nat) (sz : Nat) (hno : no ≤ 5) (hch : chn < 32) (hcf : ∀ q, q < no → vp_in (cf q) 64) : Met ln yX4_closeIn (wA (.code yX4_closeIn cX4_closeIn 4 none)) ({ frames := 1, cells := 0, slots := 0, locals := 27 } : Room) (va_Pc [.ref h0, .ref pl, .int (nI chn)] (rwB G [(h0, .inr (4, [.ref ac, .ref ago, .ref apr, .int (nI no)])), eI G ac 5 cf, (pl, .inr (5, [.ref ak, .ref ag, .long bl])), eI G ak 64 kf, eI G ag 64 gf] sz)) (va_Qv (S := Unit) (fun (_ : Unit) => True) (fun u => wdB G (va_A [(h0, .inr (4, [.ref ac, .ref ago, .ref apr, .int (nI no)])), eI G ac 5 cf, (pl, .inr (5, [.ref ak, .ref ag, .long bl])), eI G ak 64 kf, eI G ag 64 gf] sz) [(h0, .inr (4, [.ref ac, .ref ago, .ref apr, .int (nI no)])), eI G ac 5 cf, (pl, .inr (5, [.ref ak, .ref ag, .long (opB cf chn bl no)])), eI G ak 64 (opF cf chn (fun _ => 1) kf no), eI G ag 64 (opF cf chn (fun _ => 0) gf no)]) (va_A [(h0, .inr (4, [.ref ac, .ref ago, .ref apr, .int (nI no)])), eI G ac 5 cf, (pl, .inr (5, [.ref ak, .ref ag, .long bl])), eI G ak 64 kf, eI G ag 64 gf] sz)) 0 0 (va_A [(h0, .inr (4, [.ref ac, .ref ago, .ref apr, .int (nI no)])), eI G ac 5 cf, (pl, .inr (5, [.ref ak, .ref ag, .long bl])), eI G ak 64 kf, eI G ag 64 gf] sz) := by
  refine Met.ofW (cc := cX4_closeIn) (maxL := 4) (ret := none) (by decide) rfl ?_
  intro pg ev s mi args below meth cd s₁ B hml hv
  obtain ⟨rfl, hsz, hP, hE, hD0, hT⟩ := hv
  have hx := B.exec
  have hb := B.bytes
  have hr := B.returns
  have hts0 := atoms_spec (ws := wA (.code yX4_closeIn cX4_closeIn 4 none)) B.pre
  have hts : ∀ w ∈ wsA, w.before _ s = true := fun w h => hts0 w (List.mem_cons_of_mem _ h)
  have hown : s.vm.findClass RX4 = some mi.cls := findClass_of_methodNamed B.named
  have hlocks := B.notSynchronized
  subst hsz
  have hD := hD0.self (sz := s.heap.size)
  generalize hAe : va_A [(h0, .inr (4, [.ref ac, .ref ago, .ref apr, .int (nI no)])), eI G ac 5 cf, (pl, .inr (5, [.ref ak, .ref ag, .long bl])), eI G ak 64 kf, eI G ag 64 gf] s.heap.size = A at hD hT ⊢
  have hA : ∀ q : Nat, s.heap.size ≤ q → A q := fun q h => by rw [← hAe]; exact Or.inr h
  have hS : va_S A s.heap s.heap [] := va_S.rf
  have hl := lv_entry ([.ref h0, .ref pl, .int (nI chn)]) (n := 4) (Nat.le_of_ble_eq_true rfl)
  rw [lg_entry_eq]
  generalize (lg_sl ([.ref h0, .ref pl, .int (nI chn)]) ++ List.replicate (4 - (lg_sl ([.ref h0, .ref pl, .int (nI chn)])).length) Slot.unset).toArray = ls at hl ⊢
  have hl : lv_has ls 4 [(0, .ref h0), (1, .ref pl), (2, .int (nI chn))] := hl
  refine lv_iconst (v := 0) hx hb dX4_closeIn_0 (by decide) ?_
  refine lv_istore_n (lv' := [(3, .int 0), (0, .ref h0), (1, .ref pl), (2, .int (nI chn))]) hx hb dX4_closeIn_1 rfl hl (by decide) rfl (fun ls hl => ?_)
  have J_2 : ∀ (n_ : Nat), ∀ (j : Nat), (j ≤ no) → (6 ≤ j + n_) → ∀ (H : Heap) (locs : List Loc), va_P G.1 vwCl [(h0, .inr (4, [.ref ac, .ref ago, .ref apr, .int (nI no)])), eI G ac 5 cf, (pl, .inr (5, [.ref ak, .ref ag, .long (opB cf chn bl j)])), eI G ak 64 (opF cf chn (fun _ => 1) kf j), eI G ag 64 (opF cf chn (fun _ => 0) gf j)] H → va_D A [(h0, .inr (4, [.ref ac, .ref ago, .ref apr, .int (nI no)])), eI G ac 5 cf, (pl, .inr (5, [.ref ak, .ref ag, .long (opB cf chn bl j)])), eI G ak 64 (opF cf chn (fun _ => 1) kf j), eI G ag 64 (opF cf chn (fun _ => 0) gf j)] → va_S A s.heap H locs → ∀ (ls : Array Slot), lv_has ls 4 [(3, .int (nI j)), (0, .ref h0), (1, .ref pl), (2, .int (nI chn))] → W pg ln ev ({ frames := 1, cells := 0, slots := 0, locals := 27 } : Room) s mi ([.ref h0, .ref pl, .int (nI chn)] : List Value).toArray below meth cd H locs 0 0 (MQ below (va_Qv (S := Unit) (fun (_ : Unit) => True) (fun u => wdB G A [(h0, .inr (4, [.ref ac, .ref ago, .ref apr, .int (nI no)])), eI G ac 5 cf, (pl, .inr (5, [.ref ak, .ref ag, .long (opB cf chn bl no)])), eI G ak 64 (opF cf chn (fun _ => 1) kf no), eI G ag 64 (opF cf chn (fun _ => 0) gf no)]) A) ([.ref h0, .ref pl, .int (nI chn)] : List Value).toArray s 0 0 A) (F0 mi 2 ls []) := by
    intro n_
    induction n_ with
    | zero =>
      intro j hj hfj H locs hP hD hS ls hl
      exact absurd hfj (by omega)
    | succ n_ ih_2 =>
      intro j hj hfj H locs hP hD hS ls hl
      refine lv_iload_n hx hb dX4_closeIn_2 rfl (lv_at hl 0 rfl) ?_
      refine lv_aload_n hx hb dX4_closeIn_3 rfl (lv_at hl 1 rfl) ?_
      refine va_get (ci := 4) (C := RX4) (T := TX4) (N := 4) hx hb hts hinX4 hown hE.1 hP 0 rfl rfl 3 (by decide) (hts _ kFl_X4_21) (fun _ h9 => h9) rfl dX4_closeIn_4 ?_
      refine lv_icmp_ge (tgt := 39) hx hb dX4_closeIn_7 (by decide) (fun c_7 => ?_) (fun c_7 => ?_)
      · skip
        have e_hlt : j = no := by
          rcases Nat.lt_or_ge j no with q | q
          · exact absurd (show nI no ≤ nI j from c_7) (nI_ge q (by omega))
          · omega
        have hP9 := hP.sub (ws' := [(h0, .inr (4, [.ref ac, .ref ago, .ref apr, .int (nI no)])), eI G ac 5 cf, (pl, .inr (5, [.ref ak, .ref ag, .long (opB cf chn bl j)])), eI G ak 64 (opF cf chn (fun _ => 1) kf j), eI G ag 64 (opF cf chn (fun _ => 0) gf j)]) [0, 1, 2, 3, 4] rfl
        have hD9 := hD.sub (ws' := [(h0, .inr (4, [.ref ac, .ref ago, .ref apr, .int (nI no)])), eI G ac 5 cf, (pl, .inr (5, [.ref ak, .ref ag, .long (opB cf chn bl j)])), eI G ak 64 (opF cf chn (fun _ => 1) kf j), eI G ag 64 (opF cf chn (fun _ => 0) gf j)]) [0, 1, 2, 3, 4] (by decide) rfl
        have q9_1 : (opB cf chn bl j) = (opB cf chn bl no) := by rw [e_hlt]
        have q9_2 : (opF cf chn (fun _ => 1) kf j) = (opF cf chn (fun _ => 1) kf no) := by rw [e_hlt]
        have q9_3 : (opF cf chn (fun _ => 0) gf j) = (opF cf chn (fun _ => 0) gf no) := by rw [e_hlt]
        have cw9 : ([(h0, .inr (4, [.ref ac, .ref ago, .ref apr, .int (nI no)])), eI G ac 5 cf, (pl, .inr (5, [.ref ak, .ref ag, .long (opB cf chn bl j)])), eI G ak 64 (opF cf chn (fun _ => 1) kf j), eI G ag 64 (opF cf chn (fun _ => 0) gf j)] : va_W) = [(h0, .inr (4, [.ref ac, .ref ago, .ref apr, .int (nI no)])), eI G ac 5 cf, (pl, .inr (5, [.ref ak, .ref ag, .long (opB cf chn bl no)])), eI G ak 64 (opF cf chn (fun _ => 1) kf no), eI G ag 64 (opF cf chn (fun _ => 0) gf no)] := (lcons rfl (lcons rfl (lcons (congrArg (fun z => ((pl, Sum.inr (5, [.ref ak, .ref ag, Value.long z])) : Nat × va_E)) q9_1) (lcons (congrArg (fun z => eI G ak 64 z) q9_2) (lcons (congrArg (fun z => eI G ag 64 z) q9_3) rfl)))))
        have hP9 := va_castP hP9 cw9
        have hD9 := va_castD hD9 cw9
        exact W.vret hx hb hr (fun t ht hW => ⟨⟨(), rfl, trivial, by rw [ht]; exact hP9, hD9⟩, hS.F ht⟩) hS.2.2 dX4_closeIn_39
      · skip
        have hlt : j < no := by
          rcases Nat.lt_or_ge j no with q | q
          · exact q
          · exact absurd (show _ ≤ nI j from (nI_le (a := no) (b := j) q (by omega))) c_7
        refine lv_iload_n hx hb dX4_closeIn_10 rfl (lv_at hl 3 rfl) ?_
        refine lv_i2l hx hb dX4_closeIn_11 rfl ?_
        refine lv_iload_n hx hb dX4_closeIn_12 rfl (lv_at hl 0 rfl) ?_
        refine ca_Si (val := b2i (hbB ((nI chn).toInt64) (nI j))) (va_runSN (As := [.long ((nI chn).toInt64), .int (nI j)]) (rest := []) ⟨hx, hb, hml, hown, hts⟩ (c_X7_hasBit ln ((nI chn).toInt64) (nI j) ) ⟨va_cnB 2 hts (gA kCode_X7_hasBit) rfl rfl rfl (nM_X4_25 hE.2) (hts _ kIni_X7) hd_X7_hasBit ⟨Nat.le_of_ble_eq_true rfl, Nat.le_of_ble_eq_true rfl⟩, hts _ kSt_X7_hasBit, trivial⟩ ⟨pu_blind, pu_pre⟩ rfl rfl hl.1 rfl (lv_room (Nat.le_of_ble_eq_true rfl)) dX4_closeIn_13 ⟨Nat.zero_le _, Nat.zero_le _⟩) ?_
        rw [show (b2i (hbB ((nI chn).toInt64) (nI j))) = (b2i (chn.testBit j)) from by rw [bit_h chn hch j (by omega)]]
        refine lv_if_eq (tgt := 33) hx hb dX4_closeIn_16 (by decide) (fun c_16 => ?_) (fun c_16 => ?_)
        · skip
          have c_16 := b2i_z c_16
          refine lv_iinc (v := nI (j + 1)) (lv' := [(3, .int (nI (j + 1))), (0, .ref h0), (1, .ref pl), (2, .int (nI chn))]) hx hb dX4_closeIn_33 hl (k := 0) rfl (nI_1 _) (by decide) rfl (fun ls hl => ?_)
          refine lv_goto (tgt := 2) hx hb dX4_closeIn_36 (by decide) ?_
          have q9_4 : (opB cf chn bl j) = (opB cf chn bl (j + 1)) := by simp only [opF, opB]; simp [c_16]
          have q9_5 : (opF cf chn (fun _ => 1) kf j) = (opF cf chn (fun _ => 1) kf (j + 1)) := by simp only [opF, opB]; simp [c_16]
          have q9_6 : (opF cf chn (fun _ => 0) gf j) = (opF cf chn (fun _ => 0) gf (j + 1)) := by simp only [opF, opB]; simp [c_16]
          have cw9 : ([(h0, .inr (4, [.ref ac, .ref ago, .ref apr, .int (nI no)])), eI G ac 5 cf, (pl, .inr (5, [.ref ak, .ref ag, .long (opB cf chn bl j)])), eI G ak 64 (opF cf chn (fun _ => 1) kf j), eI G ag 64 (opF cf chn (fun _ => 0) gf j)] : va_W) = [(h0, .inr (4, [.ref ac, .ref ago, .ref apr, .int (nI no)])), eI G ac 5 cf, (pl, .inr (5, [.ref ak, .ref ag, .long (opB cf chn bl (j + 1))])), eI G ak 64 (opF cf chn (fun _ => 1) kf (j + 1)), eI G ag 64 (opF cf chn (fun _ => 0) gf (j + 1))] := (lcons rfl (lcons rfl (lcons (congrArg (fun z => ((pl, Sum.inr (5, [.ref ak, .ref ag, Value.long z])) : Nat × va_E)) q9_4) (lcons (congrArg (fun z => eI G ak 64 z) q9_5) (lcons (congrArg (fun z => eI G ag 64 z) q9_6) rfl)))))
          exact ih_2 (j + 1) (by omega) (by omega) _ _ (va_castP (hP.sub [0, 1, 2, 3, 4] rfl) cw9) (va_castD (hD.sub [0, 1, 2, 3, 4] (by decide) rfl) cw9) hS ls (lv_sub hl [0, 1, 2, 3] rfl)
        · skip
          have c_16 := b2i_n c_16
          refine lv_aload_n hx hb dX4_closeIn_19 rfl (lv_at hl 2 rfl) ?_
          refine lv_aload_n hx hb dX4_closeIn_20 rfl (lv_at hl 1 rfl) ?_
          refine va_get (ci := 4) (C := RX4) (T := TX4) (N := 4) hx hb hts hinX4 hown hE.1 hP 0 rfl rfl 0 (by decide) (hts _ kFl_X4_9) (fun _ h9 => h9) rfl dX4_closeIn_21 ?_
          refine lv_iload_n hx hb dX4_closeIn_24 rfl (lv_at hl 0 rfl) ?_
          refine ri_ald (j := j) hx hb hE hP 1 rfl (nI_clamp (by omega)) (vp_in_nI (by omega) (by omega)) dX4_closeIn_25 ?_
          refine lv_iconst (v := 1) hx hb dX4_closeIn_26 (by decide) ?_
          refine lv_iconst (v := 0) hx hb dX4_closeIn_27 (by decide) ?_
          refine lv_iconst (v := 0) hx hb dX4_closeIn_28 (by decide) ?_
          have hF_ := va_free (wc := [(pl, .inr (5, [.ref ak, .ref ag, .long (opB cf chn bl j)])), eI G ak 64 (opF cf chn (fun _ => 1) kf j), eI G ag 64 (opF cf chn (fun _ => 0) gf j)]) hD hS hA [2, 3, 4] rfl
          refine ca_Qi (wr := [(h0, .inr (4, [.ref ac, .ref ago, .ref apr, .int (nI no)])), eI G ac 5 cf]) (va_runVN (As := [.int (cf j), .int 1, .int 0, .int 0]) (rest := []) ⟨hx, hb, hml, hown, hts⟩ (c_X5_put ln G pl ak ag (opB cf chn bl j) (opF cf chn (fun _ => 1) kf j) (opF cf chn (fun _ => 0) gf j) (cf j) 1 0 false H.size (hcf j hlt)) ⟨va_cnB 4 hts (gA kCode_X5_put) rfl rfl rfl (nM_X4_34 hE.2) (hts _ kIni_X5) hd_X5_put ⟨Nat.le_of_ble_eq_true rfl, Nat.le_of_ble_eq_true rfl⟩, hts _ kIm_X5_put, hts _ kSel_X5_put⟩ ⟨rw_blind, va_recv hE.1 hP (ci := 5) (q0 := 2) rfl rfl, (rw_pre (hP.sub [2, 3, 4] rfl) (hD.sub [2, 3, 4] (by decide) rfl) hF_ hS hE hT)⟩ rfl rfl hl.1 rfl (lv_room (Nat.le_of_ble_eq_true rfl)) dX4_closeIn_29 ⟨Nat.zero_le _, Nat.zero_le _⟩) hP hD hS hA [2, 3, 4] [0, 1] rfl rfl rfl (by decide) (fun r_29 u_29 H locs w_29 hP hD hS => ?_)
          have hP : va_P G.1 vwCl [(h0, .inr (4, [.ref ac, .ref ago, .ref apr, .int (nI no)])), eI G ac 5 cf, (pl, .inr (5, [.ref ak, .ref ag, .long (blPut (opB cf chn bl j) (cf j) false)])), eI G ak 64 (upd (opF cf chn (fun _ => 1) kf j) (cf j).toNatClampNeg 1), eI G ag 64 (upd (opF cf chn (fun _ => 0) gf j) (cf j).toNatClampNeg 0)] H := hP
          have hD : va_D A [(h0, .inr (4, [.ref ac, .ref ago, .ref apr, .int (nI no)])), eI G ac 5 cf, (pl, .inr (5, [.ref ak, .ref ag, .long (blPut (opB cf chn bl j) (cf j) false)])), eI G ak 64 (upd (opF cf chn (fun _ => 1) kf j) (cf j).toNatClampNeg 1), eI G ag 64 (upd (opF cf chn (fun _ => 0) gf j) (cf j).toNatClampNeg 0)] := hD
          obtain rfl : r_29 = (opF cf chn (fun _ => 1) kf j) (cf j).toNatClampNeg := w_29
          refine lv_pop hx hb dX4_closeIn_32 rfl ?_
          refine lv_iinc (v := nI (j + 1)) (lv' := [(3, .int (nI (j + 1))), (0, .ref h0), (1, .ref pl), (2, .int (nI chn))]) hx hb dX4_closeIn_33 hl (k := 0) rfl (nI_1 _) (by decide) rfl (fun ls hl => ?_)
          refine lv_goto (tgt := 2) hx hb dX4_closeIn_36 (by decide) ?_
          have q9_7 : (blPut (opB cf chn bl j) (cf j) false) = (opB cf chn bl (j + 1)) := by simp only [opF, opB]; simp [c_16]
          have q9_8 : (upd (opF cf chn (fun _ => 1) kf j) (cf j).toNatClampNeg 1) = (opF cf chn (fun _ => 1) kf (j + 1)) := by simp only [opF, opB]; simp [c_16]
          have q9_9 : (upd (opF cf chn (fun _ => 0) gf j) (cf j).toNatClampNeg 0) = (opF cf chn (fun _ => 0) gf (j + 1)) := by simp only [opF, opB]; simp [c_16]
          have cw9 : ([(h0, .inr (4, [.ref ac, .ref ago, .ref apr, .int (nI no)])), eI G ac 5 cf, (pl, .inr (5, [.ref ak, .ref ag, .long (blPut (opB cf chn bl j) (cf j) false)])), eI G ak 64 (upd (opF cf chn (fun _ => 1) kf j) (cf j).toNatClampNeg 1), eI G ag 64 (upd (opF cf chn (fun _ => 0) gf j) (cf j).toNatClampNeg 0)] : va_W) = [(h0, .inr (4, [.ref ac, .ref ago, .ref apr, .int (nI no)])), eI G ac 5 cf, (pl, .inr (5, [.ref ak, .ref ag, .long (opB cf chn bl (j + 1))])), eI G ak 64 (opF cf chn (fun _ => 1) kf (j + 1)), eI G ag 64 (opF cf chn (fun _ => 0) gf (j + 1))] := (lcons rfl (lcons rfl (lcons (congrArg (fun z => ((pl, Sum.inr (5, [.ref ak, .ref ag, Value.long z])) : Nat × va_E)) q9_7) (lcons (congrArg (fun z => eI G ak 64 z) q9_8) (lcons (congrArg (fun z => eI G ag 64 z) q9_9) rfl)))))
          exact ih_2 (j + 1) (by omega) (by omega) _ _ (va_castP (hP.sub [0, 1, 2, 3, 4] rfl) cw9) (va_castD (hD.sub [0, 1, 2, 3, 4] (by decide) rfl) cw9) hS ls (lv_sub hl [0, 1, 2, 3] rfl)
  have q9_10 : 0 = (nI 0) := rfl
  have q9_11 : bl = (opB cf chn bl 0) := rfl
  have q9_12 : kf = (opF cf chn (fun _ => 1) kf 0) := rfl
  have q9_13 : gf = (opF cf chn (fun _ => 0) gf 0) := rfl
  have cw9 : ([(h0, .inr (4, [.ref ac, .ref ago, .ref apr, .int (nI no)])), eI G ac 5 cf, (pl, .inr (5, [.ref ak, .ref ag, .long bl])), eI G ak 64 kf, eI G ag 64 gf] : va_W) = [(h0, .inr (4, [.ref ac, .ref ago, .ref apr, .int (nI no)])), eI G ac 5 cf, (pl, .inr (5, [.ref ak, .ref ag, .long (opB cf chn bl 0)])), eI G ak 64 (opF cf chn (fun _ => 1) kf 0), eI G ag 64 (opF cf chn (fun _ => 0) gf 0)] := (lcons rfl (lcons rfl (lcons (congrArg (fun z => ((pl, Sum.inr (5, [.ref ak, .ref ag, Value.long z])) : Nat × va_E)) q9_11) (lcons (congrArg (fun z => eI G ak 64 z) q9_12) (lcons (congrArg (fun z => eI G ag 64 z) q9_13) rfl)))))
  exact J_2 6 0 (by omega) (by omega) _ _ (va_castP (hP.sub [0, 1, 2, 3, 4] rfl) cw9) (va_castD (hD.sub [0, 1, 2, 3, 4] (by decide) rfl) cw9) hS ls (lv_cast (lv_sub hl [0, 1, 2, 3] rfl) (lcons (congrArg (fun z => (3, Value.int z)) q9_10) (lcons rfl (lcons rfl (lcons rfl rfl)))))
set_option maxHeartbeats 4000000 in
set_option maxRecDepth 100000 in
theorem c_X7_look (ln : Launch) (G : gT) (h0 : Nat) (pl : Nat) (dk : Nat) (hr_ : Nat) (ry : Nat) (bd : Nat) (of_ : Nat) (fd : Nat) (ak : Nat) (ag : Nat) (bl : Int64) (ax : Nat) (ay : Nat) (az : Nat) (nd : Nat) (kp : Int32) (ab : Nat) (ap : Nat) (agg : Nat) (al : Nat) (mo : Int32) (ne : Int32) (as_ : Nat) (ah : Nat) (aw : Nat) (au : Nat) (aw_ : Nat) (gl : Int32) (ca : Int32) (kf : Nat → Int32) (gf : Nat → Int32) (xf : Nat → Int32) (yf : Nat → Int32) (pf : Nat → Int32) (sg : Nat → Int32) (lo : Nat → Bool) (sf : Nat → Int32) (hf : Nat → Int64) (wf : Nat → Int64) (uf : Nat → Int64) (lf : Nat → Int64) (sz : Nat) (hnd : nd ≤ 4) (hok : plOK kf gf) (hpf : ∀ h, h < 12 → vp_in (pf h) 16) : Met ln yX7_look (wA (.code yX7_look cX7_look 1 none)) ({ frames := 4, cells := 0, slots := 0, locals := 109 } : Room) (va_Pc [.ref h0] (rwB G [(h0, .inr (7, [.ref pl, .ref dk, .ref hr_, .ref ry, .ref bd, .ref of_, .ref fd])), (pl, .inr (5, [.ref ak, .ref ag, .long bl])), eI G ak 64 kf, eI G ag 64 gf, (dk, .inr (1, [.ref ax, .ref ay, .ref az, .int (nI nd), .int kp])), eI G ax 4 xf, eI G ay 4 yf, (hr_, .inr (3, [.ref ab, .ref ap, .ref agg, .ref al, .int mo, .int ne])), eI G ap 12 pf, eI G agg 12 sg, eZ G al 12 lo, (ry, .inr (6, [.ref as_, .ref ah, .ref aw, .ref au])), eI G as_ 64 sf, eJ G ah 64 hf, eJ G aw 64 wf, eJ G au 4 uf, (bd, .inr (0, [.ref aw_, .int gl, .int ca])), eJ G aw_ 12 lf] sz)) (va_Qv (S := Unit) (fun (_ : Unit) => True) (fun u => wdB G (va_A [(h0, .inr (7, [.ref pl, .ref dk, .ref hr_, .ref ry, .ref bd, .ref of_, .ref fd])), (pl, .inr (5, [.ref ak, .ref ag, .long bl])), eI G ak 64 kf, eI G ag 64 gf, (dk, .inr (1, [.ref ax, .ref ay, .ref az, .int (nI nd), .int kp])), eI G ax 4 xf, eI G ay 4 yf, (hr_, .inr (3, [.ref ab, .ref ap, .ref agg, .ref al, .int mo, .int ne])), eI G ap 12 pf, eI G agg 12 sg, eZ G al 12 lo, (ry, .inr (6, [.ref as_, .ref ah, .ref aw, .ref au])), eI G as_ 64 sf, eJ G ah 64 hf, eJ G aw 64 wf, eJ G au 4 uf, (bd, .inr (0, [.ref aw_, .int gl, .int ca])), eJ G aw_ 12 lf] sz) [(h0, .inr (7, [.ref pl, .ref dk, .ref hr_, .ref ry, .ref bd, .ref of_, .ref fd])), (pl, .inr (5, [.ref ak, .ref ag, .long bl])), eI G ak 64 kf, eI G ag 64 gf, (dk, .inr (1, [.ref ax, .ref ay, .ref az, .int (nI nd), .int kp])), eI G ax 4 xf, eI G ay 4 yf, (hr_, .inr (3, [.ref ab, .ref ap, .ref agg, .ref al, .int mo, .int ne])), eI G ap 12 pf, eI G agg 12 sg, eZ G al 12 lo, (ry, .inr (6, [.ref as_, .ref ah, .ref aw, .ref au])), eI G as_ 64 (tS kf gf xf yf (nd * 16) sf), eJ G ah 64 (tH kf gf xf yf (nd * 16) hf), eJ G aw 64 (tW kf gf xf yf (nd * 16) wf), eJ G au 4 (tU kf gf xf yf nd uf), (bd, .inr (0, [.ref aw_, .int gl, .int ca])), eJ G aw_ 12 (loA lo sg pf (tH kf gf xf yf (nd * 16) hf) (tW kf gf xf yf (nd * 16) wf) gl ca nd bl 12 lf)]) (va_A [(h0, .inr (7, [.ref pl, .ref dk, .ref hr_, .ref ry, .ref bd, .ref of_, .ref fd])), (pl, .inr (5, [.ref ak, .ref ag, .long bl])), eI G ak 64 kf, eI G ag 64 gf, (dk, .inr (1, [.ref ax, .ref ay, .ref az, .int (nI nd), .int kp])), eI G ax 4 xf, eI G ay 4 yf, (hr_, .inr (3, [.ref ab, .ref ap, .ref agg, .ref al, .int mo, .int ne])), eI G ap 12 pf, eI G agg 12 sg, eZ G al 12 lo, (ry, .inr (6, [.ref as_, .ref ah, .ref aw, .ref au])), eI G as_ 64 sf, eJ G ah 64 hf, eJ G aw 64 wf, eJ G au 4 uf, (bd, .inr (0, [.ref aw_, .int gl, .int ca])), eJ G aw_ 12 lf] sz)) 0 0 (va_A [(h0, .inr (7, [.ref pl, .ref dk, .ref hr_, .ref ry, .ref bd, .ref of_, .ref fd])), (pl, .inr (5, [.ref ak, .ref ag, .long bl])), eI G ak 64 kf, eI G ag 64 gf, (dk, .inr (1, [.ref ax, .ref ay, .ref az, .int (nI nd), .int kp])), eI G ax 4 xf, eI G ay 4 yf, (hr_, .inr (3, [.ref ab, .ref ap, .ref agg, .ref al, .int mo, .int ne])), eI G ap 12 pf, eI G agg 12 sg, eZ G al 12 lo, (ry, .inr (6, [.ref as_, .ref ah, .ref aw, .ref au])), eI G as_ 64 sf, eJ G ah 64 hf, eJ G aw 64 wf, eJ G au 4 uf, (bd, .inr (0, [.ref aw_, .int gl, .int ca])), eJ G aw_ 12 lf] sz) := by
  refine Met.ofW (cc := cX7_look) (maxL := 1) (ret := none) (by decide) rfl ?_
  intro pg ev s mi args below meth cd s₁ B hml hv
  obtain ⟨rfl, hsz, hP, hE, hD0, hT⟩ := hv
  have hx := B.exec
  have hb := B.bytes
  have hr := B.returns
  have hts0 := atoms_spec (ws := wA (.code yX7_look cX7_look 1 none)) B.pre
  have hts : ∀ w ∈ wsA, w.before _ s = true := fun w h => hts0 w (List.mem_cons_of_mem _ h)
  have hown : s.vm.findClass RX7 = some mi.cls := findClass_of_methodNamed B.named
  have hlocks := B.notSynchronized
  subst hsz
  have hD := hD0.self (sz := s.heap.size)
  generalize hAe : va_A [(h0, .inr (7, [.ref pl, .ref dk, .ref hr_, .ref ry, .ref bd, .ref of_, .ref fd])), (pl, .inr (5, [.ref ak, .ref ag, .long bl])), eI G ak 64 kf, eI G ag 64 gf, (dk, .inr (1, [.ref ax, .ref ay, .ref az, .int (nI nd), .int kp])), eI G ax 4 xf, eI G ay 4 yf, (hr_, .inr (3, [.ref ab, .ref ap, .ref agg, .ref al, .int mo, .int ne])), eI G ap 12 pf, eI G agg 12 sg, eZ G al 12 lo, (ry, .inr (6, [.ref as_, .ref ah, .ref aw, .ref au])), eI G as_ 64 sf, eJ G ah 64 hf, eJ G aw 64 wf, eJ G au 4 uf, (bd, .inr (0, [.ref aw_, .int gl, .int ca])), eJ G aw_ 12 lf] s.heap.size = A at hD hT ⊢
  have hA : ∀ q : Nat, s.heap.size ≤ q → A q := fun q h => by rw [← hAe]; exact Or.inr h
  have hS : va_S A s.heap s.heap [] := va_S.rf
  have hl := lv_entry ([.ref h0]) (n := 1) (Nat.le_of_ble_eq_true rfl)
  rw [lg_entry_eq]
  generalize (lg_sl ([.ref h0]) ++ List.replicate (1 - (lg_sl ([.ref h0])).length) Slot.unset).toArray = ls at hl ⊢
  have hl : lv_has ls 1 [(0, .ref h0)] := hl
  refine lv_aload_n hx hb dX7_look_0 rfl (lv_at hl 0 rfl) ?_
  refine va_get (ci := 7) (C := RX7) (T := TX7) (N := 7) hx hb hts hinX7 hown hE.1 hP 0 rfl rfl 3 (by decide) (hts _ kFl_X7_33) (fun _ h9 => h9) rfl dX7_look_1 ?_
  refine lv_aload_n hx hb dX7_look_4 rfl (lv_at hl 0 rfl) ?_
  refine va_get (ci := 7) (C := RX7) (T := TX7) (N := 7) hx hb hts hinX7 hown hE.1 hP 0 rfl rfl 0 (by decide) (hts _ kFl_X7_12) (fun _ h9 => h9) rfl dX7_look_5 ?_
  refine lv_aload_n hx hb dX7_look_8 rfl (lv_at hl 0 rfl) ?_
  refine va_get (ci := 7) (C := RX7) (T := TX7) (N := 7) hx hb hts hinX7 hown hE.1 hP 0 rfl rfl 1 (by decide) (hts _ kFl_X7_19) (fun _ h9 => h9) rfl dX7_look_9 ?_
  have hF_ := va_free (wc := [(ry, .inr (6, [.ref as_, .ref ah, .ref aw, .ref au])), eI G as_ 64 sf, eJ G ah 64 hf, eJ G aw 64 wf, eJ G au 4 uf, (pl, .inr (5, [.ref ak, .ref ag, .long bl])), eI G ak 64 kf, eI G ag 64 gf, (dk, .inr (1, [.ref ax, .ref ay, .ref az, .int (nI nd), .int kp])), eI G ax 4 xf, eI G ay 4 yf]) hD hS hA [11, 12, 13, 14, 15, 1, 2, 3, 4, 5, 6] rfl
  refine ca_Qv (wr := [(h0, .inr (7, [.ref pl, .ref dk, .ref hr_, .ref ry, .ref bd, .ref of_, .ref fd])), (hr_, .inr (3, [.ref ab, .ref ap, .ref agg, .ref al, .int mo, .int ne])), eI G ap 12 pf, eI G agg 12 sg, eZ G al 12 lo, (bd, .inr (0, [.ref aw_, .int gl, .int ca])), eJ G aw_ 12 lf]) (va_runVN (As := [.ref pl, .ref dk]) (rest := []) ⟨hx, hb, hml, hown, hts⟩ (c_X6_trace ln G ry as_ ah aw au pl ak ag bl dk ax ay az nd kp kf gf sf hf wf uf xf yf s.heap.size (by omega) (by assumption)) ⟨va_cnB 2 hts (gA kCode_X6_trace) rfl rfl rfl (nM_X7_98 hE.2) (hts _ kIni_X6) hd_X6_trace ⟨Nat.le_of_ble_eq_true rfl, Nat.le_of_ble_eq_true rfl⟩, hts _ kIm_X6_trace, hts _ kSel_X6_trace⟩ ⟨rw_blind, va_recv hE.1 hP (ci := 6) (q0 := 11) rfl rfl, (rw_pre (hP.sub [11, 12, 13, 14, 15, 1, 2, 3, 4, 5, 6] rfl) (hD.sub [11, 12, 13, 14, 15, 1, 2, 3, 4, 5, 6] (by decide) rfl) hF_ hS hE hT)⟩ rfl rfl hl.1 rfl (lv_room (Nat.le_of_ble_eq_true rfl)) dX7_look_12 ⟨Nat.zero_le _, Nat.zero_le _⟩) hP hD hS hA [11, 12, 13, 14, 15, 1, 2, 3, 4, 5, 6] [0, 7, 8, 9, 10, 16, 17] rfl rfl rfl (by decide) (fun u_12 H locs w_12 hP hD hS => ?_)
  have hP : va_P G.1 vwCl [(h0, .inr (7, [.ref pl, .ref dk, .ref hr_, .ref ry, .ref bd, .ref of_, .ref fd])), (hr_, .inr (3, [.ref ab, .ref ap, .ref agg, .ref al, .int mo, .int ne])), eI G ap 12 pf, eI G agg 12 sg, eZ G al 12 lo, (bd, .inr (0, [.ref aw_, .int gl, .int ca])), eJ G aw_ 12 lf, (ry, .inr (6, [.ref as_, .ref ah, .ref aw, .ref au])), eI G as_ 64 (tS kf gf xf yf (nd * 16) sf), eJ G ah 64 (tH kf gf xf yf (nd * 16) hf), eJ G aw 64 (tW kf gf xf yf (nd * 16) wf), eJ G au 4 (tU kf gf xf yf nd uf), (pl, .inr (5, [.ref ak, .ref ag, .long bl])), eI G ak 64 kf, eI G ag 64 gf, (dk, .inr (1, [.ref ax, .ref ay, .ref az, .int (nI nd), .int kp])), eI G ax 4 xf, eI G ay 4 yf] H := hP
  have hD : va_D A [(h0, .inr (7, [.ref pl, .ref dk, .ref hr_, .ref ry, .ref bd, .ref of_, .ref fd])), (hr_, .inr (3, [.ref ab, .ref ap, .ref agg, .ref al, .int mo, .int ne])), eI G ap 12 pf, eI G agg 12 sg, eZ G al 12 lo, (bd, .inr (0, [.ref aw_, .int gl, .int ca])), eJ G aw_ 12 lf, (ry, .inr (6, [.ref as_, .ref ah, .ref aw, .ref au])), eI G as_ 64 (tS kf gf xf yf (nd * 16) sf), eJ G ah 64 (tH kf gf xf yf (nd * 16) hf), eJ G aw 64 (tW kf gf xf yf (nd * 16) wf), eJ G au 4 (tU kf gf xf yf nd uf), (pl, .inr (5, [.ref ak, .ref ag, .long bl])), eI G ak 64 kf, eI G ag 64 gf, (dk, .inr (1, [.ref ax, .ref ay, .ref az, .int (nI nd), .int kp])), eI G ax 4 xf, eI G ay 4 yf] := hD
  refine lv_aload_n hx hb dX7_look_15 rfl (lv_at hl 0 rfl) ?_
  refine va_get (ci := 7) (C := RX7) (T := TX7) (N := 7) hx hb hts hinX7 hown hE.1 hP 0 rfl rfl 4 (by decide) (hts _ kFl_X7_40) (fun _ h9 => h9) rfl dX7_look_16 ?_
  refine lv_aload_n hx hb dX7_look_19 rfl (lv_at hl 0 rfl) ?_
  refine va_get (ci := 7) (C := RX7) (T := TX7) (N := 7) hx hb hts hinX7 hown hE.1 hP 0 rfl rfl 2 (by decide) (hts _ kFl_X7_26) (fun _ h9 => h9) rfl dX7_look_20 ?_
  refine lv_aload_n hx hb dX7_look_23 rfl (lv_at hl 0 rfl) ?_
  refine va_get (ci := 7) (C := RX7) (T := TX7) (N := 7) hx hb hts hinX7 hown hE.1 hP 0 rfl rfl 3 (by decide) (hts _ kFl_X7_33) (fun _ h9 => h9) rfl dX7_look_24 ?_
  refine lv_aload_n hx hb dX7_look_27 rfl (lv_at hl 0 rfl) ?_
  refine va_get (ci := 7) (C := RX7) (T := TX7) (N := 7) hx hb hts hinX7 hown hE.1 hP 0 rfl rfl 1 (by decide) (hts _ kFl_X7_19) (fun _ h9 => h9) rfl dX7_look_28 ?_
  refine va_getN (ci := 1) (C := RX1) (T := TX1) (N := 5) hx hb hts hinX1 hown hE.1 hP 15 rfl rfl 3 (by decide) (nF_X7_85 hE.2) (fun _ h9 => h9) rfl dX7_look_31 ?_
  refine lv_aload_n hx hb dX7_look_34 rfl (lv_at hl 0 rfl) ?_
  refine va_get (ci := 7) (C := RX7) (T := TX7) (N := 7) hx hb hts hinX7 hown hE.1 hP 0 rfl rfl 0 (by decide) (hts _ kFl_X7_12) (fun _ h9 => h9) rfl dX7_look_35 ?_
  refine va_getN (ci := 5) (C := RX5) (T := TX5) (N := 3) hx hb hts hinX5 hown hE.1 hP 12 rfl rfl 2 (by decide) (nF_X7_196 hE.2) (fun _ h9 => h9) rfl dX7_look_38 ?_
  have hF_ := va_free (wc := [(bd, .inr (0, [.ref aw_, .int gl, .int ca])), eJ G aw_ 12 lf, (hr_, .inr (3, [.ref ab, .ref ap, .ref agg, .ref al, .int mo, .int ne])), eI G ap 12 pf, eI G agg 12 sg, eZ G al 12 lo, (ry, .inr (6, [.ref as_, .ref ah, .ref aw, .ref au])), eJ G ah 64 (tH kf gf xf yf (nd * 16) hf), eJ G aw 64 (tW kf gf xf yf (nd * 16) wf)]) hD hS hA [5, 6, 1, 2, 3, 4, 7, 9, 10] rfl
  refine ca_Qv (wr := [(h0, .inr (7, [.ref pl, .ref dk, .ref hr_, .ref ry, .ref bd, .ref of_, .ref fd])), eI G as_ 64 (tS kf gf xf yf (nd * 16) sf), eJ G au 4 (tU kf gf xf yf nd uf), (pl, .inr (5, [.ref ak, .ref ag, .long bl])), eI G ak 64 kf, eI G ag 64 gf, (dk, .inr (1, [.ref ax, .ref ay, .ref az, .int (nI nd), .int kp])), eI G ax 4 xf, eI G ay 4 yf]) (va_runVN (As := [.ref hr_, .ref ry, .int (nI nd), .long bl]) (rest := []) ⟨hx, hb, hml, hown, hts⟩ (c_X0_follow ln G bd aw_ gl ca hr_ ab ap agg al mo ne ry as_ ah aw au lf lo pf sg (tH kf gf xf yf (nd * 16) hf) (tW kf gf xf yf (nd * 16) wf) nd bl H.size (by omega) (by assumption)) ⟨va_cnB 4 hts (gA kCode_X0_follow) rfl rfl rfl (nM_X7_199 hE.2) (hts _ kIni_X0) hd_X0_follow ⟨Nat.le_of_ble_eq_true rfl, Nat.le_of_ble_eq_true rfl⟩, hts _ kIm_X0_follow, hts _ kSel_X0_follow⟩ ⟨rw_blind, va_recv hE.1 hP (ci := 0) (q0 := 5) rfl rfl, (rw_pre (hP.sub [5, 6, 1, 2, 3, 4, 7, 9, 10] rfl) (hD.sub [5, 6, 1, 2, 3, 4, 7, 9, 10] (by decide) rfl) hF_ hS hE hT)⟩ rfl rfl hl.1 rfl (lv_room (Nat.le_of_ble_eq_true rfl)) dX7_look_41 ⟨Nat.zero_le _, Nat.zero_le _⟩) hP hD hS hA [5, 6, 1, 2, 3, 4, 7, 9, 10] [0, 8, 11, 12, 13, 14, 15, 16, 17] rfl rfl rfl (by decide) (fun u_41 H locs w_41 hP hD hS => ?_)
  have hP : va_P G.1 vwCl [(h0, .inr (7, [.ref pl, .ref dk, .ref hr_, .ref ry, .ref bd, .ref of_, .ref fd])), eI G as_ 64 (tS kf gf xf yf (nd * 16) sf), eJ G au 4 (tU kf gf xf yf nd uf), (pl, .inr (5, [.ref ak, .ref ag, .long bl])), eI G ak 64 kf, eI G ag 64 gf, (dk, .inr (1, [.ref ax, .ref ay, .ref az, .int (nI nd), .int kp])), eI G ax 4 xf, eI G ay 4 yf, (bd, .inr (0, [.ref aw_, .int gl, .int ca])), eJ G aw_ 12 (loA lo sg pf (tH kf gf xf yf (nd * 16) hf) (tW kf gf xf yf (nd * 16) wf) gl ca nd bl 12 lf), (hr_, .inr (3, [.ref ab, .ref ap, .ref agg, .ref al, .int mo, .int ne])), eI G ap 12 pf, eI G agg 12 sg, eZ G al 12 lo, (ry, .inr (6, [.ref as_, .ref ah, .ref aw, .ref au])), eJ G ah 64 (tH kf gf xf yf (nd * 16) hf), eJ G aw 64 (tW kf gf xf yf (nd * 16) wf)] H := hP
  have hD : va_D A [(h0, .inr (7, [.ref pl, .ref dk, .ref hr_, .ref ry, .ref bd, .ref of_, .ref fd])), eI G as_ 64 (tS kf gf xf yf (nd * 16) sf), eJ G au 4 (tU kf gf xf yf nd uf), (pl, .inr (5, [.ref ak, .ref ag, .long bl])), eI G ak 64 kf, eI G ag 64 gf, (dk, .inr (1, [.ref ax, .ref ay, .ref az, .int (nI nd), .int kp])), eI G ax 4 xf, eI G ay 4 yf, (bd, .inr (0, [.ref aw_, .int gl, .int ca])), eJ G aw_ 12 (loA lo sg pf (tH kf gf xf yf (nd * 16) hf) (tW kf gf xf yf (nd * 16) wf) gl ca nd bl 12 lf), (hr_, .inr (3, [.ref ab, .ref ap, .ref agg, .ref al, .int mo, .int ne])), eI G ap 12 pf, eI G agg 12 sg, eZ G al 12 lo, (ry, .inr (6, [.ref as_, .ref ah, .ref aw, .ref au])), eJ G ah 64 (tH kf gf xf yf (nd * 16) hf), eJ G aw 64 (tW kf gf xf yf (nd * 16) wf)] := hD
  have hP9 := hP.sub (ws' := [(h0, .inr (7, [.ref pl, .ref dk, .ref hr_, .ref ry, .ref bd, .ref of_, .ref fd])), (pl, .inr (5, [.ref ak, .ref ag, .long bl])), eI G ak 64 kf, eI G ag 64 gf, (dk, .inr (1, [.ref ax, .ref ay, .ref az, .int (nI nd), .int kp])), eI G ax 4 xf, eI G ay 4 yf, (hr_, .inr (3, [.ref ab, .ref ap, .ref agg, .ref al, .int mo, .int ne])), eI G ap 12 pf, eI G agg 12 sg, eZ G al 12 lo, (ry, .inr (6, [.ref as_, .ref ah, .ref aw, .ref au])), eI G as_ 64 (tS kf gf xf yf (nd * 16) sf), eJ G ah 64 (tH kf gf xf yf (nd * 16) hf), eJ G aw 64 (tW kf gf xf yf (nd * 16) wf), eJ G au 4 (tU kf gf xf yf nd uf), (bd, .inr (0, [.ref aw_, .int gl, .int ca])), eJ G aw_ 12 (loA lo sg pf (tH kf gf xf yf (nd * 16) hf) (tW kf gf xf yf (nd * 16) wf) gl ca nd bl 12 lf)]) [0, 3, 4, 5, 6, 7, 8, 11, 12, 13, 14, 15, 1, 16, 17, 2, 9, 10] rfl
  have hD9 := hD.sub (ws' := [(h0, .inr (7, [.ref pl, .ref dk, .ref hr_, .ref ry, .ref bd, .ref of_, .ref fd])), (pl, .inr (5, [.ref ak, .ref ag, .long bl])), eI G ak 64 kf, eI G ag 64 gf, (dk, .inr (1, [.ref ax, .ref ay, .ref az, .int (nI nd), .int kp])), eI G ax 4 xf, eI G ay 4 yf, (hr_, .inr (3, [.ref ab, .ref ap, .ref agg, .ref al, .int mo, .int ne])), eI G ap 12 pf, eI G agg 12 sg, eZ G al 12 lo, (ry, .inr (6, [.ref as_, .ref ah, .ref aw, .ref au])), eI G as_ 64 (tS kf gf xf yf (nd * 16) sf), eJ G ah 64 (tH kf gf xf yf (nd * 16) hf), eJ G aw 64 (tW kf gf xf yf (nd * 16) wf), eJ G au 4 (tU kf gf xf yf nd uf), (bd, .inr (0, [.ref aw_, .int gl, .int ca])), eJ G aw_ 12 (loA lo sg pf (tH kf gf xf yf (nd * 16) hf) (tW kf gf xf yf (nd * 16) wf) gl ca nd bl 12 lf)]) [0, 3, 4, 5, 6, 7, 8, 11, 12, 13, 14, 15, 1, 16, 17, 2, 9, 10] (by decide) rfl
  exact W.vret hx hb hr (fun t ht hW => ⟨⟨(), rfl, trivial, by rw [ht]; exact hP9, hD9⟩, hS.F ht⟩) hS.2.2 dX7_look_44
set_option maxHeartbeats 4000000 in
set_option maxRecDepth 100000 in
theorem c_X7_lightOf (ln : Launch) (G : gT) (h0 : Nat) (pl : Nat) (dk : Nat) (hr_ : Nat) (ry : Nat) (bd : Nat) (of_ : Nat) (fd : Nat) (ak : Nat) (ag : Nat) (bl : Int64) (ax : Nat) (ay : Nat) (az : Nat) (nd : Nat) (kp : Int32) (ab : Nat) (ap : Nat) (agg : Nat) (al : Nat) (mo : Int32) (ne : Int32) (as_ : Nat) (ah : Nat) (aw : Nat) (au : Nat) (aw_ : Nat) (gl : Int32) (ca : Int32) (gf : Nat → Int32) (xf : Nat → Int32) (yf : Nat → Int32) (br : Nat → Int32) (pf : Nat → Int32) (sg : Nat → Int32) (lo : Nat → Bool) (sf : Nat → Int32) (hf : Nat → Int64) (wf : Nat → Int64) (uf : Nat → Int64) (lf : Nat → Int64) (d : Nat) (h : Nat) (ed : Int32) (hd4 : d < 4) (hh : h < 12) (hs8 : ∀ q, q < 16 → (sf (d * 16 + q)).toInt ≤ 8) (hpf : vp_in (pf h) 16) : Met ln yX7_lightOf (wA (.code yX7_lightOf cX7_lightOf 13 (some .int))) ({ frames := 3, cells := 0, slots := 0, locals := 82 } : Room) (va_Pc [.ref h0, .int (nI d), .int (nI h), .int ed] (roB G [(h0, .inr (7, [.ref pl, .ref dk, .ref hr_, .ref ry, .ref bd, .ref of_, .ref fd])), (pl, .inr (5, [.ref ak, .ref ag, .long bl])), eI G ag 64 gf, (dk, .inr (1, [.ref ax, .ref ay, .ref az, .int (nI nd), .int kp])), eI G ax 4 xf, eI G ay 4 yf, (hr_, .inr (3, [.ref ab, .ref ap, .ref agg, .ref al, .int mo, .int ne])), eI G ab 12 br, eI G ap 12 pf, eI G agg 12 sg, eZ G al 12 lo, (ry, .inr (6, [.ref as_, .ref ah, .ref aw, .ref au])), eI G as_ 64 sf, eJ G ah 64 hf, eJ G aw 64 wf, eJ G au 4 uf, (bd, .inr (0, [.ref aw_, .int gl, .int ca])), eJ G aw_ 12 lf])) (vp_Si (fun r => r = dlV lo br sg pf mo gf xf yf sf hf wf uf lf ed d h)) 0 0 (fun _ => False) := by
  refine Met.ofW (cc := cX7_lightOf) (maxL := 13) (ret := (some .int)) (by decide) rfl ?_
  intro pg ev s mi args below meth cd s₁ B hml hv
  obtain ⟨rfl, hP, hE, hT⟩ := hv
  have hx := B.exec
  have hb := B.bytes
  have hr := B.returns
  have hts0 := atoms_spec (ws := wA (.code yX7_lightOf cX7_lightOf 13 (some .int))) B.pre
  have hts : ∀ w ∈ wsA, w.before _ s = true := fun w h => hts0 w (List.mem_cons_of_mem _ h)
  have hown : s.vm.findClass RX7 = some mi.cls := findClass_of_methodNamed B.named
  have hlocks := B.notSynchronized
  have hS : va_S (fun _ => False) s.heap s.heap [] := va_S.rf
  have hl := lv_entry ([.ref h0, .int (nI d), .int (nI h), .int ed]) (n := 13) (Nat.le_of_ble_eq_true rfl)
  rw [lg_entry_eq]
  generalize (lg_sl ([.ref h0, .int (nI d), .int (nI h), .int ed]) ++ List.replicate (13 - (lg_sl ([.ref h0, .int (nI d), .int (nI h), .int ed])).length) Slot.unset).toArray = ls at hl ⊢
  have hl : lv_has ls 13 [(0, .ref h0), (1, .int (nI d)), (2, .int (nI h)), (3, .int ed)] := hl
  refine lv_aload_n hx hb dX7_lightOf_0 rfl (lv_at hl 0 rfl) ?_
  refine va_get (ci := 7) (C := RX7) (T := TX7) (N := 7) hx hb hts hinX7 hown hE.1 hP 0 rfl rfl 2 (by decide) (hts _ kFl_X7_26) (fun _ h9 => h9) rfl dX7_lightOf_1 ?_
  refine va_getN (ci := 3) (C := RX3) (T := TX3) (N := 6) hx hb hts hinX3 hown hE.1 hP 6 rfl rfl 3 (by decide) (nF_X7_121 hE.2) (fun _ h9 => h9) rfl dX7_lightOf_4 ?_
  refine lv_iload_n hx hb dX7_lightOf_7 rfl (lv_at hl 2 rfl) ?_
  refine rz_ald (j := h) hx hb hE hP 10 rfl (nI_clamp (by omega)) (vp_in_nI (by omega) (by omega)) dX7_lightOf_8 ?_
  refine lv_istore (lv' := [(4, .int (b2i (lo h))), (0, .ref h0), (1, .int (nI d)), (2, .int (nI h)), (3, .int ed)]) hx hb dX7_lightOf_9 hl (by decide) rfl (fun ls hl => ?_)
  refine lv_iload hx hb dX7_lightOf_11 (lv_at hl 0 rfl) ?_
  refine lv_if_eq (tgt := 22) hx hb dX7_lightOf_13 (by decide) (fun c_13 => ?_) (fun c_13 => ?_)
  · skip
    have c_13 := b2i_z c_13
    refine lv_aload_n hx hb dX7_lightOf_22 rfl (lv_at hl 1 rfl) ?_
    refine va_get (ci := 7) (C := RX7) (T := TX7) (N := 7) hx hb hts hinX7 hown hE.1 hP 0 rfl rfl 4 (by decide) (hts _ kFl_X7_40) (fun _ h9 => h9) rfl dX7_lightOf_23 ?_
    refine va_getN (ci := 0) (C := RX0) (T := TX0) (N := 3) hx hb hts hinX0 hown hE.1 hP 16 rfl rfl 0 (by decide) (nF_X7_143 hE.2) (fun _ h9 => h9) rfl dX7_lightOf_26 ?_
    refine lv_iload_n hx hb dX7_lightOf_29 rfl (lv_at hl 3 rfl) ?_
    refine rj_ald (j := h) hx hb hE hP 17 rfl (nI_clamp (by omega)) (vp_in_nI (by omega) (by omega)) dX7_lightOf_30 ?_
    refine lv_lstore (lv' := [(5, .long (lf h)), (4, .int (b2i (lo h))), (0, .ref h0), (1, .int (nI d)), (2, .int (nI h)), (3, .int ed)]) hx hb dX7_lightOf_31 hl (by decide) rfl (fun ls hl => ?_)
    refine lv_iload hx hb dX7_lightOf_33 (lv_at hl 1 rfl) ?_
    refine lv_if_eq (tgt := 49) hx hb dX7_lightOf_35 (by decide) (fun c_35 => ?_) (fun c_35 => ?_)
    · skip
      have c_35 := b2i_z c_35
      refine lv_aload_n hx hb dX7_lightOf_49 rfl (lv_at hl 2 rfl) ?_
      refine va_get (ci := 7) (C := RX7) (T := TX7) (N := 7) hx hb hts hinX7 hown hE.1 hP 0 rfl rfl 2 (by decide) (hts _ kFl_X7_26) (fun _ h9 => h9) rfl dX7_lightOf_50 ?_
      refine va_getN (ci := 3) (C := RX3) (T := TX3) (N := 6) hx hb hts hinX3 hown hE.1 hP 6 rfl rfl 0 (by decide) (nF_X7_115 hE.2) (fun _ h9 => h9) rfl dX7_lightOf_53 ?_
      refine lv_iload_n hx hb dX7_lightOf_56 rfl (lv_at hl 4 rfl) ?_
      refine ri_ald (j := h) hx hb hE hP 7 rfl (nI_clamp (by omega)) (vp_in_nI (by omega) (by omega)) dX7_lightOf_57 ?_
      refine lv_i2l hx hb dX7_lightOf_58 rfl ?_
      refine lv_lstore (lv' := [(7, .long ((br h).toInt64)), (5, .long (lf h)), (4, .int (b2i (lo h))), (0, .ref h0), (1, .int (nI d)), (2, .int (nI h)), (3, .int ed)]) hx hb dX7_lightOf_59 hl (by decide) rfl (fun ls hl => ?_)
      refine lv_lload hx hb dX7_lightOf_61 (lv_at hl 0 rfl) ?_
      refine lv_aload_n hx hb dX7_lightOf_63 rfl (lv_at hl 3 rfl) ?_
      refine va_get (ci := 7) (C := RX7) (T := TX7) (N := 7) hx hb hts hinX7 hown hE.1 hP 0 rfl rfl 3 (by decide) (hts _ kFl_X7_33) (fun _ h9 => h9) rfl dX7_lightOf_64 ?_
      refine lv_aload_n hx hb dX7_lightOf_67 rfl (lv_at hl 3 rfl) ?_
      refine va_get (ci := 7) (C := RX7) (T := TX7) (N := 7) hx hb hts hinX7 hown hE.1 hP 0 rfl rfl 0 (by decide) (hts _ kFl_X7_12) (fun _ h9 => h9) rfl dX7_lightOf_68 ?_
      refine lv_aload_n hx hb dX7_lightOf_71 rfl (lv_at hl 3 rfl) ?_
      refine va_get (ci := 7) (C := RX7) (T := TX7) (N := 7) hx hb hts hinX7 hown hE.1 hP 0 rfl rfl 1 (by decide) (hts _ kFl_X7_19) (fun _ h9 => h9) rfl dX7_lightOf_72 ?_
      refine lv_iload_n hx hb dX7_lightOf_75 rfl (lv_at hl 4 rfl) ?_
      refine lv_lload hx hb dX7_lightOf_76 (lv_at hl 1 rfl) ?_
      refine ca_Sl (val := sumV gf xf yf sf hf wf uf (lf h) d) (va_runVN (As := [.ref pl, .ref dk, .int (nI d), .long (lf h)]) (rest := [.long ((br h).toInt64)]) ⟨hx, hb, hml, hown, hts⟩ (c_X6_sumUnder ln G ry as_ ah aw au pl ak ag bl dk ax ay az nd kp gf sf hf wf uf xf yf d (lf h) (by omega) hs8) ⟨va_cnB 4 hts (gA kCode_X6_sumUnder) rfl rfl rfl (nM_X7_203 hE.2) (hts _ kIni_X6) hd_X6_sumUnder ⟨Nat.le_of_ble_eq_true rfl, Nat.le_of_ble_eq_true rfl⟩, hts _ kIm_X6_sumUnder, hts _ kSel_X6_sumUnder⟩ ⟨ro_blind, va_recv hE.1 hP (ci := 6) (q0 := 11) rfl rfl, (ro_pre (hP.sub [11, 12, 13, 14, 15, 1, 2, 3, 4, 5] rfl) hS hE hT)⟩ rfl rfl hl.1 rfl (lv_room (Nat.le_of_ble_eq_true rfl)) dX7_lightOf_78 ⟨Nat.zero_le _, Nat.zero_le _⟩) ?_
      refine lv_lmul hx hb dX7_lightOf_81 ?_
      refine lv_lstore (lv' := [(9, .long (((br h).toInt64) * (sumV gf xf yf sf hf wf uf (lf h) d))), (7, .long ((br h).toInt64)), (5, .long (lf h)), (4, .int (b2i (lo h))), (0, .ref h0), (1, .int (nI d)), (2, .int (nI h)), (3, .int ed)]) hx hb dX7_lightOf_82 hl (by decide) rfl (fun ls hl => ?_)
      refine lv_aload_n hx hb dX7_lightOf_84 rfl (lv_at hl 4 rfl) ?_
      refine va_get (ci := 7) (C := RX7) (T := TX7) (N := 7) hx hb hts hinX7 hown hE.1 hP 0 rfl rfl 2 (by decide) (hts _ kFl_X7_26) (fun _ h9 => h9) rfl dX7_lightOf_85 ?_
      refine lv_iload_n hx hb dX7_lightOf_88 rfl (lv_at hl 6 rfl) ?_
      refine ca_Si (val := b2i (sunB lo sg (nI h).toNatClampNeg)) (va_runVN (As := [.int (nI h)]) (rest := []) ⟨hx, hb, hml, hown, hts⟩ (c_X3_hasSun ln G hr_ ab ap agg al mo ne sg lo (nI h) (vp_in_nI (by omega) (by omega))) ⟨va_cnB 1 hts (gA kCode_X3_hasSun) rfl rfl rfl (nM_X7_207 hE.2) (hts _ kIni_X3) hd_X3_hasSun ⟨Nat.le_of_ble_eq_true rfl, Nat.le_of_ble_eq_true rfl⟩, hts _ kIm_X3_hasSun, hts _ kSel_X3_hasSun⟩ ⟨ro_blind, va_recv hE.1 hP (ci := 3) (q0 := 6) rfl rfl, (ro_pre (hP.sub [6, 9, 10] rfl) hS hE hT)⟩ rfl rfl hl.1 rfl (lv_room (Nat.le_of_ble_eq_true rfl)) dX7_lightOf_89 ⟨Nat.zero_le _, Nat.zero_le _⟩) ?_
      rw [show (b2i (sunB lo sg (nI h).toNatClampNeg)) = (b2i (sunB lo sg h)) from by rw [nI_clamp (by omega)]]
      refine lv_if_eq (tgt := 146) hx hb dX7_lightOf_92 (by decide) (fun c_92 => ?_) (fun c_92 => ?_)
      · skip
        have c_92 := b2i_z c_92
        refine lv_lload hx hb dX7_lightOf_146 (lv_at hl 0 rfl) ?_
        refine lv_ldc2 hx hb hown (hts _ kCl_X7_216) dX7_lightOf_148 ?_
        refine lv_ldiv hx hb dX7_lightOf_151 (by decide) ?_
        refine lv_l2i hx hb dX7_lightOf_152 rfl ?_
        exact W.iret (v := ((((br h).toInt64) * (sumV gf xf yf sf hf wf uf (lf h) d)) / 33554432).toInt32) hx hb hr (fun t ht hW => ⟨((((br h).toInt64) * (sumV gf xf yf sf hf wf uf (lf h) d)) / 33554432).toInt32, rfl, (by unfold dlV; exact lt_p3 c_13 c_92), ht⟩) hS.2.2 dX7_lightOf_153
      · skip
        have c_92 := b2i_n c_92
        refine lv_aload_n hx hb dX7_lightOf_95 rfl (lv_at hl 4 rfl) ?_
        refine va_get (ci := 7) (C := RX7) (T := TX7) (N := 7) hx hb hts hinX7 hown hE.1 hP 0 rfl rfl 3 (by decide) (hts _ kFl_X7_33) (fun _ h9 => h9) rfl dX7_lightOf_96 ?_
        refine lv_aload_n hx hb dX7_lightOf_99 rfl (lv_at hl 4 rfl) ?_
        refine va_get (ci := 7) (C := RX7) (T := TX7) (N := 7) hx hb hts hinX7 hown hE.1 hP 0 rfl rfl 0 (by decide) (hts _ kFl_X7_12) (fun _ h9 => h9) rfl dX7_lightOf_100 ?_
        refine lv_aload_n hx hb dX7_lightOf_103 rfl (lv_at hl 4 rfl) ?_
        refine va_get (ci := 7) (C := RX7) (T := TX7) (N := 7) hx hb hts hinX7 hown hE.1 hP 0 rfl rfl 1 (by decide) (hts _ kFl_X7_19) (fun _ h9 => h9) rfl dX7_lightOf_104 ?_
        refine lv_iload_n hx hb dX7_lightOf_107 rfl (lv_at hl 5 rfl) ?_
        refine lv_aload_n hx hb dX7_lightOf_108 rfl (lv_at hl 4 rfl) ?_
        refine va_get (ci := 7) (C := RX7) (T := TX7) (N := 7) hx hb hts hinX7 hown hE.1 hP 0 rfl rfl 2 (by decide) (hts _ kFl_X7_26) (fun _ h9 => h9) rfl dX7_lightOf_109 ?_
        refine va_getN (ci := 3) (C := RX3) (T := TX3) (N := 6) hx hb hts hinX3 hown hE.1 hP 6 rfl rfl 1 (by decide) (nF_X7_125 hE.2) (fun _ h9 => h9) rfl dX7_lightOf_112 ?_
        refine lv_iload_n hx hb dX7_lightOf_115 rfl (lv_at hl 6 rfl) ?_
        refine ri_ald (j := h) hx hb hE hP 8 rfl (nI_clamp (by omega)) (vp_in_nI (by omega) (by omega)) dX7_lightOf_116 ?_
        rw [(nI_back hpf (by omega)).1]
        refine lv_lload hx hb dX7_lightOf_117 (lv_at hl 2 rfl) ?_
        refine ca_Sl (val := suV gf xf yf sf hf wf (lf h) d ((pf h).toNatClampNeg)) (va_runVN (As := [.ref pl, .ref dk, .int (nI d), .int (nI (pf h).toNatClampNeg), .long (lf h)]) (rest := []) ⟨hx, hb, hml, hown, hts⟩ (c_X6_shareUnder ln G ry as_ ah aw au pl ak ag bl dk ax ay az nd kp gf sf hf wf xf yf d ((pf h).toNatClampNeg) (lf h) (by omega) ((nI_back hpf (by omega)).2) (hs8 _ (nI_back hpf (by omega)).2)) ⟨va_cnB 5 hts (gA kCode_X6_shareUnder) rfl rfl rfl (nM_X7_210 hE.2) (hts _ kIni_X6) hd_X6_shareUnder ⟨Nat.le_of_ble_eq_true rfl, Nat.le_of_ble_eq_true rfl⟩, hts _ kIm_X6_shareUnder, hts _ kSel_X6_shareUnder⟩ ⟨ro_blind, va_recv hE.1 hP (ci := 6) (q0 := 11) rfl rfl, (ro_pre (hP.sub [11, 12, 13, 14, 1, 2, 3, 4, 5] rfl) hS hE hT)⟩ rfl rfl hl.1 rfl (lv_room (Nat.le_of_ble_eq_true rfl)) dX7_lightOf_119 ⟨Nat.zero_le _, Nat.zero_le _⟩) ?_
        refine lv_lstore (lv' := [(11, .long (suV gf xf yf sf hf wf (lf h) d ((pf h).toNatClampNeg))), (9, .long (((br h).toInt64) * (sumV gf xf yf sf hf wf uf (lf h) d))), (7, .long ((br h).toInt64)), (5, .long (lf h)), (4, .int (b2i (lo h))), (0, .ref h0), (1, .int (nI d)), (2, .int (nI h)), (3, .int ed)]) hx hb dX7_lightOf_122 hl (by decide) rfl (fun ls hl => ?_)
        refine lv_lload hx hb dX7_lightOf_124 (lv_at hl 1 rfl) ?_
        refine lv_aload_n hx hb dX7_lightOf_126 rfl (lv_at hl 5 rfl) ?_
        refine va_get (ci := 7) (C := RX7) (T := TX7) (N := 7) hx hb hts hinX7 hown hE.1 hP 0 rfl rfl 2 (by decide) (hts _ kFl_X7_26) (fun _ h9 => h9) rfl dX7_lightOf_127 ?_
        refine va_getN (ci := 3) (C := RX3) (T := TX3) (N := 6) hx hb hts hinX3 hown hE.1 hP 6 rfl rfl 2 (by decide) (nF_X7_118 hE.2) (fun _ h9 => h9) rfl dX7_lightOf_130 ?_
        refine lv_iload_n hx hb dX7_lightOf_133 rfl (lv_at hl 7 rfl) ?_
        refine ri_ald (j := h) hx hb hE hP 9 rfl (nI_clamp (by omega)) (vp_in_nI (by omega) (by omega)) dX7_lightOf_134 ?_
        refine lv_i2l hx hb dX7_lightOf_135 rfl ?_
        refine lv_ldc2 hx hb hown (hts _ kCl_X7_214) dX7_lightOf_136 ?_
        refine lv_lmul hx hb dX7_lightOf_139 ?_
        refine lv_lload hx hb dX7_lightOf_140 (lv_at hl 0 rfl) ?_
        refine lv_lmul hx hb dX7_lightOf_142 ?_
        refine lv_ladd hx hb dX7_lightOf_143 ?_
        refine lv_lstore (lv' := [(9, .long ((((br h).toInt64) * (sumV gf xf yf sf hf wf uf (lf h) d)) + ((((sg h).toInt64) * 16) * (suV gf xf yf sf hf wf (lf h) d ((pf h).toNatClampNeg))))), (11, .long (suV gf xf yf sf hf wf (lf h) d ((pf h).toNatClampNeg))), (7, .long ((br h).toInt64)), (5, .long (lf h)), (4, .int (b2i (lo h))), (0, .ref h0), (1, .int (nI d)), (2, .int (nI h)), (3, .int ed)]) hx hb dX7_lightOf_144 hl (by decide) rfl (fun ls hl => ?_)
        refine lv_lload hx hb dX7_lightOf_146 (lv_at hl 0 rfl) ?_
        refine lv_ldc2 hx hb hown (hts _ kCl_X7_216) dX7_lightOf_148 ?_
        refine lv_ldiv hx hb dX7_lightOf_151 (by decide) ?_
        refine lv_l2i hx hb dX7_lightOf_152 rfl ?_
        exact W.iret (v := (((((br h).toInt64) * (sumV gf xf yf sf hf wf uf (lf h) d)) + ((((sg h).toInt64) * 16) * (suV gf xf yf sf hf wf (lf h) d ((pf h).toNatClampNeg)))) / 33554432).toInt32) hx hb hr (fun t ht hW => ⟨(((((br h).toInt64) * (sumV gf xf yf sf hf wf uf (lf h) d)) + ((((sg h).toInt64) * 16) * (suV gf xf yf sf hf wf (lf h) d ((pf h).toNatClampNeg)))) / 33554432).toInt32, rfl, (by unfold dlV; exact lt_p4 c_13 c_92), ht⟩) hS.2.2 dX7_lightOf_153
    · skip
      have c_35 := b2i_n c_35
      exact absurd (c_35.symm.trans c_13) (by decide)
  · skip
    have c_13 := b2i_n c_13
    refine lv_iload_n hx hb dX7_lightOf_16 rfl (lv_at hl 4 rfl) ?_
    refine lv_if_ne (tgt := 22) hx hb dX7_lightOf_17 (by decide) (fun c_17 => ?_) (fun c_17 => ?_)
    · skip
      refine lv_aload_n hx hb dX7_lightOf_22 rfl (lv_at hl 1 rfl) ?_
      refine va_get (ci := 7) (C := RX7) (T := TX7) (N := 7) hx hb hts hinX7 hown hE.1 hP 0 rfl rfl 4 (by decide) (hts _ kFl_X7_40) (fun _ h9 => h9) rfl dX7_lightOf_23 ?_
      refine va_getN (ci := 0) (C := RX0) (T := TX0) (N := 3) hx hb hts hinX0 hown hE.1 hP 16 rfl rfl 0 (by decide) (nF_X7_143 hE.2) (fun _ h9 => h9) rfl dX7_lightOf_26 ?_
      refine lv_iload_n hx hb dX7_lightOf_29 rfl (lv_at hl 3 rfl) ?_
      refine rj_ald (j := h) hx hb hE hP 17 rfl (nI_clamp (by omega)) (vp_in_nI (by omega) (by omega)) dX7_lightOf_30 ?_
      refine lv_lstore (lv' := [(5, .long (lf h)), (4, .int (b2i (lo h))), (0, .ref h0), (1, .int (nI d)), (2, .int (nI h)), (3, .int ed)]) hx hb dX7_lightOf_31 hl (by decide) rfl (fun ls hl => ?_)
      refine lv_iload hx hb dX7_lightOf_33 (lv_at hl 1 rfl) ?_
      refine lv_if_eq (tgt := 49) hx hb dX7_lightOf_35 (by decide) (fun c_35 => ?_) (fun c_35 => ?_)
      · skip
        have c_35 := b2i_z c_35
        exact absurd (c_35.symm.trans c_13) (by decide)
      · skip
        have c_35 := b2i_n c_35
        refine lv_aload_n hx hb dX7_lightOf_38 rfl (lv_at hl 2 rfl) ?_
        refine va_get (ci := 7) (C := RX7) (T := TX7) (N := 7) hx hb hts hinX7 hown hE.1 hP 0 rfl rfl 2 (by decide) (hts _ kFl_X7_26) (fun _ h9 => h9) rfl dX7_lightOf_39 ?_
        refine va_getN (ci := 3) (C := RX3) (T := TX3) (N := 6) hx hb hts hinX3 hown hE.1 hP 6 rfl rfl 4 (by decide) (nF_X7_128 hE.2) (fun _ h9 => h9) rfl dX7_lightOf_42 ?_
        refine lv_i2l hx hb dX7_lightOf_45 rfl ?_
        refine lv_goto (tgt := 59) hx hb dX7_lightOf_46 (by decide) ?_
        refine lv_lstore (lv' := [(7, .long mo.toInt64), (5, .long (lf h)), (4, .int (b2i (lo h))), (0, .ref h0), (1, .int (nI d)), (2, .int (nI h)), (3, .int ed)]) hx hb dX7_lightOf_59 hl (by decide) rfl (fun ls hl => ?_)
        refine lv_lload hx hb dX7_lightOf_61 (lv_at hl 0 rfl) ?_
        refine lv_aload_n hx hb dX7_lightOf_63 rfl (lv_at hl 3 rfl) ?_
        refine va_get (ci := 7) (C := RX7) (T := TX7) (N := 7) hx hb hts hinX7 hown hE.1 hP 0 rfl rfl 3 (by decide) (hts _ kFl_X7_33) (fun _ h9 => h9) rfl dX7_lightOf_64 ?_
        refine lv_aload_n hx hb dX7_lightOf_67 rfl (lv_at hl 3 rfl) ?_
        refine va_get (ci := 7) (C := RX7) (T := TX7) (N := 7) hx hb hts hinX7 hown hE.1 hP 0 rfl rfl 0 (by decide) (hts _ kFl_X7_12) (fun _ h9 => h9) rfl dX7_lightOf_68 ?_
        refine lv_aload_n hx hb dX7_lightOf_71 rfl (lv_at hl 3 rfl) ?_
        refine va_get (ci := 7) (C := RX7) (T := TX7) (N := 7) hx hb hts hinX7 hown hE.1 hP 0 rfl rfl 1 (by decide) (hts _ kFl_X7_19) (fun _ h9 => h9) rfl dX7_lightOf_72 ?_
        refine lv_iload_n hx hb dX7_lightOf_75 rfl (lv_at hl 4 rfl) ?_
        refine lv_lload hx hb dX7_lightOf_76 (lv_at hl 1 rfl) ?_
        refine ca_Sl (val := sumV gf xf yf sf hf wf uf (lf h) d) (va_runVN (As := [.ref pl, .ref dk, .int (nI d), .long (lf h)]) (rest := [.long mo.toInt64]) ⟨hx, hb, hml, hown, hts⟩ (c_X6_sumUnder ln G ry as_ ah aw au pl ak ag bl dk ax ay az nd kp gf sf hf wf uf xf yf d (lf h) (by omega) hs8) ⟨va_cnB 4 hts (gA kCode_X6_sumUnder) rfl rfl rfl (nM_X7_203 hE.2) (hts _ kIni_X6) hd_X6_sumUnder ⟨Nat.le_of_ble_eq_true rfl, Nat.le_of_ble_eq_true rfl⟩, hts _ kIm_X6_sumUnder, hts _ kSel_X6_sumUnder⟩ ⟨ro_blind, va_recv hE.1 hP (ci := 6) (q0 := 11) rfl rfl, (ro_pre (hP.sub [11, 12, 13, 14, 15, 1, 2, 3, 4, 5] rfl) hS hE hT)⟩ rfl rfl hl.1 rfl (lv_room (Nat.le_of_ble_eq_true rfl)) dX7_lightOf_78 ⟨Nat.zero_le _, Nat.zero_le _⟩) ?_
        refine lv_lmul hx hb dX7_lightOf_81 ?_
        refine lv_lstore (lv' := [(9, .long (mo.toInt64 * (sumV gf xf yf sf hf wf uf (lf h) d))), (7, .long mo.toInt64), (5, .long (lf h)), (4, .int (b2i (lo h))), (0, .ref h0), (1, .int (nI d)), (2, .int (nI h)), (3, .int ed)]) hx hb dX7_lightOf_82 hl (by decide) rfl (fun ls hl => ?_)
        refine lv_aload_n hx hb dX7_lightOf_84 rfl (lv_at hl 4 rfl) ?_
        refine va_get (ci := 7) (C := RX7) (T := TX7) (N := 7) hx hb hts hinX7 hown hE.1 hP 0 rfl rfl 2 (by decide) (hts _ kFl_X7_26) (fun _ h9 => h9) rfl dX7_lightOf_85 ?_
        refine lv_iload_n hx hb dX7_lightOf_88 rfl (lv_at hl 6 rfl) ?_
        refine ca_Si (val := b2i (sunB lo sg (nI h).toNatClampNeg)) (va_runVN (As := [.int (nI h)]) (rest := []) ⟨hx, hb, hml, hown, hts⟩ (c_X3_hasSun ln G hr_ ab ap agg al mo ne sg lo (nI h) (vp_in_nI (by omega) (by omega))) ⟨va_cnB 1 hts (gA kCode_X3_hasSun) rfl rfl rfl (nM_X7_207 hE.2) (hts _ kIni_X3) hd_X3_hasSun ⟨Nat.le_of_ble_eq_true rfl, Nat.le_of_ble_eq_true rfl⟩, hts _ kIm_X3_hasSun, hts _ kSel_X3_hasSun⟩ ⟨ro_blind, va_recv hE.1 hP (ci := 3) (q0 := 6) rfl rfl, (ro_pre (hP.sub [6, 9, 10] rfl) hS hE hT)⟩ rfl rfl hl.1 rfl (lv_room (Nat.le_of_ble_eq_true rfl)) dX7_lightOf_89 ⟨Nat.zero_le _, Nat.zero_le _⟩) ?_
        rw [show (b2i (sunB lo sg (nI h).toNatClampNeg)) = (b2i (sunB lo sg h)) from by rw [nI_clamp (by omega)]]
        refine lv_if_eq (tgt := 146) hx hb dX7_lightOf_92 (by decide) (fun c_92 => ?_) (fun c_92 => ?_)
        · skip
          have c_92 := b2i_z c_92
          refine lv_lload hx hb dX7_lightOf_146 (lv_at hl 0 rfl) ?_
          refine lv_ldc2 hx hb hown (hts _ kCl_X7_216) dX7_lightOf_148 ?_
          refine lv_ldiv hx hb dX7_lightOf_151 (by decide) ?_
          refine lv_l2i hx hb dX7_lightOf_152 rfl ?_
          exact W.iret (v := ((mo.toInt64 * (sumV gf xf yf sf hf wf uf (lf h) d)) / 33554432).toInt32) hx hb hr (fun t ht hW => ⟨((mo.toInt64 * (sumV gf xf yf sf hf wf uf (lf h) d)) / 33554432).toInt32, rfl, (by unfold dlV; exact lt_p2 c_13 c_17), ht⟩) hS.2.2 dX7_lightOf_153
        · skip
          have c_92 := b2i_n c_92
          refine lv_aload_n hx hb dX7_lightOf_95 rfl (lv_at hl 4 rfl) ?_
          refine va_get (ci := 7) (C := RX7) (T := TX7) (N := 7) hx hb hts hinX7 hown hE.1 hP 0 rfl rfl 3 (by decide) (hts _ kFl_X7_33) (fun _ h9 => h9) rfl dX7_lightOf_96 ?_
          refine lv_aload_n hx hb dX7_lightOf_99 rfl (lv_at hl 4 rfl) ?_
          refine va_get (ci := 7) (C := RX7) (T := TX7) (N := 7) hx hb hts hinX7 hown hE.1 hP 0 rfl rfl 0 (by decide) (hts _ kFl_X7_12) (fun _ h9 => h9) rfl dX7_lightOf_100 ?_
          refine lv_aload_n hx hb dX7_lightOf_103 rfl (lv_at hl 4 rfl) ?_
          refine va_get (ci := 7) (C := RX7) (T := TX7) (N := 7) hx hb hts hinX7 hown hE.1 hP 0 rfl rfl 1 (by decide) (hts _ kFl_X7_19) (fun _ h9 => h9) rfl dX7_lightOf_104 ?_
          refine lv_iload_n hx hb dX7_lightOf_107 rfl (lv_at hl 5 rfl) ?_
          refine lv_aload_n hx hb dX7_lightOf_108 rfl (lv_at hl 4 rfl) ?_
          refine va_get (ci := 7) (C := RX7) (T := TX7) (N := 7) hx hb hts hinX7 hown hE.1 hP 0 rfl rfl 2 (by decide) (hts _ kFl_X7_26) (fun _ h9 => h9) rfl dX7_lightOf_109 ?_
          refine va_getN (ci := 3) (C := RX3) (T := TX3) (N := 6) hx hb hts hinX3 hown hE.1 hP 6 rfl rfl 1 (by decide) (nF_X7_125 hE.2) (fun _ h9 => h9) rfl dX7_lightOf_112 ?_
          refine lv_iload_n hx hb dX7_lightOf_115 rfl (lv_at hl 6 rfl) ?_
          refine ri_ald (j := h) hx hb hE hP 8 rfl (nI_clamp (by omega)) (vp_in_nI (by omega) (by omega)) dX7_lightOf_116 ?_
          rw [(nI_back hpf (by omega)).1]
          refine lv_lload hx hb dX7_lightOf_117 (lv_at hl 2 rfl) ?_
          refine ca_Sl (val := suV gf xf yf sf hf wf (lf h) d ((pf h).toNatClampNeg)) (va_runVN (As := [.ref pl, .ref dk, .int (nI d), .int (nI (pf h).toNatClampNeg), .long (lf h)]) (rest := []) ⟨hx, hb, hml, hown, hts⟩ (c_X6_shareUnder ln G ry as_ ah aw au pl ak ag bl dk ax ay az nd kp gf sf hf wf xf yf d ((pf h).toNatClampNeg) (lf h) (by omega) ((nI_back hpf (by omega)).2) (hs8 _ (nI_back hpf (by omega)).2)) ⟨va_cnB 5 hts (gA kCode_X6_shareUnder) rfl rfl rfl (nM_X7_210 hE.2) (hts _ kIni_X6) hd_X6_shareUnder ⟨Nat.le_of_ble_eq_true rfl, Nat.le_of_ble_eq_true rfl⟩, hts _ kIm_X6_shareUnder, hts _ kSel_X6_shareUnder⟩ ⟨ro_blind, va_recv hE.1 hP (ci := 6) (q0 := 11) rfl rfl, (ro_pre (hP.sub [11, 12, 13, 14, 1, 2, 3, 4, 5] rfl) hS hE hT)⟩ rfl rfl hl.1 rfl (lv_room (Nat.le_of_ble_eq_true rfl)) dX7_lightOf_119 ⟨Nat.zero_le _, Nat.zero_le _⟩) ?_
          refine lv_lstore (lv' := [(11, .long (suV gf xf yf sf hf wf (lf h) d ((pf h).toNatClampNeg))), (9, .long (mo.toInt64 * (sumV gf xf yf sf hf wf uf (lf h) d))), (7, .long mo.toInt64), (5, .long (lf h)), (4, .int (b2i (lo h))), (0, .ref h0), (1, .int (nI d)), (2, .int (nI h)), (3, .int ed)]) hx hb dX7_lightOf_122 hl (by decide) rfl (fun ls hl => ?_)
          refine lv_lload hx hb dX7_lightOf_124 (lv_at hl 1 rfl) ?_
          refine lv_aload_n hx hb dX7_lightOf_126 rfl (lv_at hl 5 rfl) ?_
          refine va_get (ci := 7) (C := RX7) (T := TX7) (N := 7) hx hb hts hinX7 hown hE.1 hP 0 rfl rfl 2 (by decide) (hts _ kFl_X7_26) (fun _ h9 => h9) rfl dX7_lightOf_127 ?_
          refine va_getN (ci := 3) (C := RX3) (T := TX3) (N := 6) hx hb hts hinX3 hown hE.1 hP 6 rfl rfl 2 (by decide) (nF_X7_118 hE.2) (fun _ h9 => h9) rfl dX7_lightOf_130 ?_
          refine lv_iload_n hx hb dX7_lightOf_133 rfl (lv_at hl 7 rfl) ?_
          refine ri_ald (j := h) hx hb hE hP 9 rfl (nI_clamp (by omega)) (vp_in_nI (by omega) (by omega)) dX7_lightOf_134 ?_
          refine lv_i2l hx hb dX7_lightOf_135 rfl ?_
          refine lv_ldc2 hx hb hown (hts _ kCl_X7_214) dX7_lightOf_136 ?_
          refine lv_lmul hx hb dX7_lightOf_139 ?_
          refine lv_lload hx hb dX7_lightOf_140 (lv_at hl 0 rfl) ?_
          refine lv_lmul hx hb dX7_lightOf_142 ?_
          refine lv_ladd hx hb dX7_lightOf_143 ?_
          refine lv_lstore (lv' := [(9, .long ((mo.toInt64 * (sumV gf xf yf sf hf wf uf (lf h) d)) + ((((sg h).toInt64) * 16) * (suV gf xf yf sf hf wf (lf h) d ((pf h).toNatClampNeg))))), (11, .long (suV gf xf yf sf hf wf (lf h) d ((pf h).toNatClampNeg))), (7, .long mo.toInt64), (5, .long (lf h)), (4, .int (b2i (lo h))), (0, .ref h0), (1, .int (nI d)), (2, .int (nI h)), (3, .int ed)]) hx hb dX7_lightOf_144 hl (by decide) rfl (fun ls hl => ?_)
          refine lv_lload hx hb dX7_lightOf_146 (lv_at hl 0 rfl) ?_
          refine lv_ldc2 hx hb hown (hts _ kCl_X7_216) dX7_lightOf_148 ?_
          refine lv_ldiv hx hb dX7_lightOf_151 (by decide) ?_
          refine lv_l2i hx hb dX7_lightOf_152 rfl ?_
          exact W.iret (v := (((mo.toInt64 * (sumV gf xf yf sf hf wf uf (lf h) d)) + ((((sg h).toInt64) * 16) * (suV gf xf yf sf hf wf (lf h) d ((pf h).toNatClampNeg)))) / 33554432).toInt32) hx hb hr (fun t ht hW => ⟨(((mo.toInt64 * (sumV gf xf yf sf hf wf uf (lf h) d)) + ((((sg h).toInt64) * 16) * (suV gf xf yf sf hf wf (lf h) d ((pf h).toNatClampNeg)))) / 33554432).toInt32, rfl, (by exfalso; simp [sunB, c_13] at c_92), ht⟩) hS.2.2 dX7_lightOf_153
    · skip
      refine lv_iconst (v := 0) hx hb dX7_lightOf_20 (by decide) ?_
      exact W.iret (v := 0) hx hb hr (fun t ht hW => ⟨0, rfl, (by unfold dlV; exact lt_p1 c_13 c_17), ht⟩) hS.2.2 dX7_lightOf_21
set_option maxHeartbeats 4000000 in
set_option maxRecDepth 100000 in
theorem c_X7_enoughOf (ln : Launch) (G : gT) (h0 : Nat) (pl : Nat) (dk : Nat) (hr_ : Nat) (ry : Nat) (bd : Nat) (of_ : Nat) (fd : Nat) (ak : Nat) (ag : Nat) (bl : Int64) (ax : Nat) (ay : Nat) (az : Nat) (nd : Nat) (kp : Int32) (ab : Nat) (ap : Nat) (agg : Nat) (al : Nat) (mo : Int32) (ne : Int32) (as_ : Nat) (ah : Nat) (aw : Nat) (au : Nat) (aw_ : Nat) (gl : Int32) (ca : Int32) (gf : Nat → Int32) (xf : Nat → Int32) (yf : Nat → Int32) (br : Nat → Int32) (pf : Nat → Int32) (sg : Nat → Int32) (lo : Nat → Bool) (sf : Nat → Int32) (hf : Nat → Int64) (wf : Nat → Int64) (uf : Nat → Int64) (lf : Nat → Int64) (d0 : Nat) (d1 : Nat) (ed : Int32) (hd01 : d0 ≤ d1) (hd4 : d1 ≤ 4) (hs8 : st8 sf d1) (hpf : ∀ h, h < 12 → vp_in (pf h) 16) : Met ln yX7_enoughOf (wA (.code yX7_enoughOf cX7_enoughOf 7 (some .int))) ({ frames := 4, cells := 0, slots := 0, locals := 114 } : Room) (va_Pc [.ref h0, .int (nI d0), .int (nI d1), .int ed] (roB G [(h0, .inr (7, [.ref pl, .ref dk, .ref hr_, .ref ry, .ref bd, .ref of_, .ref fd])), (pl, .inr (5, [.ref ak, .ref ag, .long bl])), eI G ag 64 gf, (dk, .inr (1, [.ref ax, .ref ay, .ref az, .int (nI nd), .int kp])), eI G ax 4 xf, eI G ay 4 yf, (hr_, .inr (3, [.ref ab, .ref ap, .ref agg, .ref al, .int mo, .int ne])), eI G ab 12 br, eI G ap 12 pf, eI G agg 12 sg, eZ G al 12 lo, (ry, .inr (6, [.ref as_, .ref ah, .ref aw, .ref au])), eI G as_ 64 sf, eJ G ah 64 hf, eJ G aw 64 wf, eJ G au 4 uf, (bd, .inr (0, [.ref aw_, .int gl, .int ca])), eJ G aw_ 12 lf])) (vp_Si (fun r => r = nI (enD (dlV lo br sg pf mo gf xf yf sf hf wf uf lf ed) ne d0 (d1 - d0)))) 0 0 (fun _ => False) := by
  refine Met.ofW (cc := cX7_enoughOf) (maxL := 7) (ret := (some .int)) (by decide) rfl ?_
  intro pg ev s mi args below meth cd s₁ B hml hv
  obtain ⟨rfl, hP, hE, hT⟩ := hv
  have hx := B.exec
  have hb := B.bytes
  have hr := B.returns
  have hts0 := atoms_spec (ws := wA (.code yX7_enoughOf cX7_enoughOf 7 (some .int))) B.pre
  have hts : ∀ w ∈ wsA, w.before _ s = true := fun w h => hts0 w (List.mem_cons_of_mem _ h)
  have hown : s.vm.findClass RX7 = some mi.cls := findClass_of_methodNamed B.named
  have hlocks := B.notSynchronized
  have hS : va_S (fun _ => False) s.heap s.heap [] := va_S.rf
  have hl := lv_entry ([.ref h0, .int (nI d0), .int (nI d1), .int ed]) (n := 7) (Nat.le_of_ble_eq_true rfl)
  rw [lg_entry_eq]
  generalize (lg_sl ([.ref h0, .int (nI d0), .int (nI d1), .int ed]) ++ List.replicate (7 - (lg_sl ([.ref h0, .int (nI d0), .int (nI d1), .int ed])).length) Slot.unset).toArray = ls at hl ⊢
  have hl : lv_has ls 7 [(0, .ref h0), (1, .int (nI d0)), (2, .int (nI d1)), (3, .int ed)] := hl
  refine lv_iconst (v := 0) hx hb dX7_enoughOf_0 (by decide) ?_
  refine lv_istore (lv' := [(4, .int 0), (0, .ref h0), (1, .int (nI d0)), (2, .int (nI d1)), (3, .int ed)]) hx hb dX7_enoughOf_1 hl (by decide) rfl (fun ls hl => ?_)
  refine lv_iload_n hx hb dX7_enoughOf_3 rfl (lv_at hl 2 rfl) ?_
  refine lv_istore (lv' := [(5, .int (nI d0)), (4, .int 0), (0, .ref h0), (1, .int (nI d0)), (2, .int (nI d1)), (3, .int ed)]) hx hb dX7_enoughOf_4 hl (by decide) rfl (fun ls hl => ?_)
  have J_6 : ∀ (n_ : Nat), ∀ (k : Nat), (d0 + k ≤ d1) → (5 ≤ k + n_) → ∀ (ls : Array Slot), lv_has ls 7 [(5, .int (nI (d0 + k))), (4, .int (nI (enD (dlV lo br sg pf mo gf xf yf sf hf wf uf lf ed) ne d0 k))), (0, .ref h0), (1, .int (nI d0)), (2, .int (nI d1)), (3, .int ed)] → W pg ln ev ({ frames := 4, cells := 0, slots := 0, locals := 114 } : Room) s mi ([.ref h0, .int (nI d0), .int (nI d1), .int ed] : List Value).toArray below meth cd s.heap [] 0 0 (MQ below (vp_Si (fun r => r = nI (enD (dlV lo br sg pf mo gf xf yf sf hf wf uf lf ed) ne d0 (d1 - d0)))) ([.ref h0, .int (nI d0), .int (nI d1), .int ed] : List Value).toArray s 0 0 (fun _ => False)) (F0 mi 6 ls []) := by
    intro n_
    induction n_ with
    | zero =>
      intro k hk hfk ls hl
      exact absurd hfk (by omega)
    | succ n_ ih_6 =>
      intro k hk hfk ls hl
      refine lv_iload hx hb dX7_enoughOf_6 (lv_at hl 0 rfl) ?_
      refine lv_iload_n hx hb dX7_enoughOf_8 rfl (lv_at hl 4 rfl) ?_
      refine lv_icmp_ge (tgt := 56) hx hb dX7_enoughOf_9 (by decide) (fun c_9 => ?_) (fun c_9 => ?_)
      · skip
        have e_hlk : d0 + k = d1 := by
          rcases Nat.lt_or_ge (d0 + k) d1 with q | q
          · exact absurd (show nI d1 ≤ nI (d0 + k) from c_9) (nI_ge q (by omega))
          · omega
        refine lv_iload hx hb dX7_enoughOf_56 (lv_at hl 1 rfl) ?_
        exact W.iret (v := nI (enD (dlV lo br sg pf mo gf xf yf sf hf wf uf lf ed) ne d0 k)) hx hb hr (fun t ht hW => ⟨nI (enD (dlV lo br sg pf mo gf xf yf sf hf wf uf lf ed) ne d0 k), rfl, by rw [show d1 - d0 = k by omega], ht⟩) hS.2.2 dX7_enoughOf_58
      · skip
        have hlk : d0 + k < d1 := by
          rcases Nat.lt_or_ge (d0 + k) d1 with q | q
          · exact q
          · exact absurd (show _ ≤ nI (d0 + k) from (nI_le (a := d1) (b := (d0 + k)) q (by omega))) c_9
        refine lv_iconst (v := 0) hx hb dX7_enoughOf_12 (by decide) ?_
        refine lv_istore (lv' := [(6, .int 0), (5, .int (nI (d0 + k))), (4, .int (nI (enD (dlV lo br sg pf mo gf xf yf sf hf wf uf lf ed) ne d0 k))), (0, .ref h0), (1, .int (nI d0)), (2, .int (nI d1)), (3, .int ed)]) hx hb dX7_enoughOf_13 hl (by decide) rfl (fun ls hl => ?_)
        have J_15 : ∀ (n_ : Nat), ∀ (h : Nat), (h ≤ 12) → (13 ≤ h + n_) → ∀ (ls : Array Slot), lv_has ls 7 [(6, .int (nI h)), (5, .int (nI (d0 + k))), (4, .int (nI (enD (dlV lo br sg pf mo gf xf yf sf hf wf uf lf ed) ne d0 k + enH (dlV lo br sg pf mo gf xf yf sf hf wf uf lf ed) ne (d0 + k) h))), (0, .ref h0), (1, .int (nI d0)), (2, .int (nI d1)), (3, .int ed)] → W pg ln ev ({ frames := 4, cells := 0, slots := 0, locals := 114 } : Room) s mi ([.ref h0, .int (nI d0), .int (nI d1), .int ed] : List Value).toArray below meth cd s.heap [] 0 0 (MQ below (vp_Si (fun r => r = nI (enD (dlV lo br sg pf mo gf xf yf sf hf wf uf lf ed) ne d0 (d1 - d0)))) ([.ref h0, .int (nI d0), .int (nI d1), .int ed] : List Value).toArray s 0 0 (fun _ => False)) (F0 mi 15 ls []) := by
          intro n_
          induction n_ with
          | zero =>
            intro h hh hfh ls hl
            exact absurd hfh (by omega)
          | succ n_ ih_15 =>
            intro h hh hfh ls hl
            refine lv_iload hx hb dX7_enoughOf_15 (lv_at hl 0 rfl) ?_
            refine lv_bipush (v := 12) hx hb dX7_enoughOf_17 (by decide) ?_
            refine lv_icmp_ge (tgt := 50) hx hb dX7_enoughOf_19 (by decide) (fun c_19 => ?_) (fun c_19 => ?_)
            · skip
              have e_hlh : h = 12 := by
                rcases Nat.lt_or_ge h 12 with q | q
                · exact absurd (show nI 12 ≤ nI h from c_19) (nI_ge q (by omega))
                · omega
              refine lv_iinc (v := nI (d0 + k + 1)) (lv' := [(5, .int (nI (d0 + k + 1))), (6, .int (nI h)), (4, .int (nI (enD (dlV lo br sg pf mo gf xf yf sf hf wf uf lf ed) ne d0 k + enH (dlV lo br sg pf mo gf xf yf sf hf wf uf lf ed) ne (d0 + k) h))), (0, .ref h0), (1, .int (nI d0)), (2, .int (nI d1)), (3, .int ed)]) hx hb dX7_enoughOf_50 hl (k := 1) rfl (nI_1 _) (by decide) rfl (fun ls hl => ?_)
              refine lv_goto (tgt := 6) hx hb dX7_enoughOf_53 (by decide) ?_
              have q9_1 : (nI (d0 + k + 1)) = (nI (d0 + (k + 1))) := rfl
              have q9_2 : (nI (enD (dlV lo br sg pf mo gf xf yf sf hf wf uf lf ed) ne d0 k + enH (dlV lo br sg pf mo gf xf yf sf hf wf uf lf ed) ne (d0 + k) h)) = (nI (enD (dlV lo br sg pf mo gf xf yf sf hf wf uf lf ed) ne d0 (k + 1))) := by rw [e_hlh]; rfl
              exact ih_6 (k + 1) (by omega) (by omega) ls (lv_cast (lv_sub hl [0, 2, 3, 4, 5, 6] rfl) (lcons (congrArg (fun z => (5, Value.int z)) q9_1) (lcons (congrArg (fun z => (4, Value.int z)) q9_2) (lcons rfl (lcons rfl (lcons rfl (lcons rfl rfl)))))))
            · skip
              have hlh : h < 12 := by
                rcases Nat.lt_or_ge h 12 with q | q
                · exact q
                · exact absurd (show _ ≤ nI h from (nI_le (a := 12) (b := h) q (by omega))) c_19
              refine lv_aload_n hx hb dX7_enoughOf_22 rfl (lv_at hl 3 rfl) ?_
              refine lv_iload hx hb dX7_enoughOf_23 (lv_at hl 1 rfl) ?_
              refine lv_iload hx hb dX7_enoughOf_25 (lv_at hl 0 rfl) ?_
              refine lv_iload_n hx hb dX7_enoughOf_27 rfl (lv_at hl 6 rfl) ?_
              refine ca_Si (val := dlV lo br sg pf mo gf xf yf sf hf wf uf lf ed (d0 + k) h) (va_runV (As := [.int (nI (d0 + k)), .int (nI h), .int ed]) (rest := []) ⟨hx, hb, hml, hown, hts⟩ (c_X7_lightOf ln G h0 pl dk hr_ ry bd of_ fd ak ag bl ax ay az nd kp ab ap agg al mo ne as_ ah aw au aw_ gl ca gf xf yf br pf sg lo sf hf wf uf lf (d0 + k) h ed (by omega) (by omega) (fun q hq => hs8 _ (by omega)) (hpf h hlh)) (cwV 3 hts (gV kCode_X7_lightOf kMl_X7_154 kIm_X7_lightOf kSel_X7_lightOf kIni_X7) rfl rfl rfl ⟨rfl, hd_X7_lightOf⟩ ⟨Nat.le_of_ble_eq_true rfl, Nat.le_of_ble_eq_true rfl⟩) ⟨ro_blind, va_recv hE.1 hP (ci := 7) (q0 := 0) rfl rfl, (ro_pre (hP.sub [0, 1, 2, 3, 4, 5, 6, 7, 8, 9, 10, 11, 12, 13, 14, 15, 16, 17] rfl) hS hE hT)⟩ rfl rfl hl.1 rfl (lv_room (Nat.le_of_ble_eq_true rfl)) dX7_enoughOf_28 ⟨Nat.zero_le _, Nat.zero_le _⟩) ?_
              refine lv_aload_n hx hb dX7_enoughOf_31 rfl (lv_at hl 3 rfl) ?_
              refine va_get (ci := 7) (C := RX7) (T := TX7) (N := 7) hx hb hts hinX7 hown hE.1 hP 0 rfl rfl 2 (by decide) (hts _ kFl_X7_26) (fun _ h9 => h9) rfl dX7_enoughOf_32 ?_
              refine va_getN (ci := 3) (C := RX3) (T := TX3) (N := 6) hx hb hts hinX3 hown hE.1 hP 6 rfl rfl 5 (by decide) (nF_X7_131 hE.2) (fun _ h9 => h9) rfl dX7_enoughOf_35 ?_
              refine lv_icmp_lt (tgt := 44) hx hb dX7_enoughOf_38 (by decide) (fun c_38 => ?_) (fun c_38 => ?_)
              · skip
                refine lv_iinc (v := nI (h + 1)) (lv' := [(6, .int (nI (h + 1))), (5, .int (nI (d0 + k))), (4, .int (nI (enD (dlV lo br sg pf mo gf xf yf sf hf wf uf lf ed) ne d0 k + enH (dlV lo br sg pf mo gf xf yf sf hf wf uf lf ed) ne (d0 + k) h))), (0, .ref h0), (1, .int (nI d0)), (2, .int (nI d1)), (3, .int ed)]) hx hb dX7_enoughOf_44 hl (k := 0) rfl (nI_1 _) (by decide) rfl (fun ls hl => ?_)
                refine lv_goto (tgt := 15) hx hb dX7_enoughOf_47 (by decide) ?_
                have q9_3 : (nI (enD (dlV lo br sg pf mo gf xf yf sf hf wf uf lf ed) ne d0 k + enH (dlV lo br sg pf mo gf xf yf sf hf wf uf lf ed) ne (d0 + k) h)) = (nI (enD (dlV lo br sg pf mo gf xf yf sf hf wf uf lf ed) ne d0 k + enH (dlV lo br sg pf mo gf xf yf sf hf wf uf lf ed) ne (d0 + k) (h + 1))) := by simp only [enH]; simp [c_38, Nat.add_assoc]
                exact ih_15 (h + 1) (by omega) (by omega) ls (lv_cast (lv_sub hl [0, 1, 2, 3, 4, 5, 6] rfl) (lcons rfl (lcons rfl (lcons (congrArg (fun z => (4, Value.int z)) q9_3) (lcons rfl (lcons rfl (lcons rfl (lcons rfl rfl))))))))
              · skip
                refine lv_iinc (v := nI (enD (dlV lo br sg pf mo gf xf yf sf hf wf uf lf ed) ne d0 k + enH (dlV lo br sg pf mo gf xf yf sf hf wf uf lf ed) ne (d0 + k) h + 1)) (lv' := [(4, .int (nI (enD (dlV lo br sg pf mo gf xf yf sf hf wf uf lf ed) ne d0 k + enH (dlV lo br sg pf mo gf xf yf sf hf wf uf lf ed) ne (d0 + k) h + 1))), (6, .int (nI h)), (5, .int (nI (d0 + k))), (0, .ref h0), (1, .int (nI d0)), (2, .int (nI d1)), (3, .int ed)]) hx hb dX7_enoughOf_41 hl (k := 2) rfl (nI_1 _) (by decide) rfl (fun ls hl => ?_)
                refine lv_iinc (v := nI (h + 1)) (lv' := [(6, .int (nI (h + 1))), (4, .int (nI (enD (dlV lo br sg pf mo gf xf yf sf hf wf uf lf ed) ne d0 k + enH (dlV lo br sg pf mo gf xf yf sf hf wf uf lf ed) ne (d0 + k) h + 1))), (5, .int (nI (d0 + k))), (0, .ref h0), (1, .int (nI d0)), (2, .int (nI d1)), (3, .int ed)]) hx hb dX7_enoughOf_44 hl (k := 1) rfl (nI_1 _) (by decide) rfl (fun ls hl => ?_)
                refine lv_goto (tgt := 15) hx hb dX7_enoughOf_47 (by decide) ?_
                have q9_4 : (nI (enD (dlV lo br sg pf mo gf xf yf sf hf wf uf lf ed) ne d0 k + enH (dlV lo br sg pf mo gf xf yf sf hf wf uf lf ed) ne (d0 + k) h + 1)) = (nI (enD (dlV lo br sg pf mo gf xf yf sf hf wf uf lf ed) ne d0 k + enH (dlV lo br sg pf mo gf xf yf sf hf wf uf lf ed) ne (d0 + k) (h + 1))) := by simp only [enH]; simp [c_38, Nat.add_assoc]
                exact ih_15 (h + 1) (by omega) (by omega) ls (lv_cast (lv_sub hl [0, 2, 1, 3, 4, 5, 6] rfl) (lcons rfl (lcons rfl (lcons (congrArg (fun z => (4, Value.int z)) q9_4) (lcons rfl (lcons rfl (lcons rfl (lcons rfl rfl))))))))
        have q9_5 : 0 = (nI 0) := rfl
        have q9_6 : (nI (enD (dlV lo br sg pf mo gf xf yf sf hf wf uf lf ed) ne d0 k)) = (nI (enD (dlV lo br sg pf mo gf xf yf sf hf wf uf lf ed) ne d0 k + enH (dlV lo br sg pf mo gf xf yf sf hf wf uf lf ed) ne (d0 + k) 0)) := rfl
        exact J_15 13 0 (by omega) (by omega) ls (lv_cast (lv_sub hl [0, 1, 2, 3, 4, 5, 6] rfl) (lcons (congrArg (fun z => (6, Value.int z)) q9_5) (lcons rfl (lcons (congrArg (fun z => (4, Value.int z)) q9_6) (lcons rfl (lcons rfl (lcons rfl (lcons rfl rfl))))))))
  have q9_7 : (nI d0) = (nI (d0 + 0)) := rfl
  have q9_8 : 0 = (nI (enD (dlV lo br sg pf mo gf xf yf sf hf wf uf lf ed) ne d0 0)) := rfl
  exact J_6 5 0 (by omega) (by omega) ls (lv_cast (lv_sub hl [0, 1, 2, 3, 4, 5] rfl) (lcons (congrArg (fun z => (5, Value.int z)) q9_7) (lcons (congrArg (fun z => (4, Value.int z)) q9_8) (lcons rfl (lcons rfl (lcons rfl (lcons rfl rfl)))))))
