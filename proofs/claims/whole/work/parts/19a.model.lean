theorem lf_X8_isWall_0 (h0 : Nat) (mk : Nat) (mg : Nat) (mhb : Nat) (mdn : Nat) (mda : Nat) (mkp : Nat) (mbr : Nat) (msu : Nat) (msg : Nat) (mlo : Nat) (moa : Nat) (mog : Nat) (mop : Nat) (mra : Nat) (nd : Nat) (kp : Int32) (mo : Int32) (ne : Int32) (gl : Int32) (ca : Int32) (no : Nat) (rs : Int32) (rw_ : Int32) (bc : Int32) (bo : Int32) (be : Int32) (kf : Nat → Int32) (x : Int32) (y : Int32) (c_5 : (cellB x y) = false) : (0 : Int32) = b2i (wallB kf x y) := by simp_all [wallB, b2i]
theorem lf_X8_isWall_1 (h0 : Nat) (mk : Nat) (mg : Nat) (mhb : Nat) (mdn : Nat) (mda : Nat) (mkp : Nat) (mbr : Nat) (msu : Nat) (msg : Nat) (mlo : Nat) (moa : Nat) (mog : Nat) (mop : Nat) (mra : Nat) (nd : Nat) (kp : Int32) (mo : Int32) (ne : Int32) (gl : Int32) (ca : Int32) (no : Nat) (rs : Int32) (rw_ : Int32) (bc : Int32) (bo : Int32) (be : Int32) (kf : Nat → Int32) (x : Int32) (y : Int32) (c_5 : (cellB x y) = true) (c_20 : ¬ (kf (cn x y)) = 1) : (0 : Int32) = b2i (wallB kf x y) := by simp_all [wallB, b2i]
theorem lf_X8_isWall_2 (h0 : Nat) (mk : Nat) (mg : Nat) (mhb : Nat) (mdn : Nat) (mda : Nat) (mkp : Nat) (mbr : Nat) (msu : Nat) (msg : Nat) (mlo : Nat) (moa : Nat) (mog : Nat) (mop : Nat) (mra : Nat) (nd : Nat) (kp : Int32) (mo : Int32) (ne : Int32) (gl : Int32) (ca : Int32) (no : Nat) (rs : Int32) (rw_ : Int32) (bc : Int32) (bo : Int32) (be : Int32) (kf : Nat → Int32) (x : Int32) (y : Int32) (c_5 : (cellB x y) = true) (c_20 : (kf (cn x y)) = 1) : (1 : Int32) = b2i (wallB kf x y) := by simp_all [wallB, b2i]
set_option maxHeartbeats 4000000 in
set_option maxRecDepth 100000 in
theorem c_X8_isWall (ln : Launch) (G : gT) (h0 : Nat) (mk : Nat) (mg : Nat) (mhb : Nat) (mdn : Nat) (mda : Nat) (mkp : Nat) (mbr : Nat) (msu : Nat) (msg : Nat) (mlo : Nat) (moa : Nat) (mog : Nat) (mop : Nat) (mra : Nat) (nd : Nat) (kp : Int32) (mo : Int32) (ne : Int32) (gl : Int32) (ca : Int32) (no : Nat) (rs : Int32) (rw_ : Int32) (bc : Int32) (bo : Int32) (be : Int32) (kf : Nat → Int32) (x : Int32) (y : Int32)  : Met ln yX8_isWall (wA (.code yX8_isWall cX8_isWall 3 (some .boolean))) ({ frames := 2, cells := 0, slots := 0, locals := 43 } : Room) (va_Pc [.ref h0, .int x, .int y] (roB G [(h0, .inr (8, [.ref mk, .ref mg, .ref mhb, .ref mdn, .int (nI nd), .ref mda, .ref mkp, .int kp, .ref mbr, .ref msu, .ref msg, .ref mlo, .int mo, .int ne, .int gl, .int ca, .int (nI no), .ref moa, .ref mog, .ref mop, .int rs, .int rw_, .ref mra, .int bc, .int bo, .int be])), eI G mk 64 kf])) (vp_Si (fun r => r = b2i (wallB kf x y))) 0 0 (fun _ => False) := by
  refine Met.ofW (cc := cX8_isWall) (maxL := 3) (ret := (some .boolean)) (by decide) rfl ?_
  intro pg ev s mi args below meth cd s₁ B hml hv
  obtain ⟨rfl, hP, hE, hT⟩ := hv
  have hx := B.exec
  have hb := B.bytes
  have hr := B.returns
  have hts0 := atoms_spec (ws := wA (.code yX8_isWall cX8_isWall 3 (some .boolean))) B.pre
  have hts : ∀ w ∈ wsA, w.before _ s = true := fun w h => hts0 w (List.mem_cons_of_mem _ h)
  have hown : s.vm.findClass RX8 = some mi.cls := findClass_of_methodNamed B.named
  have hlocks := B.notSynchronized
  have hS : va_S (fun _ => False) s.heap s.heap [] := va_S.rf
  have hl := lv_entry ([.ref h0, .int x, .int y]) (n := 3) (Nat.le_of_ble_eq_true rfl)
  rw [lg_entry_eq]
  generalize (lg_sl ([.ref h0, .int x, .int y]) ++ List.replicate (3 - (lg_sl ([.ref h0, .int x, .int y])).length) Slot.unset).toArray = ls at hl ⊢
  have hl : lv_has ls 3 [(0, .ref h0), (1, .int x), (2, .int y)] := hl
  refine lv_iload_n hx hb dX8_isWall_0 rfl (lv_at hl 1 rfl) ?_
  refine lv_iload_n hx hb dX8_isWall_1 rfl (lv_at hl 2 rfl) ?_
  refine ca_Si (val := b2i (cellB x y)) (va_runS (As := [.int x, .int y]) (rest := []) ⟨hx, hb, hml, hown, hts⟩ (c_X8_isCell ln x y ) (va_cwS 2 hts (gS kCode_X8_isCell kMl_X8_73 kSt_X8_isCell kIni_X8) rfl rfl rfl hd_X8_isCell ⟨Nat.le_of_ble_eq_true rfl, Nat.le_of_ble_eq_true rfl⟩) ⟨pu_blind, pu_pre⟩ rfl rfl hl.1 rfl (lv_room (Nat.le_of_ble_eq_true rfl)) dX8_isWall_2 ⟨Nat.zero_le _, Nat.zero_le _⟩) ?_
  refine lv_if_eq (tgt := 27) hx hb dX8_isWall_5 (by decide) (fun c_5 => ?_) (fun c_5 => ?_)
  · skip
    have c_5 := b2i_z c_5
    refine lv_iconst (v := 0) hx hb dX8_isWall_27 (by decide) ?_
    exact W.zret (v := 0) hx hb hr rfl (fun t_ ht_ hW_ => ⟨0, rfl, (lf_X8_isWall_0 h0 mk mg mhb mdn mda mkp mbr msu msg mlo moa mog mop mra nd kp mo ne gl ca no rs rw_ bc bo be kf x y c_5), ht_⟩) hS.2.2 dX8_isWall_28
  · skip
    have c_5 := b2i_n c_5
    refine lv_aload_n hx hb dX8_isWall_8 rfl (lv_at hl 0 rfl) ?_
    refine va_get (ci := 8) (C := RX8) (T := TX8) (N := 26) hx hb hts hinX8 hown hE.1 hP 0 rfl rfl 0 (by decide) (hts _ kFl_X8_7) (fun _ h9 => h9) rfl dX8_isWall_9 ?_
    refine lv_bipush (v := 8) hx hb dX8_isWall_12 (by decide) ?_
    refine lv_iload_n hx hb dX8_isWall_14 rfl (lv_at hl 2 rfl) ?_
    refine lv_imul hx hb dX8_isWall_15 ?_
    refine lv_iload_n hx hb dX8_isWall_16 rfl (lv_at hl 1 rfl) ?_
    refine lv_iadd hx hb dX8_isWall_17 ?_
    refine ri_ald (j := cn x y) hx hb hE hP 1 rfl (cn' x y) (cn_in' c_5) dX8_isWall_18 ?_
    refine lv_iconst (v := 1) hx hb dX8_isWall_19 (by decide) ?_
    refine lv_icmp_ne (tgt := 27) hx hb dX8_isWall_20 (by decide) (fun c_20 => ?_) (fun c_20 => ?_)
    · skip
      refine lv_iconst (v := 0) hx hb dX8_isWall_27 (by decide) ?_
      exact W.zret (v := 0) hx hb hr rfl (fun t_ ht_ hW_ => ⟨0, rfl, (lf_X8_isWall_1 h0 mk mg mhb mdn mda mkp mbr msu msg mlo moa mog mop mra nd kp mo ne gl ca no rs rw_ bc bo be kf x y c_5 c_20), ht_⟩) hS.2.2 dX8_isWall_28
    · skip
      refine lv_iconst (v := 1) hx hb dX8_isWall_23 (by decide) ?_
      refine lv_goto (tgt := 28) hx hb dX8_isWall_24 (by decide) ?_
      exact W.zret (v := 1) hx hb hr rfl (fun t_ ht_ hW_ => ⟨1, rfl, (lf_X8_isWall_2 h0 mk mg mhb mdn mda mkp mbr msu msg mlo moa mog mop mra nd kp mo ne gl ca no rs rw_ bc bo be kf x y c_5 c_20), ht_⟩) hS.2.2 dX8_isWall_28
set_option maxHeartbeats 4000000 in
set_option maxRecDepth 100000 in
theorem c_X8_isDesk (ln : Launch) (G : gT) (h0 : Nat) (mk : Nat) (mg : Nat) (mhb : Nat) (mdn : Nat) (mda : Nat) (mkp : Nat) (mbr : Nat) (msu : Nat) (msg : Nat) (mlo : Nat) (moa : Nat) (mog : Nat) (mop : Nat) (mra : Nat) (nd : Nat) (kp : Int32) (mo : Int32) (ne : Int32) (gl : Int32) (ca : Int32) (no : Nat) (rs : Int32) (rw_ : Int32) (bc : Int32) (bo : Int32) (be : Int32) (d : Int32)  : Met ln yX8_isDesk (wA (.code yX8_isDesk cX8_isDesk 2 (some .boolean))) ({ frames := 1, cells := 0, slots := 0, locals := 22 } : Room) (va_Pc [.ref h0, .int d] (roB G [(h0, .inr (8, [.ref mk, .ref mg, .ref mhb, .ref mdn, .int (nI nd), .ref mda, .ref mkp, .int kp, .ref mbr, .ref msu, .ref msg, .ref mlo, .int mo, .int ne, .int gl, .int ca, .int (nI no), .ref moa, .ref mog, .ref mop, .int rs, .int rw_, .ref mra, .int bc, .int bo, .int be]))])) (vp_Si (fun r => r = b2i (inB d 0 (nI nd - 1)))) 0 0 (fun _ => False) := by
  refine Met.ofW (cc := cX8_isDesk) (maxL := 2) (ret := (some .boolean)) (by decide) rfl ?_
  intro pg ev s mi args below meth cd s₁ B hml hv
  obtain ⟨rfl, hP, hE, hT⟩ := hv
  have hx := B.exec
  have hb := B.bytes
  have hr := B.returns
  have hts0 := atoms_spec (ws := wA (.code yX8_isDesk cX8_isDesk 2 (some .boolean))) B.pre
  have hts : ∀ w ∈ wsA, w.before _ s = true := fun w h => hts0 w (List.mem_cons_of_mem _ h)
  have hown : s.vm.findClass RX8 = some mi.cls := findClass_of_methodNamed B.named
  have hlocks := B.notSynchronized
  have hS : va_S (fun _ => False) s.heap s.heap [] := va_S.rf
  have hl := lv_entry ([.ref h0, .int d]) (n := 2) (Nat.le_of_ble_eq_true rfl)
  rw [lg_entry_eq]
  generalize (lg_sl ([.ref h0, .int d]) ++ List.replicate (2 - (lg_sl ([.ref h0, .int d])).length) Slot.unset).toArray = ls at hl ⊢
  have hl : lv_has ls 2 [(0, .ref h0), (1, .int d)] := hl
  refine lv_iload_n hx hb dX8_isDesk_0 rfl (lv_at hl 1 rfl) ?_
  refine lv_iconst (v := 0) hx hb dX8_isDesk_1 (by decide) ?_
  refine lv_aload_n hx hb dX8_isDesk_2 rfl (lv_at hl 0 rfl) ?_
  refine va_get (ci := 8) (C := RX8) (T := TX8) (N := 26) hx hb hts hinX8 hown hE.1 hP 0 rfl rfl 4 (by decide) (hts _ kFl_X8_70) (fun _ h9 => h9) rfl dX8_isDesk_3 ?_
  refine lv_iconst (v := 1) hx hb dX8_isDesk_6 (by decide) ?_
  refine lv_isub hx hb dX8_isDesk_7 ?_
  refine ca_Si (val := b2i (inB d 0 ((nI nd) - 1))) (va_runS (As := [.int d, .int 0, .int ((nI nd) - 1)]) (rest := []) ⟨hx, hb, hml, hown, hts⟩ (c_X8_in ln d 0 ((nI nd) - 1) ) (va_cwS 3 hts (gS kCode_X8_in kMl_X8_66 kSt_X8_in kIni_X8) rfl rfl rfl hd_X8_in ⟨Nat.le_of_ble_eq_true rfl, Nat.le_of_ble_eq_true rfl⟩) ⟨pu_blind, pu_pre⟩ rfl rfl hl.1 rfl (lv_room (Nat.le_of_ble_eq_true rfl)) dX8_isDesk_8 ⟨Nat.zero_le _, Nat.zero_le _⟩) ?_
  exact W.zret (v := b2i (inB d 0 ((nI nd) - 1))) hx hb hr (b2i_nar _) (fun t_ ht_ hW_ => ⟨b2i (inB d 0 ((nI nd) - 1)), rfl, rfl, ht_⟩) hS.2.2 dX8_isDesk_11
