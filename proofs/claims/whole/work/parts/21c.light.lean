set_option maxHeartbeats 4000000 in
set_option maxRecDepth 100000 in
theorem c_X8_lightOf (ln : Launch) (G : gT) (h0 : Nat) (mk : Nat) (mg : Nat) (mhb : Nat) (mdn : Nat) (mda : Nat) (mkp : Nat) (mbr : Nat) (msu : Nat) (msg : Nat) (mlo : Nat) (moa : Nat) (mog : Nat) (mop : Nat) (mra : Nat) (nd : Nat) (kp : Int32) (mo : Int32) (ne : Int32) (gl : Int32) (ca : Int32) (no : Nat) (rs : Int32) (rw_ : Int32) (bc : Int32) (bo : Int32) (be : Int32) (da : Nat → Int32) (kf : Nat → Int32) (gf : Nat → Int32) (bf : Nat → Bool) (dn : Nat → Bool) (br : Nat → Int32) (pf : Nat → Int32) (sg : Nat → Int32) (lo : Nat → Bool) (ra : Nat → Int32) (x0 : Int32) (y0 : Int32) (d : Nat) (h : Nat) (ed : Int32) (sz : Nat) (hd4 : d < 4) (hh : h < 12) (hxy : cellB x0 y0 = true) (hda : da d = y0 * 8 + x0) (hpf : vp_in (pf h) 16) : Met ln yX8_lightOf (wA (.code yX8_lightOf cX8_lightOf 6 (some .int))) ({ frames := 6, cells := 0, slots := 0, locals := 145 } : Room) (va_Pc [.ref h0, .int (nI d), .int (nI h), .int ed] (rwB G [(h0, .inr (8, [.ref mk, .ref mg, .ref mhb, .ref mdn, .int (nI nd), .ref mda, .ref mkp, .int kp, .ref mbr, .ref msu, .ref msg, .ref mlo, .int mo, .int ne, .int gl, .int ca, .int (nI no), .ref moa, .ref mog, .ref mop, .int rs, .int rw_, .ref mra, .int bc, .int bo, .int be])), eI G mda 4 da, eI G mk 64 kf, eI G mg 64 gf, eZ G mhb 64 bf, eZ G mdn 64 dn, eI G mbr 12 br, eI G msu 12 pf, eI G msg 12 sg, eZ G mlo 12 lo, eI G mra 8 ra] sz)) (va_Qi (S := Int32 × Int32 × (Nat → Int32)) (fun (r : Int32) (_ : Int32 × Int32 × (Nat → Int32)) => r = mlV lo br sg pf mo (fun p => shV kf gf (dnB false bf dn) x0 y0 p) h ed) (fun u => wdB G (va_A [(h0, .inr (8, [.ref mk, .ref mg, .ref mhb, .ref mdn, .int (nI nd), .ref mda, .ref mkp, .int kp, .ref mbr, .ref msu, .ref msg, .ref mlo, .int mo, .int ne, .int gl, .int ca, .int (nI no), .ref moa, .ref mog, .ref mop, .int rs, .int rw_, .ref mra, .int bc, .int bo, .int be])), eI G mda 4 da, eI G mk 64 kf, eI G mg 64 gf, eZ G mhb 64 bf, eZ G mdn 64 dn, eI G mbr 12 br, eI G msu 12 pf, eI G msg 12 sg, eZ G mlo 12 lo, eI G mra 8 ra] sz) [(h0, .inr (8, [.ref mk, .ref mg, .ref mhb, .ref mdn, .int (nI nd), .ref mda, .ref mkp, .int kp, .ref mbr, .ref msu, .ref msg, .ref mlo, .int mo, .int ne, .int gl, .int ca, .int (nI no), .ref moa, .ref mog, .ref mop, .int u.1, .int u.2.1, .ref mra, .int bc, .int bo, .int be])), eI G mda 4 da, eI G mk 64 kf, eI G mg 64 gf, eZ G mhb 64 bf, eZ G mdn 64 dn, eI G mbr 12 br, eI G msu 12 pf, eI G msg 12 sg, eZ G mlo 12 lo, eI G mra 8 u.2.2]) (va_A [(h0, .inr (8, [.ref mk, .ref mg, .ref mhb, .ref mdn, .int (nI nd), .ref mda, .ref mkp, .int kp, .ref mbr, .ref msu, .ref msg, .ref mlo, .int mo, .int ne, .int gl, .int ca, .int (nI no), .ref moa, .ref mog, .ref mop, .int rs, .int rw_, .ref mra, .int bc, .int bo, .int be])), eI G mda 4 da, eI G mk 64 kf, eI G mg 64 gf, eZ G mhb 64 bf, eZ G mdn 64 dn, eI G mbr 12 br, eI G msu 12 pf, eI G msg 12 sg, eZ G mlo 12 lo, eI G mra 8 ra] sz)) 0 0 (va_A [(h0, .inr (8, [.ref mk, .ref mg, .ref mhb, .ref mdn, .int (nI nd), .ref mda, .ref mkp, .int kp, .ref mbr, .ref msu, .ref msg, .ref mlo, .int mo, .int ne, .int gl, .int ca, .int (nI no), .ref moa, .ref mog, .ref mop, .int rs, .int rw_, .ref mra, .int bc, .int bo, .int be])), eI G mda 4 da, eI G mk 64 kf, eI G mg 64 gf, eZ G mhb 64 bf, eZ G mdn 64 dn, eI G mbr 12 br, eI G msu 12 pf, eI G msg 12 sg, eZ G mlo 12 lo, eI G mra 8 ra] sz) := by
  refine Met.ofW (cc := cX8_lightOf) (maxL := 6) (ret := (some .int)) (by decide) rfl ?_
  intro pg ev s mi args below meth cd s₁ B hml hv
  obtain ⟨rfl, hsz, hP, hE, hD0, hT⟩ := hv
  have hx := B.exec
  have hb := B.bytes
  have hr := B.returns
  have hts0 := atoms_spec (ws := wA (.code yX8_lightOf cX8_lightOf 6 (some .int))) B.pre
  have hts : ∀ w ∈ wsA, w.before _ s = true := fun w h => hts0 w (List.mem_cons_of_mem _ h)
  have hown : s.vm.findClass RX8 = some mi.cls := findClass_of_methodNamed B.named
  have hlocks := B.notSynchronized
  subst hsz
  have hD := hD0.self (sz := s.heap.size)
  generalize hAe : va_A [(h0, .inr (8, [.ref mk, .ref mg, .ref mhb, .ref mdn, .int (nI nd), .ref mda, .ref mkp, .int kp, .ref mbr, .ref msu, .ref msg, .ref mlo, .int mo, .int ne, .int gl, .int ca, .int (nI no), .ref moa, .ref mog, .ref mop, .int rs, .int rw_, .ref mra, .int bc, .int bo, .int be])), eI G mda 4 da, eI G mk 64 kf, eI G mg 64 gf, eZ G mhb 64 bf, eZ G mdn 64 dn, eI G mbr 12 br, eI G msu 12 pf, eI G msg 12 sg, eZ G mlo 12 lo, eI G mra 8 ra] s.heap.size = A at hD hT ⊢
  have hA : ∀ q : Nat, s.heap.size ≤ q → A q := fun q h => by rw [← hAe]; exact Or.inr h
  have hS : va_S A s.heap s.heap [] := va_S.rf
  have hl := lv_entry ([.ref h0, .int (nI d), .int (nI h), .int ed]) (n := 6) (Nat.le_of_ble_eq_true rfl)
  rw [lg_entry_eq]
  generalize (lg_sl ([.ref h0, .int (nI d), .int (nI h), .int ed]) ++ List.replicate (6 - (lg_sl ([.ref h0, .int (nI d), .int (nI h), .int ed])).length) Slot.unset).toArray = ls at hl ⊢
  have hl : lv_has ls 6 [(0, .ref h0), (1, .int (nI d)), (2, .int (nI h)), (3, .int ed)] := hl
  obtain ⟨hpn, hpm⟩ := nI_back hpf (by omega)
  refine lv_aload_n hx hb dX8_lightOf_0 rfl (lv_at hl 0 rfl) ?_
  refine va_get (ci := 8) (C := RX8) (T := TX8) (N := 26) hx hb hts hinX8 hown hE.1 hP 0 rfl rfl 11 (by decide) (hts _ kFl_X8_38) (fun _ h9 => h9) rfl dX8_lightOf_1 ?_
  refine lv_iload_n hx hb dX8_lightOf_4 rfl (lv_at hl 2 rfl) ?_
  refine rz_ald (j := h) hx hb hE hP 9 rfl (nI_clamp (by omega)) (vp_in_nI (by omega) (by omega)) dX8_lightOf_5 ?_
  refine lv_if_eq (tgt := 35) hx hb dX8_lightOf_6 (by decide) (fun c_6 => ?_) (fun c_6 => ?_)
  · skip
    have c_6 := b2i_z c_6
    refine lv_aload_n hx hb dX8_lightOf_35 rfl (lv_at hl 0 rfl) ?_
    refine va_get (ci := 8) (C := RX8) (T := TX8) (N := 26) hx hb hts hinX8 hown hE.1 hP 0 rfl rfl 10 (by decide) (hts _ kFl_X8_35) (fun _ h9 => h9) rfl dX8_lightOf_36 ?_
    refine lv_iload_n hx hb dX8_lightOf_39 rfl (lv_at hl 2 rfl) ?_
    refine ri_ald (j := h) hx hb hE hP 8 rfl (nI_clamp (by omega)) (vp_in_nI (by omega) (by omega)) dX8_lightOf_40 ?_
    refine lv_if_ne (tgt := 48) hx hb dX8_lightOf_41 (by decide) (fun c_41 => ?_) (fun c_41 => ?_)
    · skip
      refine lv_ldc2 hx hb hown (hts _ kCl_X8_137) dX8_lightOf_48 ?_
      refine lv_aload_n hx hb dX8_lightOf_51 rfl (lv_at hl 0 rfl) ?_
      refine va_get (ci := 8) (C := RX8) (T := TX8) (N := 26) hx hb hts hinX8 hown hE.1 hP 0 rfl rfl 10 (by decide) (hts _ kFl_X8_35) (fun _ h9 => h9) rfl dX8_lightOf_52 ?_
      refine lv_iload_n hx hb dX8_lightOf_55 rfl (lv_at hl 2 rfl) ?_
      refine ri_ald (j := h) hx hb hE hP 8 rfl (nI_clamp (by omega)) (vp_in_nI (by omega) (by omega)) dX8_lightOf_56 ?_
      refine lv_i2l hx hb dX8_lightOf_57 rfl ?_
      refine lv_lmul hx hb dX8_lightOf_58 ?_
      refine lv_aload_n hx hb dX8_lightOf_59 rfl (lv_at hl 0 rfl) ?_
      refine lv_iload_n hx hb dX8_lightOf_60 rfl (lv_at hl 1 rfl) ?_
      refine lv_aload_n hx hb dX8_lightOf_61 rfl (lv_at hl 0 rfl) ?_
      refine va_get (ci := 8) (C := RX8) (T := TX8) (N := 26) hx hb hts hinX8 hown hE.1 hP 0 rfl rfl 9 (by decide) (hts _ kFl_X8_32) (fun _ h9 => h9) rfl dX8_lightOf_62 ?_
      refine lv_iload_n hx hb dX8_lightOf_65 rfl (lv_at hl 2 rfl) ?_
      refine ri_ald (j := h) hx hb hE hP 7 rfl (nI_clamp (by omega)) (vp_in_nI (by omega) (by omega)) dX8_lightOf_66 ?_
      refine lv_iconst (v := 0) hx hb dX8_lightOf_67 (by decide) ?_
      refine W.eq (congrArg (fun z => F0 mi 68 ls [.int 0, .int z, .int (nI d), .ref h0, .long (16 * ((sg h).toInt64))]) hpn) ?_
      have hF_ := va_free (wc := [(h0, .inr (8, [.ref mk, .ref mg, .ref mhb, .ref mdn, .int (nI nd), .ref mda, .ref mkp, .int kp, .ref mbr, .ref msu, .ref msg, .ref mlo, .int mo, .int ne, .int gl, .int ca, .int (nI no), .ref moa, .ref mog, .ref mop, .int rs, .int rw_, .ref mra, .int bc, .int bo, .int be])), eI G mda 4 da, eI G mk 64 kf, eI G mg 64 gf, eZ G mhb 64 bf, eZ G mdn 64 dn, eI G mra 8 ra]) hD hS hA [0, 1, 2, 3, 4, 5, 10] rfl
      refine ca_Ql (wr := [eI G mbr 12 br, eI G msu 12 pf, eI G msg 12 sg, eZ G mlo 12 lo]) (va_runV (As := [.int (nI d), .int (nI ((pf h).toNatClampNeg)), .int 0]) (rest := [.long (16 * ((sg h).toInt64))]) ⟨hx, hb, hml, hown, hts⟩ (c_X8_share ln G h0 mk mg mhb mdn mda mkp mbr msu msg mlo moa mog mop mra nd kp mo ne gl ca no rs rw_ bc bo be da kf gf bf dn ra d ((pf h).toNatClampNeg) false x0 y0 s.heap.size (by omega) hpm hxy hda) (cwV 3 hts (gV kCode_X8_share kMl_X8_104 kIm_X8_share kSel_X8_share kIni_X8) rfl rfl rfl ⟨rfl, hd_X8_share⟩ ⟨Nat.le_of_ble_eq_true rfl, Nat.le_of_ble_eq_true rfl⟩) ⟨rw_blind, va_recv hE.1 hP (ci := 8) (q0 := 0) rfl rfl, (rw_pre (hP.sub [0, 1, 2, 3, 4, 5, 10] rfl) (hD.sub [0, 1, 2, 3, 4, 5, 10] (by decide) rfl) hF_ hS hE hT)⟩ rfl rfl hl.1 rfl (lv_room (Nat.le_of_ble_eq_true rfl)) dX8_lightOf_68 ⟨Nat.zero_le _, Nat.zero_le _⟩) hP hD hS hA [0, 1, 2, 3, 4, 5, 10] [6, 7, 8, 9] rfl rfl rfl (by decide) (fun r_68 u_68 H locs w_68 hP hD hS => ?_)
      obtain ⟨rs9_68, rw9_68, ra9_68⟩ := u_68
      have hP : va_P G.1 vwCl [eI G mbr 12 br, eI G msu 12 pf, eI G msg 12 sg, eZ G mlo 12 lo, (h0, .inr (8, [.ref mk, .ref mg, .ref mhb, .ref mdn, .int (nI nd), .ref mda, .ref mkp, .int kp, .ref mbr, .ref msu, .ref msg, .ref mlo, .int mo, .int ne, .int gl, .int ca, .int (nI no), .ref moa, .ref mog, .ref mop, .int rs9_68, .int rw9_68, .ref mra, .int bc, .int bo, .int be])), eI G mda 4 da, eI G mk 64 kf, eI G mg 64 gf, eZ G mhb 64 bf, eZ G mdn 64 dn, eI G mra 8 ra9_68] H := hP
      have hD : va_D A [eI G mbr 12 br, eI G msu 12 pf, eI G msg 12 sg, eZ G mlo 12 lo, (h0, .inr (8, [.ref mk, .ref mg, .ref mhb, .ref mdn, .int (nI nd), .ref mda, .ref mkp, .int kp, .ref mbr, .ref msu, .ref msg, .ref mlo, .int mo, .int ne, .int gl, .int ca, .int (nI no), .ref moa, .ref mog, .ref mop, .int rs9_68, .int rw9_68, .ref mra, .int bc, .int bo, .int be])), eI G mda 4 da, eI G mk 64 kf, eI G mg 64 gf, eZ G mhb 64 bf, eZ G mdn 64 dn, eI G mra 8 ra9_68] := hD
      obtain rfl : r_68 = shV kf gf (dnB false bf dn) x0 y0 ((pf h).toNatClampNeg) := w_68
      refine lv_lmul hx hb dX8_lightOf_71 ?_
      refine lv_lstore (lv' := [(4, .long ((16 * ((sg h).toInt64)) * (shV kf gf (dnB false bf dn) x0 y0 ((pf h).toNatClampNeg)))), (0, .ref h0), (1, .int (nI d)), (2, .int (nI h)), (3, .int ed)]) hx hb dX8_lightOf_72 hl (by decide) rfl (fun ls hl => ?_)
      refine lv_aload_n hx hb dX8_lightOf_74 rfl (lv_at hl 1 rfl) ?_
      refine va_get (ci := 8) (C := RX8) (T := TX8) (N := 26) hx hb hts hinX8 hown hE.1 hP 4 rfl rfl 8 (by decide) (hts _ kFl_X8_29) (fun _ h9 => h9) rfl dX8_lightOf_75 ?_
      refine lv_iload_n hx hb dX8_lightOf_78 rfl (lv_at hl 3 rfl) ?_
      refine ri_ald (j := h) hx hb hE hP 0 rfl (nI_clamp (by omega)) (vp_in_nI (by omega) (by omega)) dX8_lightOf_79 ?_
      refine lv_i2l hx hb dX8_lightOf_80 rfl ?_
      refine lv_aload_n hx hb dX8_lightOf_81 rfl (lv_at hl 1 rfl) ?_
      refine lv_iload_n hx hb dX8_lightOf_82 rfl (lv_at hl 2 rfl) ?_
      refine lv_iconst (v := 0) hx hb dX8_lightOf_83 (by decide) ?_
      have hF_ := va_free (wc := [(h0, .inr (8, [.ref mk, .ref mg, .ref mhb, .ref mdn, .int (nI nd), .ref mda, .ref mkp, .int kp, .ref mbr, .ref msu, .ref msg, .ref mlo, .int mo, .int ne, .int gl, .int ca, .int (nI no), .ref moa, .ref mog, .ref mop, .int rs9_68, .int rw9_68, .ref mra, .int bc, .int bo, .int be])), eI G mda 4 da, eI G mk 64 kf, eI G mg 64 gf, eZ G mhb 64 bf, eZ G mdn 64 dn, eI G mra 8 ra9_68]) hD hS hA [4, 5, 6, 7, 8, 9, 10] rfl
      refine ca_Ql (wr := [eI G mbr 12 br, eI G msu 12 pf, eI G msg 12 sg, eZ G mlo 12 lo]) (va_runV (As := [.int (nI d), .int 0]) (rest := [.long ((br h).toInt64)]) ⟨hx, hb, hml, hown, hts⟩ (c_X8_shares ln G h0 mk mg mhb mdn mda mkp mbr msu msg mlo moa mog mop mra nd kp mo ne gl ca no rs9_68 rw9_68 bc bo be da kf gf bf dn ra9_68 d false x0 y0 H.size (by omega) hxy hda) (cwV 2 hts (gV kCode_X8_shares kMl_X8_110 kIm_X8_shares kSel_X8_shares kIni_X8) rfl rfl rfl ⟨rfl, hd_X8_shares⟩ ⟨Nat.le_of_ble_eq_true rfl, Nat.le_of_ble_eq_true rfl⟩) ⟨rw_blind, va_recv hE.1 hP (ci := 8) (q0 := 4) rfl rfl, (rw_pre (hP.sub [4, 5, 6, 7, 8, 9, 10] rfl) (hD.sub [4, 5, 6, 7, 8, 9, 10] (by decide) rfl) hF_ hS hE hT)⟩ rfl rfl hl.1 rfl (lv_room (Nat.le_of_ble_eq_true rfl)) dX8_lightOf_84 ⟨Nat.zero_le _, Nat.zero_le _⟩) hP hD hS hA [4, 5, 6, 7, 8, 9, 10] [0, 1, 2, 3] rfl rfl rfl (by decide) (fun r_84 u_84 H locs w_84 hP hD hS => ?_)
      obtain ⟨rs9_84, rw9_84, ra9_84⟩ := u_84
      have hP : va_P G.1 vwCl [eI G mbr 12 br, eI G msu 12 pf, eI G msg 12 sg, eZ G mlo 12 lo, (h0, .inr (8, [.ref mk, .ref mg, .ref mhb, .ref mdn, .int (nI nd), .ref mda, .ref mkp, .int kp, .ref mbr, .ref msu, .ref msg, .ref mlo, .int mo, .int ne, .int gl, .int ca, .int (nI no), .ref moa, .ref mog, .ref mop, .int rs9_84, .int rw9_84, .ref mra, .int bc, .int bo, .int be])), eI G mda 4 da, eI G mk 64 kf, eI G mg 64 gf, eZ G mhb 64 bf, eZ G mdn 64 dn, eI G mra 8 ra9_84] H := hP
      have hD : va_D A [eI G mbr 12 br, eI G msu 12 pf, eI G msg 12 sg, eZ G mlo 12 lo, (h0, .inr (8, [.ref mk, .ref mg, .ref mhb, .ref mdn, .int (nI nd), .ref mda, .ref mkp, .int kp, .ref mbr, .ref msu, .ref msg, .ref mlo, .int mo, .int ne, .int gl, .int ca, .int (nI no), .ref moa, .ref mog, .ref mop, .int rs9_84, .int rw9_84, .ref mra, .int bc, .int bo, .int be])), eI G mda 4 da, eI G mk 64 kf, eI G mg 64 gf, eZ G mhb 64 bf, eZ G mdn 64 dn, eI G mra 8 ra9_84] := hD
      obtain rfl : r_84 = sumL (fun p => shV kf gf (dnB false bf dn) x0 y0 p) 16 := w_84
      refine lv_lmul hx hb dX8_lightOf_87 ?_
      refine lv_lload hx hb dX8_lightOf_88 (lv_at hl 0 rfl) ?_
      refine lv_ladd hx hb dX8_lightOf_90 ?_
      refine lv_ldc2 hx hb hown (hts _ kCl_X8_114) dX8_lightOf_91 ?_
      refine lv_ldiv hx hb dX8_lightOf_94 (by decide) ?_
      refine lv_l2i hx hb dX8_lightOf_95 rfl ?_
      have hP9 := hP.sub (ws' := [(h0, .inr (8, [.ref mk, .ref mg, .ref mhb, .ref mdn, .int (nI nd), .ref mda, .ref mkp, .int kp, .ref mbr, .ref msu, .ref msg, .ref mlo, .int mo, .int ne, .int gl, .int ca, .int (nI no), .ref moa, .ref mog, .ref mop, .int rs9_84, .int rw9_84, .ref mra, .int bc, .int bo, .int be])), eI G mda 4 da, eI G mk 64 kf, eI G mg 64 gf, eZ G mhb 64 bf, eZ G mdn 64 dn, eI G mbr 12 br, eI G msu 12 pf, eI G msg 12 sg, eZ G mlo 12 lo, eI G mra 8 ra9_84]) [4, 5, 6, 7, 8, 9, 0, 1, 2, 3, 10] rfl
      have hD9 := hD.sub (ws' := [(h0, .inr (8, [.ref mk, .ref mg, .ref mhb, .ref mdn, .int (nI nd), .ref mda, .ref mkp, .int kp, .ref mbr, .ref msu, .ref msg, .ref mlo, .int mo, .int ne, .int gl, .int ca, .int (nI no), .ref moa, .ref mog, .ref mop, .int rs9_84, .int rw9_84, .ref mra, .int bc, .int bo, .int be])), eI G mda 4 da, eI G mk 64 kf, eI G mg 64 gf, eZ G mhb 64 bf, eZ G mdn 64 dn, eI G mbr 12 br, eI G msu 12 pf, eI G msg 12 sg, eZ G mlo 12 lo, eI G mra 8 ra9_84]) [4, 5, 6, 7, 8, 9, 0, 1, 2, 3, 10] (by decide) rfl
      exact W.iret (v := (((((br h).toInt64) * (sumL (fun p => shV kf gf (dnB false bf dn) x0 y0 p) 16)) + ((16 * ((sg h).toInt64)) * (shV kf gf (dnB false bf dn) x0 y0 ((pf h).toNatClampNeg)))) / 33554432).toInt32) hx hb hr (fun t_ ht_ hW_ => ⟨⟨(((((br h).toInt64) * (sumL (fun p => shV kf gf (dnB false bf dn) x0 y0 p) 16)) + ((16 * ((sg h).toInt64)) * (shV kf gf (dnB false bf dn) x0 y0 ((pf h).toNatClampNeg)))) / 33554432).toInt32, (rs9_84, rw9_84, ra9_84), rfl, (by simp only [mlV, c_6, c_41, if_true, if_false, Bool.false_eq_true]), by rw [ht_]; exact hP9, hD9⟩, hS.F ht_⟩) hS.2.2 dX8_lightOf_96
    · skip
      refine lv_lconst (v := 0) hx hb dX8_lightOf_44 (by decide) ?_
      refine lv_goto (tgt := 72) hx hb dX8_lightOf_45 (by decide) ?_
      refine lv_lstore (lv' := [(4, .long (0 : Int64)), (0, .ref h0), (1, .int (nI d)), (2, .int (nI h)), (3, .int ed)]) hx hb dX8_lightOf_72 hl (by decide) rfl (fun ls hl => ?_)
      refine lv_aload_n hx hb dX8_lightOf_74 rfl (lv_at hl 1 rfl) ?_
      refine va_get (ci := 8) (C := RX8) (T := TX8) (N := 26) hx hb hts hinX8 hown hE.1 hP 0 rfl rfl 8 (by decide) (hts _ kFl_X8_29) (fun _ h9 => h9) rfl dX8_lightOf_75 ?_
      refine lv_iload_n hx hb dX8_lightOf_78 rfl (lv_at hl 3 rfl) ?_
      refine ri_ald (j := h) hx hb hE hP 6 rfl (nI_clamp (by omega)) (vp_in_nI (by omega) (by omega)) dX8_lightOf_79 ?_
      refine lv_i2l hx hb dX8_lightOf_80 rfl ?_
      refine lv_aload_n hx hb dX8_lightOf_81 rfl (lv_at hl 1 rfl) ?_
      refine lv_iload_n hx hb dX8_lightOf_82 rfl (lv_at hl 2 rfl) ?_
      refine lv_iconst (v := 0) hx hb dX8_lightOf_83 (by decide) ?_
      have hF_ := va_free (wc := [(h0, .inr (8, [.ref mk, .ref mg, .ref mhb, .ref mdn, .int (nI nd), .ref mda, .ref mkp, .int kp, .ref mbr, .ref msu, .ref msg, .ref mlo, .int mo, .int ne, .int gl, .int ca, .int (nI no), .ref moa, .ref mog, .ref mop, .int rs, .int rw_, .ref mra, .int bc, .int bo, .int be])), eI G mda 4 da, eI G mk 64 kf, eI G mg 64 gf, eZ G mhb 64 bf, eZ G mdn 64 dn, eI G mra 8 ra]) hD hS hA [0, 1, 2, 3, 4, 5, 10] rfl
      refine ca_Ql (wr := [eI G mbr 12 br, eI G msu 12 pf, eI G msg 12 sg, eZ G mlo 12 lo]) (va_runV (As := [.int (nI d), .int 0]) (rest := [.long ((br h).toInt64)]) ⟨hx, hb, hml, hown, hts⟩ (c_X8_shares ln G h0 mk mg mhb mdn mda mkp mbr msu msg mlo moa mog mop mra nd kp mo ne gl ca no rs rw_ bc bo be da kf gf bf dn ra d false x0 y0 s.heap.size (by omega) hxy hda) (cwV 2 hts (gV kCode_X8_shares kMl_X8_110 kIm_X8_shares kSel_X8_shares kIni_X8) rfl rfl rfl ⟨rfl, hd_X8_shares⟩ ⟨Nat.le_of_ble_eq_true rfl, Nat.le_of_ble_eq_true rfl⟩) ⟨rw_blind, va_recv hE.1 hP (ci := 8) (q0 := 0) rfl rfl, (rw_pre (hP.sub [0, 1, 2, 3, 4, 5, 10] rfl) (hD.sub [0, 1, 2, 3, 4, 5, 10] (by decide) rfl) hF_ hS hE hT)⟩ rfl rfl hl.1 rfl (lv_room (Nat.le_of_ble_eq_true rfl)) dX8_lightOf_84 ⟨Nat.zero_le _, Nat.zero_le _⟩) hP hD hS hA [0, 1, 2, 3, 4, 5, 10] [6, 7, 8, 9] rfl rfl rfl (by decide) (fun r_84 u_84 H locs w_84 hP hD hS => ?_)
      obtain ⟨rs9_84, rw9_84, ra9_84⟩ := u_84
      have hP : va_P G.1 vwCl [eI G mbr 12 br, eI G msu 12 pf, eI G msg 12 sg, eZ G mlo 12 lo, (h0, .inr (8, [.ref mk, .ref mg, .ref mhb, .ref mdn, .int (nI nd), .ref mda, .ref mkp, .int kp, .ref mbr, .ref msu, .ref msg, .ref mlo, .int mo, .int ne, .int gl, .int ca, .int (nI no), .ref moa, .ref mog, .ref mop, .int rs9_84, .int rw9_84, .ref mra, .int bc, .int bo, .int be])), eI G mda 4 da, eI G mk 64 kf, eI G mg 64 gf, eZ G mhb 64 bf, eZ G mdn 64 dn, eI G mra 8 ra9_84] H := hP
      have hD : va_D A [eI G mbr 12 br, eI G msu 12 pf, eI G msg 12 sg, eZ G mlo 12 lo, (h0, .inr (8, [.ref mk, .ref mg, .ref mhb, .ref mdn, .int (nI nd), .ref mda, .ref mkp, .int kp, .ref mbr, .ref msu, .ref msg, .ref mlo, .int mo, .int ne, .int gl, .int ca, .int (nI no), .ref moa, .ref mog, .ref mop, .int rs9_84, .int rw9_84, .ref mra, .int bc, .int bo, .int be])), eI G mda 4 da, eI G mk 64 kf, eI G mg 64 gf, eZ G mhb 64 bf, eZ G mdn 64 dn, eI G mra 8 ra9_84] := hD
      obtain rfl : r_84 = sumL (fun p => shV kf gf (dnB false bf dn) x0 y0 p) 16 := w_84
      refine lv_lmul hx hb dX8_lightOf_87 ?_
      refine lv_lload hx hb dX8_lightOf_88 (lv_at hl 0 rfl) ?_
      refine lv_ladd hx hb dX8_lightOf_90 ?_
      refine lv_ldc2 hx hb hown (hts _ kCl_X8_114) dX8_lightOf_91 ?_
      refine lv_ldiv hx hb dX8_lightOf_94 (by decide) ?_
      refine lv_l2i hx hb dX8_lightOf_95 rfl ?_
      have hP9 := hP.sub (ws' := [(h0, .inr (8, [.ref mk, .ref mg, .ref mhb, .ref mdn, .int (nI nd), .ref mda, .ref mkp, .int kp, .ref mbr, .ref msu, .ref msg, .ref mlo, .int mo, .int ne, .int gl, .int ca, .int (nI no), .ref moa, .ref mog, .ref mop, .int rs9_84, .int rw9_84, .ref mra, .int bc, .int bo, .int be])), eI G mda 4 da, eI G mk 64 kf, eI G mg 64 gf, eZ G mhb 64 bf, eZ G mdn 64 dn, eI G mbr 12 br, eI G msu 12 pf, eI G msg 12 sg, eZ G mlo 12 lo, eI G mra 8 ra9_84]) [4, 5, 6, 7, 8, 9, 0, 1, 2, 3, 10] rfl
      have hD9 := hD.sub (ws' := [(h0, .inr (8, [.ref mk, .ref mg, .ref mhb, .ref mdn, .int (nI nd), .ref mda, .ref mkp, .int kp, .ref mbr, .ref msu, .ref msg, .ref mlo, .int mo, .int ne, .int gl, .int ca, .int (nI no), .ref moa, .ref mog, .ref mop, .int rs9_84, .int rw9_84, .ref mra, .int bc, .int bo, .int be])), eI G mda 4 da, eI G mk 64 kf, eI G mg 64 gf, eZ G mhb 64 bf, eZ G mdn 64 dn, eI G mbr 12 br, eI G msu 12 pf, eI G msg 12 sg, eZ G mlo 12 lo, eI G mra 8 ra9_84]) [4, 5, 6, 7, 8, 9, 0, 1, 2, 3, 10] (by decide) rfl
      exact W.iret (v := (((((br h).toInt64) * (sumL (fun p => shV kf gf (dnB false bf dn) x0 y0 p) 16)) + (0 : Int64)) / 33554432).toInt32) hx hb hr (fun t_ ht_ hW_ => ⟨⟨(((((br h).toInt64) * (sumL (fun p => shV kf gf (dnB false bf dn) x0 y0 p) 16)) + (0 : Int64)) / 33554432).toInt32, (rs9_84, rw9_84, ra9_84), rfl, (by simp only [mlV, c_6, c_41, if_true, if_false, Bool.false_eq_true]), by rw [ht_]; exact hP9, hD9⟩, hS.F ht_⟩) hS.2.2 dX8_lightOf_96
  · skip
    have c_6 := b2i_n c_6
    refine lv_iload_n hx hb dX8_lightOf_9 rfl (lv_at hl 3 rfl) ?_
    refine lv_if_ne (tgt := 17) hx hb dX8_lightOf_10 (by decide) (fun c_10 => ?_) (fun c_10 => ?_)
    · skip
      refine lv_aload_n hx hb dX8_lightOf_17 rfl (lv_at hl 0 rfl) ?_
      refine va_get (ci := 8) (C := RX8) (T := TX8) (N := 26) hx hb hts hinX8 hown hE.1 hP 0 rfl rfl 12 (by decide) (hts _ kFl_X8_41) (fun _ h9 => h9) rfl dX8_lightOf_18 ?_
      refine lv_i2l hx hb dX8_lightOf_21 rfl ?_
      refine lv_aload_n hx hb dX8_lightOf_22 rfl (lv_at hl 0 rfl) ?_
      refine lv_iload_n hx hb dX8_lightOf_23 rfl (lv_at hl 1 rfl) ?_
      refine lv_iconst (v := 0) hx hb dX8_lightOf_24 (by decide) ?_
      have hF_ := va_free (wc := [(h0, .inr (8, [.ref mk, .ref mg, .ref mhb, .ref mdn, .int (nI nd), .ref mda, .ref mkp, .int kp, .ref mbr, .ref msu, .ref msg, .ref mlo, .int mo, .int ne, .int gl, .int ca, .int (nI no), .ref moa, .ref mog, .ref mop, .int rs, .int rw_, .ref mra, .int bc, .int bo, .int be])), eI G mda 4 da, eI G mk 64 kf, eI G mg 64 gf, eZ G mhb 64 bf, eZ G mdn 64 dn, eI G mra 8 ra]) hD hS hA [0, 1, 2, 3, 4, 5, 10] rfl
      refine ca_Ql (wr := [eI G mbr 12 br, eI G msu 12 pf, eI G msg 12 sg, eZ G mlo 12 lo]) (va_runV (As := [.int (nI d), .int 0]) (rest := [.long mo.toInt64]) ⟨hx, hb, hml, hown, hts⟩ (c_X8_shares ln G h0 mk mg mhb mdn mda mkp mbr msu msg mlo moa mog mop mra nd kp mo ne gl ca no rs rw_ bc bo be da kf gf bf dn ra d false x0 y0 s.heap.size (by omega) hxy hda) (cwV 2 hts (gV kCode_X8_shares kMl_X8_110 kIm_X8_shares kSel_X8_shares kIni_X8) rfl rfl rfl ⟨rfl, hd_X8_shares⟩ ⟨Nat.le_of_ble_eq_true rfl, Nat.le_of_ble_eq_true rfl⟩) ⟨rw_blind, va_recv hE.1 hP (ci := 8) (q0 := 0) rfl rfl, (rw_pre (hP.sub [0, 1, 2, 3, 4, 5, 10] rfl) (hD.sub [0, 1, 2, 3, 4, 5, 10] (by decide) rfl) hF_ hS hE hT)⟩ rfl rfl hl.1 rfl (lv_room (Nat.le_of_ble_eq_true rfl)) dX8_lightOf_25 ⟨Nat.zero_le _, Nat.zero_le _⟩) hP hD hS hA [0, 1, 2, 3, 4, 5, 10] [6, 7, 8, 9] rfl rfl rfl (by decide) (fun r_25 u_25 H locs w_25 hP hD hS => ?_)
      obtain ⟨rs9_25, rw9_25, ra9_25⟩ := u_25
      have hP : va_P G.1 vwCl [eI G mbr 12 br, eI G msu 12 pf, eI G msg 12 sg, eZ G mlo 12 lo, (h0, .inr (8, [.ref mk, .ref mg, .ref mhb, .ref mdn, .int (nI nd), .ref mda, .ref mkp, .int kp, .ref mbr, .ref msu, .ref msg, .ref mlo, .int mo, .int ne, .int gl, .int ca, .int (nI no), .ref moa, .ref mog, .ref mop, .int rs9_25, .int rw9_25, .ref mra, .int bc, .int bo, .int be])), eI G mda 4 da, eI G mk 64 kf, eI G mg 64 gf, eZ G mhb 64 bf, eZ G mdn 64 dn, eI G mra 8 ra9_25] H := hP
      have hD : va_D A [eI G mbr 12 br, eI G msu 12 pf, eI G msg 12 sg, eZ G mlo 12 lo, (h0, .inr (8, [.ref mk, .ref mg, .ref mhb, .ref mdn, .int (nI nd), .ref mda, .ref mkp, .int kp, .ref mbr, .ref msu, .ref msg, .ref mlo, .int mo, .int ne, .int gl, .int ca, .int (nI no), .ref moa, .ref mog, .ref mop, .int rs9_25, .int rw9_25, .ref mra, .int bc, .int bo, .int be])), eI G mda 4 da, eI G mk 64 kf, eI G mg 64 gf, eZ G mhb 64 bf, eZ G mdn 64 dn, eI G mra 8 ra9_25] := hD
      obtain rfl : r_25 = sumL (fun p => shV kf gf (dnB false bf dn) x0 y0 p) 16 := w_25
      refine lv_lmul hx hb dX8_lightOf_28 ?_
      refine lv_ldc2 hx hb hown (hts _ kCl_X8_114) dX8_lightOf_29 ?_
      refine lv_ldiv hx hb dX8_lightOf_32 (by decide) ?_
      refine lv_l2i hx hb dX8_lightOf_33 rfl ?_
      have hP9 := hP.sub (ws' := [(h0, .inr (8, [.ref mk, .ref mg, .ref mhb, .ref mdn, .int (nI nd), .ref mda, .ref mkp, .int kp, .ref mbr, .ref msu, .ref msg, .ref mlo, .int mo, .int ne, .int gl, .int ca, .int (nI no), .ref moa, .ref mog, .ref mop, .int rs9_25, .int rw9_25, .ref mra, .int bc, .int bo, .int be])), eI G mda 4 da, eI G mk 64 kf, eI G mg 64 gf, eZ G mhb 64 bf, eZ G mdn 64 dn, eI G mbr 12 br, eI G msu 12 pf, eI G msg 12 sg, eZ G mlo 12 lo, eI G mra 8 ra9_25]) [4, 5, 6, 7, 8, 9, 0, 1, 2, 3, 10] rfl
      have hD9 := hD.sub (ws' := [(h0, .inr (8, [.ref mk, .ref mg, .ref mhb, .ref mdn, .int (nI nd), .ref mda, .ref mkp, .int kp, .ref mbr, .ref msu, .ref msg, .ref mlo, .int mo, .int ne, .int gl, .int ca, .int (nI no), .ref moa, .ref mog, .ref mop, .int rs9_25, .int rw9_25, .ref mra, .int bc, .int bo, .int be])), eI G mda 4 da, eI G mk 64 kf, eI G mg 64 gf, eZ G mhb 64 bf, eZ G mdn 64 dn, eI G mbr 12 br, eI G msu 12 pf, eI G msg 12 sg, eZ G mlo 12 lo, eI G mra 8 ra9_25]) [4, 5, 6, 7, 8, 9, 0, 1, 2, 3, 10] (by decide) rfl
      exact W.iret (v := ((mo.toInt64 * (sumL (fun p => shV kf gf (dnB false bf dn) x0 y0 p) 16)) / 33554432).toInt32) hx hb hr (fun t_ ht_ hW_ => ⟨⟨((mo.toInt64 * (sumL (fun p => shV kf gf (dnB false bf dn) x0 y0 p) 16)) / 33554432).toInt32, (rs9_25, rw9_25, ra9_25), rfl, (by simp only [mlV, c_6, c_10, if_true, if_false, Bool.false_eq_true]), by rw [ht_]; exact hP9, hD9⟩, hS.F ht_⟩) hS.2.2 dX8_lightOf_34
    · skip
      refine lv_iconst (v := 0) hx hb dX8_lightOf_13 (by decide) ?_
      refine lv_goto (tgt := 34) hx hb dX8_lightOf_14 (by decide) ?_
      have hP9 := hP.sub (ws' := [(h0, .inr (8, [.ref mk, .ref mg, .ref mhb, .ref mdn, .int (nI nd), .ref mda, .ref mkp, .int kp, .ref mbr, .ref msu, .ref msg, .ref mlo, .int mo, .int ne, .int gl, .int ca, .int (nI no), .ref moa, .ref mog, .ref mop, .int rs, .int rw_, .ref mra, .int bc, .int bo, .int be])), eI G mda 4 da, eI G mk 64 kf, eI G mg 64 gf, eZ G mhb 64 bf, eZ G mdn 64 dn, eI G mbr 12 br, eI G msu 12 pf, eI G msg 12 sg, eZ G mlo 12 lo, eI G mra 8 ra]) [0, 1, 2, 3, 4, 5, 6, 7, 8, 9, 10] rfl
      have hD9 := hD.sub (ws' := [(h0, .inr (8, [.ref mk, .ref mg, .ref mhb, .ref mdn, .int (nI nd), .ref mda, .ref mkp, .int kp, .ref mbr, .ref msu, .ref msg, .ref mlo, .int mo, .int ne, .int gl, .int ca, .int (nI no), .ref moa, .ref mog, .ref mop, .int rs, .int rw_, .ref mra, .int bc, .int bo, .int be])), eI G mda 4 da, eI G mk 64 kf, eI G mg 64 gf, eZ G mhb 64 bf, eZ G mdn 64 dn, eI G mbr 12 br, eI G msu 12 pf, eI G msg 12 sg, eZ G mlo 12 lo, eI G mra 8 ra]) [0, 1, 2, 3, 4, 5, 6, 7, 8, 9, 10] (by decide) rfl
      exact W.iret (v := 0) hx hb hr (fun t_ ht_ hW_ => ⟨⟨0, (rs, rw_, ra), rfl, (by simp only [mlV, c_6, c_10, if_true, if_false, Bool.false_eq_true]), by rw [ht_]; exact hP9, hD9⟩, hS.F ht_⟩) hS.2.2 dX8_lightOf_34
