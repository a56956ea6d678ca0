set_option maxHeartbeats 4000000 in
set_option maxRecDepth 100000 in
theorem c_X8_ray (ln : Launch) (G : gT) (h0 : Nat) (mk : Nat) (mg : Nat) (mhb : Nat) (mdn : Nat) (mda : Nat) (mkp : Nat) (mbr : Nat) (msu : Nat) (msg : Nat) (mlo : Nat) (moa : Nat) (mog : Nat) (mop : Nat) (mra : Nat) (nd : Nat) (kp : Int32) (mo : Int32) (ne : Int32) (gl : Int32) (ca : Int32) (no : Nat) (rs : Int32) (rw_ : Int32) (bc : Int32) (bo : Int32) (be : Int32) (da : Nat → Int32) (kf : Nat → Int32) (ra : Nat → Int32) (gf : Nat → Int32) (xf : Nat → Int32) (yf : Nat → Int32) (d : Int32) (pt : Int32) (sz : Nat) (hnd : nd ≤ 4) (hdk : dkI nd da xf yf) : Met ln yX8_ray (wA (.code yX8_ray cX8_ray 3 (some .int))) ({ frames := 4, cells := 0, slots := 0, locals := 93 } : Room) (va_Pc [.ref h0, .int d, .int pt] (rwB G [(h0, .inr (8, [.ref mk, .ref mg, .ref mhb, .ref mdn, .int (nI nd), .ref mda, .ref mkp, .int kp, .ref mbr, .ref msu, .ref msg, .ref mlo, .int mo, .int ne, .int gl, .int ca, .int (nI no), .ref moa, .ref mog, .ref mop, .int rs, .int rw_, .ref mra, .int bc, .int bo, .int be])), eI G mda 4 da, eI G mk 64 kf, eI G mra 8 ra] sz)) (va_Qi (S := Int32 × Int32 × (Nat → Int32)) (fun (r : Int32) (_ : Int32 × Int32 × (Nat → Int32)) => r = aRay kf gf xf yf nd d pt) (fun u => wdB G (va_A [(h0, .inr (8, [.ref mk, .ref mg, .ref mhb, .ref mdn, .int (nI nd), .ref mda, .ref mkp, .int kp, .ref mbr, .ref msu, .ref msg, .ref mlo, .int mo, .int ne, .int gl, .int ca, .int (nI no), .ref moa, .ref mog, .ref mop, .int rs, .int rw_, .ref mra, .int bc, .int bo, .int be])), eI G mda 4 da, eI G mk 64 kf, eI G mra 8 ra] sz) [(h0, .inr (8, [.ref mk, .ref mg, .ref mhb, .ref mdn, .int (nI nd), .ref mda, .ref mkp, .int kp, .ref mbr, .ref msu, .ref msg, .ref mlo, .int mo, .int ne, .int gl, .int ca, .int (nI no), .ref moa, .ref mog, .ref mop, .int u.1, .int u.2.1, .ref mra, .int bc, .int bo, .int be])), eI G mda 4 da, eI G mk 64 kf, eI G mra 8 u.2.2]) (va_A [(h0, .inr (8, [.ref mk, .ref mg, .ref mhb, .ref mdn, .int (nI nd), .ref mda, .ref mkp, .int kp, .ref mbr, .ref msu, .ref msg, .ref mlo, .int mo, .int ne, .int gl, .int ca, .int (nI no), .ref moa, .ref mog, .ref mop, .int rs, .int rw_, .ref mra, .int bc, .int bo, .int be])), eI G mda 4 da, eI G mk 64 kf, eI G mra 8 ra] sz)) 0 0 (va_A [(h0, .inr (8, [.ref mk, .ref mg, .ref mhb, .ref mdn, .int (nI nd), .ref mda, .ref mkp, .int kp, .ref mbr, .ref msu, .ref msg, .ref mlo, .int mo, .int ne, .int gl, .int ca, .int (nI no), .ref moa, .ref mog, .ref mop, .int rs, .int rw_, .ref mra, .int bc, .int bo, .int be])), eI G mda 4 da, eI G mk 64 kf, eI G mra 8 ra] sz) := by
  refine Met.ofW (cc := cX8_ray) (maxL := 3) (ret := (some .int)) (by decide) rfl ?_
  intro pg ev s mi args below meth cd s₁ B hml hv
  obtain ⟨rfl, hsz, hP, hE, hD0, hT⟩ := hv
  have hx := B.exec
  have hb := B.bytes
  have hr := B.returns
  have hts0 := atoms_spec (ws := wA (.code yX8_ray cX8_ray 3 (some .int))) B.pre
  have hts : ∀ w ∈ wsA, w.before _ s = true := fun w h => hts0 w (List.mem_cons_of_mem _ h)
  have hown : s.vm.findClass RX8 = some mi.cls := findClass_of_methodNamed B.named
  have hlocks := B.notSynchronized
  subst hsz
  have hD := hD0.self (sz := s.heap.size)
  generalize hAe : va_A [(h0, .inr (8, [.ref mk, .ref mg, .ref mhb, .ref mdn, .int (nI nd), .ref mda, .ref mkp, .int kp, .ref mbr, .ref msu, .ref msg, .ref mlo, .int mo, .int ne, .int gl, .int ca, .int (nI no), .ref moa, .ref mog, .ref mop, .int rs, .int rw_, .ref mra, .int bc, .int bo, .int be])), eI G mda 4 da, eI G mk 64 kf, eI G mra 8 ra] s.heap.size = A at hD hT ⊢
  have hA : ∀ q : Nat, s.heap.size ≤ q → A q := fun q h => by rw [← hAe]; exact Or.inr h
  have hS : va_S A s.heap s.heap [] := va_S.rf
  have hl := lv_entry ([.ref h0, .int d, .int pt]) (n := 3) (Nat.le_of_ble_eq_true rfl)
  rw [lg_entry_eq]
  generalize (lg_sl ([.ref h0, .int d, .int pt]) ++ List.replicate (3 - (lg_sl ([.ref h0, .int d, .int pt])).length) Slot.unset).toArray = ls at hl ⊢
  have hl : lv_has ls 3 [(0, .ref h0), (1, .int d), (2, .int pt)] := hl
  refine lv_aload_n hx hb dX8_ray_0 rfl (lv_at hl 0 rfl) ?_
  refine lv_iload_n hx hb dX8_ray_1 rfl (lv_at hl 1 rfl) ?_
  refine ca_Si (val := b2i (inB d 0 (nI nd - 1))) (va_runV (As := [.int d]) (rest := []) ⟨hx, hb, hml, hown, hts⟩ (c_X8_isDesk ln G h0 mk mg mhb mdn mda mkp mbr msu msg mlo moa mog mop mra nd kp mo ne gl ca no rs rw_ bc bo be d ) (cwV 1 hts (gV kCode_X8_isDesk kMl_X8_77 kIm_X8_isDesk kSel_X8_isDesk kIni_X8) rfl rfl rfl ⟨rfl, hd_X8_isDesk⟩ ⟨Nat.le_of_ble_eq_true rfl, Nat.le_of_ble_eq_true rfl⟩) ⟨ro_blind, va_recv hE.1 hP (ci := 8) (q0 := 0) rfl rfl, (ro_pre (hP.sub [0] rfl) hS hE hT)⟩ rfl rfl hl.1 rfl (lv_room (Nat.le_of_ble_eq_true rfl)) dX8_ray_2 ⟨Nat.zero_le _, Nat.zero_le _⟩) ?_
  rw [show (b2i (inB d 0 (nI nd - 1))) = (b2i (hasB (nI nd) d)) from (by rw [inb_has (by omega)])]
  refine lv_if_eq (tgt := 18) hx hb dX8_ray_5 (by decide) (fun c_5 => ?_) (fun c_5 => ?_)
  · skip
    have c_5 := b2i_z c_5
    refine lv_bipush (v := -2) hx hb dX8_ray_18 (by decide) ?_
    have hP9 := hP.sub (ws' := [(h0, .inr (8, [.ref mk, .ref mg, .ref mhb, .ref mdn, .int (nI nd), .ref mda, .ref mkp, .int kp, .ref mbr, .ref msu, .ref msg, .ref mlo, .int mo, .int ne, .int gl, .int ca, .int (nI no), .ref moa, .ref mog, .ref mop, .int rs, .int rw_, .ref mra, .int bc, .int bo, .int be])), eI G mda 4 da, eI G mk 64 kf, eI G mra 8 ra]) [0, 1, 2, 3] rfl
    have hD9 := hD.sub (ws' := [(h0, .inr (8, [.ref mk, .ref mg, .ref mhb, .ref mdn, .int (nI nd), .ref mda, .ref mkp, .int kp, .ref mbr, .ref msu, .ref msg, .ref mlo, .int mo, .int ne, .int gl, .int ca, .int (nI no), .ref moa, .ref mog, .ref mop, .int rs, .int rw_, .ref mra, .int bc, .int bo, .int be])), eI G mda 4 da, eI G mk 64 kf, eI G mra 8 ra]) [0, 1, 2, 3] (by decide) rfl
    exact W.iret (v := (-2)) hx hb hr (fun t_ ht_ hW_ => ⟨⟨(-2), (rs, rw_, ra), rfl, (by simp [aRay, patchB, c_5]), by rw [ht_]; exact hP9, hD9⟩, hS.F ht_⟩) hS.2.2 dX8_ray_20
  · skip
    have c_5 := b2i_n c_5
    refine lv_iload_n hx hb dX8_ray_8 rfl (lv_at hl 2 rfl) ?_
    refine lv_iconst (v := 0) hx hb dX8_ray_9 (by decide) ?_
    refine lv_bipush (v := 15) hx hb dX8_ray_10 (by decide) ?_
    refine ca_Si (val := b2i (inB pt 0 15)) (va_runS (As := [.int pt, .int 0, .int 15]) (rest := []) ⟨hx, hb, hml, hown, hts⟩ (c_X8_in ln pt 0 15 ) (va_cwS 3 hts (gS kCode_X8_in kMl_X8_66 kSt_X8_in kIni_X8) rfl rfl rfl hd_X8_in ⟨Nat.le_of_ble_eq_true rfl, Nat.le_of_ble_eq_true rfl⟩) ⟨pu_blind, pu_pre⟩ rfl rfl hl.1 rfl (lv_room (Nat.le_of_ble_eq_true rfl)) dX8_ray_12 ⟨Nat.zero_le _, Nat.zero_le _⟩) ?_
    refine lv_if_ne (tgt := 21) hx hb dX8_ray_15 (by decide) (fun c_15 => ?_) (fun c_15 => ?_)
    · skip
      have c_15 := b2i_n c_15
      have hdi : vp_in d nd := has_in c_5 hnd
      have hdn : d = nI d.toNatClampNeg := (nI_back hdi (by omega)).1
      have hdl : d.toNatClampNeg < nd := (nI_back hdi (by omega)).2
      have hpi : vp_in pt 16 := patch_in c_15
      have hpn : pt = nI pt.toNatClampNeg := (nI_back hpi (by omega)).1
      have hpm : pt.toNatClampNeg < 16 := (nI_back hpi (by omega)).2
      refine lv_aload_n hx hb dX8_ray_21 rfl (lv_at hl 0 rfl) ?_
      refine lv_iload_n hx hb dX8_ray_22 rfl (lv_at hl 1 rfl) ?_
      refine lv_iload_n hx hb dX8_ray_23 rfl (lv_at hl 2 rfl) ?_
      refine W.eq (congrArg (fun z => F0 mi 24 ls [.int z, .int d, .ref h0]) hpn) ?_
      refine W.eq (congrArg (fun z => F0 mi 24 ls [.int (nI pt.toNatClampNeg), .int z, .ref h0]) hdn) ?_
      have hF_ := va_free (wc := [(h0, .inr (8, [.ref mk, .ref mg, .ref mhb, .ref mdn, .int (nI nd), .ref mda, .ref mkp, .int kp, .ref mbr, .ref msu, .ref msg, .ref mlo, .int mo, .int ne, .int gl, .int ca, .int (nI no), .ref moa, .ref mog, .ref mop, .int rs, .int rw_, .ref mra, .int bc, .int bo, .int be])), eI G mda 4 da, eI G mk 64 kf, eI G mra 8 ra]) hD hS hA [0, 1, 2, 3] rfl
      refine ca_Qi (wr := []) (va_runV (As := [.int (nI d.toNatClampNeg), .int (nI pt.toNatClampNeg)]) (rest := []) ⟨hx, hb, hml, hown, hts⟩ (c_X8_walk ln G h0 mk mg mhb mdn mda mkp mbr msu msg mlo moa mog mop mra nd kp mo ne gl ca no rs rw_ bc bo be da kf ra d.toNatClampNeg pt.toNatClampNeg (xf d.toNatClampNeg) (yf d.toNatClampNeg) s.heap.size (by omega) hpm ((hdk _ hdl).1) ((hdk _ hdl).2)) (cwV 2 hts (gV kCode_X8_walk kMl_X8_97 kIm_X8_walk kSel_X8_walk kIni_X8) rfl rfl rfl ⟨rfl, hd_X8_walk⟩ ⟨Nat.le_of_ble_eq_true rfl, Nat.le_of_ble_eq_true rfl⟩) ⟨rw_blind, va_recv hE.1 hP (ci := 8) (q0 := 0) rfl rfl, (rw_pre (hP.sub [0, 1, 2, 3] rfl) (hD.sub [0, 1, 2, 3] (by decide) rfl) hF_ hS hE hT)⟩ rfl rfl hl.1 rfl (lv_room (Nat.le_of_ble_eq_true rfl)) dX8_ray_24 ⟨Nat.zero_le _, Nat.zero_le _⟩) hP hD hS hA [0, 1, 2, 3] [] rfl rfl rfl (by decide) (fun r_24 u_24 H locs w_24 hP hD hS => ?_)
      obtain ⟨rs9_24, rw9_24, ra9_24⟩ := u_24
      have hP : va_P G.1 vwCl [(h0, .inr (8, [.ref mk, .ref mg, .ref mhb, .ref mdn, .int (nI nd), .ref mda, .ref mkp, .int kp, .ref mbr, .ref msu, .ref msg, .ref mlo, .int mo, .int ne, .int gl, .int ca, .int (nI no), .ref moa, .ref mog, .ref mop, .int rs9_24, .int rw9_24, .ref mra, .int bc, .int bo, .int be])), eI G mda 4 da, eI G mk 64 kf, eI G mra 8 ra9_24] H := hP
      have hD : va_D A [(h0, .inr (8, [.ref mk, .ref mg, .ref mhb, .ref mdn, .int (nI nd), .ref mda, .ref mkp, .int kp, .ref mbr, .ref msu, .ref msg, .ref mlo, .int mo, .int ne, .int gl, .int ca, .int (nI no), .ref moa, .ref mog, .ref mop, .int rs9_24, .int rw9_24, .ref mra, .int bc, .int bo, .int be])), eI G mda 4 da, eI G mk 64 kf, eI G mra 8 ra9_24] := hD
      obtain rfl : r_24 = b2i ((rayR kf (stX pt.toNatClampNeg) (stY pt.toNatClampNeg) 8 (xf d.toNatClampNeg) (yf d.toNatClampNeg)).isSome) := w_24.1
      refine lv_if_eq (tgt := 37) hx hb dX8_ray_27 (by decide) (fun c_27 => ?_) (fun c_27 => ?_)
      · skip
        have c_27 := b2i_z c_27
        refine lv_iconst (v := -1) hx hb dX8_ray_37 (by decide) ?_
        have hP9 := hP.sub (ws' := [(h0, .inr (8, [.ref mk, .ref mg, .ref mhb, .ref mdn, .int (nI nd), .ref mda, .ref mkp, .int kp, .ref mbr, .ref msu, .ref msg, .ref mlo, .int mo, .int ne, .int gl, .int ca, .int (nI no), .ref moa, .ref mog, .ref mop, .int rs9_24, .int rw9_24, .ref mra, .int bc, .int bo, .int be])), eI G mda 4 da, eI G mk 64 kf, eI G mra 8 ra9_24]) [0, 1, 2, 3] rfl
        have hD9 := hD.sub (ws' := [(h0, .inr (8, [.ref mk, .ref mg, .ref mhb, .ref mdn, .int (nI nd), .ref mda, .ref mkp, .int kp, .ref mbr, .ref msu, .ref msg, .ref mlo, .int mo, .int ne, .int gl, .int ca, .int (nI no), .ref moa, .ref mog, .ref mop, .int rs9_24, .int rw9_24, .ref mra, .int bc, .int bo, .int be])), eI G mda 4 da, eI G mk 64 kf, eI G mra 8 ra9_24]) [0, 1, 2, 3] (by decide) rfl
        exact W.iret (v := (-1)) hx hb hr (fun t_ ht_ hW_ => ⟨⟨(-1), (rs9_24, rw9_24, ra9_24), rfl, (by rw [← rayT_n (gf := gf) c_27]; simp [aRay, patchB, c_5, c_15]), by rw [ht_]; exact hP9, hD9⟩, hS.F ht_⟩) hS.2.2 dX8_ray_38
      · skip
        have c_27 := b2i_n c_27
        obtain ⟨⟨kq, t⟩, ht⟩ := Option.isSome_iff_exists.mp c_27
        have hrs : rs9_24 = nI kq := (w_24.2 kq t ht).1
        refine lv_aload_n hx hb dX8_ray_30 rfl (lv_at hl 0 rfl) ?_
        refine va_get (ci := 8) (C := RX8) (T := TX8) (N := 26) hx hb hts hinX8 hown hE.1 hP 0 rfl rfl 20 (by decide) (hts _ kFl_X8_88) (fun _ h9 => h9) rfl dX8_ray_31 ?_
        refine lv_goto (tgt := 38) hx hb dX8_ray_34 (by decide) ?_
        have hP9 := hP.sub (ws' := [(h0, .inr (8, [.ref mk, .ref mg, .ref mhb, .ref mdn, .int (nI nd), .ref mda, .ref mkp, .int kp, .ref mbr, .ref msu, .ref msg, .ref mlo, .int mo, .int ne, .int gl, .int ca, .int (nI no), .ref moa, .ref mog, .ref mop, .int rs9_24, .int rw9_24, .ref mra, .int bc, .int bo, .int be])), eI G mda 4 da, eI G mk 64 kf, eI G mra 8 ra9_24]) [0, 1, 2, 3] rfl
        have hD9 := hD.sub (ws' := [(h0, .inr (8, [.ref mk, .ref mg, .ref mhb, .ref mdn, .int (nI nd), .ref mda, .ref mkp, .int kp, .ref mbr, .ref msu, .ref msg, .ref mlo, .int mo, .int ne, .int gl, .int ca, .int (nI no), .ref moa, .ref mog, .ref mop, .int rs9_24, .int rw9_24, .ref mra, .int bc, .int bo, .int be])), eI G mda 4 da, eI G mk 64 kf, eI G mra 8 ra9_24]) [0, 1, 2, 3] (by decide) rfl
        exact W.iret (v := rs9_24) hx hb hr (fun t_ ht_ hW_ => ⟨⟨rs9_24, (rs9_24, rw9_24, ra9_24), rfl, (by rw [hrs, ← rayT_s (gf := gf) ht]; simp [aRay, patchB, c_5, c_15]), by rw [ht_]; exact hP9, hD9⟩, hS.F ht_⟩) hS.2.2 dX8_ray_38
    · skip
      have c_15 := b2i_z c_15
      refine lv_bipush (v := -2) hx hb dX8_ray_18 (by decide) ?_
      have hP9 := hP.sub (ws' := [(h0, .inr (8, [.ref mk, .ref mg, .ref mhb, .ref mdn, .int (nI nd), .ref mda, .ref mkp, .int kp, .ref mbr, .ref msu, .ref msg, .ref mlo, .int mo, .int ne, .int gl, .int ca, .int (nI no), .ref moa, .ref mog, .ref mop, .int rs, .int rw_, .ref mra, .int bc, .int bo, .int be])), eI G mda 4 da, eI G mk 64 kf, eI G mra 8 ra]) [0, 1, 2, 3] rfl
      have hD9 := hD.sub (ws' := [(h0, .inr (8, [.ref mk, .ref mg, .ref mhb, .ref mdn, .int (nI nd), .ref mda, .ref mkp, .int kp, .ref mbr, .ref msu, .ref msg, .ref mlo, .int mo, .int ne, .int gl, .int ca, .int (nI no), .ref moa, .ref mog, .ref mop, .int rs, .int rw_, .ref mra, .int bc, .int bo, .int be])), eI G mda 4 da, eI G mk 64 kf, eI G mra 8 ra]) [0, 1, 2, 3] (by decide) rfl
      exact W.iret (v := (-2)) hx hb hr (fun t_ ht_ hW_ => ⟨⟨(-2), (rs, rw_, ra), rfl, (by simp [aRay, patchB, c_5, c_15]), by rw [ht_]; exact hP9, hD9⟩, hS.F ht_⟩) hS.2.2 dX8_ray_20
set_option maxHeartbeats 4000000 in
set_option maxRecDepth 100000 in
theorem c_X8_sky (ln : Launch) (G : gT) (h0 : Nat) (mk : Nat) (mg : Nat) (mhb : Nat) (mdn : Nat) (mda : Nat) (mkp : Nat) (mbr : Nat) (msu : Nat) (msg : Nat) (mlo : Nat) (moa : Nat) (mog : Nat) (mop : Nat) (mra : Nat) (nd : Nat) (kp : Int32) (mo : Int32) (ne : Int32) (gl : Int32) (ca : Int32) (no : Nat) (rs : Int32) (rw_ : Int32) (bc : Int32) (bo : Int32) (be : Int32) (da : Nat → Int32) (kf : Nat → Int32) (gf : Nat → Int32) (bf : Nat → Bool) (dn : Nat → Bool) (ra : Nat → Int32) (xf : Nat → Int32) (yf : Nat → Int32) (d : Int32) (sz : Nat) (hnd : nd ≤ 4) (hdk : dkI nd da xf yf) : Met ln yX8_sky (wA (.code yX8_sky cX8_sky 2 (some .int))) ({ frames := 7, cells := 0, slots := 0, locals := 166 } : Room) (va_Pc [.ref h0, .int d] (rwB G [(h0, .inr (8, [.ref mk, .ref mg, .ref mhb, .ref mdn, .int (nI nd), .ref mda, .ref mkp, .int kp, .ref mbr, .ref msu, .ref msg, .ref mlo, .int mo, .int ne, .int gl, .int ca, .int (nI no), .ref moa, .ref mog, .ref mop, .int rs, .int rw_, .ref mra, .int bc, .int bo, .int be])), eI G mda 4 da, eI G mk 64 kf, eI G mg 64 gf, eZ G mhb 64 bf, eZ G mdn 64 dn, eI G mra 8 ra] sz)) (va_Qi (S := Int32 × Int32 × (Nat → Int32)) (fun (r : Int32) (_ : Int32 × Int32 × (Nat → Int32)) => r = aSky kf gf xf yf nd d) (fun u => wdB G (va_A [(h0, .inr (8, [.ref mk, .ref mg, .ref mhb, .ref mdn, .int (nI nd), .ref mda, .ref mkp, .int kp, .ref mbr, .ref msu, .ref msg, .ref mlo, .int mo, .int ne, .int gl, .int ca, .int (nI no), .ref moa, .ref mog, .ref mop, .int rs, .int rw_, .ref mra, .int bc, .int bo, .int be])), eI G mda 4 da, eI G mk 64 kf, eI G mg 64 gf, eZ G mhb 64 bf, eZ G mdn 64 dn, eI G mra 8 ra] sz) [(h0, .inr (8, [.ref mk, .ref mg, .ref mhb, .ref mdn, .int (nI nd), .ref mda, .ref mkp, .int kp, .ref mbr, .ref msu, .ref msg, .ref mlo, .int mo, .int ne, .int gl, .int ca, .int (nI no), .ref moa, .ref mog, .ref mop, .int u.1, .int u.2.1, .ref mra, .int bc, .int bo, .int be])), eI G mda 4 da, eI G mk 64 kf, eI G mg 64 gf, eZ G mhb 64 bf, eZ G mdn 64 dn, eI G mra 8 u.2.2]) (va_A [(h0, .inr (8, [.ref mk, .ref mg, .ref mhb, .ref mdn, .int (nI nd), .ref mda, .ref mkp, .int kp, .ref mbr, .ref msu, .ref msg, .ref mlo, .int mo, .int ne, .int gl, .int ca, .int (nI no), .ref moa, .ref mog, .ref mop, .int rs, .int rw_, .ref mra, .int bc, .int bo, .int be])), eI G mda 4 da, eI G mk 64 kf, eI G mg 64 gf, eZ G mhb 64 bf, eZ G mdn 64 dn, eI G mra 8 ra] sz)) 0 0 (va_A [(h0, .inr (8, [.ref mk, .ref mg, .ref mhb, .ref mdn, .int (nI nd), .ref mda, .ref mkp, .int kp, .ref mbr, .ref msu, .ref msg, .ref mlo, .int mo, .int ne, .int gl, .int ca, .int (nI no), .ref moa, .ref mog, .ref mop, .int rs, .int rw_, .ref mra, .int bc, .int bo, .int be])), eI G mda 4 da, eI G mk 64 kf, eI G mg 64 gf, eZ G mhb 64 bf, eZ G mdn 64 dn, eI G mra 8 ra] sz) := by
  refine Met.ofW (cc := cX8_sky) (maxL := 2) (ret := (some .int)) (by decide) rfl ?_
  intro pg ev s mi args below meth cd s₁ B hml hv
  obtain ⟨rfl, hsz, hP, hE, hD0, hT⟩ := hv
  have hx := B.exec
  have hb := B.bytes
  have hr := B.returns
  have hts0 := atoms_spec (ws := wA (.code yX8_sky cX8_sky 2 (some .int))) B.pre
  have hts : ∀ w ∈ wsA, w.before _ s = true := fun w h => hts0 w (List.mem_cons_of_mem _ h)
  have hown : s.vm.findClass RX8 = some mi.cls := findClass_of_methodNamed B.named
  have hlocks := B.notSynchronized
  subst hsz
  have hD := hD0.self (sz := s.heap.size)
  generalize hAe : va_A [(h0, .inr (8, [.ref mk, .ref mg, .ref mhb, .ref mdn, .int (nI nd), .ref mda, .ref mkp, .int kp, .ref mbr, .ref msu, .ref msg, .ref mlo, .int mo, .int ne, .int gl, .int ca, .int (nI no), .ref moa, .ref mog, .ref mop, .int rs, .int rw_, .ref mra, .int bc, .int bo, .int be])), eI G mda 4 da, eI G mk 64 kf, eI G mg 64 gf, eZ G mhb 64 bf, eZ G mdn 64 dn, eI G mra 8 ra] s.heap.size = A at hD hT ⊢
  have hA : ∀ q : Nat, s.heap.size ≤ q → A q := fun q h => by rw [← hAe]; exact Or.inr h
  have hS : va_S A s.heap s.heap [] := va_S.rf
  have hl := lv_entry ([.ref h0, .int d]) (n := 2) (Nat.le_of_ble_eq_true rfl)
  rw [lg_entry_eq]
  generalize (lg_sl ([.ref h0, .int d]) ++ List.replicate (2 - (lg_sl ([.ref h0, .int d])).length) Slot.unset).toArray = ls at hl ⊢
  have hl : lv_has ls 2 [(0, .ref h0), (1, .int d)] := hl
  refine lv_aload_n hx hb dX8_sky_0 rfl (lv_at hl 0 rfl) ?_
  refine lv_iload_n hx hb dX8_sky_1 rfl (lv_at hl 1 rfl) ?_
  refine ca_Si (val := b2i (inB d 0 (nI nd - 1))) (va_runV (As := [.int d]) (rest := []) ⟨hx, hb, hml, hown, hts⟩ (c_X8_isDesk ln G h0 mk mg mhb mdn mda mkp mbr msu msg mlo moa mog mop mra nd kp mo ne gl ca no rs rw_ bc bo be d ) (cwV 1 hts (gV kCode_X8_isDesk kMl_X8_77 kIm_X8_isDesk kSel_X8_isDesk kIni_X8) rfl rfl rfl ⟨rfl, hd_X8_isDesk⟩ ⟨Nat.le_of_ble_eq_true rfl, Nat.le_of_ble_eq_true rfl⟩) ⟨ro_blind, va_recv hE.1 hP (ci := 8) (q0 := 0) rfl rfl, (ro_pre (hP.sub [0] rfl) hS hE hT)⟩ rfl rfl hl.1 rfl (lv_room (Nat.le_of_ble_eq_true rfl)) dX8_sky_2 ⟨Nat.zero_le _, Nat.zero_le _⟩) ?_
  rw [show (b2i (inB d 0 (nI nd - 1))) = (b2i (hasB (nI nd) d)) from (by rw [inb_has (by omega)])]
  refine lv_if_eq (tgt := 16) hx hb dX8_sky_5 (by decide) (fun c_5 => ?_) (fun c_5 => ?_)
  · skip
    have c_5 := b2i_z c_5
    refine lv_bipush (v := -2) hx hb dX8_sky_16 (by decide) ?_
    have hP9 := hP.sub (ws' := [(h0, .inr (8, [.ref mk, .ref mg, .ref mhb, .ref mdn, .int (nI nd), .ref mda, .ref mkp, .int kp, .ref mbr, .ref msu, .ref msg, .ref mlo, .int mo, .int ne, .int gl, .int ca, .int (nI no), .ref moa, .ref mog, .ref mop, .int rs, .int rw_, .ref mra, .int bc, .int bo, .int be])), eI G mda 4 da, eI G mk 64 kf, eI G mg 64 gf, eZ G mhb 64 bf, eZ G mdn 64 dn, eI G mra 8 ra]) [0, 1, 2, 3, 4, 5, 6] rfl
    have hD9 := hD.sub (ws' := [(h0, .inr (8, [.ref mk, .ref mg, .ref mhb, .ref mdn, .int (nI nd), .ref mda, .ref mkp, .int kp, .ref mbr, .ref msu, .ref msg, .ref mlo, .int mo, .int ne, .int gl, .int ca, .int (nI no), .ref moa, .ref mog, .ref mop, .int rs, .int rw_, .ref mra, .int bc, .int bo, .int be])), eI G mda 4 da, eI G mk 64 kf, eI G mg 64 gf, eZ G mhb 64 bf, eZ G mdn 64 dn, eI G mra 8 ra]) [0, 1, 2, 3, 4, 5, 6] (by decide) rfl
    exact W.iret (v := (-2)) hx hb hr (fun t_ ht_ hW_ => ⟨⟨(-2), (rs, rw_, ra), rfl, (by simp [aSky, c_5]), by rw [ht_]; exact hP9, hD9⟩, hS.F ht_⟩) hS.2.2 dX8_sky_18
  · skip
    have c_5 := b2i_n c_5
    have hdi : vp_in d nd := has_in c_5 hnd
    have hdn : d = nI d.toNatClampNeg := (nI_back hdi (by omega)).1
    have hdl : d.toNatClampNeg < nd := (nI_back hdi (by omega)).2
    refine lv_aload_n hx hb dX8_sky_8 rfl (lv_at hl 0 rfl) ?_
    refine lv_iload_n hx hb dX8_sky_9 rfl (lv_at hl 1 rfl) ?_
    refine W.eq (congrArg (fun z => F0 mi 10 ls [.int z, .ref h0]) hdn) ?_
    have hF_ := va_free (wc := [(h0, .inr (8, [.ref mk, .ref mg, .ref mhb, .ref mdn, .int (nI nd), .ref mda, .ref mkp, .int kp, .ref mbr, .ref msu, .ref msg, .ref mlo, .int mo, .int ne, .int gl, .int ca, .int (nI no), .ref moa, .ref mog, .ref mop, .int rs, .int rw_, .ref mra, .int bc, .int bo, .int be])), eI G mda 4 da, eI G mk 64 kf, eI G mg 64 gf, eZ G mhb 64 bf, eZ G mdn 64 dn, eI G mra 8 ra]) hD hS hA [0, 1, 2, 3, 4, 5, 6] rfl
    refine ca_Qi (wr := []) (va_runV (As := [.int (nI d.toNatClampNeg)]) (rest := []) ⟨hx, hb, hml, hown, hts⟩ (c_X8_skyOf ln G h0 mk mg mhb mdn mda mkp mbr msu msg mlo moa mog mop mra nd kp mo ne gl ca no rs rw_ bc bo be da kf gf bf dn ra d.toNatClampNeg (xf d.toNatClampNeg) (yf d.toNatClampNeg) s.heap.size (by omega) ((hdk _ hdl).1) ((hdk _ hdl).2)) (cwV 1 hts (gV kCode_X8_skyOf kMl_X8_116 kIm_X8_skyOf kSel_X8_skyOf kIni_X8) rfl rfl rfl ⟨rfl, hd_X8_skyOf⟩ ⟨Nat.le_of_ble_eq_true rfl, Nat.le_of_ble_eq_true rfl⟩) ⟨rw_blind, va_recv hE.1 hP (ci := 8) (q0 := 0) rfl rfl, (rw_pre (hP.sub [0, 1, 2, 3, 4, 5, 6] rfl) (hD.sub [0, 1, 2, 3, 4, 5, 6] (by decide) rfl) hF_ hS hE hT)⟩ rfl rfl hl.1 rfl (lv_room (Nat.le_of_ble_eq_true rfl)) dX8_sky_10 ⟨Nat.zero_le _, Nat.zero_le _⟩) hP hD hS hA [0, 1, 2, 3, 4, 5, 6] [] rfl rfl rfl (by decide) (fun r_10 u_10 H locs w_10 hP hD hS => ?_)
    obtain ⟨rs9_10, rw9_10, ra9_10⟩ := u_10
    have hP : va_P G.1 vwCl [(h0, .inr (8, [.ref mk, .ref mg, .ref mhb, .ref mdn, .int (nI nd), .ref mda, .ref mkp, .int kp, .ref mbr, .ref msu, .ref msg, .ref mlo, .int mo, .int ne, .int gl, .int ca, .int (nI no), .ref moa, .ref mog, .ref mop, .int rs9_10, .int rw9_10, .ref mra, .int bc, .int bo, .int be])), eI G mda 4 da, eI G mk 64 kf, eI G mg 64 gf, eZ G mhb 64 bf, eZ G mdn 64 dn, eI G mra 8 ra9_10] H := hP
    have hD : va_D A [(h0, .inr (8, [.ref mk, .ref mg, .ref mhb, .ref mdn, .int (nI nd), .ref mda, .ref mkp, .int kp, .ref mbr, .ref msu, .ref msg, .ref mlo, .int mo, .int ne, .int gl, .int ca, .int (nI no), .ref moa, .ref mog, .ref mop, .int rs9_10, .int rw9_10, .ref mra, .int bc, .int bo, .int be])), eI G mda 4 da, eI G mk 64 kf, eI G mg 64 gf, eZ G mhb 64 bf, eZ G mdn 64 dn, eI G mra 8 ra9_10] := hD
    obtain rfl : r_10 = skyV kf gf xf yf d.toNatClampNeg := (w_10.trans (sky_e kf gf xf yf _))
    refine lv_goto (tgt := 18) hx hb dX8_sky_13 (by decide) ?_
    have hP9 := hP.sub (ws' := [(h0, .inr (8, [.ref mk, .ref mg, .ref mhb, .ref mdn, .int (nI nd), .ref mda, .ref mkp, .int kp, .ref mbr, .ref msu, .ref msg, .ref mlo, .int mo, .int ne, .int gl, .int ca, .int (nI no), .ref moa, .ref mog, .ref mop, .int rs9_10, .int rw9_10, .ref mra, .int bc, .int bo, .int be])), eI G mda 4 da, eI G mk 64 kf, eI G mg 64 gf, eZ G mhb 64 bf, eZ G mdn 64 dn, eI G mra 8 ra9_10]) [0, 1, 2, 3, 4, 5, 6] rfl
    have hD9 := hD.sub (ws' := [(h0, .inr (8, [.ref mk, .ref mg, .ref mhb, .ref mdn, .int (nI nd), .ref mda, .ref mkp, .int kp, .ref mbr, .ref msu, .ref msg, .ref mlo, .int mo, .int ne, .int gl, .int ca, .int (nI no), .ref moa, .ref mog, .ref mop, .int rs9_10, .int rw9_10, .ref mra, .int bc, .int bo, .int be])), eI G mda 4 da, eI G mk 64 kf, eI G mg 64 gf, eZ G mhb 64 bf, eZ G mdn 64 dn, eI G mra 8 ra9_10]) [0, 1, 2, 3, 4, 5, 6] (by decide) rfl
    exact W.iret (v := skyV kf gf xf yf d.toNatClampNeg) hx hb hr (fun t_ ht_ hW_ => ⟨⟨skyV kf gf xf yf d.toNatClampNeg, (rs9_10, rw9_10, ra9_10), rfl, (by simp [aSky, c_5]), by rw [ht_]; exact hP9, hD9⟩, hS.F ht_⟩) hS.2.2 dX8_sky_18
set_option maxHeartbeats 4000000 in
set_option maxRecDepth 100000 in
theorem c_X8_keep (ln : Launch) (G : gT) (h0 : Nat) (mk : Nat) (mg : Nat) (mhb : Nat) (mdn : Nat) (mda : Nat) (mkp : Nat) (mbr : Nat) (msu : Nat) (msg : Nat) (mlo : Nat) (moa : Nat) (mog : Nat) (mop : Nat) (mra : Nat) (nd : Nat) (kp : Int32) (mo : Int32) (ne : Int32) (gl : Int32) (ca : Int32) (no : Nat) (rs : Int32) (rw_ : Int32) (bc : Int32) (bo : Int32) (be : Int32) (da : Nat → Int32) (zf : Nat → Int32) (kf : Nat → Int32) (gf : Nat → Int32) (bf : Nat → Bool) (dn : Nat → Bool) (ra : Nat → Int32) (xf : Nat → Int32) (yf : Nat → Int32) (sz : Nat) (hnd : nd ≤ 4) (hdk : dkI nd da xf yf) : Met ln yX8_keep (wA (.code yX8_keep cX8_keep 2 (some .int))) ({ frames := 7, cells := 0, slots := 0, locals := 166 } : Room) (va_Pc [.ref h0] (rwB G [(h0, .inr (8, [.ref mk, .ref mg, .ref mhb, .ref mdn, .int (nI nd), .ref mda, .ref mkp, .int kp, .ref mbr, .ref msu, .ref msg, .ref mlo, .int mo, .int ne, .int gl, .int ca, .int (nI no), .ref moa, .ref mog, .ref mop, .int rs, .int rw_, .ref mra, .int bc, .int bo, .int be])), eI G mda 4 da, eI G mkp 4 zf, eI G mk 64 kf, eI G mg 64 gf, eZ G mhb 64 bf, eZ G mdn 64 dn, eI G mra 8 ra] sz)) (va_Qi (S := Int32 × Int32 × (Nat → Int32)) (fun (r : Int32) (_ : Int32 × Int32 × (Nat → Int32)) => r = nI nd) (fun u => wdB G (va_A [(h0, .inr (8, [.ref mk, .ref mg, .ref mhb, .ref mdn, .int (nI nd), .ref mda, .ref mkp, .int kp, .ref mbr, .ref msu, .ref msg, .ref mlo, .int mo, .int ne, .int gl, .int ca, .int (nI no), .ref moa, .ref mog, .ref mop, .int rs, .int rw_, .ref mra, .int bc, .int bo, .int be])), eI G mda 4 da, eI G mkp 4 zf, eI G mk 64 kf, eI G mg 64 gf, eZ G mhb 64 bf, eZ G mdn 64 dn, eI G mra 8 ra] sz) [(h0, .inr (8, [.ref mk, .ref mg, .ref mhb, .ref mdn, .int (nI nd), .ref mda, .ref mkp, .int (nI nd), .ref mbr, .ref msu, .ref msg, .ref mlo, .int mo, .int ne, .int gl, .int ca, .int (nI no), .ref moa, .ref mog, .ref mop, .int u.1, .int u.2.1, .ref mra, .int bc, .int bo, .int be])), eI G mda 4 da, eI G mkp 4 (kpF kf gf xf yf nd zf), eI G mk 64 kf, eI G mg 64 gf, eZ G mhb 64 bf, eZ G mdn 64 dn, eI G mra 8 u.2.2]) (va_A [(h0, .inr (8, [.ref mk, .ref mg, .ref mhb, .ref mdn, .int (nI nd), .ref mda, .ref mkp, .int kp, .ref mbr, .ref msu, .ref msg, .ref mlo, .int mo, .int ne, .int gl, .int ca, .int (nI no), .ref moa, .ref mog, .ref mop, .int rs, .int rw_, .ref mra, .int bc, .int bo, .int be])), eI G mda 4 da, eI G mkp 4 zf, eI G mk 64 kf, eI G mg 64 gf, eZ G mhb 64 bf, eZ G mdn 64 dn, eI G mra 8 ra] sz)) 0 0 (va_A [(h0, .inr (8, [.ref mk, .ref mg, .ref mhb, .ref mdn, .int (nI nd), .ref mda, .ref mkp, .int kp, .ref mbr, .ref msu, .ref msg, .ref mlo, .int mo, .int ne, .int gl, .int ca, .int (nI no), .ref moa, .ref mog, .ref mop, .int rs, .int rw_, .ref mra, .int bc, .int bo, .int be])), eI G mda 4 da, eI G mkp 4 zf, eI G mk 64 kf, eI G mg 64 gf, eZ G mhb 64 bf, eZ G mdn 64 dn, eI G mra 8 ra] sz) := by
  refine Met.ofW (cc := cX8_keep) (maxL := 2) (ret := (some .int)) (by decide) rfl ?_
  intro pg ev s mi args below meth cd s₁ B hml hv
  obtain ⟨rfl, hsz, hP, hE, hD0, hT⟩ := hv
  have hx := B.exec
  have hb := B.bytes
  have hr := B.returns
  have hts0 := atoms_spec (ws := wA (.code yX8_keep cX8_keep 2 (some .int))) B.pre
  have hts : ∀ w ∈ wsA, w.before _ s = true := fun w h => hts0 w (List.mem_cons_of_mem _ h)
  have hown : s.vm.findClass RX8 = some mi.cls := findClass_of_methodNamed B.named
  have hlocks := B.notSynchronized
  subst hsz
  have hD := hD0.self (sz := s.heap.size)
  generalize hAe : va_A [(h0, .inr (8, [.ref mk, .ref mg, .ref mhb, .ref mdn, .int (nI nd), .ref mda, .ref mkp, .int kp, .ref mbr, .ref msu, .ref msg, .ref mlo, .int mo, .int ne, .int gl, .int ca, .int (nI no), .ref moa, .ref mog, .ref mop, .int rs, .int rw_, .ref mra, .int bc, .int bo, .int be])), eI G mda 4 da, eI G mkp 4 zf, eI G mk 64 kf, eI G mg 64 gf, eZ G mhb 64 bf, eZ G mdn 64 dn, eI G mra 8 ra] s.heap.size = A at hD hT ⊢
  have hA : ∀ q : Nat, s.heap.size ≤ q → A q := fun q h => by rw [← hAe]; exact Or.inr h
  have hS : va_S A s.heap s.heap [] := va_S.rf
  have hl := lv_entry ([.ref h0]) (n := 2) (Nat.le_of_ble_eq_true rfl)
  rw [lg_entry_eq]
  generalize (lg_sl ([.ref h0]) ++ List.replicate (2 - (lg_sl ([.ref h0])).length) Slot.unset).toArray = ls at hl ⊢
  have hl : lv_has ls 2 [(0, .ref h0)] := hl
  refine lv_iconst (v := 0) hx hb dX8_keep_0 (by decide) ?_
  refine lv_istore_n (lv' := [(1, .int 0), (0, .ref h0)]) hx hb dX8_keep_1 rfl hl (by decide) rfl (fun ls hl => ?_)
  have J_2 : ∀ (n_ : Nat), ∀ (j : Nat) (rs1 : Int32) (rw1 : Int32) (ra1 : Nat → Int32), (j ≤ nd) → (5 ≤ j + n_) → ∀ (H : Heap) (locs : List Loc), va_P G.1 vwCl [(h0, .inr (8, [.ref mk, .ref mg, .ref mhb, .ref mdn, .int (nI nd), .ref mda, .ref mkp, .int kp, .ref mbr, .ref msu, .ref msg, .ref mlo, .int mo, .int ne, .int gl, .int ca, .int (nI no), .ref moa, .ref mog, .ref mop, .int rs1, .int rw1, .ref mra, .int bc, .int bo, .int be])), eI G mda 4 da, eI G mkp 4 (kpF kf gf xf yf j zf), eI G mk 64 kf, eI G mg 64 gf, eZ G mhb 64 bf, eZ G mdn 64 dn, eI G mra 8 ra1] H → va_D A [(h0, .inr (8, [.ref mk, .ref mg, .ref mhb, .ref mdn, .int (nI nd), .ref mda, .ref mkp, .int kp, .ref mbr, .ref msu, .ref msg, .ref mlo, .int mo, .int ne, .int gl, .int ca, .int (nI no), .ref moa, .ref mog, .ref mop, .int rs1, .int rw1, .ref mra, .int bc, .int bo, .int be])), eI G mda 4 da, eI G mkp 4 (kpF kf gf xf yf j zf), eI G mk 64 kf, eI G mg 64 gf, eZ G mhb 64 bf, eZ G mdn 64 dn, eI G mra 8 ra1] → va_S A s.heap H locs → ∀ (ls : Array Slot), lv_has ls 2 [(1, .int (nI j)), (0, .ref h0)] → W pg ln ev ({ frames := 7, cells := 0, slots := 0, locals := 166 } : Room) s mi ([.ref h0] : List Value).toArray below meth cd H locs 0 0 (MQ below (va_Qi (S := Int32 × Int32 × (Nat → Int32)) (fun (r : Int32) (_ : Int32 × Int32 × (Nat → Int32)) => r = nI nd) (fun u => wdB G A [(h0, .inr (8, [.ref mk, .ref mg, .ref mhb, .ref mdn, .int (nI nd), .ref mda, .ref mkp, .int (nI nd), .ref mbr, .ref msu, .ref msg, .ref mlo, .int mo, .int ne, .int gl, .int ca, .int (nI no), .ref moa, .ref mog, .ref mop, .int u.1, .int u.2.1, .ref mra, .int bc, .int bo, .int be])), eI G mda 4 da, eI G mkp 4 (kpF kf gf xf yf nd zf), eI G mk 64 kf, eI G mg 64 gf, eZ G mhb 64 bf, eZ G mdn 64 dn, eI G mra 8 u.2.2]) A) ([.ref h0] : List Value).toArray s 0 0 A) (F0 mi 2 ls []) := by
    intro n_
    induction n_ with
    | zero =>
      intro j rs1 rw1 ra1 hj hfj H locs hP hD hS ls hl
      exact absurd hfj (by omega)
    | succ n_ ih_2 =>
      intro j rs1 rw1 ra1 hj hfj H locs hP hD hS ls hl
      refine lv_iload_n hx hb dX8_keep_2 rfl (lv_at hl 0 rfl) ?_
      refine lv_aload_n hx hb dX8_keep_3 rfl (lv_at hl 1 rfl) ?_
      refine va_get (ci := 8) (C := RX8) (T := TX8) (N := 26) hx hb hts hinX8 hown hE.1 hP 0 rfl rfl 4 (by decide) (hts _ kFl_X8_70) (fun _ h9 => h9) rfl dX8_keep_4 ?_
      refine lv_icmp_ge (tgt := 27) hx hb dX8_keep_7 (by decide) (fun c_7 => ?_) (fun c_7 => ?_)
      · skip
        have e_hlt : j = nd := by
          rcases Nat.lt_or_ge j nd with z9 | z9
          · exact absurd (show nI nd ≤ nI j from c_7) (nI_ge z9 (by omega))
          · omega
        refine lv_aload_n hx hb dX8_keep_27 rfl (lv_at hl 1 rfl) ?_
        refine lv_aload_n hx hb dX8_keep_28 rfl (lv_at hl 1 rfl) ?_
        refine va_get (ci := 8) (C := RX8) (T := TX8) (N := 26) hx hb hts hinX8 hown hE.1 hP 0 rfl rfl 4 (by decide) (hts _ kFl_X8_70) (fun _ h9 => h9) rfl dX8_keep_29 ?_
        refine va_put (ci := 8) (v := .int (nI nd)) (ty := .int) (C := RX8) (T := TX8) (N := 26) hx hb hts hinX8 tyX8 tyX8_ok nmX8 hown hE.1 hP hD hS 0 rfl rfl 7 (by decide) (hts _ kFl_X8_170) (fun _ h9 => h9) rfl (by decide +kernel) rfl rfl (Nat.le_of_ble_eq_true rfl) dX8_keep_32 (fun H locs hP hD hS => ?_)
        have hP : va_P G.1 vwCl [(h0, .inr (8, [.ref mk, .ref mg, .ref mhb, .ref mdn, .int (nI nd), .ref mda, .ref mkp, .int (nI nd), .ref mbr, .ref msu, .ref msg, .ref mlo, .int mo, .int ne, .int gl, .int ca, .int (nI no), .ref moa, .ref mog, .ref mop, .int rs1, .int rw1, .ref mra, .int bc, .int bo, .int be])), eI G mda 4 da, eI G mkp 4 (kpF kf gf xf yf j zf), eI G mk 64 kf, eI G mg 64 gf, eZ G mhb 64 bf, eZ G mdn 64 dn, eI G mra 8 ra1] H := hP
        have hD : va_D A [(h0, .inr (8, [.ref mk, .ref mg, .ref mhb, .ref mdn, .int (nI nd), .ref mda, .ref mkp, .int (nI nd), .ref mbr, .ref msu, .ref msg, .ref mlo, .int mo, .int ne, .int gl, .int ca, .int (nI no), .ref moa, .ref mog, .ref mop, .int rs1, .int rw1, .ref mra, .int bc, .int bo, .int be])), eI G mda 4 da, eI G mkp 4 (kpF kf gf xf yf j zf), eI G mk 64 kf, eI G mg 64 gf, eZ G mhb 64 bf, eZ G mdn 64 dn, eI G mra 8 ra1] := hD
        refine lv_aload_n hx hb dX8_keep_35 rfl (lv_at hl 1 rfl) ?_
        refine va_get (ci := 8) (C := RX8) (T := TX8) (N := 26) hx hb hts hinX8 hown hE.1 hP 0 rfl rfl 4 (by decide) (hts _ kFl_X8_70) (fun _ h9 => h9) rfl dX8_keep_36 ?_
        have hP9 := hP.sub (ws' := [(h0, .inr (8, [.ref mk, .ref mg, .ref mhb, .ref mdn, .int (nI nd), .ref mda, .ref mkp, .int (nI nd), .ref mbr, .ref msu, .ref msg, .ref mlo, .int mo, .int ne, .int gl, .int ca, .int (nI no), .ref moa, .ref mog, .ref mop, .int rs1, .int rw1, .ref mra, .int bc, .int bo, .int be])), eI G mda 4 da, eI G mkp 4 (kpF kf gf xf yf j zf), eI G mk 64 kf, eI G mg 64 gf, eZ G mhb 64 bf, eZ G mdn 64 dn, eI G mra 8 ra1]) [0, 1, 2, 3, 4, 5, 6, 7] rfl
        have hD9 := hD.sub (ws' := [(h0, .inr (8, [.ref mk, .ref mg, .ref mhb, .ref mdn, .int (nI nd), .ref mda, .ref mkp, .int (nI nd), .ref mbr, .ref msu, .ref msg, .ref mlo, .int mo, .int ne, .int gl, .int ca, .int (nI no), .ref moa, .ref mog, .ref mop, .int rs1, .int rw1, .ref mra, .int bc, .int bo, .int be])), eI G mda 4 da, eI G mkp 4 (kpF kf gf xf yf j zf), eI G mk 64 kf, eI G mg 64 gf, eZ G mhb 64 bf, eZ G mdn 64 dn, eI G mra 8 ra1]) [0, 1, 2, 3, 4, 5, 6, 7] (by decide) rfl
        have q9_1 : (kpF kf gf xf yf j zf) = (kpF kf gf xf yf nd zf) := by rw [e_hlt]
        have cw9 : ([(h0, .inr (8, [.ref mk, .ref mg, .ref mhb, .ref mdn, .int (nI nd), .ref mda, .ref mkp, .int (nI nd), .ref mbr, .ref msu, .ref msg, .ref mlo, .int mo, .int ne, .int gl, .int ca, .int (nI no), .ref moa, .ref mog, .ref mop, .int rs1, .int rw1, .ref mra, .int bc, .int bo, .int be])), eI G mda 4 da, eI G mkp 4 (kpF kf gf xf yf j zf), eI G mk 64 kf, eI G mg 64 gf, eZ G mhb 64 bf, eZ G mdn 64 dn, eI G mra 8 ra1] : va_W) = [(h0, .inr (8, [.ref mk, .ref mg, .ref mhb, .ref mdn, .int (nI nd), .ref mda, .ref mkp, .int (nI nd), .ref mbr, .ref msu, .ref msg, .ref mlo, .int mo, .int ne, .int gl, .int ca, .int (nI no), .ref moa, .ref mog, .ref mop, .int rs1, .int rw1, .ref mra, .int bc, .int bo, .int be])), eI G mda 4 da, eI G mkp 4 (kpF kf gf xf yf nd zf), eI G mk 64 kf, eI G mg 64 gf, eZ G mhb 64 bf, eZ G mdn 64 dn, eI G mra 8 ra1] := (lcons rfl (lcons rfl (lcons (congrArg (fun z => eI G mkp 4 z) q9_1) (lcons rfl (lcons rfl (lcons rfl (lcons rfl (lcons rfl rfl))))))))
        have hP9 := va_castP hP9 cw9
        have hD9 := va_castD hD9 cw9
        exact W.iret (v := nI nd) hx hb hr (fun t_ ht_ hW_ => ⟨⟨nI nd, (rs1, rw1, ra1), rfl, rfl, by rw [ht_]; exact hP9, hD9⟩, hS.F ht_⟩) hS.2.2 dX8_keep_39
      · skip
        have hlt : j < nd := by
          rcases Nat.lt_or_ge j nd with z9 | z9
          · exact z9
          · exact absurd (show _ ≤ nI j from (nI_le (a := nd) (b := j) z9 (by omega))) c_7
        refine lv_aload_n hx hb dX8_keep_10 rfl (lv_at hl 1 rfl) ?_
        refine va_get (ci := 8) (C := RX8) (T := TX8) (N := 26) hx hb hts hinX8 hown hE.1 hP 0 rfl rfl 6 (by decide) (hts _ kFl_X8_26) (fun _ h9 => h9) rfl dX8_keep_11 ?_
        refine lv_iload_n hx hb dX8_keep_14 rfl (lv_at hl 0 rfl) ?_
        refine lv_aload_n hx hb dX8_keep_15 rfl (lv_at hl 1 rfl) ?_
        refine lv_iload_n hx hb dX8_keep_16 rfl (lv_at hl 0 rfl) ?_
        have hF_ := va_free (wc := [(h0, .inr (8, [.ref mk, .ref mg, .ref mhb, .ref mdn, .int (nI nd), .ref mda, .ref mkp, .int kp, .ref mbr, .ref msu, .ref msg, .ref mlo, .int mo, .int ne, .int gl, .int ca, .int (nI no), .ref moa, .ref mog, .ref mop, .int rs1, .int rw1, .ref mra, .int bc, .int bo, .int be])), eI G mda 4 da, eI G mk 64 kf, eI G mg 64 gf, eZ G mhb 64 bf, eZ G mdn 64 dn, eI G mra 8 ra1]) hD hS hA [0, 1, 3, 4, 5, 6, 7] rfl
        refine ca_Qi (wr := [eI G mkp 4 (kpF kf gf xf yf j zf)]) (va_runV (As := [.int (nI j)]) (rest := [.int (nI j), .ref mkp]) ⟨hx, hb, hml, hown, hts⟩ (c_X8_skyOf ln G h0 mk mg mhb mdn mda mkp mbr msu msg mlo moa mog mop mra nd kp mo ne gl ca no rs1 rw1 bc bo be da kf gf bf dn ra1 j (xf j) (yf j) H.size (by omega) ((hdk j hlt).1) ((hdk j hlt).2)) (cwV 1 hts (gV kCode_X8_skyOf kMl_X8_116 kIm_X8_skyOf kSel_X8_skyOf kIni_X8) rfl rfl rfl ⟨rfl, hd_X8_skyOf⟩ ⟨Nat.le_of_ble_eq_true rfl, Nat.le_of_ble_eq_true rfl⟩) ⟨rw_blind, va_recv hE.1 hP (ci := 8) (q0 := 0) rfl rfl, (rw_pre (hP.sub [0, 1, 3, 4, 5, 6, 7] rfl) (hD.sub [0, 1, 3, 4, 5, 6, 7] (by decide) rfl) hF_ hS hE hT)⟩ rfl rfl hl.1 rfl (lv_room (Nat.le_of_ble_eq_true rfl)) dX8_keep_17 ⟨Nat.zero_le _, Nat.zero_le _⟩) hP hD hS hA [0, 1, 3, 4, 5, 6, 7] [2] rfl rfl rfl (by decide) (fun r_17 u_17 H locs w_17 hP hD hS => ?_)
        obtain ⟨rs9_17, rw9_17, ra9_17⟩ := u_17
        have hP : va_P G.1 vwCl [eI G mkp 4 (kpF kf gf xf yf j zf), (h0, .inr (8, [.ref mk, .ref mg, .ref mhb, .ref mdn, .int (nI nd), .ref mda, .ref mkp, .int kp, .ref mbr, .ref msu, .ref msg, .ref mlo, .int mo, .int ne, .int gl, .int ca, .int (nI no), .ref moa, .ref mog, .ref mop, .int rs9_17, .int rw9_17, .ref mra, .int bc, .int bo, .int be])), eI G mda 4 da, eI G mk 64 kf, eI G mg 64 gf, eZ G mhb 64 bf, eZ G mdn 64 dn, eI G mra 8 ra9_17] H := hP
        have hD : va_D A [eI G mkp 4 (kpF kf gf xf yf j zf), (h0, .inr (8, [.ref mk, .ref mg, .ref mhb, .ref mdn, .int (nI nd), .ref mda, .ref mkp, .int kp, .ref mbr, .ref msu, .ref msg, .ref mlo, .int mo, .int ne, .int gl, .int ca, .int (nI no), .ref moa, .ref mog, .ref mop, .int rs9_17, .int rw9_17, .ref mra, .int bc, .int bo, .int be])), eI G mda 4 da, eI G mk 64 kf, eI G mg 64 gf, eZ G mhb 64 bf, eZ G mdn 64 dn, eI G mra 8 ra9_17] := hD
        obtain rfl : r_17 = skyV kf gf xf yf j := (w_17.trans (sky_e kf gf xf yf _))
        refine ri_ast (j := j) hx hb hE hP hD hS 0 rfl (nI_clamp (by omega)) (vp_in_nI (by omega) (by omega)) dX8_keep_20 (fun H locs hP hD hS => ?_)
        have hP : va_P G.1 vwCl [eI G mkp 4 (upd (kpF kf gf xf yf j zf) j (skyV kf gf xf yf j)), (h0, .inr (8, [.ref mk, .ref mg, .ref mhb, .ref mdn, .int (nI nd), .ref mda, .ref mkp, .int kp, .ref mbr, .ref msu, .ref msg, .ref mlo, .int mo, .int ne, .int gl, .int ca, .int (nI no), .ref moa, .ref mog, .ref mop, .int rs9_17, .int rw9_17, .ref mra, .int bc, .int bo, .int be])), eI G mda 4 da, eI G mk 64 kf, eI G mg 64 gf, eZ G mhb 64 bf, eZ G mdn 64 dn, eI G mra 8 ra9_17] H := hP
        have hD : va_D A [eI G mkp 4 (upd (kpF kf gf xf yf j zf) j (skyV kf gf xf yf j)), (h0, .inr (8, [.ref mk, .ref mg, .ref mhb, .ref mdn, .int (nI nd), .ref mda, .ref mkp, .int kp, .ref mbr, .ref msu, .ref msg, .ref mlo, .int mo, .int ne, .int gl, .int ca, .int (nI no), .ref moa, .ref mog, .ref mop, .int rs9_17, .int rw9_17, .ref mra, .int bc, .int bo, .int be])), eI G mda 4 da, eI G mk 64 kf, eI G mg 64 gf, eZ G mhb 64 bf, eZ G mdn 64 dn, eI G mra 8 ra9_17] := hD
        refine lv_iinc (v := nI (j + 1)) (lv' := [(1, .int (nI (j + 1))), (0, .ref h0)]) hx hb dX8_keep_21 hl (k := 0) rfl (nI_1 _) (by decide) rfl (fun ls hl => ?_)
        refine lv_goto (tgt := 2) hx hb dX8_keep_24 (by decide) ?_
        have q9_2 : (upd (kpF kf gf xf yf j zf) j (skyV kf gf xf yf j)) = (kpF kf gf xf yf (j + 1) zf) := kp_s
        have cw9 : ([(h0, .inr (8, [.ref mk, .ref mg, .ref mhb, .ref mdn, .int (nI nd), .ref mda, .ref mkp, .int kp, .ref mbr, .ref msu, .ref msg, .ref mlo, .int mo, .int ne, .int gl, .int ca, .int (nI no), .ref moa, .ref mog, .ref mop, .int rs9_17, .int rw9_17, .ref mra, .int bc, .int bo, .int be])), eI G mda 4 da, eI G mkp 4 (upd (kpF kf gf xf yf j zf) j (skyV kf gf xf yf j)), eI G mk 64 kf, eI G mg 64 gf, eZ G mhb 64 bf, eZ G mdn 64 dn, eI G mra 8 ra9_17] : va_W) = [(h0, .inr (8, [.ref mk, .ref mg, .ref mhb, .ref mdn, .int (nI nd), .ref mda, .ref mkp, .int kp, .ref mbr, .ref msu, .ref msg, .ref mlo, .int mo, .int ne, .int gl, .int ca, .int (nI no), .ref moa, .ref mog, .ref mop, .int rs9_17, .int rw9_17, .ref mra, .int bc, .int bo, .int be])), eI G mda 4 da, eI G mkp 4 (kpF kf gf xf yf (j + 1) zf), eI G mk 64 kf, eI G mg 64 gf, eZ G mhb 64 bf, eZ G mdn 64 dn, eI G mra 8 ra9_17] := (lcons rfl (lcons rfl (lcons (congrArg (fun z => eI G mkp 4 z) q9_2) (lcons rfl (lcons rfl (lcons rfl (lcons rfl (lcons rfl rfl))))))))
        exact ih_2 (j + 1) rs9_17 rw9_17 ra9_17 (by omega) (by omega) _ _ (va_castP (hP.sub [1, 2, 0, 3, 4, 5, 6, 7] rfl) cw9) (va_castD (hD.sub [1, 2, 0, 3, 4, 5, 6, 7] (by decide) rfl) cw9) hS ls (lv_sub hl [0, 1] rfl)
  have q9_3 : 0 = (nI 0) := rfl
  have q9_4 : zf = (kpF kf gf xf yf 0 zf) := kp_0 kf gf xf yf zf
  have cw9 : ([(h0, .inr (8, [.ref mk, .ref mg, .ref mhb, .ref mdn, .int (nI nd), .ref mda, .ref mkp, .int kp, .ref mbr, .ref msu, .ref msg, .ref mlo, .int mo, .int ne, .int gl, .int ca, .int (nI no), .ref moa, .ref mog, .ref mop, .int rs, .int rw_, .ref mra, .int bc, .int bo, .int be])), eI G mda 4 da, eI G mkp 4 zf, eI G mk 64 kf, eI G mg 64 gf, eZ G mhb 64 bf, eZ G mdn 64 dn, eI G mra 8 ra] : va_W) = [(h0, .inr (8, [.ref mk, .ref mg, .ref mhb, .ref mdn, .int (nI nd), .ref mda, .ref mkp, .int kp, .ref mbr, .ref msu, .ref msg, .ref mlo, .int mo, .int ne, .int gl, .int ca, .int (nI no), .ref moa, .ref mog, .ref mop, .int rs, .int rw_, .ref mra, .int bc, .int bo, .int be])), eI G mda 4 da, eI G mkp 4 (kpF kf gf xf yf 0 zf), eI G mk 64 kf, eI G mg 64 gf, eZ G mhb 64 bf, eZ G mdn 64 dn, eI G mra 8 ra] := (lcons rfl (lcons rfl (lcons (congrArg (fun z => eI G mkp 4 z) q9_4) (lcons rfl (lcons rfl (lcons rfl (lcons rfl (lcons rfl rfl))))))))
  exact J_2 5 0 rs rw_ ra (by omega) (by omega) _ _ (va_castP (hP.sub [0, 1, 2, 3, 4, 5, 6, 7] rfl) cw9) (va_castD (hD.sub [0, 1, 2, 3, 4, 5, 6, 7] (by decide) rfl) cw9) hS ls (lv_cast (lv_sub hl [0, 1] rfl) (lcons (congrArg (fun z => (1, Value.int z)) q9_3) (lcons rfl rfl)))
set_option maxHeartbeats 4000000 in
set_option maxRecDepth 100000 in
theorem c_X8_loss (ln : Launch) (G : gT) (h0 : Nat) (mk : Nat) (mg : Nat) (mhb : Nat) (mdn : Nat) (mda : Nat) (mkp : Nat) (mbr : Nat) (msu : Nat) (msg : Nat) (mlo : Nat) (moa : Nat) (mog : Nat) (mop : Nat) (mra : Nat) (nd : Nat) (mo : Int32) (ne : Int32) (gl : Int32) (ca : Int32) (no : Nat) (rs : Int32) (rw_ : Int32) (bc : Int32) (bo : Int32) (be : Int32) (kn : Nat) (da : Nat → Int32) (zf : Nat → Int32) (kf : Nat → Int32) (gf : Nat → Int32) (bf : Nat → Bool) (dn : Nat → Bool) (ra : Nat → Int32) (xf : Nat → Int32) (yf : Nat → Int32) (d : Int32) (sz : Nat) (hnd : nd ≤ 4) (hkn : kn ≤ nd) (hdk : dkI nd da xf yf) : Met ln yX8_loss (wA (.code yX8_loss cX8_loss 2 (some .int))) ({ frames := 7, cells := 0, slots := 0, locals := 166 } : Room) (va_Pc [.ref h0, .int d] (rwB G [(h0, .inr (8, [.ref mk, .ref mg, .ref mhb, .ref mdn, .int (nI nd), .ref mda, .ref mkp, .int (nI kn), .ref mbr, .ref msu, .ref msg, .ref mlo, .int mo, .int ne, .int gl, .int ca, .int (nI no), .ref moa, .ref mog, .ref mop, .int rs, .int rw_, .ref mra, .int bc, .int bo, .int be])), eI G mda 4 da, eI G mkp 4 zf, eI G mk 64 kf, eI G mg 64 gf, eZ G mhb 64 bf, eZ G mdn 64 dn, eI G mra 8 ra] sz)) (va_Qi (S := Int32 × Int32 × (Nat → Int32)) (fun (r : Int32) (_ : Int32 × Int32 × (Nat → Int32)) => r = aLossM kf gf xf yf zf (nI kn) d) (fun u => wdB G (va_A [(h0, .inr (8, [.ref mk, .ref mg, .ref mhb, .ref mdn, .int (nI nd), .ref mda, .ref mkp, .int (nI kn), .ref mbr, .ref msu, .ref msg, .ref mlo, .int mo, .int ne, .int gl, .int ca, .int (nI no), .ref moa, .ref mog, .ref mop, .int rs, .int rw_, .ref mra, .int bc, .int bo, .int be])), eI G mda 4 da, eI G mkp 4 zf, eI G mk 64 kf, eI G mg 64 gf, eZ G mhb 64 bf, eZ G mdn 64 dn, eI G mra 8 ra] sz) [(h0, .inr (8, [.ref mk, .ref mg, .ref mhb, .ref mdn, .int (nI nd), .ref mda, .ref mkp, .int (nI kn), .ref mbr, .ref msu, .ref msg, .ref mlo, .int mo, .int ne, .int gl, .int ca, .int (nI no), .ref moa, .ref mog, .ref mop, .int u.1, .int u.2.1, .ref mra, .int bc, .int bo, .int be])), eI G mda 4 da, eI G mkp 4 zf, eI G mk 64 kf, eI G mg 64 gf, eZ G mhb 64 bf, eZ G mdn 64 dn, eI G mra 8 u.2.2]) (va_A [(h0, .inr (8, [.ref mk, .ref mg, .ref mhb, .ref mdn, .int (nI nd), .ref mda, .ref mkp, .int (nI kn), .ref mbr, .ref msu, .ref msg, .ref mlo, .int mo, .int ne, .int gl, .int ca, .int (nI no), .ref moa, .ref mog, .ref mop, .int rs, .int rw_, .ref mra, .int bc, .int bo, .int be])), eI G mda 4 da, eI G mkp 4 zf, eI G mk 64 kf, eI G mg 64 gf, eZ G mhb 64 bf, eZ G mdn 64 dn, eI G mra 8 ra] sz)) 0 0 (va_A [(h0, .inr (8, [.ref mk, .ref mg, .ref mhb, .ref mdn, .int (nI nd), .ref mda, .ref mkp, .int (nI kn), .ref mbr, .ref msu, .ref msg, .ref mlo, .int mo, .int ne, .int gl, .int ca, .int (nI no), .ref moa, .ref mog, .ref mop, .int rs, .int rw_, .ref mra, .int bc, .int bo, .int be])), eI G mda 4 da, eI G mkp 4 zf, eI G mk 64 kf, eI G mg 64 gf, eZ G mhb 64 bf, eZ G mdn 64 dn, eI G mra 8 ra] sz) := by
  refine Met.ofW (cc := cX8_loss) (maxL := 2) (ret := (some .int)) (by decide) rfl ?_
  intro pg ev s mi args below meth cd s₁ B hml hv
  obtain ⟨rfl, hsz, hP, hE, hD0, hT⟩ := hv
  have hx := B.exec
  have hb := B.bytes
  have hr := B.returns
  have hts0 := atoms_spec (ws := wA (.code yX8_loss cX8_loss 2 (some .int))) B.pre
  have hts : ∀ w ∈ wsA, w.before _ s = true := fun w h => hts0 w (List.mem_cons_of_mem _ h)
  have hown : s.vm.findClass RX8 = some mi.cls := findClass_of_methodNamed B.named
  have hlocks := B.notSynchronized
  subst hsz
  have hD := hD0.self (sz := s.heap.size)
  generalize hAe : va_A [(h0, .inr (8, [.ref mk, .ref mg, .ref mhb, .ref mdn, .int (nI nd), .ref mda, .ref mkp, .int (nI kn), .ref mbr, .ref msu, .ref msg, .ref mlo, .int mo, .int ne, .int gl, .int ca, .int (nI no), .ref moa, .ref mog, .ref mop, .int rs, .int rw_, .ref mra, .int bc, .int bo, .int be])), eI G mda 4 da, eI G mkp 4 zf, eI G mk 64 kf, eI G mg 64 gf, eZ G mhb 64 bf, eZ G mdn 64 dn, eI G mra 8 ra] s.heap.size = A at hD hT ⊢
  have hA : ∀ q : Nat, s.heap.size ≤ q → A q := fun q h => by rw [← hAe]; exact Or.inr h
  have hS : va_S A s.heap s.heap [] := va_S.rf
  have hl := lv_entry ([.ref h0, .int d]) (n := 2) (Nat.le_of_ble_eq_true rfl)
  rw [lg_entry_eq]
  generalize (lg_sl ([.ref h0, .int d]) ++ List.replicate (2 - (lg_sl ([.ref h0, .int d])).length) Slot.unset).toArray = ls at hl ⊢
  have hl : lv_has ls 2 [(0, .ref h0), (1, .int d)] := hl
  refine lv_iload_n hx hb dX8_loss_0 rfl (lv_at hl 1 rfl) ?_
  refine lv_iconst (v := 0) hx hb dX8_loss_1 (by decide) ?_
  refine lv_aload_n hx hb dX8_loss_2 rfl (lv_at hl 0 rfl) ?_
  refine va_get (ci := 8) (C := RX8) (T := TX8) (N := 26) hx hb hts hinX8 hown hE.1 hP 0 rfl rfl 7 (by decide) (hts _ kFl_X8_170) (fun _ h9 => h9) rfl dX8_loss_3 ?_
  refine lv_iconst (v := 1) hx hb dX8_loss_6 (by decide) ?_
  refine lv_isub hx hb dX8_loss_7 ?_
  refine ca_Si (val := b2i (inB d 0 ((nI kn) - 1))) (va_runS (As := [.int d, .int 0, .int ((nI kn) - 1)]) (rest := []) ⟨hx, hb, hml, hown, hts⟩ (c_X8_in ln d 0 ((nI kn) - 1) ) (va_cwS 3 hts (gS kCode_X8_in kMl_X8_66 kSt_X8_in kIni_X8) rfl rfl rfl hd_X8_in ⟨Nat.le_of_ble_eq_true rfl, Nat.le_of_ble_eq_true rfl⟩) ⟨pu_blind, pu_pre⟩ rfl rfl hl.1 rfl (lv_room (Nat.le_of_ble_eq_true rfl)) dX8_loss_8 ⟨Nat.zero_le _, Nat.zero_le _⟩) ?_
  refine lv_if_eq (tgt := 29) hx hb dX8_loss_11 (by decide) (fun c_11 => ?_) (fun c_11 => ?_)
  · skip
    have c_11 := b2i_z c_11
    refine lv_ldc hx hb hown (hts _ kC_X8_173) dX8_loss_29 ?_
    have hP9 := hP.sub (ws' := [(h0, .inr (8, [.ref mk, .ref mg, .ref mhb, .ref mdn, .int (nI nd), .ref mda, .ref mkp, .int (nI kn), .ref mbr, .ref msu, .ref msg, .ref mlo, .int mo, .int ne, .int gl, .int ca, .int (nI no), .ref moa, .ref mog, .ref mop, .int rs, .int rw_, .ref mra, .int bc, .int bo, .int be])), eI G mda 4 da, eI G mkp 4 zf, eI G mk 64 kf, eI G mg 64 gf, eZ G mhb 64 bf, eZ G mdn 64 dn, eI G mra 8 ra]) [0, 1, 2, 3, 4, 5, 6, 7] rfl
    have hD9 := hD.sub (ws' := [(h0, .inr (8, [.ref mk, .ref mg, .ref mhb, .ref mdn, .int (nI nd), .ref mda, .ref mkp, .int (nI kn), .ref mbr, .ref msu, .ref msg, .ref mlo, .int mo, .int ne, .int gl, .int ca, .int (nI no), .ref moa, .ref mog, .ref mop, .int rs, .int rw_, .ref mra, .int bc, .int bo, .int be])), eI G mda 4 da, eI G mkp 4 zf, eI G mk 64 kf, eI G mg 64 gf, eZ G mhb 64 bf, eZ G mdn 64 dn, eI G mra 8 ra]) [0, 1, 2, 3, 4, 5, 6, 7] (by decide) rfl
    exact W.iret (v := (-2147483648)) hx hb hr (fun t_ ht_ hW_ => ⟨⟨(-2147483648), (rs, rw_, ra), rfl, (by simp [aLossM, c_11]), by rw [ht_]; exact hP9, hD9⟩, hS.F ht_⟩) hS.2.2 dX8_loss_31
  · skip
    have c_11 := b2i_n c_11
    have hki : vp_in d kn := has_in (by rw [← inb_has (by omega)]; exact c_11) (by omega)
    have hdn : d = nI d.toNatClampNeg := (nI_back hki (by omega)).1
    have hdl : d.toNatClampNeg < nd := Nat.lt_of_lt_of_le (nI_back hki (by omega)).2 hkn
    refine lv_aload_n hx hb dX8_loss_14 rfl (lv_at hl 0 rfl) ?_
    refine va_get (ci := 8) (C := RX8) (T := TX8) (N := 26) hx hb hts hinX8 hown hE.1 hP 0 rfl rfl 6 (by decide) (hts _ kFl_X8_26) (fun _ h9 => h9) rfl dX8_loss_15 ?_
    refine lv_iload_n hx hb dX8_loss_18 rfl (lv_at hl 1 rfl) ?_
    refine ri_ald (j := d.toNatClampNeg) hx hb hE hP 2 rfl rfl (vp_w hki (by omega)) dX8_loss_19 ?_
    refine lv_aload_n hx hb dX8_loss_20 rfl (lv_at hl 0 rfl) ?_
    refine lv_iload_n hx hb dX8_loss_21 rfl (lv_at hl 1 rfl) ?_
    refine W.eq (congrArg (fun z => F0 mi 22 ls [.int z, .ref h0, .int (zf d.toNatClampNeg)]) hdn) ?_
    have hF_ := va_free (wc := [(h0, .inr (8, [.ref mk, .ref mg, .ref mhb, .ref mdn, .int (nI nd), .ref mda, .ref mkp, .int (nI kn), .ref mbr, .ref msu, .ref msg, .ref mlo, .int mo, .int ne, .int gl, .int ca, .int (nI no), .ref moa, .ref mog, .ref mop, .int rs, .int rw_, .ref mra, .int bc, .int bo, .int be])), eI G mda 4 da, eI G mk 64 kf, eI G mg 64 gf, eZ G mhb 64 bf, eZ G mdn 64 dn, eI G mra 8 ra]) hD hS hA [0, 1, 3, 4, 5, 6, 7] rfl
    refine ca_Qi (wr := [eI G mkp 4 zf]) (va_runV (As := [.int (nI d.toNatClampNeg)]) (rest := [.int (zf d.toNatClampNeg)]) ⟨hx, hb, hml, hown, hts⟩ (c_X8_skyOf ln G h0 mk mg mhb mdn mda mkp mbr msu msg mlo moa mog mop mra nd (nI kn) mo ne gl ca no rs rw_ bc bo be da kf gf bf dn ra d.toNatClampNeg (xf d.toNatClampNeg) (yf d.toNatClampNeg) s.heap.size (by omega) ((hdk _ hdl).1) ((hdk _ hdl).2)) (cwV 1 hts (gV kCode_X8_skyOf kMl_X8_116 kIm_X8_skyOf kSel_X8_skyOf kIni_X8) rfl rfl rfl ⟨rfl, hd_X8_skyOf⟩ ⟨Nat.le_of_ble_eq_true rfl, Nat.le_of_ble_eq_true rfl⟩) ⟨rw_blind, va_recv hE.1 hP (ci := 8) (q0 := 0) rfl rfl, (rw_pre (hP.sub [0, 1, 3, 4, 5, 6, 7] rfl) (hD.sub [0, 1, 3, 4, 5, 6, 7] (by decide) rfl) hF_ hS hE hT)⟩ rfl rfl hl.1 rfl (lv_room (Nat.le_of_ble_eq_true rfl)) dX8_loss_22 ⟨Nat.zero_le _, Nat.zero_le _⟩) hP hD hS hA [0, 1, 3, 4, 5, 6, 7] [2] rfl rfl rfl (by decide) (fun r_22 u_22 H locs w_22 hP hD hS => ?_)
    obtain ⟨rs9_22, rw9_22, ra9_22⟩ := u_22
    have hP : va_P G.1 vwCl [eI G mkp 4 zf, (h0, .inr (8, [.ref mk, .ref mg, .ref mhb, .ref mdn, .int (nI nd), .ref mda, .ref mkp, .int (nI kn), .ref mbr, .ref msu, .ref msg, .ref mlo, .int mo, .int ne, .int gl, .int ca, .int (nI no), .ref moa, .ref mog, .ref mop, .int rs9_22, .int rw9_22, .ref mra, .int bc, .int bo, .int be])), eI G mda 4 da, eI G mk 64 kf, eI G mg 64 gf, eZ G mhb 64 bf, eZ G mdn 64 dn, eI G mra 8 ra9_22] H := hP
    have hD : va_D A [eI G mkp 4 zf, (h0, .inr (8, [.ref mk, .ref mg, .ref mhb, .ref mdn, .int (nI nd), .ref mda, .ref mkp, .int (nI kn), .ref mbr, .ref msu, .ref msg, .ref mlo, .int mo, .int ne, .int gl, .int ca, .int (nI no), .ref moa, .ref mog, .ref mop, .int rs9_22, .int rw9_22, .ref mra, .int bc, .int bo, .int be])), eI G mda 4 da, eI G mk 64 kf, eI G mg 64 gf, eZ G mhb 64 bf, eZ G mdn 64 dn, eI G mra 8 ra9_22] := hD
    obtain rfl : r_22 = skyV kf gf xf yf d.toNatClampNeg := (w_22.trans (sky_e kf gf xf yf _))
    refine lv_isub hx hb dX8_loss_25 ?_
    refine lv_goto (tgt := 31) hx hb dX8_loss_26 (by decide) ?_
    have hP9 := hP.sub (ws' := [(h0, .inr (8, [.ref mk, .ref mg, .ref mhb, .ref mdn, .int (nI nd), .ref mda, .ref mkp, .int (nI kn), .ref mbr, .ref msu, .ref msg, .ref mlo, .int mo, .int ne, .int gl, .int ca, .int (nI no), .ref moa, .ref mog, .ref mop, .int rs9_22, .int rw9_22, .ref mra, .int bc, .int bo, .int be])), eI G mda 4 da, eI G mkp 4 zf, eI G mk 64 kf, eI G mg 64 gf, eZ G mhb 64 bf, eZ G mdn 64 dn, eI G mra 8 ra9_22]) [1, 2, 0, 3, 4, 5, 6, 7] rfl
    have hD9 := hD.sub (ws' := [(h0, .inr (8, [.ref mk, .ref mg, .ref mhb, .ref mdn, .int (nI nd), .ref mda, .ref mkp, .int (nI kn), .ref mbr, .ref msu, .ref msg, .ref mlo, .int mo, .int ne, .int gl, .int ca, .int (nI no), .ref moa, .ref mog, .ref mop, .int rs9_22, .int rw9_22, .ref mra, .int bc, .int bo, .int be])), eI G mda 4 da, eI G mkp 4 zf, eI G mk 64 kf, eI G mg 64 gf, eZ G mhb 64 bf, eZ G mdn 64 dn, eI G mra 8 ra9_22]) [1, 2, 0, 3, 4, 5, 6, 7] (by decide) rfl
    exact W.iret (v := (zf d.toNatClampNeg) - (skyV kf gf xf yf d.toNatClampNeg)) hx hb hr (fun t_ ht_ hW_ => ⟨⟨(zf d.toNatClampNeg) - (skyV kf gf xf yf d.toNatClampNeg), (rs9_22, rw9_22, ra9_22), rfl, (by simp [aLossM, c_11]), by rw [ht_]; exact hP9, hD9⟩, hS.F ht_⟩) hS.2.2 dX8_loss_31
