set_option maxHeartbeats 4000000 in
set_option maxRecDepth 100000 in
theorem c_X8_share (ln : Launch) (G : gT) (h0 : Nat) (mk : Nat) (mg : Nat) (mhb : Nat) (mdn : Nat) (mda : Nat) (mkp : Nat) (mbr : Nat) (msu : Nat) (msg : Nat) (mlo : Nat) (moa : Nat) (mog : Nat) (mop : Nat) (mra : Nat) (nd : Nat) (kp : Int32) (mo : Int32) (ne : Int32) (gl : Int32) (ca : Int32) (no : Nat) (rs : Int32) (rw_ : Int32) (bc : Int32) (bo : Int32) (be : Int32) (da : Nat → Int32) (kf : Nat → Int32) (gf : Nat → Int32) (bf : Nat → Bool) (dn : Nat → Bool) (ra : Nat → Int32) (d : Nat) (pt : Nat) (au : Bool) (x0 : Int32) (y0 : Int32) (sz : Nat) (hd4 : d < 4) (hpt : pt < 16) (hxy : cellB x0 y0 = true) (hda : da d = y0 * 8 + x0) : Met ln yX8_share (wA (.code yX8_share cX8_share 8 (some .long))) ({ frames := 4, cells := 0, slots := 0, locals := 93 } : Room) (va_Pc [.ref h0, .int (nI d), .int (nI pt), .int (b2i au)] (rwB G [(h0, .inr (8, [.ref mk, .ref mg, .ref mhb, .ref mdn, .int (nI nd), .ref mda, .ref mkp, .int kp, .ref mbr, .ref msu, .ref msg, .ref mlo, .int mo, .int ne, .int gl, .int ca, .int (nI no), .ref moa, .ref mog, .ref mop, .int rs, .int rw_, .ref mra, .int bc, .int bo, .int be])), eI G mda 4 da, eI G mk 64 kf, eI G mg 64 gf, eZ G mhb 64 bf, eZ G mdn 64 dn, eI G mra 8 ra] sz)) (va_Ql (S := Int32 × Int32 × (Nat → Int32)) (fun (r : Int64) (_ : Int32 × Int32 × (Nat → Int32)) => r = shV kf gf (dnB au bf dn) x0 y0 pt) (fun u => wdB G (va_A [(h0, .inr (8, [.ref mk, .ref mg, .ref mhb, .ref mdn, .int (nI nd), .ref mda, .ref mkp, .int kp, .ref mbr, .ref msu, .ref msg, .ref mlo, .int mo, .int ne, .int gl, .int ca, .int (nI no), .ref moa, .ref mog, .ref mop, .int rs, .int rw_, .ref mra, .int bc, .int bo, .int be])), eI G mda 4 da, eI G mk 64 kf, eI G mg 64 gf, eZ G mhb 64 bf, eZ G mdn 64 dn, eI G mra 8 ra] sz) [(h0, .inr (8, [.ref mk, .ref mg, .ref mhb, .ref mdn, .int (nI nd), .ref mda, .ref mkp, .int kp, .ref mbr, .ref msu, .ref msg, .ref mlo, .int mo, .int ne, .int gl, .int ca, .int (nI no), .ref moa, .ref mog, .ref mop, .int u.1, .int u.2.1, .ref mra, .int bc, .int bo, .int be])), eI G mda 4 da, eI G mk 64 kf, eI G mg 64 gf, eZ G mhb 64 bf, eZ G mdn 64 dn, eI G mra 8 u.2.2]) (va_A [(h0, .inr (8, [.ref mk, .ref mg, .ref mhb, .ref mdn, .int (nI nd), .ref mda, .ref mkp, .int kp, .ref mbr, .ref msu, .ref msg, .ref mlo, .int mo, .int ne, .int gl, .int ca, .int (nI no), .ref moa, .ref mog, .ref mop, .int rs, .int rw_, .ref mra, .int bc, .int bo, .int be])), eI G mda 4 da, eI G mk 64 kf, eI G mg 64 gf, eZ G mhb 64 bf, eZ G mdn 64 dn, eI G mra 8 ra] sz)) 0 0 (va_A [(h0, .inr (8, [.ref mk, .ref mg, .ref mhb, .ref mdn, .int (nI nd), .ref mda, .ref mkp, .int kp, .ref mbr, .ref msu, .ref msg, .ref mlo, .int mo, .int ne, .int gl, .int ca, .int (nI no), .ref moa, .ref mog, .ref mop, .int rs, .int rw_, .ref mra, .int bc, .int bo, .int be])), eI G mda 4 da, eI G mk 64 kf, eI G mg 64 gf, eZ G mhb 64 bf, eZ G mdn 64 dn, eI G mra 8 ra] sz) := by
  refine Met.ofW (cc := cX8_share) (maxL := 8) (ret := (some .long)) (by decide) rfl ?_
  intro pg ev s mi args below meth cd s₁ B hml hv
  obtain ⟨rfl, hsz, hP, hE, hD0, hT⟩ := hv
  have hx := B.exec
  have hb := B.bytes
  have hr := B.returns
  have hts0 := atoms_spec (ws := wA (.code yX8_share cX8_share 8 (some .long))) B.pre
  have hts : ∀ w ∈ wsA, w.before _ s = true := fun w h => hts0 w (List.mem_cons_of_mem _ h)
  have hown : s.vm.findClass RX8 = some mi.cls := findClass_of_methodNamed B.named
  have hlocks := B.notSynchronized
  subst hsz
  have hD := hD0.self (sz := s.heap.size)
  generalize hAe : va_A [(h0, .inr (8, [.ref mk, .ref mg, .ref mhb, .ref mdn, .int (nI nd), .ref mda, .ref mkp, .int kp, .ref mbr, .ref msu, .ref msg, .ref mlo, .int mo, .int ne, .int gl, .int ca, .int (nI no), .ref moa, .ref mog, .ref mop, .int rs, .int rw_, .ref mra, .int bc, .int bo, .int be])), eI G mda 4 da, eI G mk 64 kf, eI G mg 64 gf, eZ G mhb 64 bf, eZ G mdn 64 dn, eI G mra 8 ra] s.heap.size = A at hD hT ⊢
  have hA : ∀ q : Nat, s.heap.size ≤ q → A q := fun q h => by rw [← hAe]; exact Or.inr h
  have hS : va_S A s.heap s.heap [] := va_S.rf
  have hl := lv_entry ([.ref h0, .int (nI d), .int (nI pt), .int (b2i au)]) (n := 8) (Nat.le_of_ble_eq_true rfl)
  rw [lg_entry_eq]
  generalize (lg_sl ([.ref h0, .int (nI d), .int (nI pt), .int (b2i au)]) ++ List.replicate (8 - (lg_sl ([.ref h0, .int (nI d), .int (nI pt), .int (b2i au)])).length) Slot.unset).toArray = ls at hl ⊢
  have hl : lv_has ls 8 [(0, .ref h0), (1, .int (nI d)), (2, .int (nI pt)), (3, .int (b2i au))] := hl
  refine lv_aload_n hx hb dX8_share_0 rfl (lv_at hl 0 rfl) ?_
  refine lv_iload_n hx hb dX8_share_1 rfl (lv_at hl 1 rfl) ?_
  refine lv_iload_n hx hb dX8_share_2 rfl (lv_at hl 2 rfl) ?_
  have hF_ := va_free (wc := [(h0, .inr (8, [.ref mk, .ref mg, .ref mhb, .ref mdn, .int (nI nd), .ref mda, .ref mkp, .int kp, .ref mbr, .ref msu, .ref msg, .ref mlo, .int mo, .int ne, .int gl, .int ca, .int (nI no), .ref moa, .ref mog, .ref mop, .int rs, .int rw_, .ref mra, .int bc, .int bo, .int be])), eI G mda 4 da, eI G mk 64 kf, eI G mra 8 ra]) hD hS hA [0, 1, 2, 6] rfl
  refine ca_Qi (wr := [eI G mg 64 gf, eZ G mhb 64 bf, eZ G mdn 64 dn]) (va_runV (As := [.int (nI d), .int (nI pt)]) (rest := []) ⟨hx, hb, hml, hown, hts⟩ (c_X8_walk ln G h0 mk mg mhb mdn mda mkp mbr msu msg mlo moa mog mop mra nd kp mo ne gl ca no rs rw_ bc bo be da kf ra d pt x0 y0 s.heap.size (by omega) (by omega) hxy hda) (cwV 2 hts (gV kCode_X8_walk kMl_X8_97 kIm_X8_walk kSel_X8_walk kIni_X8) rfl rfl rfl ⟨rfl, hd_X8_walk⟩ ⟨Nat.le_of_ble_eq_true rfl, Nat.le_of_ble_eq_true rfl⟩) ⟨rw_blind, va_recv hE.1 hP (ci := 8) (q0 := 0) rfl rfl, (rw_pre (hP.sub [0, 1, 2, 6] rfl) (hD.sub [0, 1, 2, 6] (by decide) rfl) hF_ hS hE hT)⟩ rfl rfl hl.1 rfl (lv_room (Nat.le_of_ble_eq_true rfl)) dX8_share_3 ⟨Nat.zero_le _, Nat.zero_le _⟩) hP hD hS hA [0, 1, 2, 6] [3, 4, 5] rfl rfl rfl (by decide) (fun r_3 u_3 H locs w_3 hP hD hS => ?_)
  obtain ⟨rs9_3, rw9_3, ra9_3⟩ := u_3
  have hP : va_P G.1 vwCl [eI G mg 64 gf, eZ G mhb 64 bf, eZ G mdn 64 dn, (h0, .inr (8, [.ref mk, .ref mg, .ref mhb, .ref mdn, .int (nI nd), .ref mda, .ref mkp, .int kp, .ref mbr, .ref msu, .ref msg, .ref mlo, .int mo, .int ne, .int gl, .int ca, .int (nI no), .ref moa, .ref mog, .ref mop, .int rs9_3, .int rw9_3, .ref mra, .int bc, .int bo, .int be])), eI G mda 4 da, eI G mk 64 kf, eI G mra 8 ra9_3] H := hP
  have hD : va_D A [eI G mg 64 gf, eZ G mhb 64 bf, eZ G mdn 64 dn, (h0, .inr (8, [.ref mk, .ref mg, .ref mhb, .ref mdn, .int (nI nd), .ref mda, .ref mkp, .int kp, .ref mbr, .ref msu, .ref msg, .ref mlo, .int mo, .int ne, .int gl, .int ca, .int (nI no), .ref moa, .ref mog, .ref mop, .int rs9_3, .int rw9_3, .ref mra, .int bc, .int bo, .int be])), eI G mda 4 da, eI G mk 64 kf, eI G mra 8 ra9_3] := hD
  obtain rfl : r_3 = b2i ((rayR kf (stX pt) (stY pt) 8 x0 y0).isSome) := w_3.1
  refine lv_if_ne (tgt := 11) hx hb dX8_share_6 (by decide) (fun c_6 => ?_) (fun c_6 => ?_)
  · skip
    have c_6 := b2i_n c_6
    obtain ⟨⟨kq, t⟩, ht⟩ := Option.isSome_iff_exists.mp c_6
    obtain ⟨-, hrw, hra⟩ := w_3.2 kq t ht
    have hra : raI t ra9_3 := hra
    obtain rfl : rw9_3 = nI t.length := hrw
    have htl : t.length ≤ 8 := by have := rayR_len _ _ _ _ _ ht; omega
    have hP : va_P G.1 vwCl [eI G mg 64 gf, eZ G mhb 64 bf, eZ G mdn 64 dn, (h0, .inr (8, [.ref mk, .ref mg, .ref mhb, .ref mdn, .int (nI nd), .ref mda, .ref mkp, .int kp, .ref mbr, .ref msu, .ref msg, .ref mlo, .int mo, .int ne, .int gl, .int ca, .int (nI no), .ref moa, .ref mog, .ref mop, .int rs9_3, .int (nI t.length), .ref mra, .int bc, .int bo, .int be])), eI G mda 4 da, eI G mk 64 kf, eI G mra 8 ra9_3] H := hP
    have hD : va_D A [eI G mg 64 gf, eZ G mhb 64 bf, eZ G mdn 64 dn, (h0, .inr (8, [.ref mk, .ref mg, .ref mhb, .ref mdn, .int (nI nd), .ref mda, .ref mkp, .int kp, .ref mbr, .ref msu, .ref msg, .ref mlo, .int mo, .int ne, .int gl, .int ca, .int (nI no), .ref moa, .ref mog, .ref mop, .int rs9_3, .int (nI t.length), .ref mra, .int bc, .int bo, .int be])), eI G mda 4 da, eI G mk 64 kf, eI G mra 8 ra9_3] := hD
    refine lv_ldc2 hx hb hown (hts _ kCl_X8_100) dX8_share_11 ?_
    refine lv_lstore (lv' := [(4, .long 2097152), (0, .ref h0), (1, .int (nI d)), (2, .int (nI pt)), (3, .int (b2i au))]) hx hb dX8_share_14 hl (by decide) rfl (fun ls hl => ?_)
    refine lv_iconst (v := 0) hx hb dX8_share_16 (by decide) ?_
    refine lv_istore (lv' := [(6, .int 0), (4, .long 2097152), (0, .ref h0), (1, .int (nI d)), (2, .int (nI pt)), (3, .int (b2i au))]) hx hb dX8_share_17 hl (by decide) rfl (fun ls hl => ?_)
    have J_19 : ∀ (n_ : Nat), ∀ (j : Nat), (j ≤ t.length) → (9 ≤ j + n_) → ∀ (H : Heap) (locs : List Loc), va_P G.1 vwCl [eI G mg 64 gf, eZ G mhb 64 bf, eZ G mdn 64 dn, (h0, .inr (8, [.ref mk, .ref mg, .ref mhb, .ref mdn, .int (nI nd), .ref mda, .ref mkp, .int kp, .ref mbr, .ref msu, .ref msg, .ref mlo, .int mo, .int ne, .int gl, .int ca, .int (nI no), .ref moa, .ref mog, .ref mop, .int rs9_3, .int (nI t.length), .ref mra, .int bc, .int bo, .int be])), eI G mda 4 da, eI G mk 64 kf, eI G mra 8 ra9_3] H → va_D A [eI G mg 64 gf, eZ G mhb 64 bf, eZ G mdn 64 dn, (h0, .inr (8, [.ref mk, .ref mg, .ref mhb, .ref mdn, .int (nI nd), .ref mda, .ref mkp, .int kp, .ref mbr, .ref msu, .ref msg, .ref mlo, .int mo, .int ne, .int gl, .int ca, .int (nI no), .ref moa, .ref mog, .ref mop, .int rs9_3, .int (nI t.length), .ref mra, .int bc, .int bo, .int be])), eI G mda 4 da, eI G mk 64 kf, eI G mra 8 ra9_3] → va_S A s.heap H locs → ∀ (ls : Array Slot), lv_has ls 8 [(6, .int (nI j)), (4, .long ((t.take j).foldl (mStep gf (dnB au bf dn)) 2097152)), (0, .ref h0), (1, .int (nI d)), (2, .int (nI pt)), (3, .int (b2i au))] → W pg ln ev ({ frames := 4, cells := 0, slots := 0, locals := 93 } : Room) s mi ([.ref h0, .int (nI d), .int (nI pt), .int (b2i au)] : List Value).toArray below meth cd H locs 0 0 (MQ below (va_Ql (S := Int32 × Int32 × (Nat → Int32)) (fun (r : Int64) (_ : Int32 × Int32 × (Nat → Int32)) => r = shV kf gf (dnB au bf dn) x0 y0 pt) (fun u => wdB G A [(h0, .inr (8, [.ref mk, .ref mg, .ref mhb, .ref mdn, .int (nI nd), .ref mda, .ref mkp, .int kp, .ref mbr, .ref msu, .ref msg, .ref mlo, .int mo, .int ne, .int gl, .int ca, .int (nI no), .ref moa, .ref mog, .ref mop, .int u.1, .int u.2.1, .ref mra, .int bc, .int bo, .int be])), eI G mda 4 da, eI G mk 64 kf, eI G mg 64 gf, eZ G mhb 64 bf, eZ G mdn 64 dn, eI G mra 8 u.2.2]) A) ([.ref h0, .int (nI d), .int (nI pt), .int (b2i au)] : List Value).toArray s 0 0 A) (F0 mi 19 ls []) := by
      intro n_
      induction n_ with
      | zero =>
        intro j hj hfj H locs hP hD hS ls hl
        exact absurd hfj (by omega)
      | succ n_ ih_19 =>
        intro j hj hfj H locs hP hD hS ls hl
        refine lv_iload hx hb dX8_share_19 (lv_at hl 0 rfl) ?_
        refine lv_aload_n hx hb dX8_share_21 rfl (lv_at hl 2 rfl) ?_
        refine va_get (ci := 8) (C := RX8) (T := TX8) (N := 26) hx hb hts hinX8 hown hE.1 hP 3 rfl rfl 21 (by decide) (hts _ kFl_X8_91) (fun _ h9 => h9) rfl dX8_share_22 ?_
        refine lv_icmp_ge (tgt := 106) hx hb dX8_share_25 (by decide) (fun c_25 => ?_) (fun c_25 => ?_)
        · skip
          have e_hlt : j = t.length := by
            rcases Nat.lt_or_ge j t.length with q | q
            · exact absurd (show nI t.length ≤ nI j from c_25) (nI_ge q (by omega))
            · omega
          refine lv_lload hx hb dX8_share_106 (lv_at hl 1 rfl) ?_
          have hP9 := hP.sub (ws' := [(h0, .inr (8, [.ref mk, .ref mg, .ref mhb, .ref mdn, .int (nI nd), .ref mda, .ref mkp, .int kp, .ref mbr, .ref msu, .ref msg, .ref mlo, .int mo, .int ne, .int gl, .int ca, .int (nI no), .ref moa, .ref mog, .ref mop, .int rs9_3, .int (nI t.length), .ref mra, .int bc, .int bo, .int be])), eI G mda 4 da, eI G mk 64 kf, eI G mg 64 gf, eZ G mhb 64 bf, eZ G mdn 64 dn, eI G mra 8 ra9_3]) [3, 4, 5, 0, 1, 2, 6] rfl
          have hD9 := hD.sub (ws' := [(h0, .inr (8, [.ref mk, .ref mg, .ref mhb, .ref mdn, .int (nI nd), .ref mda, .ref mkp, .int kp, .ref mbr, .ref msu, .ref msg, .ref mlo, .int mo, .int ne, .int gl, .int ca, .int (nI no), .ref moa, .ref mog, .ref mop, .int rs9_3, .int (nI t.length), .ref mra, .int bc, .int bo, .int be])), eI G mda 4 da, eI G mk 64 kf, eI G mg 64 gf, eZ G mhb 64 bf, eZ G mdn 64 dn, eI G mra 8 ra9_3]) [3, 4, 5, 0, 1, 2, 6] (by decide) rfl
          exact W.lret (v := (t.take j).foldl (mStep gf (dnB au bf dn)) 2097152) hx hb hr (fun t_ ht_ hW_ => ⟨⟨(t.take j).foldl (mStep gf (dnB au bf dn)) 2097152, (rs9_3, nI t.length, ra9_3), rfl, (by rw [shV, ht, e_hlt, List.take_length]; rfl), by rw [ht_]; exact hP9, hD9⟩, hS.F ht_⟩) hS.2.2 dX8_share_108
        · skip
          have hlt : j < t.length := by
            rcases Nat.lt_or_ge j t.length with q | q
            · exact q
            · exact absurd (show _ ≤ nI j from (nI_le (a := t.length) (b := j) q (by omega))) c_25
          have hvi := (ray_m _ _ _ _ _ ht _ (getD_mem hlt)).1
          rw [← hra j hlt] at hvi
          refine lv_iload_n hx hb dX8_share_28 rfl (lv_at hl 5 rfl) ?_
          refine lv_if_ne (tgt := 66) hx hb dX8_share_29 (by decide) (fun c_29 => ?_) (fun c_29 => ?_)
          · skip
            have c_29 := b2i_n c_29
            refine lv_iconst (v := 0) hx hb dX8_share_66 (by decide) ?_
            refine lv_istore (lv' := [(7, .int 0), (6, .int (nI j)), (4, .long ((t.take j).foldl (mStep gf (dnB au bf dn)) 2097152)), (0, .ref h0), (1, .int (nI d)), (2, .int (nI pt)), (3, .int (b2i au))]) hx hb dX8_share_67 hl (by decide) rfl (fun ls hl => ?_)
            refine lv_lload hx hb dX8_share_69 (lv_at hl 2 rfl) ?_
            refine lv_ldc2 hx hb hown (hts _ kCl_X8_102) dX8_share_71 ?_
            refine lv_ldiv hx hb dX8_share_74 (by decide) ?_
            refine lv_iload hx hb dX8_share_75 (lv_at hl 0 rfl) ?_
            refine lv_if_eq (tgt := 84) hx hb dX8_share_77 (by decide) (fun c_77 => ?_) (fun c_77 => ?_)
            · skip
              refine lv_aload_n hx hb dX8_share_84 rfl (lv_at hl 3 rfl) ?_
              refine va_get (ci := 8) (C := RX8) (T := TX8) (N := 26) hx hb hts hinX8 hown hE.1 hP 3 rfl rfl 1 (by decide) (hts _ kFl_X8_13) (fun _ h9 => h9) rfl dX8_share_85 ?_
              refine lv_aload_n hx hb dX8_share_88 rfl (lv_at hl 3 rfl) ?_
              refine va_get (ci := 8) (C := RX8) (T := TX8) (N := 26) hx hb hts hinX8 hown hE.1 hP 3 rfl rfl 22 (by decide) (hts _ kFl_X8_63) (fun _ h9 => h9) rfl dX8_share_89 ?_
              refine lv_iload hx hb dX8_share_92 (lv_at hl 1 rfl) ?_
              refine ri_ald (j := j) hx hb hE hP 6 rfl (nI_clamp (by omega)) (vp_in_nI (by omega) (by omega)) dX8_share_94 ?_
              refine ri_ald (j := (ra9_3 j).toNatClampNeg) hx hb hE hP 0 rfl rfl hvi dX8_share_95 ?_
              refine lv_i2l hx hb dX8_share_96 rfl ?_
              refine lv_lmul hx hb dX8_share_97 ?_
              refine lv_lstore (lv' := [(4, .long ((((t.take j).foldl (mStep gf (dnB au bf dn)) 2097152) / 8) * ((gf ((ra9_3 j).toNatClampNeg)).toInt64))), (7, .int 0), (6, .int (nI j)), (0, .ref h0), (1, .int (nI d)), (2, .int (nI pt)), (3, .int (b2i au))]) hx hb dX8_share_98 hl (by decide) rfl (fun ls hl => ?_)
              refine lv_iinc (v := nI (j + 1)) (lv' := [(6, .int (nI (j + 1))), (4, .long ((((t.take j).foldl (mStep gf (dnB au bf dn)) 2097152) / 8) * ((gf ((ra9_3 j).toNatClampNeg)).toInt64))), (7, .int 0), (0, .ref h0), (1, .int (nI d)), (2, .int (nI pt)), (3, .int (b2i au))]) hx hb dX8_share_100 hl (k := 2) rfl (nI_1 _) (by decide) rfl (fun ls hl => ?_)
              refine lv_goto (tgt := 19) hx hb dX8_share_103 (by decide) ?_
              have q9_1 : ((((t.take j).foldl (mStep gf (dnB au bf dn)) 2097152) / 8) * ((gf ((ra9_3 j).toNatClampNeg)).toInt64)) = ((t.take (j + 1)).foldl (mStep gf (dnB au bf dn)) 2097152) := (by rw [fold_take _ _ t j hlt, ← hra j hlt]; simp [mStep, dnB, c_29])
              exact ih_19 (j + 1) (by omega) (by omega) _ _ (hP.sub [0, 1, 2, 3, 4, 5, 6] rfl) (hD.sub [0, 1, 2, 3, 4, 5, 6] (by decide) rfl) hS ls (lv_cast (lv_sub hl [0, 1, 3, 4, 5, 6] rfl) (lcons rfl (lcons (congrArg (fun z => (4, Value.long z)) q9_1) (lcons rfl (lcons rfl (lcons rfl (lcons rfl rfl)))))))
            · skip
              exact absurd c_77 (by decide)
          · skip
            have c_29 := b2i_z c_29
            refine lv_aload_n hx hb dX8_share_32 rfl (lv_at hl 2 rfl) ?_
            refine va_get (ci := 8) (C := RX8) (T := TX8) (N := 26) hx hb hts hinX8 hown hE.1 hP 3 rfl rfl 2 (by decide) (hts _ kFl_X8_16) (fun _ h9 => h9) rfl dX8_share_33 ?_
            refine lv_aload_n hx hb dX8_share_36 rfl (lv_at hl 2 rfl) ?_
            refine va_get (ci := 8) (C := RX8) (T := TX8) (N := 26) hx hb hts hinX8 hown hE.1 hP 3 rfl rfl 22 (by decide) (hts _ kFl_X8_63) (fun _ h9 => h9) rfl dX8_share_37 ?_
            refine lv_iload hx hb dX8_share_40 (lv_at hl 0 rfl) ?_
            refine ri_ald (j := j) hx hb hE hP 6 rfl (nI_clamp (by omega)) (vp_in_nI (by omega) (by omega)) dX8_share_42 ?_
            refine rz_ald (j := (ra9_3 j).toNatClampNeg) hx hb hE hP 1 rfl rfl hvi dX8_share_43 ?_
            refine lv_if_eq (tgt := 66) hx hb dX8_share_44 (by decide) (fun c_44 => ?_) (fun c_44 => ?_)
            · skip
              have c_44 := b2i_z c_44
              refine lv_iconst (v := 0) hx hb dX8_share_66 (by decide) ?_
              refine lv_istore (lv' := [(7, .int 0), (6, .int (nI j)), (4, .long ((t.take j).foldl (mStep gf (dnB au bf dn)) 2097152)), (0, .ref h0), (1, .int (nI d)), (2, .int (nI pt)), (3, .int (b2i au))]) hx hb dX8_share_67 hl (by decide) rfl (fun ls hl => ?_)
              refine lv_lload hx hb dX8_share_69 (lv_at hl 2 rfl) ?_
              refine lv_ldc2 hx hb hown (hts _ kCl_X8_102) dX8_share_71 ?_
              refine lv_ldiv hx hb dX8_share_74 (by decide) ?_
              refine lv_iload hx hb dX8_share_75 (lv_at hl 0 rfl) ?_
              refine lv_if_eq (tgt := 84) hx hb dX8_share_77 (by decide) (fun c_77 => ?_) (fun c_77 => ?_)
              · skip
                refine lv_aload_n hx hb dX8_share_84 rfl (lv_at hl 3 rfl) ?_
                refine va_get (ci := 8) (C := RX8) (T := TX8) (N := 26) hx hb hts hinX8 hown hE.1 hP 3 rfl rfl 1 (by decide) (hts _ kFl_X8_13) (fun _ h9 => h9) rfl dX8_share_85 ?_
                refine lv_aload_n hx hb dX8_share_88 rfl (lv_at hl 3 rfl) ?_
                refine va_get (ci := 8) (C := RX8) (T := TX8) (N := 26) hx hb hts hinX8 hown hE.1 hP 3 rfl rfl 22 (by decide) (hts _ kFl_X8_63) (fun _ h9 => h9) rfl dX8_share_89 ?_
                refine lv_iload hx hb dX8_share_92 (lv_at hl 1 rfl) ?_
                refine ri_ald (j := j) hx hb hE hP 6 rfl (nI_clamp (by omega)) (vp_in_nI (by omega) (by omega)) dX8_share_94 ?_
                refine ri_ald (j := (ra9_3 j).toNatClampNeg) hx hb hE hP 0 rfl rfl hvi dX8_share_95 ?_
                refine lv_i2l hx hb dX8_share_96 rfl ?_
                refine lv_lmul hx hb dX8_share_97 ?_
                refine lv_lstore (lv' := [(4, .long ((((t.take j).foldl (mStep gf (dnB au bf dn)) 2097152) / 8) * ((gf ((ra9_3 j).toNatClampNeg)).toInt64))), (7, .int 0), (6, .int (nI j)), (0, .ref h0), (1, .int (nI d)), (2, .int (nI pt)), (3, .int (b2i au))]) hx hb dX8_share_98 hl (by decide) rfl (fun ls hl => ?_)
                refine lv_iinc (v := nI (j + 1)) (lv' := [(6, .int (nI (j + 1))), (4, .long ((((t.take j).foldl (mStep gf (dnB au bf dn)) 2097152) / 8) * ((gf ((ra9_3 j).toNatClampNeg)).toInt64))), (7, .int 0), (0, .ref h0), (1, .int (nI d)), (2, .int (nI pt)), (3, .int (b2i au))]) hx hb dX8_share_100 hl (k := 2) rfl (nI_1 _) (by decide) rfl (fun ls hl => ?_)
                refine lv_goto (tgt := 19) hx hb dX8_share_103 (by decide) ?_
                have q9_2 : ((((t.take j).foldl (mStep gf (dnB au bf dn)) 2097152) / 8) * ((gf ((ra9_3 j).toNatClampNeg)).toInt64)) = ((t.take (j + 1)).foldl (mStep gf (dnB au bf dn)) 2097152) := (by rw [fold_take _ _ t j hlt, ← hra j hlt]; simp [mStep, dnB, c_29, c_44])
                exact ih_19 (j + 1) (by omega) (by omega) _ _ (hP.sub [0, 1, 2, 3, 4, 5, 6] rfl) (hD.sub [0, 1, 2, 3, 4, 5, 6] (by decide) rfl) hS ls (lv_cast (lv_sub hl [0, 1, 3, 4, 5, 6] rfl) (lcons rfl (lcons (congrArg (fun z => (4, Value.long z)) q9_2) (lcons rfl (lcons rfl (lcons rfl (lcons rfl rfl)))))))
              · skip
                exact absurd c_77 (by decide)
            · skip
              have c_44 := b2i_n c_44
              refine lv_aload_n hx hb dX8_share_47 rfl (lv_at hl 2 rfl) ?_
              refine va_get (ci := 8) (C := RX8) (T := TX8) (N := 26) hx hb hts hinX8 hown hE.1 hP 3 rfl rfl 3 (by decide) (hts _ kFl_X8_20) (fun _ h9 => h9) rfl dX8_share_48 ?_
              refine lv_aload_n hx hb dX8_share_51 rfl (lv_at hl 2 rfl) ?_
              refine va_get (ci := 8) (C := RX8) (T := TX8) (N := 26) hx hb hts hinX8 hown hE.1 hP 3 rfl rfl 22 (by decide) (hts _ kFl_X8_63) (fun _ h9 => h9) rfl dX8_share_52 ?_
              refine lv_iload hx hb dX8_share_55 (lv_at hl 0 rfl) ?_
              refine ri_ald (j := j) hx hb hE hP 6 rfl (nI_clamp (by omega)) (vp_in_nI (by omega) (by omega)) dX8_share_57 ?_
              refine rz_ald (j := (ra9_3 j).toNatClampNeg) hx hb hE hP 2 rfl rfl hvi dX8_share_58 ?_
              refine lv_if_eq (tgt := 66) hx hb dX8_share_59 (by decide) (fun c_59 => ?_) (fun c_59 => ?_)
              · skip
                have c_59 := b2i_z c_59
                refine lv_iconst (v := 0) hx hb dX8_share_66 (by decide) ?_
                refine lv_istore (lv' := [(7, .int 0), (6, .int (nI j)), (4, .long ((t.take j).foldl (mStep gf (dnB au bf dn)) 2097152)), (0, .ref h0), (1, .int (nI d)), (2, .int (nI pt)), (3, .int (b2i au))]) hx hb dX8_share_67 hl (by decide) rfl (fun ls hl => ?_)
                refine lv_lload hx hb dX8_share_69 (lv_at hl 2 rfl) ?_
                refine lv_ldc2 hx hb hown (hts _ kCl_X8_102) dX8_share_71 ?_
                refine lv_ldiv hx hb dX8_share_74 (by decide) ?_
                refine lv_iload hx hb dX8_share_75 (lv_at hl 0 rfl) ?_
                refine lv_if_eq (tgt := 84) hx hb dX8_share_77 (by decide) (fun c_77 => ?_) (fun c_77 => ?_)
                · skip
                  refine lv_aload_n hx hb dX8_share_84 rfl (lv_at hl 3 rfl) ?_
                  refine va_get (ci := 8) (C := RX8) (T := TX8) (N := 26) hx hb hts hinX8 hown hE.1 hP 3 rfl rfl 1 (by decide) (hts _ kFl_X8_13) (fun _ h9 => h9) rfl dX8_share_85 ?_
                  refine lv_aload_n hx hb dX8_share_88 rfl (lv_at hl 3 rfl) ?_
                  refine va_get (ci := 8) (C := RX8) (T := TX8) (N := 26) hx hb hts hinX8 hown hE.1 hP 3 rfl rfl 22 (by decide) (hts _ kFl_X8_63) (fun _ h9 => h9) rfl dX8_share_89 ?_
                  refine lv_iload hx hb dX8_share_92 (lv_at hl 1 rfl) ?_
                  refine ri_ald (j := j) hx hb hE hP 6 rfl (nI_clamp (by omega)) (vp_in_nI (by omega) (by omega)) dX8_share_94 ?_
                  refine ri_ald (j := (ra9_3 j).toNatClampNeg) hx hb hE hP 0 rfl rfl hvi dX8_share_95 ?_
                  refine lv_i2l hx hb dX8_share_96 rfl ?_
                  refine lv_lmul hx hb dX8_share_97 ?_
                  refine lv_lstore (lv' := [(4, .long ((((t.take j).foldl (mStep gf (dnB au bf dn)) 2097152) / 8) * ((gf ((ra9_3 j).toNatClampNeg)).toInt64))), (7, .int 0), (6, .int (nI j)), (0, .ref h0), (1, .int (nI d)), (2, .int (nI pt)), (3, .int (b2i au))]) hx hb dX8_share_98 hl (by decide) rfl (fun ls hl => ?_)
                  refine lv_iinc (v := nI (j + 1)) (lv' := [(6, .int (nI (j + 1))), (4, .long ((((t.take j).foldl (mStep gf (dnB au bf dn)) 2097152) / 8) * ((gf ((ra9_3 j).toNatClampNeg)).toInt64))), (7, .int 0), (0, .ref h0), (1, .int (nI d)), (2, .int (nI pt)), (3, .int (b2i au))]) hx hb dX8_share_100 hl (k := 2) rfl (nI_1 _) (by decide) rfl (fun ls hl => ?_)
                  refine lv_goto (tgt := 19) hx hb dX8_share_103 (by decide) ?_
                  have q9_3 : ((((t.take j).foldl (mStep gf (dnB au bf dn)) 2097152) / 8) * ((gf ((ra9_3 j).toNatClampNeg)).toInt64)) = ((t.take (j + 1)).foldl (mStep gf (dnB au bf dn)) 2097152) := (by rw [fold_take _ _ t j hlt, ← hra j hlt]; simp [mStep, dnB, c_29, c_44, c_59])
                  exact ih_19 (j + 1) (by omega) (by omega) _ _ (hP.sub [0, 1, 2, 3, 4, 5, 6] rfl) (hD.sub [0, 1, 2, 3, 4, 5, 6] (by decide) rfl) hS ls (lv_cast (lv_sub hl [0, 1, 3, 4, 5, 6] rfl) (lcons rfl (lcons (congrArg (fun z => (4, Value.long z)) q9_3) (lcons rfl (lcons rfl (lcons rfl (lcons rfl rfl)))))))
                · skip
                  exact absurd c_77 (by decide)
              · skip
                have c_59 := b2i_n c_59
                refine lv_iconst (v := 1) hx hb dX8_share_62 (by decide) ?_
                refine lv_goto (tgt := 67) hx hb dX8_share_63 (by decide) ?_
                refine lv_istore (lv' := [(7, .int 1), (6, .int (nI j)), (4, .long ((t.take j).foldl (mStep gf (dnB au bf dn)) 2097152)), (0, .ref h0), (1, .int (nI d)), (2, .int (nI pt)), (3, .int (b2i au))]) hx hb dX8_share_67 hl (by decide) rfl (fun ls hl => ?_)
                refine lv_lload hx hb dX8_share_69 (lv_at hl 2 rfl) ?_
                refine lv_ldc2 hx hb hown (hts _ kCl_X8_102) dX8_share_71 ?_
                refine lv_ldiv hx hb dX8_share_74 (by decide) ?_
                refine lv_iload hx hb dX8_share_75 (lv_at hl 0 rfl) ?_
                refine lv_if_eq (tgt := 84) hx hb dX8_share_77 (by decide) (fun c_77 => ?_) (fun c_77 => ?_)
                · skip
                  exact absurd c_77 (by decide)
                · skip
                  refine lv_iconst (v := 1) hx hb dX8_share_80 (by decide) ?_
                  refine lv_goto (tgt := 96) hx hb dX8_share_81 (by decide) ?_
                  refine lv_i2l hx hb dX8_share_96 rfl ?_
                  refine lv_lmul hx hb dX8_share_97 ?_
                  refine lv_lstore (lv' := [(4, .long ((((t.take j).foldl (mStep gf (dnB au bf dn)) 2097152) / 8) * ((1 : Int32).toInt64))), (7, .int 1), (6, .int (nI j)), (0, .ref h0), (1, .int (nI d)), (2, .int (nI pt)), (3, .int (b2i au))]) hx hb dX8_share_98 hl (by decide) rfl (fun ls hl => ?_)
                  refine lv_iinc (v := nI (j + 1)) (lv' := [(6, .int (nI (j + 1))), (4, .long ((((t.take j).foldl (mStep gf (dnB au bf dn)) 2097152) / 8) * ((1 : Int32).toInt64))), (7, .int 1), (0, .ref h0), (1, .int (nI d)), (2, .int (nI pt)), (3, .int (b2i au))]) hx hb dX8_share_100 hl (k := 2) rfl (nI_1 _) (by decide) rfl (fun ls hl => ?_)
                  refine lv_goto (tgt := 19) hx hb dX8_share_103 (by decide) ?_
                  have q9_4 : ((((t.take j).foldl (mStep gf (dnB au bf dn)) 2097152) / 8) * ((1 : Int32).toInt64)) = ((t.take (j + 1)).foldl (mStep gf (dnB au bf dn)) 2097152) := (by rw [fold_take _ _ t j hlt, ← hra j hlt]; simp [mStep, dnB, c_29, c_44, c_59])
                  exact ih_19 (j + 1) (by omega) (by omega) _ _ (hP.sub [0, 1, 2, 3, 4, 5, 6] rfl) (hD.sub [0, 1, 2, 3, 4, 5, 6] (by decide) rfl) hS ls (lv_cast (lv_sub hl [0, 1, 3, 4, 5, 6] rfl) (lcons rfl (lcons (congrArg (fun z => (4, Value.long z)) q9_4) (lcons rfl (lcons rfl (lcons rfl (lcons rfl rfl)))))))
    have q9_5 : 0 = (nI 0) := rfl
    have q9_6 : 2097152 = ((t.take 0).foldl (mStep gf (dnB au bf dn)) 2097152) := rfl
    exact J_19 9 0 (by omega) (by omega) _ _ (hP.sub [0, 1, 2, 3, 4, 5, 6] rfl) (hD.sub [0, 1, 2, 3, 4, 5, 6] (by decide) rfl) hS ls (lv_cast (lv_sub hl [0, 1, 2, 3, 4, 5] rfl) (lcons (congrArg (fun z => (6, Value.int z)) q9_5) (lcons (congrArg (fun z => (4, Value.long z)) q9_6) (lcons rfl (lcons rfl (lcons rfl (lcons rfl rfl)))))))
  · skip
    have c_6 := b2i_z c_6
    refine lv_lconst (v := 0) hx hb dX8_share_9 (by decide) ?_
    have hP9 := hP.sub (ws' := [(h0, .inr (8, [.ref mk, .ref mg, .ref mhb, .ref mdn, .int (nI nd), .ref mda, .ref mkp, .int kp, .ref mbr, .ref msu, .ref msg, .ref mlo, .int mo, .int ne, .int gl, .int ca, .int (nI no), .ref moa, .ref mog, .ref mop, .int rs9_3, .int rw9_3, .ref mra, .int bc, .int bo, .int be])), eI G mda 4 da, eI G mk 64 kf, eI G mg 64 gf, eZ G mhb 64 bf, eZ G mdn 64 dn, eI G mra 8 ra9_3]) [3, 4, 5, 0, 1, 2, 6] rfl
    have hD9 := hD.sub (ws' := [(h0, .inr (8, [.ref mk, .ref mg, .ref mhb, .ref mdn, .int (nI nd), .ref mda, .ref mkp, .int kp, .ref mbr, .ref msu, .ref msg, .ref mlo, .int mo, .int ne, .int gl, .int ca, .int (nI no), .ref moa, .ref mog, .ref mop, .int rs9_3, .int rw9_3, .ref mra, .int bc, .int bo, .int be])), eI G mda 4 da, eI G mk 64 kf, eI G mg 64 gf, eZ G mhb 64 bf, eZ G mdn 64 dn, eI G mra 8 ra9_3]) [3, 4, 5, 0, 1, 2, 6] (by decide) rfl
    exact W.lret (v := (0 : Int64)) hx hb hr (fun t_ ht_ hW_ => ⟨⟨(0 : Int64), (rs9_3, rw9_3, ra9_3), rfl, (shV_n c_6), by rw [ht_]; exact hP9, hD9⟩, hS.F ht_⟩) hS.2.2 dX8_share_10
