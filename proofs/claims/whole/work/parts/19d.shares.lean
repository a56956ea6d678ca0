set_option maxHeartbeats 4000000 in
set_option maxRecDepth 100000 in
theorem c_X8_shares (ln : Launch) (G : gT) (h0 : Nat) (mk : Nat) (mg : Nat) (mhb : Nat) (mdn : Nat) (mda : Nat) (mkp : Nat) (mbr : Nat) (msu : Nat) (msg : Nat) (mlo : Nat) (moa : Nat) (mog : Nat) (mop : Nat) (mra : Nat) (nd : Nat) (kp : Int32) (mo : Int32) (ne : Int32) (gl : Int32) (ca : Int32) (no : Nat) (rs : Int32) (rw_ : Int32) (bc : Int32) (bo : Int32) (be : Int32) (da : Nat → Int32) (kf : Nat → Int32) (gf : Nat → Int32) (bf : Nat → Bool) (dn : Nat → Bool) (ra : Nat → Int32) (d : Nat) (au : Bool) (x0 : Int32) (y0 : Int32) (sz : Nat) (hd4 : d < 4) (hxy : cellB x0 y0 = true) (hda : da d = y0 * 8 + x0) : Met ln yX8_shares (wA (.code yX8_shares cX8_shares 6 (some .long))) ({ frames := 5, cells := 0, slots := 0, locals := 120 } : Room) (va_Pc [.ref h0, .int (nI d), .int (b2i au)] (rwB G [(h0, .inr (8, [.ref mk, .ref mg, .ref mhb, .ref mdn, .int (nI nd), .ref mda, .ref mkp, .int kp, .ref mbr, .ref msu, .ref msg, .ref mlo, .int mo, .int ne, .int gl, .int ca, .int (nI no), .ref moa, .ref mog, .ref mop, .int rs, .int rw_, .ref mra, .int bc, .int bo, .int be])), eI G mda 4 da, eI G mk 64 kf, eI G mg 64 gf, eZ G mhb 64 bf, eZ G mdn 64 dn, eI G mra 8 ra] sz)) (va_Ql (S := Int32 × Int32 × (Nat → Int32)) (fun (r : Int64) (_ : Int32 × Int32 × (Nat → Int32)) => r = sumL (fun p => shV kf gf (dnB au bf dn) x0 y0 p) 16) (fun u => wdB G (va_A [(h0, .inr (8, [.ref mk, .ref mg, .ref mhb, .ref mdn, .int (nI nd), .ref mda, .ref mkp, .int kp, .ref mbr, .ref msu, .ref msg, .ref mlo, .int mo, .int ne, .int gl, .int ca, .int (nI no), .ref moa, .ref mog, .ref mop, .int rs, .int rw_, .ref mra, .int bc, .int bo, .int be])), eI G mda 4 da, eI G mk 64 kf, eI G mg 64 gf, eZ G mhb 64 bf, eZ G mdn 64 dn, eI G mra 8 ra] sz) [(h0, .inr (8, [.ref mk, .ref mg, .ref mhb, .ref mdn, .int (nI nd), .ref mda, .ref mkp, .int kp, .ref mbr, .ref msu, .ref msg, .ref mlo, .int mo, .int ne, .int gl, .int ca, .int (nI no), .ref moa, .ref mog, .ref mop, .int u.1, .int u.2.1, .ref mra, .int bc, .int bo, .int be])), eI G mda 4 da, eI G mk 64 kf, eI G mg 64 gf, eZ G mhb 64 bf, eZ G mdn 64 dn, eI G mra 8 u.2.2]) (va_A [(h0, .inr (8, [.ref mk, .ref mg, .ref mhb, .ref mdn, .int (nI nd), .ref mda, .ref mkp, .int kp, .ref mbr, .ref msu, .ref msg, .ref mlo, .int mo, .int ne, .int gl, .int ca, .int (nI no), .ref moa, .ref mog, .ref mop, .int rs, .int rw_, .ref mra, .int bc, .int bo, .int be])), eI G mda 4 da, eI G mk 64 kf, eI G mg 64 gf, eZ G mhb 64 bf, eZ G mdn 64 dn, eI G mra 8 ra] sz)) 0 0 (va_A [(h0, .inr (8, [.ref mk, .ref mg, .ref mhb, .ref mdn, .int (nI nd), .ref mda, .ref mkp, .int kp, .ref mbr, .ref msu, .ref msg, .ref mlo, .int mo, .int ne, .int gl, .int ca, .int (nI no), .ref moa, .ref mog, .ref mop, .int rs, .int rw_, .ref mra, .int bc, .int bo, .int be])), eI G mda 4 da, eI G mk 64 kf, eI G mg 64 gf, eZ G mhb 64 bf, eZ G mdn 64 dn, eI G mra 8 ra] sz) := by
  refine Met.ofW (cc := cX8_shares) (maxL := 6) (ret := (some .long)) (by decide) rfl ?_
  intro pg ev s mi args below meth cd s₁ B hml hv
  obtain ⟨rfl, hsz, hP, hE, hD0, hT⟩ := hv
  have hx := B.exec
  have hb := B.bytes
  have hr := B.returns
  have hts0 := atoms_spec (ws := wA (.code yX8_shares cX8_shares 6 (some .long))) B.pre
  have hts : ∀ w ∈ wsA, w.before _ s = true := fun w h => hts0 w (List.mem_cons_of_mem _ h)
  have hown : s.vm.findClass RX8 = some mi.cls := findClass_of_methodNamed B.named
  have hlocks := B.notSynchronized
  subst hsz
  have hD := hD0.self (sz := s.heap.size)
  generalize hAe : va_A [(h0, .inr (8, [.ref mk, .ref mg, .ref mhb, .ref mdn, .int (nI nd), .ref mda, .ref mkp, .int kp, .ref mbr, .ref msu, .ref msg, .ref mlo, .int mo, .int ne, .int gl, .int ca, .int (nI no), .ref moa, .ref mog, .ref mop, .int rs, .int rw_, .ref mra, .int bc, .int bo, .int be])), eI G mda 4 da, eI G mk 64 kf, eI G mg 64 gf, eZ G mhb 64 bf, eZ G mdn 64 dn, eI G mra 8 ra] s.heap.size = A at hD hT ⊢
  have hA : ∀ q : Nat, s.heap.size ≤ q → A q := fun q h => by rw [← hAe]; exact Or.inr h
  have hS : va_S A s.heap s.heap [] := va_S.rf
  have hl := lv_entry ([.ref h0, .int (nI d), .int (b2i au)]) (n := 6) (Nat.le_of_ble_eq_true rfl)
  rw [lg_entry_eq]
  generalize (lg_sl ([.ref h0, .int (nI d), .int (b2i au)]) ++ List.replicate (6 - (lg_sl ([.ref h0, .int (nI d), .int (b2i au)])).length) Slot.unset).toArray = ls at hl ⊢
  have hl : lv_has ls 6 [(0, .ref h0), (1, .int (nI d)), (2, .int (b2i au))] := hl
  refine lv_lconst (v := 0) hx hb dX8_shares_0 (by decide) ?_
  refine lv_lstore_n (lv' := [(3, .long (0 : Int64)), (0, .ref h0), (1, .int (nI d)), (2, .int (b2i au))]) hx hb dX8_shares_1 rfl hl (by decide) rfl (fun ls hl => ?_)
  refine lv_iconst (v := 0) hx hb dX8_shares_2 (by decide) ?_
  refine lv_istore (lv' := [(5, .int 0), (3, .long (0 : Int64)), (0, .ref h0), (1, .int (nI d)), (2, .int (b2i au))]) hx hb dX8_shares_3 hl (by decide) rfl (fun ls hl => ?_)
  have J_5 : ∀ (n_ : Nat), ∀ (j : Nat) (rs1 : Int32) (rw1 : Int32) (ra1 : Nat → Int32), (j ≤ 16) → (17 ≤ j + n_) → ∀ (H : Heap) (locs : List Loc), va_P G.1 vwCl [(h0, .inr (8, [.ref mk, .ref mg, .ref mhb, .ref mdn, .int (nI nd), .ref mda, .ref mkp, .int kp, .ref mbr, .ref msu, .ref msg, .ref mlo, .int mo, .int ne, .int gl, .int ca, .int (nI no), .ref moa, .ref mog, .ref mop, .int rs1, .int rw1, .ref mra, .int bc, .int bo, .int be])), eI G mda 4 da, eI G mk 64 kf, eI G mg 64 gf, eZ G mhb 64 bf, eZ G mdn 64 dn, eI G mra 8 ra1] H → va_D A [(h0, .inr (8, [.ref mk, .ref mg, .ref mhb, .ref mdn, .int (nI nd), .ref mda, .ref mkp, .int kp, .ref mbr, .ref msu, .ref msg, .ref mlo, .int mo, .int ne, .int gl, .int ca, .int (nI no), .ref moa, .ref mog, .ref mop, .int rs1, .int rw1, .ref mra, .int bc, .int bo, .int be])), eI G mda 4 da, eI G mk 64 kf, eI G mg 64 gf, eZ G mhb 64 bf, eZ G mdn 64 dn, eI G mra 8 ra1] → va_S A s.heap H locs → ∀ (ls : Array Slot), lv_has ls 6 [(5, .int (nI j)), (3, .long (sumL (fun p => shV kf gf (dnB au bf dn) x0 y0 p) j)), (0, .ref h0), (1, .int (nI d)), (2, .int (b2i au))] → W pg ln ev ({ frames := 5, cells := 0, slots := 0, locals := 120 } : Room) s mi ([.ref h0, .int (nI d), .int (b2i au)] : List Value).toArray below meth cd H locs 0 0 (MQ below (va_Ql (S := Int32 × Int32 × (Nat → Int32)) (fun (r : Int64) (_ : Int32 × Int32 × (Nat → Int32)) => r = sumL (fun p => shV kf gf (dnB au bf dn) x0 y0 p) 16) (fun u => wdB G A [(h0, .inr (8, [.ref mk, .ref mg, .ref mhb, .ref mdn, .int (nI nd), .ref mda, .ref mkp, .int kp, .ref mbr, .ref msu, .ref msg, .ref mlo, .int mo, .int ne, .int gl, .int ca, .int (nI no), .ref moa, .ref mog, .ref mop, .int u.1, .int u.2.1, .ref mra, .int bc, .int bo, .int be])), eI G mda 4 da, eI G mk 64 kf, eI G mg 64 gf, eZ G mhb 64 bf, eZ G mdn 64 dn, eI G mra 8 u.2.2]) A) ([.ref h0, .int (nI d), .int (b2i au)] : List Value).toArray s 0 0 A) (F0 mi 5 ls []) := by
    intro n_
    induction n_ with
    | zero =>
      intro j rs1 rw1 ra1 hj hfj H locs hP hD hS ls hl
      exact absurd hfj (by omega)
    | succ n_ ih_5 =>
      intro j rs1 rw1 ra1 hj hfj H locs hP hD hS ls hl
      refine lv_iload hx hb dX8_shares_5 (lv_at hl 0 rfl) ?_
      refine lv_bipush (v := 16) hx hb dX8_shares_7 (by decide) ?_
      refine lv_icmp_ge (tgt := 29) hx hb dX8_shares_9 (by decide) (fun c_9 => ?_) (fun c_9 => ?_)
      · skip
        have e_hlt : j = 16 := by
          rcases Nat.lt_or_ge j 16 with q | q
          · exact absurd (show nI 16 ≤ nI j from c_9) (nI_ge q (by omega))
          · omega
        refine lv_lload_n hx hb dX8_shares_29 rfl (lv_at hl 1 rfl) ?_
        have hP9 := hP.sub (ws' := [(h0, .inr (8, [.ref mk, .ref mg, .ref mhb, .ref mdn, .int (nI nd), .ref mda, .ref mkp, .int kp, .ref mbr, .ref msu, .ref msg, .ref mlo, .int mo, .int ne, .int gl, .int ca, .int (nI no), .ref moa, .ref mog, .ref mop, .int rs1, .int rw1, .ref mra, .int bc, .int bo, .int be])), eI G mda 4 da, eI G mk 64 kf, eI G mg 64 gf, eZ G mhb 64 bf, eZ G mdn 64 dn, eI G mra 8 ra1]) [0, 1, 2, 3, 4, 5, 6] rfl
        have hD9 := hD.sub (ws' := [(h0, .inr (8, [.ref mk, .ref mg, .ref mhb, .ref mdn, .int (nI nd), .ref mda, .ref mkp, .int kp, .ref mbr, .ref msu, .ref msg, .ref mlo, .int mo, .int ne, .int gl, .int ca, .int (nI no), .ref moa, .ref mog, .ref mop, .int rs1, .int rw1, .ref mra, .int bc, .int bo, .int be])), eI G mda 4 da, eI G mk 64 kf, eI G mg 64 gf, eZ G mhb 64 bf, eZ G mdn 64 dn, eI G mra 8 ra1]) [0, 1, 2, 3, 4, 5, 6] (by decide) rfl
        exact W.lret (v := sumL (fun p => shV kf gf (dnB au bf dn) x0 y0 p) j) hx hb hr (fun t_ ht_ hW_ => ⟨⟨sumL (fun p => shV kf gf (dnB au bf dn) x0 y0 p) j, (rs1, rw1, ra1), rfl, by rw [e_hlt], by rw [ht_]; exact hP9, hD9⟩, hS.F ht_⟩) hS.2.2 dX8_shares_30
      · skip
        have hlt : j < 16 := by
          rcases Nat.lt_or_ge j 16 with q | q
          · exact q
          · exact absurd (show _ ≤ nI j from (nI_le (a := 16) (b := j) q (by omega))) c_9
        refine lv_lload_n hx hb dX8_shares_12 rfl (lv_at hl 1 rfl) ?_
        refine lv_aload_n hx hb dX8_shares_13 rfl (lv_at hl 2 rfl) ?_
        refine lv_iload_n hx hb dX8_shares_14 rfl (lv_at hl 3 rfl) ?_
        refine lv_iload hx hb dX8_shares_15 (lv_at hl 0 rfl) ?_
        refine lv_iload_n hx hb dX8_shares_17 rfl (lv_at hl 4 rfl) ?_
        have hF_ := va_free (wc := [(h0, .inr (8, [.ref mk, .ref mg, .ref mhb, .ref mdn, .int (nI nd), .ref mda, .ref mkp, .int kp, .ref mbr, .ref msu, .ref msg, .ref mlo, .int mo, .int ne, .int gl, .int ca, .int (nI no), .ref moa, .ref mog, .ref mop, .int rs1, .int rw1, .ref mra, .int bc, .int bo, .int be])), eI G mda 4 da, eI G mk 64 kf, eI G mg 64 gf, eZ G mhb 64 bf, eZ G mdn 64 dn, eI G mra 8 ra1]) hD hS hA [0, 1, 2, 3, 4, 5, 6] rfl
        refine ca_Ql (wr := []) (va_runV (As := [.int (nI d), .int (nI j), .int (b2i au)]) (rest := [.long (sumL (fun p => shV kf gf (dnB au bf dn) x0 y0 p) j)]) ⟨hx, hb, hml, hown, hts⟩ (c_X8_share ln G h0 mk mg mhb mdn mda mkp mbr msu msg mlo moa mog mop mra nd kp mo ne gl ca no rs1 rw1 bc bo be da kf gf bf dn ra1 d j au x0 y0 H.size (by omega) (by omega) hxy hda) (cwV 3 hts (gV kCode_X8_share kMl_X8_104 kIm_X8_share kSel_X8_share kIni_X8) rfl rfl rfl ⟨rfl, hd_X8_share⟩ ⟨Nat.le_of_ble_eq_true rfl, Nat.le_of_ble_eq_true rfl⟩) ⟨rw_blind, va_recv hE.1 hP (ci := 8) (q0 := 0) rfl rfl, (rw_pre (hP.sub [0, 1, 2, 3, 4, 5, 6] rfl) (hD.sub [0, 1, 2, 3, 4, 5, 6] (by decide) rfl) hF_ hS hE hT)⟩ rfl rfl hl.1 rfl (lv_room (Nat.le_of_ble_eq_true rfl)) dX8_shares_18 ⟨Nat.zero_le _, Nat.zero_le _⟩) hP hD hS hA [0, 1, 2, 3, 4, 5, 6] [] rfl rfl rfl (by decide) (fun r_18 u_18 H locs w_18 hP hD hS => ?_)
        obtain ⟨rs9_18, rw9_18, ra9_18⟩ := u_18
        have hP : va_P G.1 vwCl [(h0, .inr (8, [.ref mk, .ref mg, .ref mhb, .ref mdn, .int (nI nd), .ref mda, .ref mkp, .int kp, .ref mbr, .ref msu, .ref msg, .ref mlo, .int mo, .int ne, .int gl, .int ca, .int (nI no), .ref moa, .ref mog, .ref mop, .int rs9_18, .int rw9_18, .ref mra, .int bc, .int bo, .int be])), eI G mda 4 da, eI G mk 64 kf, eI G mg 64 gf, eZ G mhb 64 bf, eZ G mdn 64 dn, eI G mra 8 ra9_18] H := hP
        have hD : va_D A [(h0, .inr (8, [.ref mk, .ref mg, .ref mhb, .ref mdn, .int (nI nd), .ref mda, .ref mkp, .int kp, .ref mbr, .ref msu, .ref msg, .ref mlo, .int mo, .int ne, .int gl, .int ca, .int (nI no), .ref moa, .ref mog, .ref mop, .int rs9_18, .int rw9_18, .ref mra, .int bc, .int bo, .int be])), eI G mda 4 da, eI G mk 64 kf, eI G mg 64 gf, eZ G mhb 64 bf, eZ G mdn 64 dn, eI G mra 8 ra9_18] := hD
        obtain rfl : r_18 = shV kf gf (dnB au bf dn) x0 y0 j := w_18
        refine lv_ladd hx hb dX8_shares_21 ?_
        refine lv_lstore_n (lv' := [(3, .long ((sumL (fun p => shV kf gf (dnB au bf dn) x0 y0 p) j) + (shV kf gf (dnB au bf dn) x0 y0 j))), (5, .int (nI j)), (0, .ref h0), (1, .int (nI d)), (2, .int (b2i au))]) hx hb dX8_shares_22 rfl hl (by decide) rfl (fun ls hl => ?_)
        refine lv_iinc (v := nI (j + 1)) (lv' := [(5, .int (nI (j + 1))), (3, .long ((sumL (fun p => shV kf gf (dnB au bf dn) x0 y0 p) j) + (shV kf gf (dnB au bf dn) x0 y0 j))), (0, .ref h0), (1, .int (nI d)), (2, .int (b2i au))]) hx hb dX8_shares_23 hl (k := 1) rfl (nI_1 _) (by decide) rfl (fun ls hl => ?_)
        refine lv_goto (tgt := 5) hx hb dX8_shares_26 (by decide) ?_
        have q9_1 : ((sumL (fun p => shV kf gf (dnB au bf dn) x0 y0 p) j) + (shV kf gf (dnB au bf dn) x0 y0 j)) = (sumL (fun p => shV kf gf (dnB au bf dn) x0 y0 p) (j + 1)) := rfl
        exact ih_5 (j + 1) rs9_18 rw9_18 ra9_18 (by omega) (by omega) _ _ (hP.sub [0, 1, 2, 3, 4, 5, 6] rfl) (hD.sub [0, 1, 2, 3, 4, 5, 6] (by decide) rfl) hS ls (lv_cast (lv_sub hl [0, 1, 2, 3, 4] rfl) (lcons rfl (lcons (congrArg (fun z => (3, Value.long z)) q9_1) (lcons rfl (lcons rfl (lcons rfl rfl))))))
  have q9_2 : 0 = (nI 0) := rfl
  have q9_3 : (0 : Int64) = (sumL (fun p => shV kf gf (dnB au bf dn) x0 y0 p) 0) := rfl
  exact J_5 17 0 rs rw_ ra (by omega) (by omega) _ _ (hP.sub [0, 1, 2, 3, 4, 5, 6] rfl) (hD.sub [0, 1, 2, 3, 4, 5, 6] (by decide) rfl) hS ls (lv_cast (lv_sub hl [0, 1, 2, 3, 4] rfl) (lcons (congrArg (fun z => (5, Value.int z)) q9_2) (lcons (congrArg (fun z => (3, Value.long z)) q9_3) (lcons rfl (lcons rfl (lcons rfl rfl))))))
set_option maxHeartbeats 4000000 in
set_option maxRecDepth 100000 in
theorem c_X8_skyOf (ln : Launch) (G : gT) (h0 : Nat) (mk : Nat) (mg : Nat) (mhb : Nat) (mdn : Nat) (mda : Nat) (mkp : Nat) (mbr : Nat) (msu : Nat) (msg : Nat) (mlo : Nat) (moa : Nat) (mog : Nat) (mop : Nat) (mra : Nat) (nd : Nat) (kp : Int32) (mo : Int32) (ne : Int32) (gl : Int32) (ca : Int32) (no : Nat) (rs : Int32) (rw_ : Int32) (bc : Int32) (bo : Int32) (be : Int32) (da : Nat → Int32) (kf : Nat → Int32) (gf : Nat → Int32) (bf : Nat → Bool) (dn : Nat → Bool) (ra : Nat → Int32) (d : Nat) (x0 : Int32) (y0 : Int32) (sz : Nat) (hd4 : d < 4) (hxy : cellB x0 y0 = true) (hda : da d = y0 * 8 + x0) : Met ln yX8_skyOf (wA (.code yX8_skyOf cX8_skyOf 2 (some .int))) ({ frames := 6, cells := 0, slots := 0, locals := 145 } : Room) (va_Pc [.ref h0, .int (nI d)] (rwB G [(h0, .inr (8, [.ref mk, .ref mg, .ref mhb, .ref mdn, .int (nI nd), .ref mda, .ref mkp, .int kp, .ref mbr, .ref msu, .ref msg, .ref mlo, .int mo, .int ne, .int gl, .int ca, .int (nI no), .ref moa, .ref mog, .ref mop, .int rs, .int rw_, .ref mra, .int bc, .int bo, .int be])), eI G mda 4 da, eI G mk 64 kf, eI G mg 64 gf, eZ G mhb 64 bf, eZ G mdn 64 dn, eI G mra 8 ra] sz)) (va_Qi (S := Int32 × Int32 × (Nat → Int32)) (fun (r : Int32) (_ : Int32 × Int32 × (Nat → Int32)) => r = (1000 * sumL (fun p => shV kf gf noD x0 y0 p) 16 / 33554432).toInt32) (fun u => wdB G (va_A [(h0, .inr (8, [.ref mk, .ref mg, .ref mhb, .ref mdn, .int (nI nd), .ref mda, .ref mkp, .int kp, .ref mbr, .ref msu, .ref msg, .ref mlo, .int mo, .int ne, .int gl, .int ca, .int (nI no), .ref moa, .ref mog, .ref mop, .int rs, .int rw_, .ref mra, .int bc, .int bo, .int be])), eI G mda 4 da, eI G mk 64 kf, eI G mg 64 gf, eZ G mhb 64 bf, eZ G mdn 64 dn, eI G mra 8 ra] sz) [(h0, .inr (8, [.ref mk, .ref mg, .ref mhb, .ref mdn, .int (nI nd), .ref mda, .ref mkp, .int kp, .ref mbr, .ref msu, .ref msg, .ref mlo, .int mo, .int ne, .int gl, .int ca, .int (nI no), .ref moa, .ref mog, .ref mop, .int u.1, .int u.2.1, .ref mra, .int bc, .int bo, .int be])), eI G mda 4 da, eI G mk 64 kf, eI G mg 64 gf, eZ G mhb 64 bf, eZ G mdn 64 dn, eI G mra 8 u.2.2]) (va_A [(h0, .inr (8, [.ref mk, .ref mg, .ref mhb, .ref mdn, .int (nI nd), .ref mda, .ref mkp, .int kp, .ref mbr, .ref msu, .ref msg, .ref mlo, .int mo, .int ne, .int gl, .int ca, .int (nI no), .ref moa, .ref mog, .ref mop, .int rs, .int rw_, .ref mra, .int bc, .int bo, .int be])), eI G mda 4 da, eI G mk 64 kf, eI G mg 64 gf, eZ G mhb 64 bf, eZ G mdn 64 dn, eI G mra 8 ra] sz)) 0 0 (va_A [(h0, .inr (8, [.ref mk, .ref mg, .ref mhb, .ref mdn, .int (nI nd), .ref mda, .ref mkp, .int kp, .ref mbr, .ref msu, .ref msg, .ref mlo, .int mo, .int ne, .int gl, .int ca, .int (nI no), .ref moa, .ref mog, .ref mop, .int rs, .int rw_, .ref mra, .int bc, .int bo, .int be])), eI G mda 4 da, eI G mk 64 kf, eI G mg 64 gf, eZ G mhb 64 bf, eZ G mdn 64 dn, eI G mra 8 ra] sz) := by
  refine Met.ofW (cc := cX8_skyOf) (maxL := 2) (ret := (some .int)) (by decide) rfl ?_
  intro pg ev s mi args below meth cd s₁ B hml hv
  obtain ⟨rfl, hsz, hP, hE, hD0, hT⟩ := hv
  have hx := B.exec
  have hb := B.bytes
  have hr := B.returns
  have hts0 := atoms_spec (ws := wA (.code yX8_skyOf cX8_skyOf 2 (some .int))) B.pre
  have hts : ∀ w ∈ wsA, w.before _ s = true := fun w h => hts0 w (List.mem_cons_of_mem _ h)
  have hown : s.vm.findClass RX8 = some mi.cls := findClass_of_methodNamed B.named
  have hlocks := B.notSynchronized
  subst hsz
  have hD := hD0.self (sz := s.heap.size)
  generalize hAe : va_A [(h0, .inr (8, [.ref mk, .ref mg, .ref mhb, .ref mdn, .int (nI nd), .ref mda, .ref mkp, .int kp, .ref mbr, .ref msu, .ref msg, .ref mlo, .int mo, .int ne, .int gl, .int ca, .int (nI no), .ref moa, .ref mog, .ref mop, .int rs, .int rw_, .ref mra, .int bc, .int bo, .int be])), eI G mda 4 da, eI G mk 64 kf, eI G mg 64 gf, eZ G mhb 64 bf, eZ G mdn 64 dn, eI G mra 8 ra] s.heap.size = A at hD hT ⊢
  have hA : ∀ q : Nat, s.heap.size ≤ q → A q := fun q h => by rw [← hAe]; exact Or.inr h
  have hS : va_S A s.heap s.heap [] := va_S.rf
  have hl := lv_entry ([.ref h0, .int (nI d)]) (n := 2) (Nat.le_of_ble_eq_true rfl)
  rw [lg_entry_eq]
  generalize (lg_sl ([.ref h0, .int (nI d)]) ++ List.replicate (2 - (lg_sl ([.ref h0, .int (nI d)])).length) Slot.unset).toArray = ls at hl ⊢
  have hl : lv_has ls 2 [(0, .ref h0), (1, .int (nI d))] := hl
  refine lv_ldc2 hx hb hown (hts _ kCl_X8_108) dX8_skyOf_0 ?_
  refine lv_aload_n hx hb dX8_skyOf_3 rfl (lv_at hl 0 rfl) ?_
  refine lv_iload_n hx hb dX8_skyOf_4 rfl (lv_at hl 1 rfl) ?_
  refine lv_iconst (v := 1) hx hb dX8_skyOf_5 (by decide) ?_
  have hF_ := va_free (wc := [(h0, .inr (8, [.ref mk, .ref mg, .ref mhb, .ref mdn, .int (nI nd), .ref mda, .ref mkp, .int kp, .ref mbr, .ref msu, .ref msg, .ref mlo, .int mo, .int ne, .int gl, .int ca, .int (nI no), .ref moa, .ref mog, .ref mop, .int rs, .int rw_, .ref mra, .int bc, .int bo, .int be])), eI G mda 4 da, eI G mk 64 kf, eI G mg 64 gf, eZ G mhb 64 bf, eZ G mdn 64 dn, eI G mra 8 ra]) hD hS hA [0, 1, 2, 3, 4, 5, 6] rfl
  refine ca_Ql (wr := []) (va_runV (As := [.int (nI d), .int 1]) (rest := [.long 1000]) ⟨hx, hb, hml, hown, hts⟩ (c_X8_shares ln G h0 mk mg mhb mdn mda mkp mbr msu msg mlo moa mog mop mra nd kp mo ne gl ca no rs rw_ bc bo be da kf gf bf dn ra d true x0 y0 s.heap.size (by omega) hxy hda) (cwV 2 hts (gV kCode_X8_shares kMl_X8_110 kIm_X8_shares kSel_X8_shares kIni_X8) rfl rfl rfl ⟨rfl, hd_X8_shares⟩ ⟨Nat.le_of_ble_eq_true rfl, Nat.le_of_ble_eq_true rfl⟩) ⟨rw_blind, va_recv hE.1 hP (ci := 8) (q0 := 0) rfl rfl, (rw_pre (hP.sub [0, 1, 2, 3, 4, 5, 6] rfl) (hD.sub [0, 1, 2, 3, 4, 5, 6] (by decide) rfl) hF_ hS hE hT)⟩ rfl rfl hl.1 rfl (lv_room (Nat.le_of_ble_eq_true rfl)) dX8_skyOf_6 ⟨Nat.zero_le _, Nat.zero_le _⟩) hP hD hS hA [0, 1, 2, 3, 4, 5, 6] [] rfl rfl rfl (by decide) (fun r_6 u_6 H locs w_6 hP hD hS => ?_)
  obtain ⟨rs9_6, rw9_6, ra9_6⟩ := u_6
  have hP : va_P G.1 vwCl [(h0, .inr (8, [.ref mk, .ref mg, .ref mhb, .ref mdn, .int (nI nd), .ref mda, .ref mkp, .int kp, .ref mbr, .ref msu, .ref msg, .ref mlo, .int mo, .int ne, .int gl, .int ca, .int (nI no), .ref moa, .ref mog, .ref mop, .int rs9_6, .int rw9_6, .ref mra, .int bc, .int bo, .int be])), eI G mda 4 da, eI G mk 64 kf, eI G mg 64 gf, eZ G mhb 64 bf, eZ G mdn 64 dn, eI G mra 8 ra9_6] H := hP
  have hD : va_D A [(h0, .inr (8, [.ref mk, .ref mg, .ref mhb, .ref mdn, .int (nI nd), .ref mda, .ref mkp, .int kp, .ref mbr, .ref msu, .ref msg, .ref mlo, .int mo, .int ne, .int gl, .int ca, .int (nI no), .ref moa, .ref mog, .ref mop, .int rs9_6, .int rw9_6, .ref mra, .int bc, .int bo, .int be])), eI G mda 4 da, eI G mk 64 kf, eI G mg 64 gf, eZ G mhb 64 bf, eZ G mdn 64 dn, eI G mra 8 ra9_6] := hD
  obtain rfl : r_6 = sumL (fun p => shV kf gf (dnB true bf dn) x0 y0 p) 16 := w_6
  refine lv_lmul hx hb dX8_skyOf_9 ?_
  refine lv_ldc2 hx hb hown (hts _ kCl_X8_114) dX8_skyOf_10 ?_
  refine lv_ldiv hx hb dX8_skyOf_13 (by decide) ?_
  refine lv_l2i hx hb dX8_skyOf_14 rfl ?_
  have hP9 := hP.sub (ws' := [(h0, .inr (8, [.ref mk, .ref mg, .ref mhb, .ref mdn, .int (nI nd), .ref mda, .ref mkp, .int kp, .ref mbr, .ref msu, .ref msg, .ref mlo, .int mo, .int ne, .int gl, .int ca, .int (nI no), .ref moa, .ref mog, .ref mop, .int rs9_6, .int rw9_6, .ref mra, .int bc, .int bo, .int be])), eI G mda 4 da, eI G mk 64 kf, eI G mg 64 gf, eZ G mhb 64 bf, eZ G mdn 64 dn, eI G mra 8 ra9_6]) [0, 1, 2, 3, 4, 5, 6] rfl
  have hD9 := hD.sub (ws' := [(h0, .inr (8, [.ref mk, .ref mg, .ref mhb, .ref mdn, .int (nI nd), .ref mda, .ref mkp, .int kp, .ref mbr, .ref msu, .ref msg, .ref mlo, .int mo, .int ne, .int gl, .int ca, .int (nI no), .ref moa, .ref mog, .ref mop, .int rs9_6, .int rw9_6, .ref mra, .int bc, .int bo, .int be])), eI G mda 4 da, eI G mk 64 kf, eI G mg 64 gf, eZ G mhb 64 bf, eZ G mdn 64 dn, eI G mra 8 ra9_6]) [0, 1, 2, 3, 4, 5, 6] (by decide) rfl
  exact W.iret (v := ((1000 * (sumL (fun p => shV kf gf (dnB true bf dn) x0 y0 p) 16)) / 33554432).toInt32) hx hb hr (fun t_ ht_ hW_ => ⟨⟨((1000 * (sumL (fun p => shV kf gf (dnB true bf dn) x0 y0 p) 16)) / 33554432).toInt32, (rs9_6, rw9_6, ra9_6), rfl, (by rw [dnB_t]), by rw [ht_]; exact hP9, hD9⟩, hS.F ht_⟩) hS.2.2 dX8_skyOf_15
set_option maxHeartbeats 4000000 in
set_option maxRecDepth 100000 in
theorem c_X8_hasWindow (ln : Launch) (G : gT) (h0 : Nat) (mk : Nat) (mg : Nat) (mhb : Nat) (mdn : Nat) (mda : Nat) (mkp : Nat) (mbr : Nat) (msu : Nat) (msg : Nat) (mlo : Nat) (moa : Nat) (mog : Nat) (mop : Nat) (mra : Nat) (nd : Nat) (kp : Int32) (mo : Int32) (ne : Int32) (gl : Int32) (ca : Int32) (no : Nat) (rs : Int32) (bc : Int32) (bo : Int32) (be : Int32) (ra : Nat → Int32) (tl : Nat) (c : Int32) (htl : tl ≤ 8) : Met ln yX8_hasWindow (wA (.code yX8_hasWindow cX8_hasWindow 4 (some .boolean))) ({ frames := 0, cells := 0, slots := 0, locals := 0 } : Room) (va_Pc [.ref h0, .int c] (roB G [(h0, .inr (8, [.ref mk, .ref mg, .ref mhb, .ref mdn, .int (nI nd), .ref mda, .ref mkp, .int kp, .ref mbr, .ref msu, .ref msg, .ref mlo, .int mo, .int ne, .int gl, .int ca, .int (nI no), .ref moa, .ref mog, .ref mop, .int rs, .int (nI tl), .ref mra, .int bc, .int bo, .int be])), eI G mra 8 ra])) (vp_Si (fun r => r = b2i (wnB ra c tl))) 0 0 (fun _ => False) := by
  refine Met.ofW (cc := cX8_hasWindow) (maxL := 4) (ret := (some .boolean)) (by decide) rfl ?_
  intro pg ev s mi args below meth cd s₁ B hml hv
  obtain ⟨rfl, hP, hE, hT⟩ := hv
  have hx := B.exec
  have hb := B.bytes
  have hr := B.returns
  have hts0 := atoms_spec (ws := wA (.code yX8_hasWindow cX8_hasWindow 4 (some .boolean))) B.pre
  have hts : ∀ w ∈ wsA, w.before _ s = true := fun w h => hts0 w (List.mem_cons_of_mem _ h)
  have hown : s.vm.findClass RX8 = some mi.cls := findClass_of_methodNamed B.named
  have hlocks := B.notSynchronized
  have hS : va_S (fun _ => False) s.heap s.heap [] := va_S.rf
  have hl := lv_entry ([.ref h0, .int c]) (n := 4) (Nat.le_of_ble_eq_true rfl)
  rw [lg_entry_eq]
  generalize (lg_sl ([.ref h0, .int c]) ++ List.replicate (4 - (lg_sl ([.ref h0, .int c])).length) Slot.unset).toArray = ls at hl ⊢
  have hl : lv_has ls 4 [(0, .ref h0), (1, .int c)] := hl
  refine lv_iconst (v := 0) hx hb dX8_hasWindow_0 (by decide) ?_
  refine lv_istore_n (lv' := [(2, .int 0), (0, .ref h0), (1, .int c)]) hx hb dX8_hasWindow_1 rfl hl (by decide) rfl (fun ls hl => ?_)
  refine lv_iconst (v := 0) hx hb dX8_hasWindow_2 (by decide) ?_
  refine lv_istore_n (lv' := [(3, .int 0), (2, .int 0), (0, .ref h0), (1, .int c)]) hx hb dX8_hasWindow_3 rfl hl (by decide) rfl (fun ls hl => ?_)
  have J_4 : ∀ (n_ : Nat), ∀ (j : Nat), (j ≤ tl) → (9 ≤ j + n_) → ∀ (ls : Array Slot), lv_has ls 4 [(3, .int (nI j)), (2, .int (b2i (wnB ra c j))), (0, .ref h0), (1, .int c)] → W pg ln ev ({ frames := 0, cells := 0, slots := 0, locals := 0 } : Room) s mi ([.ref h0, .int c] : List Value).toArray below meth cd s.heap [] 0 0 (MQ below (vp_Si (fun r => r = b2i (wnB ra c tl))) ([.ref h0, .int c] : List Value).toArray s 0 0 (fun _ => False)) (F0 mi 4 ls []) := by
    intro n_
    induction n_ with
    | zero =>
      intro j hj hfj ls hl
      exact absurd hfj (by omega)
    | succ n_ ih_4 =>
      intro j hj hfj ls hl
      refine lv_iload_n hx hb dX8_hasWindow_4 rfl (lv_at hl 0 rfl) ?_
      refine lv_aload_n hx hb dX8_hasWindow_5 rfl (lv_at hl 2 rfl) ?_
      refine va_get (ci := 8) (C := RX8) (T := TX8) (N := 26) hx hb hts hinX8 hown hE.1 hP 0 rfl rfl 21 (by decide) (hts _ kFl_X8_91) (fun _ h9 => h9) rfl dX8_hasWindow_6 ?_
      refine lv_icmp_ge (tgt := 38) hx hb dX8_hasWindow_9 (by decide) (fun c_9 => ?_) (fun c_9 => ?_)
      · skip
        have e_hlt : j = tl := by
          rcases Nat.lt_or_ge j tl with q | q
          · exact absurd (show nI tl ≤ nI j from c_9) (nI_ge q (by omega))
          · omega
        refine lv_iload_n hx hb dX8_hasWindow_38 rfl (lv_at hl 1 rfl) ?_
        exact W.zret (v := b2i (wnB ra c j)) hx hb hr (b2i_nar _) (fun t_ ht_ hW_ => ⟨b2i (wnB ra c j), rfl, by rw [e_hlt], ht_⟩) hS.2.2 dX8_hasWindow_39
      · skip
        have hlt : j < tl := by
          rcases Nat.lt_or_ge j tl with q | q
          · exact q
          · exact absurd (show _ ≤ nI j from (nI_le (a := tl) (b := j) q (by omega))) c_9
        refine lv_iload_n hx hb dX8_hasWindow_12 rfl (lv_at hl 1 rfl) ?_
        refine lv_if_ne (tgt := 26) hx hb dX8_hasWindow_13 (by decide) (fun c_13 => ?_) (fun c_13 => ?_)
        · skip
          have c_13 := b2i_n c_13
          refine lv_iconst (v := 1) hx hb dX8_hasWindow_26 (by decide) ?_
          refine lv_goto (tgt := 31) hx hb dX8_hasWindow_27 (by decide) ?_
          refine lv_istore_n (lv' := [(2, .int 1), (3, .int (nI j)), (0, .ref h0), (1, .int c)]) hx hb dX8_hasWindow_31 rfl hl (by decide) rfl (fun ls hl => ?_)
          refine lv_iinc (v := nI (j + 1)) (lv' := [(3, .int (nI (j + 1))), (2, .int 1), (0, .ref h0), (1, .int c)]) hx hb dX8_hasWindow_32 hl (k := 1) rfl (nI_1 _) (by decide) rfl (fun ls hl => ?_)
          refine lv_goto (tgt := 4) hx hb dX8_hasWindow_35 (by decide) ?_
          have q9_1 : 1 = (b2i (wnB ra c (j + 1))) := by simp [wnB, b2i, c_9, c_13]
          exact ih_4 (j + 1) (by omega) (by omega) ls (lv_cast (lv_sub hl [0, 1, 2, 3] rfl) (lcons rfl (lcons (congrArg (fun z => (2, Value.int z)) q9_1) (lcons rfl (lcons rfl rfl)))))
        · skip
          have c_13 := b2i_z c_13
          refine lv_aload_n hx hb dX8_hasWindow_16 rfl (lv_at hl 2 rfl) ?_
          refine va_get (ci := 8) (C := RX8) (T := TX8) (N := 26) hx hb hts hinX8 hown hE.1 hP 0 rfl rfl 22 (by decide) (hts _ kFl_X8_63) (fun _ h9 => h9) rfl dX8_hasWindow_17 ?_
          refine lv_iload_n hx hb dX8_hasWindow_20 rfl (lv_at hl 0 rfl) ?_
          refine ri_ald (j := j) hx hb hE hP 1 rfl (nI_clamp (by omega)) (vp_in_nI (by omega) (by omega)) dX8_hasWindow_21 ?_
          refine lv_iload_n hx hb dX8_hasWindow_22 rfl (lv_at hl 3 rfl) ?_
          refine lv_icmp_ne (tgt := 30) hx hb dX8_hasWindow_23 (by decide) (fun c_23 => ?_) (fun c_23 => ?_)
          · skip
            refine lv_iconst (v := 0) hx hb dX8_hasWindow_30 (by decide) ?_
            refine lv_istore_n (lv' := [(2, .int 0), (3, .int (nI j)), (0, .ref h0), (1, .int c)]) hx hb dX8_hasWindow_31 rfl hl (by decide) rfl (fun ls hl => ?_)
            refine lv_iinc (v := nI (j + 1)) (lv' := [(3, .int (nI (j + 1))), (2, .int 0), (0, .ref h0), (1, .int c)]) hx hb dX8_hasWindow_32 hl (k := 1) rfl (nI_1 _) (by decide) rfl (fun ls hl => ?_)
            refine lv_goto (tgt := 4) hx hb dX8_hasWindow_35 (by decide) ?_
            have q9_2 : 0 = (b2i (wnB ra c (j + 1))) := by simp [wnB, b2i, c_9, c_13, c_23]
            exact ih_4 (j + 1) (by omega) (by omega) ls (lv_cast (lv_sub hl [0, 1, 2, 3] rfl) (lcons rfl (lcons (congrArg (fun z => (2, Value.int z)) q9_2) (lcons rfl (lcons rfl rfl)))))
          · skip
            refine lv_iconst (v := 1) hx hb dX8_hasWindow_26 (by decide) ?_
            refine lv_goto (tgt := 31) hx hb dX8_hasWindow_27 (by decide) ?_
            refine lv_istore_n (lv' := [(2, .int 1), (3, .int (nI j)), (0, .ref h0), (1, .int c)]) hx hb dX8_hasWindow_31 rfl hl (by decide) rfl (fun ls hl => ?_)
            refine lv_iinc (v := nI (j + 1)) (lv' := [(3, .int (nI (j + 1))), (2, .int 1), (0, .ref h0), (1, .int c)]) hx hb dX8_hasWindow_32 hl (k := 1) rfl (nI_1 _) (by decide) rfl (fun ls hl => ?_)
            refine lv_goto (tgt := 4) hx hb dX8_hasWindow_35 (by decide) ?_
            have q9_3 : 1 = (b2i (wnB ra c (j + 1))) := by simp [wnB, b2i, c_9, c_13, c_23]
            exact ih_4 (j + 1) (by omega) (by omega) ls (lv_cast (lv_sub hl [0, 1, 2, 3] rfl) (lcons rfl (lcons (congrArg (fun z => (2, Value.int z)) q9_3) (lcons rfl (lcons rfl rfl)))))
  have q9_4 : 0 = (nI 0) := rfl
  have q9_5 : 0 = (b2i (wnB ra c 0)) := rfl
  exact J_4 9 0 (by omega) (by omega) ls (lv_cast (lv_sub hl [0, 1, 2, 3] rfl) (lcons (congrArg (fun z => (3, Value.int z)) q9_4) (lcons (congrArg (fun z => (2, Value.int z)) q9_5) (lcons rfl (lcons rfl rfl)))))
