set_option maxHeartbeats 4000000 in
set_option maxRecDepth 100000 in
theorem c_X8_lookAt (ln : Launch) (G : gT) (h0 : Nat) (mk : Nat) (mg : Nat) (mhb : Nat) (mdn : Nat) (mda : Nat) (mkp : Nat) (mbr : Nat) (msu : Nat) (msg : Nat) (mlo : Nat) (moa : Nat) (mog : Nat) (mop : Nat) (mra : Nat) (nd : Nat) (kp : Int32) (mo : Int32) (ne : Int32) (gl : Int32) (ca : Int32) (no : Nat) (rs : Int32) (rw_ : Int32) (bc : Int32) (bo : Int32) (be : Int32) (da : Nat → Int32) (kf : Nat → Int32) (gf : Nat → Int32) (bf : Nat → Bool) (dn : Nat → Bool) (pf : Nat → Int32) (sg : Nat → Int32) (lo : Nat → Bool) (ra : Nat → Int32) (xf : Nat → Int32) (yf : Nat → Int32) (h : Nat) (sz : Nat) (hnd : nd ≤ 4) (hh : h < 12) (hdk : dkI nd da xf yf) (hpf : vp_in (pf h) 16) : Met ln yX8_lookAt (wA (.code yX8_lookAt cX8_lookAt 9 none)) ({ frames := 5, cells := 0, slots := 0, locals := 120 } : Room) (va_Pc [.ref h0, .int (nI h)] (rwB G [(h0, .inr (8, [.ref mk, .ref mg, .ref mhb, .ref mdn, .int (nI nd), .ref mda, .ref mkp, .int kp, .ref mbr, .ref msu, .ref msg, .ref mlo, .int mo, .int ne, .int gl, .int ca, .int (nI no), .ref moa, .ref mog, .ref mop, .int rs, .int rw_, .ref mra, .int bc, .int bo, .int be])), eI G mda 4 da, eI G mk 64 kf, eI G mg 64 gf, eZ G mhb 64 bf, eZ G mdn 64 dn, eI G msu 12 pf, eI G msg 12 sg, eZ G mlo 12 lo, eI G mra 8 ra] sz)) (va_Qv (S := Int32 × Int32 × (Nat → Int32)) (fun (_ : Int32 × Int32 × (Nat → Int32)) => True) (fun u => wdB G (va_A [(h0, .inr (8, [.ref mk, .ref mg, .ref mhb, .ref mdn, .int (nI nd), .ref mda, .ref mkp, .int kp, .ref mbr, .ref msu, .ref msg, .ref mlo, .int mo, .int ne, .int gl, .int ca, .int (nI no), .ref moa, .ref mog, .ref mop, .int rs, .int rw_, .ref mra, .int bc, .int bo, .int be])), eI G mda 4 da, eI G mk 64 kf, eI G mg 64 gf, eZ G mhb 64 bf, eZ G mdn 64 dn, eI G msu 12 pf, eI G msg 12 sg, eZ G mlo 12 lo, eI G mra 8 ra] sz) [(h0, .inr (8, [.ref mk, .ref mg, .ref mhb, .ref mdn, .int (nI nd), .ref mda, .ref mkp, .int kp, .ref mbr, .ref msu, .ref msg, .ref mlo, .int mo, .int ne, .int gl, .int ca, .int (nI no), .ref moa, .ref mog, .ref mop, .int u.1, .int u.2.1, .ref mra, .int bc, .int bo, .int be])), eI G mda 4 da, eI G mk 64 kf, eI G mg 64 gf, eZ G mhb 64 bf, eZ G mdn 64 (lkH kf gf xf yf nd bf lo sg pf gl ca h dn), eI G msu 12 pf, eI G msg 12 sg, eZ G mlo 12 lo, eI G mra 8 u.2.2]) (va_A [(h0, .inr (8, [.ref mk, .ref mg, .ref mhb, .ref mdn, .int (nI nd), .ref mda, .ref mkp, .int kp, .ref mbr, .ref msu, .ref msg, .ref mlo, .int mo, .int ne, .int gl, .int ca, .int (nI no), .ref moa, .ref mog, .ref mop, .int rs, .int rw_, .ref mra, .int bc, .int bo, .int be])), eI G mda 4 da, eI G mk 64 kf, eI G mg 64 gf, eZ G mhb 64 bf, eZ G mdn 64 dn, eI G msu 12 pf, eI G msg 12 sg, eZ G mlo 12 lo, eI G mra 8 ra] sz)) 0 0 (va_A [(h0, .inr (8, [.ref mk, .ref mg, .ref mhb, .ref mdn, .int (nI nd), .ref mda, .ref mkp, .int kp, .ref mbr, .ref msu, .ref msg, .ref mlo, .int mo, .int ne, .int gl, .int ca, .int (nI no), .ref moa, .ref mog, .ref mop, .int rs, .int rw_, .ref mra, .int bc, .int bo, .int be])), eI G mda 4 da, eI G mk 64 kf, eI G mg 64 gf, eZ G mhb 64 bf, eZ G mdn 64 dn, eI G msu 12 pf, eI G msg 12 sg, eZ G mlo 12 lo, eI G mra 8 ra] sz) := by
  refine Met.ofW (cc := cX8_lookAt) (maxL := 9) (ret := none) (by decide) rfl ?_
  intro pg ev s mi args below meth cd s₁ B hml hv
  obtain ⟨rfl, hsz, hP, hE, hD0, hT⟩ := hv
  have hx := B.exec
  have hb := B.bytes
  have hr := B.returns
  have hts0 := atoms_spec (ws := wA (.code yX8_lookAt cX8_lookAt 9 none)) B.pre
  have hts : ∀ w ∈ wsA, w.before _ s = true := fun w h => hts0 w (List.mem_cons_of_mem _ h)
  have hown : s.vm.findClass RX8 = some mi.cls := findClass_of_methodNamed B.named
  have hlocks := B.notSynchronized
  subst hsz
  have hD := hD0.self (sz := s.heap.size)
  generalize hAe : va_A [(h0, .inr (8, [.ref mk, .ref mg, .ref mhb, .ref mdn, .int (nI nd), .ref mda, .ref mkp, .int kp, .ref mbr, .ref msu, .ref msg, .ref mlo, .int mo, .int ne, .int gl, .int ca, .int (nI no), .ref moa, .ref mog, .ref mop, .int rs, .int rw_, .ref mra, .int bc, .int bo, .int be])), eI G mda 4 da, eI G mk 64 kf, eI G mg 64 gf, eZ G mhb 64 bf, eZ G mdn 64 dn, eI G msu 12 pf, eI G msg 12 sg, eZ G mlo 12 lo, eI G mra 8 ra] s.heap.size = A at hD hT ⊢
  have hA : ∀ q : Nat, s.heap.size ≤ q → A q := fun q h => by rw [← hAe]; exact Or.inr h
  have hS : va_S A s.heap s.heap [] := va_S.rf
  have hl := lv_entry ([.ref h0, .int (nI h)]) (n := 9) (Nat.le_of_ble_eq_true rfl)
  rw [lg_entry_eq]
  generalize (lg_sl ([.ref h0, .int (nI h)]) ++ List.replicate (9 - (lg_sl ([.ref h0, .int (nI h)])).length) Slot.unset).toArray = ls at hl ⊢
  have hl : lv_has ls 9 [(0, .ref h0), (1, .int (nI h))] := hl
  obtain ⟨hpn, hpm⟩ := nI_back hpf (by omega)
  refine lv_aload_n hx hb dX8_lookAt_0 rfl (lv_at hl 0 rfl) ?_
  refine va_get (ci := 8) (C := RX8) (T := TX8) (N := 26) hx hb hts hinX8 hown hE.1 hP 0 rfl rfl 11 (by decide) (hts _ kFl_X8_38) (fun _ h9 => h9) rfl dX8_lookAt_1 ?_
  refine lv_iload_n hx hb dX8_lookAt_4 rfl (lv_at hl 1 rfl) ?_
  refine rz_ald (j := h) hx hb hE hP 8 rfl (nI_clamp (by omega)) (vp_in_nI (by omega) (by omega)) dX8_lookAt_5 ?_
  refine lv_if_eq (tgt := 10) hx hb dX8_lookAt_6 (by decide) (fun c_6 => ?_) (fun c_6 => ?_)
  · skip
    have c_6 := b2i_z c_6
    refine lv_iconst (v := 0) hx hb dX8_lookAt_10 (by decide) ?_
    refine lv_istore_n (lv' := [(2, .int 0), (0, .ref h0), (1, .int (nI h))]) hx hb dX8_lookAt_11 rfl hl (by decide) rfl (fun ls hl => ?_)
    have J_12 : ∀ (n_ : Nat), ∀ (c : Nat) (rs1 : Int32) (rw1 : Int32) (ra1 : Nat → Int32), (c ≤ 64) → (65 ≤ c + n_) → ∀ (H : Heap) (locs : List Loc), va_P G.1 vwCl [(h0, .inr (8, [.ref mk, .ref mg, .ref mhb, .ref mdn, .int (nI nd), .ref mda, .ref mkp, .int kp, .ref mbr, .ref msu, .ref msg, .ref mlo, .int mo, .int ne, .int gl, .int ca, .int (nI no), .ref moa, .ref mog, .ref mop, .int rs1, .int rw1, .ref mra, .int bc, .int bo, .int be])), eI G mda 4 da, eI G mk 64 kf, eI G mg 64 gf, eZ G mhb 64 bf, eZ G mdn 64 (lkF bf gl ca (grV kf gf xf yf (sg h) (pf h).toNatClampNeg nd) c dn), eI G msu 12 pf, eI G msg 12 sg, eZ G mlo 12 lo, eI G mra 8 ra1] H → va_D A [(h0, .inr (8, [.ref mk, .ref mg, .ref mhb, .ref mdn, .int (nI nd), .ref mda, .ref mkp, .int kp, .ref mbr, .ref msu, .ref msg, .ref mlo, .int mo, .int ne, .int gl, .int ca, .int (nI no), .ref moa, .ref mog, .ref mop, .int rs1, .int rw1, .ref mra, .int bc, .int bo, .int be])), eI G mda 4 da, eI G mk 64 kf, eI G mg 64 gf, eZ G mhb 64 bf, eZ G mdn 64 (lkF bf gl ca (grV kf gf xf yf (sg h) (pf h).toNatClampNeg nd) c dn), eI G msu 12 pf, eI G msg 12 sg, eZ G mlo 12 lo, eI G mra 8 ra1] → va_S A s.heap H locs → ∀ (ls : Array Slot), lv_has ls 9 [(2, .int (nI c)), (0, .ref h0), (1, .int (nI h))] → W pg ln ev ({ frames := 5, cells := 0, slots := 0, locals := 120 } : Room) s mi ([.ref h0, .int (nI h)] : List Value).toArray below meth cd H locs 0 0 (MQ below (va_Qv (S := Int32 × Int32 × (Nat → Int32)) (fun (_ : Int32 × Int32 × (Nat → Int32)) => True) (fun u => wdB G A [(h0, .inr (8, [.ref mk, .ref mg, .ref mhb, .ref mdn, .int (nI nd), .ref mda, .ref mkp, .int kp, .ref mbr, .ref msu, .ref msg, .ref mlo, .int mo, .int ne, .int gl, .int ca, .int (nI no), .ref moa, .ref mog, .ref mop, .int u.1, .int u.2.1, .ref mra, .int bc, .int bo, .int be])), eI G mda 4 da, eI G mk 64 kf, eI G mg 64 gf, eZ G mhb 64 bf, eZ G mdn 64 (lkH kf gf xf yf nd bf lo sg pf gl ca h dn), eI G msu 12 pf, eI G msg 12 sg, eZ G mlo 12 lo, eI G mra 8 u.2.2]) A) ([.ref h0, .int (nI h)] : List Value).toArray s 0 0 A) (F0 mi 12 ls []) := by
      intro n_
      induction n_ with
      | zero =>
        intro c rs1 rw1 ra1 hc hfc H locs hP hD hS ls hl
        exact absurd hfc (by omega)
      | succ n_ ih_12 =>
        intro c rs1 rw1 ra1 hc hfc H locs hP hD hS ls hl
        refine lv_iload_n hx hb dX8_lookAt_12 rfl (lv_at hl 0 rfl) ?_
        refine lv_bipush (v := 64) hx hb dX8_lookAt_13 (by decide) ?_
        refine lv_icmp_ge (tgt := 224) hx hb dX8_lookAt_15 (by decide) (fun c_15 => ?_) (fun c_15 => ?_)
        · skip
          have e_hlc : c = 64 := by
            rcases Nat.lt_or_ge c 64 with q | q
            · exact absurd (show nI 64 ≤ nI c from c_15) (nI_ge q (by omega))
            · omega
          have hP9 := hP.sub (ws' := [(h0, .inr (8, [.ref mk, .ref mg, .ref mhb, .ref mdn, .int (nI nd), .ref mda, .ref mkp, .int kp, .ref mbr, .ref msu, .ref msg, .ref mlo, .int mo, .int ne, .int gl, .int ca, .int (nI no), .ref moa, .ref mog, .ref mop, .int rs1, .int rw1, .ref mra, .int bc, .int bo, .int be])), eI G mda 4 da, eI G mk 64 kf, eI G mg 64 gf, eZ G mhb 64 bf, eZ G mdn 64 (lkF bf gl ca (grV kf gf xf yf (sg h) (pf h).toNatClampNeg nd) c dn), eI G msu 12 pf, eI G msg 12 sg, eZ G mlo 12 lo, eI G mra 8 ra1]) [0, 1, 2, 3, 4, 5, 6, 7, 8, 9] rfl
          have hD9 := hD.sub (ws' := [(h0, .inr (8, [.ref mk, .ref mg, .ref mhb, .ref mdn, .int (nI nd), .ref mda, .ref mkp, .int kp, .ref mbr, .ref msu, .ref msg, .ref mlo, .int mo, .int ne, .int gl, .int ca, .int (nI no), .ref moa, .ref mog, .ref mop, .int rs1, .int rw1, .ref mra, .int bc, .int bo, .int be])), eI G mda 4 da, eI G mk 64 kf, eI G mg 64 gf, eZ G mhb 64 bf, eZ G mdn 64 (lkF bf gl ca (grV kf gf xf yf (sg h) (pf h).toNatClampNeg nd) c dn), eI G msu 12 pf, eI G msg 12 sg, eZ G mlo 12 lo, eI G mra 8 ra1]) [0, 1, 2, 3, 4, 5, 6, 7, 8, 9] (by decide) rfl
          have q9_1 : (lkF bf gl ca (grV kf gf xf yf (sg h) (pf h).toNatClampNeg nd) c dn) = (lkH kf gf xf yf nd bf lo sg pf gl ca h dn) := by rw [e_hlc, lkH, if_neg (by rw [c_6]; decide)]
          have cw9 : ([(h0, .inr (8, [.ref mk, .ref mg, .ref mhb, .ref mdn, .int (nI nd), .ref mda, .ref mkp, .int kp, .ref mbr, .ref msu, .ref msg, .ref mlo, .int mo, .int ne, .int gl, .int ca, .int (nI no), .ref moa, .ref mog, .ref mop, .int rs1, .int rw1, .ref mra, .int bc, .int bo, .int be])), eI G mda 4 da, eI G mk 64 kf, eI G mg 64 gf, eZ G mhb 64 bf, eZ G mdn 64 (lkF bf gl ca (grV kf gf xf yf (sg h) (pf h).toNatClampNeg nd) c dn), eI G msu 12 pf, eI G msg 12 sg, eZ G mlo 12 lo, eI G mra 8 ra1] : va_W) = [(h0, .inr (8, [.ref mk, .ref mg, .ref mhb, .ref mdn, .int (nI nd), .ref mda, .ref mkp, .int kp, .ref mbr, .ref msu, .ref msg, .ref mlo, .int mo, .int ne, .int gl, .int ca, .int (nI no), .ref moa, .ref mog, .ref mop, .int rs1, .int rw1, .ref mra, .int bc, .int bo, .int be])), eI G mda 4 da, eI G mk 64 kf, eI G mg 64 gf, eZ G mhb 64 bf, eZ G mdn 64 (lkH kf gf xf yf nd bf lo sg pf gl ca h dn), eI G msu 12 pf, eI G msg 12 sg, eZ G mlo 12 lo, eI G mra 8 ra1] := (lcons rfl (lcons rfl (lcons rfl (lcons rfl (lcons rfl (lcons (congrArg (fun z => eZ G mdn 64 z) q9_1) (lcons rfl (lcons rfl (lcons rfl (lcons rfl rfl))))))))))
          have hP9 := va_castP hP9 cw9
          have hD9 := va_castD hD9 cw9
          exact W.vret hx hb hr (fun t_ ht_ hW_ => ⟨⟨(rs1, rw1, ra1), rfl, trivial, by rw [ht_]; exact hP9, hD9⟩, hS.F ht_⟩) hS.2.2 dX8_lookAt_224
        · skip
          have hlc : c < 64 := by
            rcases Nat.lt_or_ge c 64 with q | q
            · exact q
            · exact absurd (show _ ≤ nI c from (nI_le (a := 64) (b := c) q (by omega))) c_15
          refine lv_aload_n hx hb dX8_lookAt_18 rfl (lv_at hl 1 rfl) ?_
          refine va_get (ci := 8) (C := RX8) (T := TX8) (N := 26) hx hb hts hinX8 hown hE.1 hP 0 rfl rfl 2 (by decide) (hts _ kFl_X8_16) (fun _ h9 => h9) rfl dX8_lookAt_19 ?_
          refine lv_iload_n hx hb dX8_lookAt_22 rfl (lv_at hl 0 rfl) ?_
          refine rz_ald (j := c) hx hb hE hP 4 rfl (nI_clamp (by omega)) (vp_in_nI (by omega) (by omega)) dX8_lookAt_23 ?_
          refine lv_if_eq (tgt := 218) hx hb dX8_lookAt_24 (by decide) (fun c_24 => ?_) (fun c_24 => ?_)
          · skip
            have c_24 := b2i_z c_24
            refine lv_iinc (v := nI (c + 1)) (lv' := [(2, .int (nI (c + 1))), (0, .ref h0), (1, .int (nI h))]) hx hb dX8_lookAt_218 hl (k := 0) rfl (nI_1 _) (by decide) rfl (fun ls hl => ?_)
            refine lv_goto (tgt := 12) hx hb dX8_lookAt_221 (by decide) ?_
            have q9_2 : (lkF bf gl ca (grV kf gf xf yf (sg h) (pf h).toNatClampNeg nd) c dn) = (lkF bf gl ca (grV kf gf xf yf (sg h) (pf h).toNatClampNeg nd) (c + 1) dn) := lk_n c_24
            have cw9 : ([(h0, .inr (8, [.ref mk, .ref mg, .ref mhb, .ref mdn, .int (nI nd), .ref mda, .ref mkp, .int kp, .ref mbr, .ref msu, .ref msg, .ref mlo, .int mo, .int ne, .int gl, .int ca, .int (nI no), .ref moa, .ref mog, .ref mop, .int rs1, .int rw1, .ref mra, .int bc, .int bo, .int be])), eI G mda 4 da, eI G mk 64 kf, eI G mg 64 gf, eZ G mhb 64 bf, eZ G mdn 64 (lkF bf gl ca (grV kf gf xf yf (sg h) (pf h).toNatClampNeg nd) c dn), eI G msu 12 pf, eI G msg 12 sg, eZ G mlo 12 lo, eI G mra 8 ra1] : va_W) = [(h0, .inr (8, [.ref mk, .ref mg, .ref mhb, .ref mdn, .int (nI nd), .ref mda, .ref mkp, .int kp, .ref mbr, .ref msu, .ref msg, .ref mlo, .int mo, .int ne, .int gl, .int ca, .int (nI no), .ref moa, .ref mog, .ref mop, .int rs1, .int rw1, .ref mra, .int bc, .int bo, .int be])), eI G mda 4 da, eI G mk 64 kf, eI G mg 64 gf, eZ G mhb 64 bf, eZ G mdn 64 (lkF bf gl ca (grV kf gf xf yf (sg h) (pf h).toNatClampNeg nd) (c + 1) dn), eI G msu 12 pf, eI G msg 12 sg, eZ G mlo 12 lo, eI G mra 8 ra1] := (lcons rfl (lcons rfl (lcons rfl (lcons rfl (lcons rfl (lcons (congrArg (fun z => eZ G mdn 64 z) q9_2) (lcons rfl (lcons rfl (lcons rfl (lcons rfl rfl))))))))))
            exact ih_12 (c + 1) rs1 rw1 ra1 (by omega) (by omega) _ _ (va_castP (hP.sub [0, 1, 2, 3, 4, 5, 6, 7, 8, 9] rfl) cw9) (va_castD (hD.sub [0, 1, 2, 3, 4, 5, 6, 7, 8, 9] (by decide) rfl) cw9) hS ls (lv_sub hl [0, 1, 2] rfl)
          · skip
            have c_24 := b2i_n c_24
            have J_130 : ∀ (rs1c : Int32) (rw1c : Int32) (ra1c : Nat → Int32), ∀ (H : Heap) (locs : List Loc), va_P G.1 vwCl [(h0, .inr (8, [.ref mk, .ref mg, .ref mhb, .ref mdn, .int (nI nd), .ref mda, .ref mkp, .int kp, .ref mbr, .ref msu, .ref msg, .ref mlo, .int mo, .int ne, .int gl, .int ca, .int (nI no), .ref moa, .ref mog, .ref mop, .int rs1c, .int rw1c, .ref mra, .int bc, .int bo, .int be])), eI G mda 4 da, eI G mk 64 kf, eI G mg 64 gf, eZ G mhb 64 bf, eZ G mdn 64 (lkF bf gl ca (grV kf gf xf yf (sg h) (pf h).toNatClampNeg nd) c dn), eI G msu 12 pf, eI G msg 12 sg, eZ G mlo 12 lo, eI G mra 8 ra1c] H → va_D A [(h0, .inr (8, [.ref mk, .ref mg, .ref mhb, .ref mdn, .int (nI nd), .ref mda, .ref mkp, .int kp, .ref mbr, .ref msu, .ref msg, .ref mlo, .int mo, .int ne, .int gl, .int ca, .int (nI no), .ref moa, .ref mog, .ref mop, .int rs1c, .int rw1c, .ref mra, .int bc, .int bo, .int be])), eI G mda 4 da, eI G mk 64 kf, eI G mg 64 gf, eZ G mhb 64 bf, eZ G mdn 64 (lkF bf gl ca (grV kf gf xf yf (sg h) (pf h).toNatClampNeg nd) c dn), eI G msu 12 pf, eI G msg 12 sg, eZ G mlo 12 lo, eI G mra 8 ra1c] → va_S A s.heap H locs → ∀ (ls : Array Slot), lv_has ls 9 [(2, .int (nI c)), (0, .ref h0), (1, .int (nI h)), (3, .long ((grV kf gf xf yf (sg h) (pf h).toNatClampNeg nd) (nI c)))] → W pg ln ev ({ frames := 5, cells := 0, slots := 0, locals := 120 } : Room) s mi ([.ref h0, .int (nI h)] : List Value).toArray below meth cd H locs 0 0 (MQ below (va_Qv (S := Int32 × Int32 × (Nat → Int32)) (fun (_ : Int32 × Int32 × (Nat → Int32)) => True) (fun u => wdB G A [(h0, .inr (8, [.ref mk, .ref mg, .ref mhb, .ref mdn, .int (nI nd), .ref mda, .ref mkp, .int kp, .ref mbr, .ref msu, .ref msg, .ref mlo, .int mo, .int ne, .int gl, .int ca, .int (nI no), .ref moa, .ref mog, .ref mop, .int u.1, .int u.2.1, .ref mra, .int bc, .int bo, .int be])), eI G mda 4 da, eI G mk 64 kf, eI G mg 64 gf, eZ G mhb 64 bf, eZ G mdn 64 (lkH kf gf xf yf nd bf lo sg pf gl ca h dn), eI G msu 12 pf, eI G msg 12 sg, eZ G mlo 12 lo, eI G mra 8 u.2.2]) A) ([.ref h0, .int (nI h)] : List Value).toArray s 0 0 A) (F0 mi 130 ls []) := by
              intro rs1c rw1c ra1c H locs hP hD hS ls hl
              refine lv_aload_n hx hb dX8_lookAt_130 rfl (lv_at hl 1 rfl) ?_
              refine va_get (ci := 8) (C := RX8) (T := TX8) (N := 26) hx hb hts hinX8 hown hE.1 hP 0 rfl rfl 3 (by decide) (hts _ kFl_X8_20) (fun _ h9 => h9) rfl dX8_lookAt_131 ?_
              refine lv_iload_n hx hb dX8_lookAt_134 rfl (lv_at hl 0 rfl) ?_
              refine lv_aload_n hx hb dX8_lookAt_135 rfl (lv_at hl 1 rfl) ?_
              refine va_get (ci := 8) (C := RX8) (T := TX8) (N := 26) hx hb hts hinX8 hown hE.1 hP 0 rfl rfl 3 (by decide) (hts _ kFl_X8_20) (fun _ h9 => h9) rfl dX8_lookAt_136 ?_
              refine lv_iload_n hx hb dX8_lookAt_139 rfl (lv_at hl 0 rfl) ?_
              refine rz_ald (j := c) hx hb hE hP 5 rfl (nI_clamp (by omega)) (vp_in_nI (by omega) (by omega)) dX8_lookAt_140 ?_
              refine lv_if_eq (tgt := 166) hx hb dX8_lookAt_141 (by decide) (fun c_141 => ?_) (fun c_141 => ?_)
              · skip
                have c_141 := b2i_z c_141
                rw [lk_at] at c_141
                refine lv_lload_n hx hb dX8_lookAt_166 rfl (lv_at hl 3 rfl) ?_
                refine lv_lconst (v := 0) hx hb dX8_lookAt_167 (by decide) ?_
                refine W.lcmp hx hb dX8_lookAt_168 ?_
                refine lv_if_lt (tgt := 190) hx hb dX8_lookAt_169 (by decide) (fun c_169 => ?_) (fun c_169 => ?_)
                · skip
                  rw [lg_cmp_lt] at c_169
                  refine lv_iconst (v := 0) hx hb dX8_lookAt_190 (by decide) ?_
                  refine rz_ast (j := c) (b := false) hx hb hE hP hD hS 5 rfl (nI_clamp (by omega)) rfl (vp_in_nI (by omega) (by omega)) dX8_lookAt_191 (fun H locs hP hD hS => ?_)
                  have hP : va_P G.1 vwCl [(h0, .inr (8, [.ref mk, .ref mg, .ref mhb, .ref mdn, .int (nI nd), .ref mda, .ref mkp, .int kp, .ref mbr, .ref msu, .ref msg, .ref mlo, .int mo, .int ne, .int gl, .int ca, .int (nI no), .ref moa, .ref mog, .ref mop, .int rs1c, .int rw1c, .ref mra, .int bc, .int bo, .int be])), eI G mda 4 da, eI G mk 64 kf, eI G mg 64 gf, eZ G mhb 64 bf, eZ G mdn 64 (bu (lkF bf gl ca (grV kf gf xf yf (sg h) (pf h).toNatClampNeg nd) c dn) c false), eI G msu 12 pf, eI G msg 12 sg, eZ G mlo 12 lo, eI G mra 8 ra1c] H := hP
                  have hD : va_D A [(h0, .inr (8, [.ref mk, .ref mg, .ref mhb, .ref mdn, .int (nI nd), .ref mda, .ref mkp, .int kp, .ref mbr, .ref msu, .ref msg, .ref mlo, .int mo, .int ne, .int gl, .int ca, .int (nI no), .ref moa, .ref mog, .ref mop, .int rs1c, .int rw1c, .ref mra, .int bc, .int bo, .int be])), eI G mda 4 da, eI G mk 64 kf, eI G mg 64 gf, eZ G mhb 64 bf, eZ G mdn 64 (bu (lkF bf gl ca (grV kf gf xf yf (sg h) (pf h).toNatClampNeg nd) c dn) c false), eI G msu 12 pf, eI G msg 12 sg, eZ G mlo 12 lo, eI G mra 8 ra1c] := hD
                  refine lv_aload_n hx hb dX8_lookAt_192 rfl (lv_at hl 1 rfl) ?_
                  refine va_get (ci := 8) (C := RX8) (T := TX8) (N := 26) hx hb hts hinX8 hown hE.1 hP 0 rfl rfl 3 (by decide) (hts _ kFl_X8_20) (fun _ h9 => h9) rfl dX8_lookAt_193 ?_
                  refine lv_iload_n hx hb dX8_lookAt_196 rfl (lv_at hl 0 rfl) ?_
                  refine lv_aload_n hx hb dX8_lookAt_197 rfl (lv_at hl 1 rfl) ?_
                  refine va_get (ci := 8) (C := RX8) (T := TX8) (N := 26) hx hb hts hinX8 hown hE.1 hP 0 rfl rfl 3 (by decide) (hts _ kFl_X8_20) (fun _ h9 => h9) rfl dX8_lookAt_198 ?_
                  refine lv_iload_n hx hb dX8_lookAt_201 rfl (lv_at hl 0 rfl) ?_
                  refine rz_ald (j := c) hx hb hE hP 5 rfl (nI_clamp (by omega)) (vp_in_nI (by omega) (by omega)) dX8_lookAt_202 ?_
                  refine W.eq (congrArg (fun z => F0 mi 203 ls [.int z, .int (nI c), .ref mdn]) (show b2i ((bu (lkF bf gl ca (grV kf gf xf yf (sg h) (pf h).toNatClampNeg nd) c dn) c false) c) = 0 from by rw [bu_at]; rfl)) ?_
                  refine lv_if_eq (tgt := 216) hx hb dX8_lookAt_203 (by decide) (fun c_203 => ?_) (fun c_203 => ?_)
                  · skip
                    refine lv_iconst (v := 0) hx hb dX8_lookAt_216 (by decide) ?_
                    refine rz_ast (j := c) (b := false) hx hb hE hP hD hS 5 rfl (nI_clamp (by omega)) rfl (vp_in_nI (by omega) (by omega)) dX8_lookAt_217 (fun H locs hP hD hS => ?_)
                    have hP : va_P G.1 vwCl [(h0, .inr (8, [.ref mk, .ref mg, .ref mhb, .ref mdn, .int (nI nd), .ref mda, .ref mkp, .int kp, .ref mbr, .ref msu, .ref msg, .ref mlo, .int mo, .int ne, .int gl, .int ca, .int (nI no), .ref moa, .ref mog, .ref mop, .int rs1c, .int rw1c, .ref mra, .int bc, .int bo, .int be])), eI G mda 4 da, eI G mk 64 kf, eI G mg 64 gf, eZ G mhb 64 bf, eZ G mdn 64 (bu (bu (lkF bf gl ca (grV kf gf xf yf (sg h) (pf h).toNatClampNeg nd) c dn) c false) c false), eI G msu 12 pf, eI G msg 12 sg, eZ G mlo 12 lo, eI G mra 8 ra1c] H := hP
                    have hD : va_D A [(h0, .inr (8, [.ref mk, .ref mg, .ref mhb, .ref mdn, .int (nI nd), .ref mda, .ref mkp, .int kp, .ref mbr, .ref msu, .ref msg, .ref mlo, .int mo, .int ne, .int gl, .int ca, .int (nI no), .ref moa, .ref mog, .ref mop, .int rs1c, .int rw1c, .ref mra, .int bc, .int bo, .int be])), eI G mda 4 da, eI G mk 64 kf, eI G mg 64 gf, eZ G mhb 64 bf, eZ G mdn 64 (bu (bu (lkF bf gl ca (grV kf gf xf yf (sg h) (pf h).toNatClampNeg nd) c dn) c false) c false), eI G msu 12 pf, eI G msg 12 sg, eZ G mlo 12 lo, eI G mra 8 ra1c] := hD
                    refine lv_iinc (v := nI (c + 1)) (lv' := [(2, .int (nI (c + 1))), (0, .ref h0), (1, .int (nI h)), (3, .long ((grV kf gf xf yf (sg h) (pf h).toNatClampNeg nd) (nI c)))]) hx hb dX8_lookAt_218 hl (k := 0) rfl (nI_1 _) (by decide) rfl (fun ls hl => ?_)
                    refine lv_goto (tgt := 12) hx hb dX8_lookAt_221 (by decide) ?_
                    have q9_3 : (bu (bu (lkF bf gl ca (grV kf gf xf yf (sg h) (pf h).toNatClampNeg nd) c dn) c false) c false) = (lkF bf gl ca (grV kf gf xf yf (sg h) (pf h).toNatClampNeg nd) (c + 1) dn) := lk_s c_24 (by first | (simp [nwD, c_141, c_169]; done) | exact absurd c_209 c_169)
                    have cw9 : ([(h0, .inr (8, [.ref mk, .ref mg, .ref mhb, .ref mdn, .int (nI nd), .ref mda, .ref mkp, .int kp, .ref mbr, .ref msu, .ref msg, .ref mlo, .int mo, .int ne, .int gl, .int ca, .int (nI no), .ref moa, .ref mog, .ref mop, .int rs1c, .int rw1c, .ref mra, .int bc, .int bo, .int be])), eI G mda 4 da, eI G mk 64 kf, eI G mg 64 gf, eZ G mhb 64 bf, eZ G mdn 64 (bu (bu (lkF bf gl ca (grV kf gf xf yf (sg h) (pf h).toNatClampNeg nd) c dn) c false) c false), eI G msu 12 pf, eI G msg 12 sg, eZ G mlo 12 lo, eI G mra 8 ra1c] : va_W) = [(h0, .inr (8, [.ref mk, .ref mg, .ref mhb, .ref mdn, .int (nI nd), .ref mda, .ref mkp, .int kp, .ref mbr, .ref msu, .ref msg, .ref mlo, .int mo, .int ne, .int gl, .int ca, .int (nI no), .ref moa, .ref mog, .ref mop, .int rs1c, .int rw1c, .ref mra, .int bc, .int bo, .int be])), eI G mda 4 da, eI G mk 64 kf, eI G mg 64 gf, eZ G mhb 64 bf, eZ G mdn 64 (lkF bf gl ca (grV kf gf xf yf (sg h) (pf h).toNatClampNeg nd) (c + 1) dn), eI G msu 12 pf, eI G msg 12 sg, eZ G mlo 12 lo, eI G mra 8 ra1c] := (lcons rfl (lcons rfl (lcons rfl (lcons rfl (lcons rfl (lcons (congrArg (fun z => eZ G mdn 64 z) q9_3) (lcons rfl (lcons rfl (lcons rfl (lcons rfl rfl))))))))))
                    exact ih_12 (c + 1) rs1c rw1c ra1c (by omega) (by omega) _ _ (va_castP (hP.sub [0, 1, 2, 3, 4, 5, 6, 7, 8, 9] rfl) cw9) (va_castD (hD.sub [0, 1, 2, 3, 4, 5, 6, 7, 8, 9] (by decide) rfl) cw9) hS ls (lv_sub hl [0, 1, 2] rfl)
                  · skip
                    exact absurd c_203 (by decide)
                · skip
                  rw [lg_cmp_lt] at c_169
                  refine lv_lload_n hx hb dX8_lookAt_172 rfl (lv_at hl 3 rfl) ?_
                  refine lv_aload_n hx hb dX8_lookAt_173 rfl (lv_at hl 1 rfl) ?_
                  refine va_get (ci := 8) (C := RX8) (T := TX8) (N := 26) hx hb hts hinX8 hown hE.1 hP 0 rfl rfl 14 (by decide) (hts _ kFl_X8_48) (fun _ h9 => h9) rfl dX8_lookAt_174 ?_
                  refine lv_i2l hx hb dX8_lookAt_177 rfl ?_
                  refine lv_ldc2 hx hb hown (hts _ kCl_X8_100) dX8_lookAt_178 ?_
                  refine lv_lmul hx hb dX8_lookAt_181 ?_
                  refine W.lcmp hx hb dX8_lookAt_182 ?_
                  refine lv_if_lt (tgt := 190) hx hb dX8_lookAt_183 (by decide) (fun c_183 => ?_) (fun c_183 => ?_)
                  · skip
                    rw [lg_cmp_lt] at c_183
                    refine lv_iconst (v := 0) hx hb dX8_lookAt_190 (by decide) ?_
                    refine rz_ast (j := c) (b := false) hx hb hE hP hD hS 5 rfl (nI_clamp (by omega)) rfl (vp_in_nI (by omega) (by omega)) dX8_lookAt_191 (fun H locs hP hD hS => ?_)
                    have hP : va_P G.1 vwCl [(h0, .inr (8, [.ref mk, .ref mg, .ref mhb, .ref mdn, .int (nI nd), .ref mda, .ref mkp, .int kp, .ref mbr, .ref msu, .ref msg, .ref mlo, .int mo, .int ne, .int gl, .int ca, .int (nI no), .ref moa, .ref mog, .ref mop, .int rs1c, .int rw1c, .ref mra, .int bc, .int bo, .int be])), eI G mda 4 da, eI G mk 64 kf, eI G mg 64 gf, eZ G mhb 64 bf, eZ G mdn 64 (bu (lkF bf gl ca (grV kf gf xf yf (sg h) (pf h).toNatClampNeg nd) c dn) c false), eI G msu 12 pf, eI G msg 12 sg, eZ G mlo 12 lo, eI G mra 8 ra1c] H := hP
                    have hD : va_D A [(h0, .inr (8, [.ref mk, .ref mg, .ref mhb, .ref mdn, .int (nI nd), .ref mda, .ref mkp, .int kp, .ref mbr, .ref msu, .ref msg, .ref mlo, .int mo, .int ne, .int gl, .int ca, .int (nI no), .ref moa, .ref mog, .ref mop, .int rs1c, .int rw1c, .ref mra, .int bc, .int bo, .int be])), eI G mda 4 da, eI G mk 64 kf, eI G mg 64 gf, eZ G mhb 64 bf, eZ G mdn 64 (bu (lkF bf gl ca (grV kf gf xf yf (sg h) (pf h).toNatClampNeg nd) c dn) c false), eI G msu 12 pf, eI G msg 12 sg, eZ G mlo 12 lo, eI G mra 8 ra1c] := hD
                    refine lv_aload_n hx hb dX8_lookAt_192 rfl (lv_at hl 1 rfl) ?_
                    refine va_get (ci := 8) (C := RX8) (T := TX8) (N := 26) hx hb hts hinX8 hown hE.1 hP 0 rfl rfl 3 (by decide) (hts _ kFl_X8_20) (fun _ h9 => h9) rfl dX8_lookAt_193 ?_
                    refine lv_iload_n hx hb dX8_lookAt_196 rfl (lv_at hl 0 rfl) ?_
                    refine lv_aload_n hx hb dX8_lookAt_197 rfl (lv_at hl 1 rfl) ?_
                    refine va_get (ci := 8) (C := RX8) (T := TX8) (N := 26) hx hb hts hinX8 hown hE.1 hP 0 rfl rfl 3 (by decide) (hts _ kFl_X8_20) (fun _ h9 => h9) rfl dX8_lookAt_198 ?_
                    refine lv_iload_n hx hb dX8_lookAt_201 rfl (lv_at hl 0 rfl) ?_
                    refine rz_ald (j := c) hx hb hE hP 5 rfl (nI_clamp (by omega)) (vp_in_nI (by omega) (by omega)) dX8_lookAt_202 ?_
                    refine W.eq (congrArg (fun z => F0 mi 203 ls [.int z, .int (nI c), .ref mdn]) (show b2i ((bu (lkF bf gl ca (grV kf gf xf yf (sg h) (pf h).toNatClampNeg nd) c dn) c false) c) = 0 from by rw [bu_at]; rfl)) ?_
                    refine lv_if_eq (tgt := 216) hx hb dX8_lookAt_203 (by decide) (fun c_203 => ?_) (fun c_203 => ?_)
                    · skip
                      refine lv_iconst (v := 0) hx hb dX8_lookAt_216 (by decide) ?_
                      refine rz_ast (j := c) (b := false) hx hb hE hP hD hS 5 rfl (nI_clamp (by omega)) rfl (vp_in_nI (by omega) (by omega)) dX8_lookAt_217 (fun H locs hP hD hS => ?_)
                      have hP : va_P G.1 vwCl [(h0, .inr (8, [.ref mk, .ref mg, .ref mhb, .ref mdn, .int (nI nd), .ref mda, .ref mkp, .int kp, .ref mbr, .ref msu, .ref msg, .ref mlo, .int mo, .int ne, .int gl, .int ca, .int (nI no), .ref moa, .ref mog, .ref mop, .int rs1c, .int rw1c, .ref mra, .int bc, .int bo, .int be])), eI G mda 4 da, eI G mk 64 kf, eI G mg 64 gf, eZ G mhb 64 bf, eZ G mdn 64 (bu (bu (lkF bf gl ca (grV kf gf xf yf (sg h) (pf h).toNatClampNeg nd) c dn) c false) c false), eI G msu 12 pf, eI G msg 12 sg, eZ G mlo 12 lo, eI G mra 8 ra1c] H := hP
                      have hD : va_D A [(h0, .inr (8, [.ref mk, .ref mg, .ref mhb, .ref mdn, .int (nI nd), .ref mda, .ref mkp, .int kp, .ref mbr, .ref msu, .ref msg, .ref mlo, .int mo, .int ne, .int gl, .int ca, .int (nI no), .ref moa, .ref mog, .ref mop, .int rs1c, .int rw1c, .ref mra, .int bc, .int bo, .int be])), eI G mda 4 da, eI G mk 64 kf, eI G mg 64 gf, eZ G mhb 64 bf, eZ G mdn 64 (bu (bu (lkF bf gl ca (grV kf gf xf yf (sg h) (pf h).toNatClampNeg nd) c dn) c false) c false), eI G msu 12 pf, eI G msg 12 sg, eZ G mlo 12 lo, eI G mra 8 ra1c] := hD
                      refine lv_iinc (v := nI (c + 1)) (lv' := [(2, .int (nI (c + 1))), (0, .ref h0), (1, .int (nI h)), (3, .long ((grV kf gf xf yf (sg h) (pf h).toNatClampNeg nd) (nI c)))]) hx hb dX8_lookAt_218 hl (k := 0) rfl (nI_1 _) (by decide) rfl (fun ls hl => ?_)
                      refine lv_goto (tgt := 12) hx hb dX8_lookAt_221 (by decide) ?_
                      have q9_4 : (bu (bu (lkF bf gl ca (grV kf gf xf yf (sg h) (pf h).toNatClampNeg nd) c dn) c false) c false) = (lkF bf gl ca (grV kf gf xf yf (sg h) (pf h).toNatClampNeg nd) (c + 1) dn) := lk_s c_24 (by first | (simp [nwD, c_141, c_169, c_183]; done) | exact absurd c_209 c_169)
                      have cw9 : ([(h0, .inr (8, [.ref mk, .ref mg, .ref mhb, .ref mdn, .int (nI nd), .ref mda, .ref mkp, .int kp, .ref mbr, .ref msu, .ref msg, .ref mlo, .int mo, .int ne, .int gl, .int ca, .int (nI no), .ref moa, .ref mog, .ref mop, .int rs1c, .int rw1c, .ref mra, .int bc, .int bo, .int be])), eI G mda 4 da, eI G mk 64 kf, eI G mg 64 gf, eZ G mhb 64 bf, eZ G mdn 64 (bu (bu (lkF bf gl ca (grV kf gf xf yf (sg h) (pf h).toNatClampNeg nd) c dn) c false) c false), eI G msu 12 pf, eI G msg 12 sg, eZ G mlo 12 lo, eI G mra 8 ra1c] : va_W) = [(h0, .inr (8, [.ref mk, .ref mg, .ref mhb, .ref mdn, .int (nI nd), .ref mda, .ref mkp, .int kp, .ref mbr, .ref msu, .ref msg, .ref mlo, .int mo, .int ne, .int gl, .int ca, .int (nI no), .ref moa, .ref mog, .ref mop, .int rs1c, .int rw1c, .ref mra, .int bc, .int bo, .int be])), eI G mda 4 da, eI G mk 64 kf, eI G mg 64 gf, eZ G mhb 64 bf, eZ G mdn 64 (lkF bf gl ca (grV kf gf xf yf (sg h) (pf h).toNatClampNeg nd) (c + 1) dn), eI G msu 12 pf, eI G msg 12 sg, eZ G mlo 12 lo, eI G mra 8 ra1c] := (lcons rfl (lcons rfl (lcons rfl (lcons rfl (lcons rfl (lcons (congrArg (fun z => eZ G mdn 64 z) q9_4) (lcons rfl (lcons rfl (lcons rfl (lcons rfl rfl))))))))))
                      exact ih_12 (c + 1) rs1c rw1c ra1c (by omega) (by omega) _ _ (va_castP (hP.sub [0, 1, 2, 3, 4, 5, 6, 7, 8, 9] rfl) cw9) (va_castD (hD.sub [0, 1, 2, 3, 4, 5, 6, 7, 8, 9] (by decide) rfl) cw9) hS ls (lv_sub hl [0, 1, 2] rfl)
                    · skip
                      exact absurd c_203 (by decide)
                  · skip
                    rw [lg_cmp_lt] at c_183
                    refine lv_iconst (v := 1) hx hb dX8_lookAt_186 (by decide) ?_
                    refine lv_goto (tgt := 191) hx hb dX8_lookAt_187 (by decide) ?_
                    refine rz_ast (j := c) (b := true) hx hb hE hP hD hS 5 rfl (nI_clamp (by omega)) rfl (vp_in_nI (by omega) (by omega)) dX8_lookAt_191 (fun H locs hP hD hS => ?_)
                    have hP : va_P G.1 vwCl [(h0, .inr (8, [.ref mk, .ref mg, .ref mhb, .ref mdn, .int (nI nd), .ref mda, .ref mkp, .int kp, .ref mbr, .ref msu, .ref msg, .ref mlo, .int mo, .int ne, .int gl, .int ca, .int (nI no), .ref moa, .ref mog, .ref mop, .int rs1c, .int rw1c, .ref mra, .int bc, .int bo, .int be])), eI G mda 4 da, eI G mk 64 kf, eI G mg 64 gf, eZ G mhb 64 bf, eZ G mdn 64 (bu (lkF bf gl ca (grV kf gf xf yf (sg h) (pf h).toNatClampNeg nd) c dn) c true), eI G msu 12 pf, eI G msg 12 sg, eZ G mlo 12 lo, eI G mra 8 ra1c] H := hP
                    have hD : va_D A [(h0, .inr (8, [.ref mk, .ref mg, .ref mhb, .ref mdn, .int (nI nd), .ref mda, .ref mkp, .int kp, .ref mbr, .ref msu, .ref msg, .ref mlo, .int mo, .int ne, .int gl, .int ca, .int (nI no), .ref moa, .ref mog, .ref mop, .int rs1c, .int rw1c, .ref mra, .int bc, .int bo, .int be])), eI G mda 4 da, eI G mk 64 kf, eI G mg 64 gf, eZ G mhb 64 bf, eZ G mdn 64 (bu (lkF bf gl ca (grV kf gf xf yf (sg h) (pf h).toNatClampNeg nd) c dn) c true), eI G msu 12 pf, eI G msg 12 sg, eZ G mlo 12 lo, eI G mra 8 ra1c] := hD
                    refine lv_aload_n hx hb dX8_lookAt_192 rfl (lv_at hl 1 rfl) ?_
                    refine va_get (ci := 8) (C := RX8) (T := TX8) (N := 26) hx hb hts hinX8 hown hE.1 hP 0 rfl rfl 3 (by decide) (hts _ kFl_X8_20) (fun _ h9 => h9) rfl dX8_lookAt_193 ?_
                    refine lv_iload_n hx hb dX8_lookAt_196 rfl (lv_at hl 0 rfl) ?_
                    refine lv_aload_n hx hb dX8_lookAt_197 rfl (lv_at hl 1 rfl) ?_
                    refine va_get (ci := 8) (C := RX8) (T := TX8) (N := 26) hx hb hts hinX8 hown hE.1 hP 0 rfl rfl 3 (by decide) (hts _ kFl_X8_20) (fun _ h9 => h9) rfl dX8_lookAt_198 ?_
                    refine lv_iload_n hx hb dX8_lookAt_201 rfl (lv_at hl 0 rfl) ?_
                    refine rz_ald (j := c) hx hb hE hP 5 rfl (nI_clamp (by omega)) (vp_in_nI (by omega) (by omega)) dX8_lookAt_202 ?_
                    refine W.eq (congrArg (fun z => F0 mi 203 ls [.int z, .int (nI c), .ref mdn]) (show b2i ((bu (lkF bf gl ca (grV kf gf xf yf (sg h) (pf h).toNatClampNeg nd) c dn) c true) c) = 1 from by rw [bu_at]; rfl)) ?_
                    refine lv_if_eq (tgt := 216) hx hb dX8_lookAt_203 (by decide) (fun c_203 => ?_) (fun c_203 => ?_)
                    · skip
                      exact absurd c_203 (by decide)
                    · skip
                      refine lv_lload_n hx hb dX8_lookAt_206 rfl (lv_at hl 3 rfl) ?_
                      refine lv_lconst (v := 0) hx hb dX8_lookAt_207 (by decide) ?_
                      refine W.lcmp hx hb dX8_lookAt_208 ?_
                      refine lv_if_lt (tgt := 216) hx hb dX8_lookAt_209 (by decide) (fun c_209 => ?_) (fun c_209 => ?_)
                      · skip
                        rw [lg_cmp_lt] at c_209
                        refine lv_iconst (v := 0) hx hb dX8_lookAt_216 (by decide) ?_
                        refine rz_ast (j := c) (b := false) hx hb hE hP hD hS 5 rfl (nI_clamp (by omega)) rfl (vp_in_nI (by omega) (by omega)) dX8_lookAt_217 (fun H locs hP hD hS => ?_)
                        have hP : va_P G.1 vwCl [(h0, .inr (8, [.ref mk, .ref mg, .ref mhb, .ref mdn, .int (nI nd), .ref mda, .ref mkp, .int kp, .ref mbr, .ref msu, .ref msg, .ref mlo, .int mo, .int ne, .int gl, .int ca, .int (nI no), .ref moa, .ref mog, .ref mop, .int rs1c, .int rw1c, .ref mra, .int bc, .int bo, .int be])), eI G mda 4 da, eI G mk 64 kf, eI G mg 64 gf, eZ G mhb 64 bf, eZ G mdn 64 (bu (bu (lkF bf gl ca (grV kf gf xf yf (sg h) (pf h).toNatClampNeg nd) c dn) c true) c false), eI G msu 12 pf, eI G msg 12 sg, eZ G mlo 12 lo, eI G mra 8 ra1c] H := hP
                        have hD : va_D A [(h0, .inr (8, [.ref mk, .ref mg, .ref mhb, .ref mdn, .int (nI nd), .ref mda, .ref mkp, .int kp, .ref mbr, .ref msu, .ref msg, .ref mlo, .int mo, .int ne, .int gl, .int ca, .int (nI no), .ref moa, .ref mog, .ref mop, .int rs1c, .int rw1c, .ref mra, .int bc, .int bo, .int be])), eI G mda 4 da, eI G mk 64 kf, eI G mg 64 gf, eZ G mhb 64 bf, eZ G mdn 64 (bu (bu (lkF bf gl ca (grV kf gf xf yf (sg h) (pf h).toNatClampNeg nd) c dn) c true) c false), eI G msu 12 pf, eI G msg 12 sg, eZ G mlo 12 lo, eI G mra 8 ra1c] := hD
                        refine lv_iinc (v := nI (c + 1)) (lv' := [(2, .int (nI (c + 1))), (0, .ref h0), (1, .int (nI h)), (3, .long ((grV kf gf xf yf (sg h) (pf h).toNatClampNeg nd) (nI c)))]) hx hb dX8_lookAt_218 hl (k := 0) rfl (nI_1 _) (by decide) rfl (fun ls hl => ?_)
                        refine lv_goto (tgt := 12) hx hb dX8_lookAt_221 (by decide) ?_
                        have q9_5 : (bu (bu (lkF bf gl ca (grV kf gf xf yf (sg h) (pf h).toNatClampNeg nd) c dn) c true) c false) = (lkF bf gl ca (grV kf gf xf yf (sg h) (pf h).toNatClampNeg nd) (c + 1) dn) := lk_s c_24 (by first | (simp [nwD, c_141, c_169, c_183, c_209]; done) | exact absurd c_209 c_169)
                        have cw9 : ([(h0, .inr (8, [.ref mk, .ref mg, .ref mhb, .ref mdn, .int (nI nd), .ref mda, .ref mkp, .int kp, .ref mbr, .ref msu, .ref msg, .ref mlo, .int mo, .int ne, .int gl, .int ca, .int (nI no), .ref moa, .ref mog, .ref mop, .int rs1c, .int rw1c, .ref mra, .int bc, .int bo, .int be])), eI G mda 4 da, eI G mk 64 kf, eI G mg 64 gf, eZ G mhb 64 bf, eZ G mdn 64 (bu (bu (lkF bf gl ca (grV kf gf xf yf (sg h) (pf h).toNatClampNeg nd) c dn) c true) c false), eI G msu 12 pf, eI G msg 12 sg, eZ G mlo 12 lo, eI G mra 8 ra1c] : va_W) = [(h0, .inr (8, [.ref mk, .ref mg, .ref mhb, .ref mdn, .int (nI nd), .ref mda, .ref mkp, .int kp, .ref mbr, .ref msu, .ref msg, .ref mlo, .int mo, .int ne, .int gl, .int ca, .int (nI no), .ref moa, .ref mog, .ref mop, .int rs1c, .int rw1c, .ref mra, .int bc, .int bo, .int be])), eI G mda 4 da, eI G mk 64 kf, eI G mg 64 gf, eZ G mhb 64 bf, eZ G mdn 64 (lkF bf gl ca (grV kf gf xf yf (sg h) (pf h).toNatClampNeg nd) (c + 1) dn), eI G msu 12 pf, eI G msg 12 sg, eZ G mlo 12 lo, eI G mra 8 ra1c] := (lcons rfl (lcons rfl (lcons rfl (lcons rfl (lcons rfl (lcons (congrArg (fun z => eZ G mdn 64 z) q9_5) (lcons rfl (lcons rfl (lcons rfl (lcons rfl rfl))))))))))
                        exact ih_12 (c + 1) rs1c rw1c ra1c (by omega) (by omega) _ _ (va_castP (hP.sub [0, 1, 2, 3, 4, 5, 6, 7, 8, 9] rfl) cw9) (va_castD (hD.sub [0, 1, 2, 3, 4, 5, 6, 7, 8, 9] (by decide) rfl) cw9) hS ls (lv_sub hl [0, 1, 2] rfl)
                      · skip
                        rw [lg_cmp_lt] at c_209
                        refine lv_iconst (v := 1) hx hb dX8_lookAt_212 (by decide) ?_
                        refine lv_goto (tgt := 217) hx hb dX8_lookAt_213 (by decide) ?_
                        refine rz_ast (j := c) (b := true) hx hb hE hP hD hS 5 rfl (nI_clamp (by omega)) rfl (vp_in_nI (by omega) (by omega)) dX8_lookAt_217 (fun H locs hP hD hS => ?_)
                        have hP : va_P G.1 vwCl [(h0, .inr (8, [.ref mk, .ref mg, .ref mhb, .ref mdn, .int (nI nd), .ref mda, .ref mkp, .int kp, .ref mbr, .ref msu, .ref msg, .ref mlo, .int mo, .int ne, .int gl, .int ca, .int (nI no), .ref moa, .ref mog, .ref mop, .int rs1c, .int rw1c, .ref mra, .int bc, .int bo, .int be])), eI G mda 4 da, eI G mk 64 kf, eI G mg 64 gf, eZ G mhb 64 bf, eZ G mdn 64 (bu (bu (lkF bf gl ca (grV kf gf xf yf (sg h) (pf h).toNatClampNeg nd) c dn) c true) c true), eI G msu 12 pf, eI G msg 12 sg, eZ G mlo 12 lo, eI G mra 8 ra1c] H := hP
                        have hD : va_D A [(h0, .inr (8, [.ref mk, .ref mg, .ref mhb, .ref mdn, .int (nI nd), .ref mda, .ref mkp, .int kp, .ref mbr, .ref msu, .ref msg, .ref mlo, .int mo, .int ne, .int gl, .int ca, .int (nI no), .ref moa, .ref mog, .ref mop, .int rs1c, .int rw1c, .ref mra, .int bc, .int bo, .int be])), eI G mda 4 da, eI G mk 64 kf, eI G mg 64 gf, eZ G mhb 64 bf, eZ G mdn 64 (bu (bu (lkF bf gl ca (grV kf gf xf yf (sg h) (pf h).toNatClampNeg nd) c dn) c true) c true), eI G msu 12 pf, eI G msg 12 sg, eZ G mlo 12 lo, eI G mra 8 ra1c] := hD
                        refine lv_iinc (v := nI (c + 1)) (lv' := [(2, .int (nI (c + 1))), (0, .ref h0), (1, .int (nI h)), (3, .long ((grV kf gf xf yf (sg h) (pf h).toNatClampNeg nd) (nI c)))]) hx hb dX8_lookAt_218 hl (k := 0) rfl (nI_1 _) (by decide) rfl (fun ls hl => ?_)
                        refine lv_goto (tgt := 12) hx hb dX8_lookAt_221 (by decide) ?_
                        have q9_6 : (bu (bu (lkF bf gl ca (grV kf gf xf yf (sg h) (pf h).toNatClampNeg nd) c dn) c true) c true) = (lkF bf gl ca (grV kf gf xf yf (sg h) (pf h).toNatClampNeg nd) (c + 1) dn) := lk_s c_24 (by first | (simp [nwD, c_141, c_169, c_183, c_209]; done) | exact absurd c_209 c_169)
                        have cw9 : ([(h0, .inr (8, [.ref mk, .ref mg, .ref mhb, .ref mdn, .int (nI nd), .ref mda, .ref mkp, .int kp, .ref mbr, .ref msu, .ref msg, .ref mlo, .int mo, .int ne, .int gl, .int ca, .int (nI no), .ref moa, .ref mog, .ref mop, .int rs1c, .int rw1c, .ref mra, .int bc, .int bo, .int be])), eI G mda 4 da, eI G mk 64 kf, eI G mg 64 gf, eZ G mhb 64 bf, eZ G mdn 64 (bu (bu (lkF bf gl ca (grV kf gf xf yf (sg h) (pf h).toNatClampNeg nd) c dn) c true) c true), eI G msu 12 pf, eI G msg 12 sg, eZ G mlo 12 lo, eI G mra 8 ra1c] : va_W) = [(h0, .inr (8, [.ref mk, .ref mg, .ref mhb, .ref mdn, .int (nI nd), .ref mda, .ref mkp, .int kp, .ref mbr, .ref msu, .ref msg, .ref mlo, .int mo, .int ne, .int gl, .int ca, .int (nI no), .ref moa, .ref mog, .ref mop, .int rs1c, .int rw1c, .ref mra, .int bc, .int bo, .int be])), eI G mda 4 da, eI G mk 64 kf, eI G mg 64 gf, eZ G mhb 64 bf, eZ G mdn 64 (lkF bf gl ca (grV kf gf xf yf (sg h) (pf h).toNatClampNeg nd) (c + 1) dn), eI G msu 12 pf, eI G msg 12 sg, eZ G mlo 12 lo, eI G mra 8 ra1c] := (lcons rfl (lcons rfl (lcons rfl (lcons rfl (lcons rfl (lcons (congrArg (fun z => eZ G mdn 64 z) q9_6) (lcons rfl (lcons rfl (lcons rfl (lcons rfl rfl))))))))))
                        exact ih_12 (c + 1) rs1c rw1c ra1c (by omega) (by omega) _ _ (va_castP (hP.sub [0, 1, 2, 3, 4, 5, 6, 7, 8, 9] rfl) cw9) (va_castD (hD.sub [0, 1, 2, 3, 4, 5, 6, 7, 8, 9] (by decide) rfl) cw9) hS ls (lv_sub hl [0, 1, 2] rfl)
              · skip
                have c_141 := b2i_n c_141
                rw [lk_at] at c_141
                refine lv_lload_n hx hb dX8_lookAt_144 rfl (lv_at hl 3 rfl) ?_
                refine lv_aload_n hx hb dX8_lookAt_145 rfl (lv_at hl 1 rfl) ?_
                refine va_get (ci := 8) (C := RX8) (T := TX8) (N := 26) hx hb hts hinX8 hown hE.1 hP 0 rfl rfl 15 (by decide) (hts _ kFl_X8_51) (fun _ h9 => h9) rfl dX8_lookAt_146 ?_
                refine lv_i2l hx hb dX8_lookAt_149 rfl ?_
                refine lv_ldc2 hx hb hown (hts _ kCl_X8_100) dX8_lookAt_150 ?_
                refine lv_lmul hx hb dX8_lookAt_153 ?_
                refine W.lcmp hx hb dX8_lookAt_154 ?_
                refine lv_if_lt (tgt := 162) hx hb dX8_lookAt_155 (by decide) (fun c_155 => ?_) (fun c_155 => ?_)
                · skip
                  rw [lg_cmp_lt] at c_155
                  refine lv_iconst (v := 0) hx hb dX8_lookAt_162 (by decide) ?_
                  refine lv_goto (tgt := 191) hx hb dX8_lookAt_163 (by decide) ?_
                  refine rz_ast (j := c) (b := false) hx hb hE hP hD hS 5 rfl (nI_clamp (by omega)) rfl (vp_in_nI (by omega) (by omega)) dX8_lookAt_191 (fun H locs hP hD hS => ?_)
                  have hP : va_P G.1 vwCl [(h0, .inr (8, [.ref mk, .ref mg, .ref mhb, .ref mdn, .int (nI nd), .ref mda, .ref mkp, .int kp, .ref mbr, .ref msu, .ref msg, .ref mlo, .int mo, .int ne, .int gl, .int ca, .int (nI no), .ref moa, .ref mog, .ref mop, .int rs1c, .int rw1c, .ref mra, .int bc, .int bo, .int be])), eI G mda 4 da, eI G mk 64 kf, eI G mg 64 gf, eZ G mhb 64 bf, eZ G mdn 64 (bu (lkF bf gl ca (grV kf gf xf yf (sg h) (pf h).toNatClampNeg nd) c dn) c false), eI G msu 12 pf, eI G msg 12 sg, eZ G mlo 12 lo, eI G mra 8 ra1c] H := hP
                  have hD : va_D A [(h0, .inr (8, [.ref mk, .ref mg, .ref mhb, .ref mdn, .int (nI nd), .ref mda, .ref mkp, .int kp, .ref mbr, .ref msu, .ref msg, .ref mlo, .int mo, .int ne, .int gl, .int ca, .int (nI no), .ref moa, .ref mog, .ref mop, .int rs1c, .int rw1c, .ref mra, .int bc, .int bo, .int be])), eI G mda 4 da, eI G mk 64 kf, eI G mg 64 gf, eZ G mhb 64 bf, eZ G mdn 64 (bu (lkF bf gl ca (grV kf gf xf yf (sg h) (pf h).toNatClampNeg nd) c dn) c false), eI G msu 12 pf, eI G msg 12 sg, eZ G mlo 12 lo, eI G mra 8 ra1c] := hD
                  refine lv_aload_n hx hb dX8_lookAt_192 rfl (lv_at hl 1 rfl) ?_
                  refine va_get (ci := 8) (C := RX8) (T := TX8) (N := 26) hx hb hts hinX8 hown hE.1 hP 0 rfl rfl 3 (by decide) (hts _ kFl_X8_20) (fun _ h9 => h9) rfl dX8_lookAt_193 ?_
                  refine lv_iload_n hx hb dX8_lookAt_196 rfl (lv_at hl 0 rfl) ?_
                  refine lv_aload_n hx hb dX8_lookAt_197 rfl (lv_at hl 1 rfl) ?_
                  refine va_get (ci := 8) (C := RX8) (T := TX8) (N := 26) hx hb hts hinX8 hown hE.1 hP 0 rfl rfl 3 (by decide) (hts _ kFl_X8_20) (fun _ h9 => h9) rfl dX8_lookAt_198 ?_
                  refine lv_iload_n hx hb dX8_lookAt_201 rfl (lv_at hl 0 rfl) ?_
                  refine rz_ald (j := c) hx hb hE hP 5 rfl (nI_clamp (by omega)) (vp_in_nI (by omega) (by omega)) dX8_lookAt_202 ?_
                  refine W.eq (congrArg (fun z => F0 mi 203 ls [.int z, .int (nI c), .ref mdn]) (show b2i ((bu (lkF bf gl ca (grV kf gf xf yf (sg h) (pf h).toNatClampNeg nd) c dn) c false) c) = 0 from by rw [bu_at]; rfl)) ?_
                  refine lv_if_eq (tgt := 216) hx hb dX8_lookAt_203 (by decide) (fun c_203 => ?_) (fun c_203 => ?_)
                  · skip
                    refine lv_iconst (v := 0) hx hb dX8_lookAt_216 (by decide) ?_
                    refine rz_ast (j := c) (b := false) hx hb hE hP hD hS 5 rfl (nI_clamp (by omega)) rfl (vp_in_nI (by omega) (by omega)) dX8_lookAt_217 (fun H locs hP hD hS => ?_)
                    have hP : va_P G.1 vwCl [(h0, .inr (8, [.ref mk, .ref mg, .ref mhb, .ref mdn, .int (nI nd), .ref mda, .ref mkp, .int kp, .ref mbr, .ref msu, .ref msg, .ref mlo, .int mo, .int ne, .int gl, .int ca, .int (nI no), .ref moa, .ref mog, .ref mop, .int rs1c, .int rw1c, .ref mra, .int bc, .int bo, .int be])), eI G mda 4 da, eI G mk 64 kf, eI G mg 64 gf, eZ G mhb 64 bf, eZ G mdn 64 (bu (bu (lkF bf gl ca (grV kf gf xf yf (sg h) (pf h).toNatClampNeg nd) c dn) c false) c false), eI G msu 12 pf, eI G msg 12 sg, eZ G mlo 12 lo, eI G mra 8 ra1c] H := hP
                    have hD : va_D A [(h0, .inr (8, [.ref mk, .ref mg, .ref mhb, .ref mdn, .int (nI nd), .ref mda, .ref mkp, .int kp, .ref mbr, .ref msu, .ref msg, .ref mlo, .int mo, .int ne, .int gl, .int ca, .int (nI no), .ref moa, .ref mog, .ref mop, .int rs1c, .int rw1c, .ref mra, .int bc, .int bo, .int be])), eI G mda 4 da, eI G mk 64 kf, eI G mg 64 gf, eZ G mhb 64 bf, eZ G mdn 64 (bu (bu (lkF bf gl ca (grV kf gf xf yf (sg h) (pf h).toNatClampNeg nd) c dn) c false) c false), eI G msu 12 pf, eI G msg 12 sg, eZ G mlo 12 lo, eI G mra 8 ra1c] := hD
                    refine lv_iinc (v := nI (c + 1)) (lv' := [(2, .int (nI (c + 1))), (0, .ref h0), (1, .int (nI h)), (3, .long ((grV kf gf xf yf (sg h) (pf h).toNatClampNeg nd) (nI c)))]) hx hb dX8_lookAt_218 hl (k := 0) rfl (nI_1 _) (by decide) rfl (fun ls hl => ?_)
                    refine lv_goto (tgt := 12) hx hb dX8_lookAt_221 (by decide) ?_
                    have q9_7 : (bu (bu (lkF bf gl ca (grV kf gf xf yf (sg h) (pf h).toNatClampNeg nd) c dn) c false) c false) = (lkF bf gl ca (grV kf gf xf yf (sg h) (pf h).toNatClampNeg nd) (c + 1) dn) := lk_s c_24 (by first | (simp [nwD, c_141, c_155]; done) | exact absurd c_209 c_169)
                    have cw9 : ([(h0, .inr (8, [.ref mk, .ref mg, .ref mhb, .ref mdn, .int (nI nd), .ref mda, .ref mkp, .int kp, .ref mbr, .ref msu, .ref msg, .ref mlo, .int mo, .int ne, .int gl, .int ca, .int (nI no), .ref moa, .ref mog, .ref mop, .int rs1c, .int rw1c, .ref mra, .int bc, .int bo, .int be])), eI G mda 4 da, eI G mk 64 kf, eI G mg 64 gf, eZ G mhb 64 bf, eZ G mdn 64 (bu (bu (lkF bf gl ca (grV kf gf xf yf (sg h) (pf h).toNatClampNeg nd) c dn) c false) c false), eI G msu 12 pf, eI G msg 12 sg, eZ G mlo 12 lo, eI G mra 8 ra1c] : va_W) = [(h0, .inr (8, [.ref mk, .ref mg, .ref mhb, .ref mdn, .int (nI nd), .ref mda, .ref mkp, .int kp, .ref mbr, .ref msu, .ref msg, .ref mlo, .int mo, .int ne, .int gl, .int ca, .int (nI no), .ref moa, .ref mog, .ref mop, .int rs1c, .int rw1c, .ref mra, .int bc, .int bo, .int be])), eI G mda 4 da, eI G mk 64 kf, eI G mg 64 gf, eZ G mhb 64 bf, eZ G mdn 64 (lkF bf gl ca (grV kf gf xf yf (sg h) (pf h).toNatClampNeg nd) (c + 1) dn), eI G msu 12 pf, eI G msg 12 sg, eZ G mlo 12 lo, eI G mra 8 ra1c] := (lcons rfl (lcons rfl (lcons rfl (lcons rfl (lcons rfl (lcons (congrArg (fun z => eZ G mdn 64 z) q9_7) (lcons rfl (lcons rfl (lcons rfl (lcons rfl rfl))))))))))
                    exact ih_12 (c + 1) rs1c rw1c ra1c (by omega) (by omega) _ _ (va_castP (hP.sub [0, 1, 2, 3, 4, 5, 6, 7, 8, 9] rfl) cw9) (va_castD (hD.sub [0, 1, 2, 3, 4, 5, 6, 7, 8, 9] (by decide) rfl) cw9) hS ls (lv_sub hl [0, 1, 2] rfl)
                  · skip
                    exact absurd c_203 (by decide)
                · skip
                  rw [lg_cmp_lt] at c_155
                  refine lv_iconst (v := 1) hx hb dX8_lookAt_158 (by decide) ?_
                  refine lv_goto (tgt := 191) hx hb dX8_lookAt_159 (by decide) ?_
                  refine rz_ast (j := c) (b := true) hx hb hE hP hD hS 5 rfl (nI_clamp (by omega)) rfl (vp_in_nI (by omega) (by omega)) dX8_lookAt_191 (fun H locs hP hD hS => ?_)
                  have hP : va_P G.1 vwCl [(h0, .inr (8, [.ref mk, .ref mg, .ref mhb, .ref mdn, .int (nI nd), .ref mda, .ref mkp, .int kp, .ref mbr, .ref msu, .ref msg, .ref mlo, .int mo, .int ne, .int gl, .int ca, .int (nI no), .ref moa, .ref mog, .ref mop, .int rs1c, .int rw1c, .ref mra, .int bc, .int bo, .int be])), eI G mda 4 da, eI G mk 64 kf, eI G mg 64 gf, eZ G mhb 64 bf, eZ G mdn 64 (bu (lkF bf gl ca (grV kf gf xf yf (sg h) (pf h).toNatClampNeg nd) c dn) c true), eI G msu 12 pf, eI G msg 12 sg, eZ G mlo 12 lo, eI G mra 8 ra1c] H := hP
                  have hD : va_D A [(h0, .inr (8, [.ref mk, .ref mg, .ref mhb, .ref mdn, .int (nI nd), .ref mda, .ref mkp, .int kp, .ref mbr, .ref msu, .ref msg, .ref mlo, .int mo, .int ne, .int gl, .int ca, .int (nI no), .ref moa, .ref mog, .ref mop, .int rs1c, .int rw1c, .ref mra, .int bc, .int bo, .int be])), eI G mda 4 da, eI G mk 64 kf, eI G mg 64 gf, eZ G mhb 64 bf, eZ G mdn 64 (bu (lkF bf gl ca (grV kf gf xf yf (sg h) (pf h).toNatClampNeg nd) c dn) c true), eI G msu 12 pf, eI G msg 12 sg, eZ G mlo 12 lo, eI G mra 8 ra1c] := hD
                  refine lv_aload_n hx hb dX8_lookAt_192 rfl (lv_at hl 1 rfl) ?_
                  refine va_get (ci := 8) (C := RX8) (T := TX8) (N := 26) hx hb hts hinX8 hown hE.1 hP 0 rfl rfl 3 (by decide) (hts _ kFl_X8_20) (fun _ h9 => h9) rfl dX8_lookAt_193 ?_
                  refine lv_iload_n hx hb dX8_lookAt_196 rfl (lv_at hl 0 rfl) ?_
                  refine lv_aload_n hx hb dX8_lookAt_197 rfl (lv_at hl 1 rfl) ?_
                  refine va_get (ci := 8) (C := RX8) (T := TX8) (N := 26) hx hb hts hinX8 hown hE.1 hP 0 rfl rfl 3 (by decide) (hts _ kFl_X8_20) (fun _ h9 => h9) rfl dX8_lookAt_198 ?_
                  refine lv_iload_n hx hb dX8_lookAt_201 rfl (lv_at hl 0 rfl) ?_
                  refine rz_ald (j := c) hx hb hE hP 5 rfl (nI_clamp (by omega)) (vp_in_nI (by omega) (by omega)) dX8_lookAt_202 ?_
                  refine W.eq (congrArg (fun z => F0 mi 203 ls [.int z, .int (nI c), .ref mdn]) (show b2i ((bu (lkF bf gl ca (grV kf gf xf yf (sg h) (pf h).toNatClampNeg nd) c dn) c true) c) = 1 from by rw [bu_at]; rfl)) ?_
                  refine lv_if_eq (tgt := 216) hx hb dX8_lookAt_203 (by decide) (fun c_203 => ?_) (fun c_203 => ?_)
                  · skip
                    exact absurd c_203 (by decide)
                  · skip
                    refine lv_lload_n hx hb dX8_lookAt_206 rfl (lv_at hl 3 rfl) ?_
                    refine lv_lconst (v := 0) hx hb dX8_lookAt_207 (by decide) ?_
                    refine W.lcmp hx hb dX8_lookAt_208 ?_
                    refine lv_if_lt (tgt := 216) hx hb dX8_lookAt_209 (by decide) (fun c_209 => ?_) (fun c_209 => ?_)
                    · skip
                      rw [lg_cmp_lt] at c_209
                      refine lv_iconst (v := 0) hx hb dX8_lookAt_216 (by decide) ?_
                      refine rz_ast (j := c) (b := false) hx hb hE hP hD hS 5 rfl (nI_clamp (by omega)) rfl (vp_in_nI (by omega) (by omega)) dX8_lookAt_217 (fun H locs hP hD hS => ?_)
                      have hP : va_P G.1 vwCl [(h0, .inr (8, [.ref mk, .ref mg, .ref mhb, .ref mdn, .int (nI nd), .ref mda, .ref mkp, .int kp, .ref mbr, .ref msu, .ref msg, .ref mlo, .int mo, .int ne, .int gl, .int ca, .int (nI no), .ref moa, .ref mog, .ref mop, .int rs1c, .int rw1c, .ref mra, .int bc, .int bo, .int be])), eI G mda 4 da, eI G mk 64 kf, eI G mg 64 gf, eZ G mhb 64 bf, eZ G mdn 64 (bu (bu (lkF bf gl ca (grV kf gf xf yf (sg h) (pf h).toNatClampNeg nd) c dn) c true) c false), eI G msu 12 pf, eI G msg 12 sg, eZ G mlo 12 lo, eI G mra 8 ra1c] H := hP
                      have hD : va_D A [(h0, .inr (8, [.ref mk, .ref mg, .ref mhb, .ref mdn, .int (nI nd), .ref mda, .ref mkp, .int kp, .ref mbr, .ref msu, .ref msg, .ref mlo, .int mo, .int ne, .int gl, .int ca, .int (nI no), .ref moa, .ref mog, .ref mop, .int rs1c, .int rw1c, .ref mra, .int bc, .int bo, .int be])), eI G mda 4 da, eI G mk 64 kf, eI G mg 64 gf, eZ G mhb 64 bf, eZ G mdn 64 (bu (bu (lkF bf gl ca (grV kf gf xf yf (sg h) (pf h).toNatClampNeg nd) c dn) c true) c false), eI G msu 12 pf, eI G msg 12 sg, eZ G mlo 12 lo, eI G mra 8 ra1c] := hD
                      refine lv_iinc (v := nI (c + 1)) (lv' := [(2, .int (nI (c + 1))), (0, .ref h0), (1, .int (nI h)), (3, .long ((grV kf gf xf yf (sg h) (pf h).toNatClampNeg nd) (nI c)))]) hx hb dX8_lookAt_218 hl (k := 0) rfl (nI_1 _) (by decide) rfl (fun ls hl => ?_)
                      refine lv_goto (tgt := 12) hx hb dX8_lookAt_221 (by decide) ?_
                      have q9_8 : (bu (bu (lkF bf gl ca (grV kf gf xf yf (sg h) (pf h).toNatClampNeg nd) c dn) c true) c false) = (lkF bf gl ca (grV kf gf xf yf (sg h) (pf h).toNatClampNeg nd) (c + 1) dn) := lk_s c_24 (by first | (simp [nwD, c_141, c_155, c_209]; done) | exact absurd c_209 c_169)
                      have cw9 : ([(h0, .inr (8, [.ref mk, .ref mg, .ref mhb, .ref mdn, .int (nI nd), .ref mda, .ref mkp, .int kp, .ref mbr, .ref msu, .ref msg, .ref mlo, .int mo, .int ne, .int gl, .int ca, .int (nI no), .ref moa, .ref mog, .ref mop, .int rs1c, .int rw1c, .ref mra, .int bc, .int bo, .int be])), eI G mda 4 da, eI G mk 64 kf, eI G mg 64 gf, eZ G mhb 64 bf, eZ G mdn 64 (bu (bu (lkF bf gl ca (grV kf gf xf yf (sg h) (pf h).toNatClampNeg nd) c dn) c true) c false), eI G msu 12 pf, eI G msg 12 sg, eZ G mlo 12 lo, eI G mra 8 ra1c] : va_W) = [(h0, .inr (8, [.ref mk, .ref mg, .ref mhb, .ref mdn, .int (nI nd), .ref mda, .ref mkp, .int kp, .ref mbr, .ref msu, .ref msg, .ref mlo, .int mo, .int ne, .int gl, .int ca, .int (nI no), .ref moa, .ref mog, .ref mop, .int rs1c, .int rw1c, .ref mra, .int bc, .int bo, .int be])), eI G mda 4 da, eI G mk 64 kf, eI G mg 64 gf, eZ G mhb 64 bf, eZ G mdn 64 (lkF bf gl ca (grV kf gf xf yf (sg h) (pf h).toNatClampNeg nd) (c + 1) dn), eI G msu 12 pf, eI G msg 12 sg, eZ G mlo 12 lo, eI G mra 8 ra1c] := (lcons rfl (lcons rfl (lcons rfl (lcons rfl (lcons rfl (lcons (congrArg (fun z => eZ G mdn 64 z) q9_8) (lcons rfl (lcons rfl (lcons rfl (lcons rfl rfl))))))))))
                      exact ih_12 (c + 1) rs1c rw1c ra1c (by omega) (by omega) _ _ (va_castP (hP.sub [0, 1, 2, 3, 4, 5, 6, 7, 8, 9] rfl) cw9) (va_castD (hD.sub [0, 1, 2, 3, 4, 5, 6, 7, 8, 9] (by decide) rfl) cw9) hS ls (lv_sub hl [0, 1, 2] rfl)
                    · skip
                      rw [lg_cmp_lt] at c_209
                      refine lv_iconst (v := 1) hx hb dX8_lookAt_212 (by decide) ?_
                      refine lv_goto (tgt := 217) hx hb dX8_lookAt_213 (by decide) ?_
                      refine rz_ast (j := c) (b := true) hx hb hE hP hD hS 5 rfl (nI_clamp (by omega)) rfl (vp_in_nI (by omega) (by omega)) dX8_lookAt_217 (fun H locs hP hD hS => ?_)
                      have hP : va_P G.1 vwCl [(h0, .inr (8, [.ref mk, .ref mg, .ref mhb, .ref mdn, .int (nI nd), .ref mda, .ref mkp, .int kp, .ref mbr, .ref msu, .ref msg, .ref mlo, .int mo, .int ne, .int gl, .int ca, .int (nI no), .ref moa, .ref mog, .ref mop, .int rs1c, .int rw1c, .ref mra, .int bc, .int bo, .int be])), eI G mda 4 da, eI G mk 64 kf, eI G mg 64 gf, eZ G mhb 64 bf, eZ G mdn 64 (bu (bu (lkF bf gl ca (grV kf gf xf yf (sg h) (pf h).toNatClampNeg nd) c dn) c true) c true), eI G msu 12 pf, eI G msg 12 sg, eZ G mlo 12 lo, eI G mra 8 ra1c] H := hP
                      have hD : va_D A [(h0, .inr (8, [.ref mk, .ref mg, .ref mhb, .ref mdn, .int (nI nd), .ref mda, .ref mkp, .int kp, .ref mbr, .ref msu, .ref msg, .ref mlo, .int mo, .int ne, .int gl, .int ca, .int (nI no), .ref moa, .ref mog, .ref mop, .int rs1c, .int rw1c, .ref mra, .int bc, .int bo, .int be])), eI G mda 4 da, eI G mk 64 kf, eI G mg 64 gf, eZ G mhb 64 bf, eZ G mdn 64 (bu (bu (lkF bf gl ca (grV kf gf xf yf (sg h) (pf h).toNatClampNeg nd) c dn) c true) c true), eI G msu 12 pf, eI G msg 12 sg, eZ G mlo 12 lo, eI G mra 8 ra1c] := hD
                      refine lv_iinc (v := nI (c + 1)) (lv' := [(2, .int (nI (c + 1))), (0, .ref h0), (1, .int (nI h)), (3, .long ((grV kf gf xf yf (sg h) (pf h).toNatClampNeg nd) (nI c)))]) hx hb dX8_lookAt_218 hl (k := 0) rfl (nI_1 _) (by decide) rfl (fun ls hl => ?_)
                      refine lv_goto (tgt := 12) hx hb dX8_lookAt_221 (by decide) ?_
                      have q9_9 : (bu (bu (lkF bf gl ca (grV kf gf xf yf (sg h) (pf h).toNatClampNeg nd) c dn) c true) c true) = (lkF bf gl ca (grV kf gf xf yf (sg h) (pf h).toNatClampNeg nd) (c + 1) dn) := lk_s c_24 (by first | (simp [nwD, c_141, c_155, c_209]; done) | exact absurd c_209 c_169)
                      have cw9 : ([(h0, .inr (8, [.ref mk, .ref mg, .ref mhb, .ref mdn, .int (nI nd), .ref mda, .ref mkp, .int kp, .ref mbr, .ref msu, .ref msg, .ref mlo, .int mo, .int ne, .int gl, .int ca, .int (nI no), .ref moa, .ref mog, .ref mop, .int rs1c, .int rw1c, .ref mra, .int bc, .int bo, .int be])), eI G mda 4 da, eI G mk 64 kf, eI G mg 64 gf, eZ G mhb 64 bf, eZ G mdn 64 (bu (bu (lkF bf gl ca (grV kf gf xf yf (sg h) (pf h).toNatClampNeg nd) c dn) c true) c true), eI G msu 12 pf, eI G msg 12 sg, eZ G mlo 12 lo, eI G mra 8 ra1c] : va_W) = [(h0, .inr (8, [.ref mk, .ref mg, .ref mhb, .ref mdn, .int (nI nd), .ref mda, .ref mkp, .int kp, .ref mbr, .ref msu, .ref msg, .ref mlo, .int mo, .int ne, .int gl, .int ca, .int (nI no), .ref moa, .ref mog, .ref mop, .int rs1c, .int rw1c, .ref mra, .int bc, .int bo, .int be])), eI G mda 4 da, eI G mk 64 kf, eI G mg 64 gf, eZ G mhb 64 bf, eZ G mdn 64 (lkF bf gl ca (grV kf gf xf yf (sg h) (pf h).toNatClampNeg nd) (c + 1) dn), eI G msu 12 pf, eI G msg 12 sg, eZ G mlo 12 lo, eI G mra 8 ra1c] := (lcons rfl (lcons rfl (lcons rfl (lcons rfl (lcons rfl (lcons (congrArg (fun z => eZ G mdn 64 z) q9_9) (lcons rfl (lcons rfl (lcons rfl (lcons rfl rfl))))))))))
                      exact ih_12 (c + 1) rs1c rw1c ra1c (by omega) (by omega) _ _ (va_castP (hP.sub [0, 1, 2, 3, 4, 5, 6, 7, 8, 9] rfl) cw9) (va_castD (hD.sub [0, 1, 2, 3, 4, 5, 6, 7, 8, 9] (by decide) rfl) cw9) hS ls (lv_sub hl [0, 1, 2] rfl)
            refine lv_ldc2 hx hb hown (hts _ kCl_X8_122) dX8_lookAt_27 ?_
            refine lv_lstore_n (lv' := [(3, .long (-1)), (2, .int (nI c)), (0, .ref h0), (1, .int (nI h))]) hx hb dX8_lookAt_30 rfl hl (by decide) rfl (fun ls hl => ?_)
            refine lv_iconst (v := 0) hx hb dX8_lookAt_31 (by decide) ?_
            refine lv_istore (lv' := [(5, .int 0), (3, .long (-1)), (2, .int (nI c)), (0, .ref h0), (1, .int (nI h))]) hx hb dX8_lookAt_32 hl (by decide) rfl (fun ls hl => ?_)
            have J_34 : ∀ (n_ : Nat), ∀ (d : Nat) (rs1b : Int32) (rw1b : Int32) (ra1b : Nat → Int32), (d ≤ nd) → (5 ≤ d + n_) → (¬ sg h ≤ 0 ∨ d = 0) → ∀ (H : Heap) (locs : List Loc), va_P G.1 vwCl [(h0, .inr (8, [.ref mk, .ref mg, .ref mhb, .ref mdn, .int (nI nd), .ref mda, .ref mkp, .int kp, .ref mbr, .ref msu, .ref msg, .ref mlo, .int mo, .int ne, .int gl, .int ca, .int (nI no), .ref moa, .ref mog, .ref mop, .int rs1b, .int rw1b, .ref mra, .int bc, .int bo, .int be])), eI G mda 4 da, eI G mk 64 kf, eI G mg 64 gf, eZ G mhb 64 bf, eZ G mdn 64 (lkF bf gl ca (grV kf gf xf yf (sg h) (pf h).toNatClampNeg nd) c dn), eI G msu 12 pf, eI G msg 12 sg, eZ G mlo 12 lo, eI G mra 8 ra1b] H → va_D A [(h0, .inr (8, [.ref mk, .ref mg, .ref mhb, .ref mdn, .int (nI nd), .ref mda, .ref mkp, .int kp, .ref mbr, .ref msu, .ref msg, .ref mlo, .int mo, .int ne, .int gl, .int ca, .int (nI no), .ref moa, .ref mog, .ref mop, .int rs1b, .int rw1b, .ref mra, .int bc, .int bo, .int be])), eI G mda 4 da, eI G mk 64 kf, eI G mg 64 gf, eZ G mhb 64 bf, eZ G mdn 64 (lkF bf gl ca (grV kf gf xf yf (sg h) (pf h).toNatClampNeg nd) c dn), eI G msu 12 pf, eI G msg 12 sg, eZ G mlo 12 lo, eI G mra 8 ra1b] → va_S A s.heap H locs → ∀ (ls : Array Slot), lv_has ls 9 [(5, .int (nI d)), (3, .long (grM kf gf xf yf (sg h) (pf h).toNatClampNeg (nI c) d)), (2, .int (nI c)), (0, .ref h0), (1, .int (nI h))] → W pg ln ev ({ frames := 5, cells := 0, slots := 0, locals := 120 } : Room) s mi ([.ref h0, .int (nI h)] : List Value).toArray below meth cd H locs 0 0 (MQ below (va_Qv (S := Int32 × Int32 × (Nat → Int32)) (fun (_ : Int32 × Int32 × (Nat → Int32)) => True) (fun u => wdB G A [(h0, .inr (8, [.ref mk, .ref mg, .ref mhb, .ref mdn, .int (nI nd), .ref mda, .ref mkp, .int kp, .ref mbr, .ref msu, .ref msg, .ref mlo, .int mo, .int ne, .int gl, .int ca, .int (nI no), .ref moa, .ref mog, .ref mop, .int u.1, .int u.2.1, .ref mra, .int bc, .int bo, .int be])), eI G mda 4 da, eI G mk 64 kf, eI G mg 64 gf, eZ G mhb 64 bf, eZ G mdn 64 (lkH kf gf xf yf nd bf lo sg pf gl ca h dn), eI G msu 12 pf, eI G msg 12 sg, eZ G mlo 12 lo, eI G mra 8 u.2.2]) A) ([.ref h0, .int (nI h)] : List Value).toArray s 0 0 A) (F0 mi 34 ls []) := by
              intro n_
              induction n_ with
              | zero =>
                intro d rs1b rw1b ra1b hd hfd hz H locs hP hD hS ls hl
                exact absurd hfd (by omega)
              | succ n_ ih_34 =>
                intro d rs1b rw1b ra1b hd hfd hz H locs hP hD hS ls hl
                refine lv_iload hx hb dX8_lookAt_34 (lv_at hl 0 rfl) ?_
                refine lv_aload_n hx hb dX8_lookAt_36 rfl (lv_at hl 3 rfl) ?_
                refine va_get (ci := 8) (C := RX8) (T := TX8) (N := 26) hx hb hts hinX8 hown hE.1 hP 0 rfl rfl 4 (by decide) (hts _ kFl_X8_70) (fun _ h9 => h9) rfl dX8_lookAt_37 ?_
                refine lv_icmp_ge (tgt := 130) hx hb dX8_lookAt_40 (by decide) (fun c_40 => ?_) (fun c_40 => ?_)
                · skip
                  have e_hld : d = nd := by
                    rcases Nat.lt_or_ge d nd with q | q
                    · exact absurd (show nI nd ≤ nI d from c_40) (nI_ge q (by omega))
                    · omega
                  have q9_10 : (grM kf gf xf yf (sg h) (pf h).toNatClampNeg (nI c) d) = ((grV kf gf xf yf (sg h) (pf h).toNatClampNeg nd) (nI c)) := gr_e1 hz e_hld
                  exact J_130 rs1b rw1b ra1b _ _ (hP.sub [0, 1, 2, 3, 4, 5, 6, 7, 8, 9] rfl) (hD.sub [0, 1, 2, 3, 4, 5, 6, 7, 8, 9] (by decide) rfl) hS ls (lv_cast (lv_sub hl [2, 3, 4, 1] rfl) (lcons rfl (lcons rfl (lcons rfl (lcons (congrArg (fun z => (3, Value.long z)) q9_10) rfl)))))
                · skip
                  have hld : d < nd := by
                    rcases Nat.lt_or_ge d nd with q | q
                    · exact q
                    · exact absurd (show _ ≤ nI d from (nI_le (a := nd) (b := d) q (by omega))) c_40
                  refine lv_aload_n hx hb dX8_lookAt_43 rfl (lv_at hl 3 rfl) ?_
                  refine va_get (ci := 8) (C := RX8) (T := TX8) (N := 26) hx hb hts hinX8 hown hE.1 hP 0 rfl rfl 10 (by decide) (hts _ kFl_X8_35) (fun _ h9 => h9) rfl dX8_lookAt_44 ?_
                  refine lv_iload_n hx hb dX8_lookAt_47 rfl (lv_at hl 4 rfl) ?_
                  refine ri_ald (j := h) hx hb hE hP 7 rfl (nI_clamp (by omega)) (vp_in_nI (by omega) (by omega)) dX8_lookAt_48 ?_
                  refine lv_if_le (tgt := 130) hx hb dX8_lookAt_49 (by decide) (fun c_49 => ?_) (fun c_49 => ?_)
                  · skip
                    have q9_11 : (grM kf gf xf yf (sg h) (pf h).toNatClampNeg (nI c) d) = ((grV kf gf xf yf (sg h) (pf h).toNatClampNeg nd) (nI c)) := gr_e2 hz c_49
                    exact J_130 rs1b rw1b ra1b _ _ (hP.sub [0, 1, 2, 3, 4, 5, 6, 7, 8, 9] rfl) (hD.sub [0, 1, 2, 3, 4, 5, 6, 7, 8, 9] (by decide) rfl) hS ls (lv_cast (lv_sub hl [2, 3, 4, 1] rfl) (lcons rfl (lcons rfl (lcons rfl (lcons (congrArg (fun z => (3, Value.long z)) q9_11) rfl)))))
                  · skip
                    refine lv_aload_n hx hb dX8_lookAt_52 rfl (lv_at hl 3 rfl) ?_
                    refine va_get (ci := 8) (C := RX8) (T := TX8) (N := 26) hx hb hts hinX8 hown hE.1 hP 0 rfl rfl 10 (by decide) (hts _ kFl_X8_35) (fun _ h9 => h9) rfl dX8_lookAt_53 ?_
                    refine lv_iload_n hx hb dX8_lookAt_56 rfl (lv_at hl 4 rfl) ?_
                    refine ri_ald (j := h) hx hb hE hP 7 rfl (nI_clamp (by omega)) (vp_in_nI (by omega) (by omega)) dX8_lookAt_57 ?_
                    refine lv_i2l hx hb dX8_lookAt_58 rfl ?_
                    refine lv_aload_n hx hb dX8_lookAt_59 rfl (lv_at hl 3 rfl) ?_
                    refine lv_iload hx hb dX8_lookAt_60 (lv_at hl 0 rfl) ?_
                    refine lv_aload_n hx hb dX8_lookAt_62 rfl (lv_at hl 3 rfl) ?_
                    refine va_get (ci := 8) (C := RX8) (T := TX8) (N := 26) hx hb hts hinX8 hown hE.1 hP 0 rfl rfl 9 (by decide) (hts _ kFl_X8_32) (fun _ h9 => h9) rfl dX8_lookAt_63 ?_
                    refine lv_iload_n hx hb dX8_lookAt_66 rfl (lv_at hl 4 rfl) ?_
                    refine ri_ald (j := h) hx hb hE hP 6 rfl (nI_clamp (by omega)) (vp_in_nI (by omega) (by omega)) dX8_lookAt_67 ?_
                    refine lv_iconst (v := 1) hx hb dX8_lookAt_68 (by decide) ?_
                    refine W.eq (congrArg (fun z => F0 mi 69 ls [.int 1, .int z, .int (nI d), .ref h0, .long ((sg h).toInt64)]) hpn) ?_
                    have hF_ := va_free (wc := [(h0, .inr (8, [.ref mk, .ref mg, .ref mhb, .ref mdn, .int (nI nd), .ref mda, .ref mkp, .int kp, .ref mbr, .ref msu, .ref msg, .ref mlo, .int mo, .int ne, .int gl, .int ca, .int (nI no), .ref moa, .ref mog, .ref mop, .int rs1b, .int rw1b, .ref mra, .int bc, .int bo, .int be])), eI G mda 4 da, eI G mk 64 kf, eI G mg 64 gf, eZ G mhb 64 bf, eZ G mdn 64 (lkF bf gl ca (grV kf gf xf yf (sg h) (pf h).toNatClampNeg nd) c dn), eI G mra 8 ra1b]) hD hS hA [0, 1, 2, 3, 4, 5, 9] rfl
                    refine ca_Ql (wr := [eI G msu 12 pf, eI G msg 12 sg, eZ G mlo 12 lo]) (va_runV (As := [.int (nI d), .int (nI ((pf h).toNatClampNeg)), .int 1]) (rest := [.long ((sg h).toInt64)]) ⟨hx, hb, hml, hown, hts⟩ (c_X8_share ln G h0 mk mg mhb mdn mda mkp mbr msu msg mlo moa mog mop mra nd kp mo ne gl ca no rs1b rw1b bc bo be da kf gf bf (lkF bf gl ca (grV kf gf xf yf (sg h) (pf h).toNatClampNeg nd) c dn) ra1b d ((pf h).toNatClampNeg) true (xf d) (yf d) H.size (by omega) hpm ((hdk d hld).1) ((hdk d hld).2)) (cwV 3 hts (gV kCode_X8_share kMl_X8_104 kIm_X8_share kSel_X8_share kIni_X8) rfl rfl rfl ⟨rfl, hd_X8_share⟩ ⟨Nat.le_of_ble_eq_true rfl, Nat.le_of_ble_eq_true rfl⟩) ⟨rw_blind, va_recv hE.1 hP (ci := 8) (q0 := 0) rfl rfl, (rw_pre (hP.sub [0, 1, 2, 3, 4, 5, 9] rfl) (hD.sub [0, 1, 2, 3, 4, 5, 9] (by decide) rfl) hF_ hS hE hT)⟩ rfl rfl hl.1 rfl (lv_room (Nat.le_of_ble_eq_true rfl)) dX8_lookAt_69 ⟨Nat.zero_le _, Nat.zero_le _⟩) hP hD hS hA [0, 1, 2, 3, 4, 5, 9] [6, 7, 8] rfl rfl rfl (by decide) (fun r_69 u_69 H locs w_69 hP hD hS => ?_)
                    obtain ⟨rs9_69, rw9_69, ra9_69⟩ := u_69
                    have hP : va_P G.1 vwCl [eI G msu 12 pf, eI G msg 12 sg, eZ G mlo 12 lo, (h0, .inr (8, [.ref mk, .ref mg, .ref mhb, .ref mdn, .int (nI nd), .ref mda, .ref mkp, .int kp, .ref mbr, .ref msu, .ref msg, .ref mlo, .int mo, .int ne, .int gl, .int ca, .int (nI no), .ref moa, .ref mog, .ref mop, .int rs9_69, .int rw9_69, .ref mra, .int bc, .int bo, .int be])), eI G mda 4 da, eI G mk 64 kf, eI G mg 64 gf, eZ G mhb 64 bf, eZ G mdn 64 (lkF bf gl ca (grV kf gf xf yf (sg h) (pf h).toNatClampNeg nd) c dn), eI G mra 8 ra9_69] H := hP
                    have hD : va_D A [eI G msu 12 pf, eI G msg 12 sg, eZ G mlo 12 lo, (h0, .inr (8, [.ref mk, .ref mg, .ref mhb, .ref mdn, .int (nI nd), .ref mda, .ref mkp, .int kp, .ref mbr, .ref msu, .ref msg, .ref mlo, .int mo, .int ne, .int gl, .int ca, .int (nI no), .ref moa, .ref mog, .ref mop, .int rs9_69, .int rw9_69, .ref mra, .int bc, .int bo, .int be])), eI G mda 4 da, eI G mk 64 kf, eI G mg 64 gf, eZ G mhb 64 bf, eZ G mdn 64 (lkF bf gl ca (grV kf gf xf yf (sg h) (pf h).toNatClampNeg nd) c dn), eI G mra 8 ra9_69] := hD
                    obtain rfl : r_69 = shV kf gf noD (xf d) (yf d) (pf h).toNatClampNeg := (w_69.trans (by rw [dnB_t]))
                    refine lv_lmul hx hb dX8_lookAt_72 ?_
                    refine lv_lstore (lv' := [(6, .long (((sg h).toInt64) * (shV kf gf noD (xf d) (yf d) (pf h).toNatClampNeg))), (5, .int (nI d)), (3, .long (grM kf gf xf yf (sg h) (pf h).toNatClampNeg (nI c) d)), (2, .int (nI c)), (0, .ref h0), (1, .int (nI h))]) hx hb dX8_lookAt_73 hl (by decide) rfl (fun ls hl => ?_)
                    refine lv_aload_n hx hb dX8_lookAt_75 rfl (lv_at hl 4 rfl) ?_
                    refine lv_iload hx hb dX8_lookAt_76 (lv_at hl 1 rfl) ?_
                    refine lv_aload_n hx hb dX8_lookAt_78 rfl (lv_at hl 4 rfl) ?_
                    refine va_get (ci := 8) (C := RX8) (T := TX8) (N := 26) hx hb hts hinX8 hown hE.1 hP 3 rfl rfl 9 (by decide) (hts _ kFl_X8_32) (fun _ h9 => h9) rfl dX8_lookAt_79 ?_
                    refine lv_iload_n hx hb dX8_lookAt_82 rfl (lv_at hl 5 rfl) ?_
                    refine ri_ald (j := h) hx hb hE hP 0 rfl (nI_clamp (by omega)) (vp_in_nI (by omega) (by omega)) dX8_lookAt_83 ?_
                    refine W.eq (congrArg (fun z => F0 mi 84 ls [.int z, .int (nI d), .ref h0]) hpn) ?_
                    have hF_ := va_free (wc := [(h0, .inr (8, [.ref mk, .ref mg, .ref mhb, .ref mdn, .int (nI nd), .ref mda, .ref mkp, .int kp, .ref mbr, .ref msu, .ref msg, .ref mlo, .int mo, .int ne, .int gl, .int ca, .int (nI no), .ref moa, .ref mog, .ref mop, .int rs9_69, .int rw9_69, .ref mra, .int bc, .int bo, .int be])), eI G mda 4 da, eI G mk 64 kf, eI G mra 8 ra9_69]) hD hS hA [3, 4, 5, 9] rfl
                    refine ca_Qi (wr := [eI G msu 12 pf, eI G msg 12 sg, eZ G mlo 12 lo, eI G mg 64 gf, eZ G mhb 64 bf, eZ G mdn 64 (lkF bf gl ca (grV kf gf xf yf (sg h) (pf h).toNatClampNeg nd) c dn)]) (va_runV (As := [.int (nI d), .int (nI ((pf h).toNatClampNeg))]) (rest := []) ⟨hx, hb, hml, hown, hts⟩ (c_X8_walk ln G h0 mk mg mhb mdn mda mkp mbr msu msg mlo moa mog mop mra nd kp mo ne gl ca no rs9_69 rw9_69 bc bo be da kf ra9_69 d ((pf h).toNatClampNeg) (xf d) (yf d) H.size (by omega) hpm ((hdk d hld).1) ((hdk d hld).2)) (cwV 2 hts (gV kCode_X8_walk kMl_X8_97 kIm_X8_walk kSel_X8_walk kIni_X8) rfl rfl rfl ⟨rfl, hd_X8_walk⟩ ⟨Nat.le_of_ble_eq_true rfl, Nat.le_of_ble_eq_true rfl⟩) ⟨rw_blind, va_recv hE.1 hP (ci := 8) (q0 := 3) rfl rfl, (rw_pre (hP.sub [3, 4, 5, 9] rfl) (hD.sub [3, 4, 5, 9] (by decide) rfl) hF_ hS hE hT)⟩ rfl rfl hl.1 rfl (lv_room (Nat.le_of_ble_eq_true rfl)) dX8_lookAt_84 ⟨Nat.zero_le _, Nat.zero_le _⟩) hP hD hS hA [3, 4, 5, 9] [0, 1, 2, 6, 7, 8] rfl rfl rfl (by decide) (fun r_84 u_84 H locs w_84 hP hD hS => ?_)
                    obtain ⟨rs9_84, rw9_84, ra9_84⟩ := u_84
                    have hP : va_P G.1 vwCl [eI G msu 12 pf, eI G msg 12 sg, eZ G mlo 12 lo, eI G mg 64 gf, eZ G mhb 64 bf, eZ G mdn 64 (lkF bf gl ca (grV kf gf xf yf (sg h) (pf h).toNatClampNeg nd) c dn), (h0, .inr (8, [.ref mk, .ref mg, .ref mhb, .ref mdn, .int (nI nd), .ref mda, .ref mkp, .int kp, .ref mbr, .ref msu, .ref msg, .ref mlo, .int mo, .int ne, .int gl, .int ca, .int (nI no), .ref moa, .ref mog, .ref mop, .int rs9_84, .int rw9_84, .ref mra, .int bc, .int bo, .int be])), eI G mda 4 da, eI G mk 64 kf, eI G mra 8 ra9_84] H := hP
                    have hD : va_D A [eI G msu 12 pf, eI G msg 12 sg, eZ G mlo 12 lo, eI G mg 64 gf, eZ G mhb 64 bf, eZ G mdn 64 (lkF bf gl ca (grV kf gf xf yf (sg h) (pf h).toNatClampNeg nd) c dn), (h0, .inr (8, [.ref mk, .ref mg, .ref mhb, .ref mdn, .int (nI nd), .ref mda, .ref mkp, .int kp, .ref mbr, .ref msu, .ref msg, .ref mlo, .int mo, .int ne, .int gl, .int ca, .int (nI no), .ref moa, .ref mog, .ref mop, .int rs9_84, .int rw9_84, .ref mra, .int bc, .int bo, .int be])), eI G mda 4 da, eI G mk 64 kf, eI G mra 8 ra9_84] := hD
                    obtain rfl : r_84 = b2i ((rayR kf (stX ((pf h).toNatClampNeg)) (stY ((pf h).toNatClampNeg)) 8 (xf d) (yf d)).isSome) := w_84.1
                    refine lv_if_eq (tgt := 102) hx hb dX8_lookAt_87 (by decide) (fun c_87 => ?_) (fun c_87 => ?_)
                    · skip
                      have c_87 := b2i_z c_87
                      refine lv_iconst (v := 0) hx hb dX8_lookAt_102 (by decide) ?_
                      refine lv_istore (lv' := [(8, .int 0), (6, .long (((sg h).toInt64) * (shV kf gf noD (xf d) (yf d) (pf h).toNatClampNeg))), (5, .int (nI d)), (3, .long (grM kf gf xf yf (sg h) (pf h).toNatClampNeg (nI c) d)), (2, .int (nI c)), (0, .ref h0), (1, .int (nI h))]) hx hb dX8_lookAt_103 hl (by decide) rfl (fun ls hl => ?_)
                      refine lv_iload hx hb dX8_lookAt_105 (lv_at hl 0 rfl) ?_
                      refine lv_if_eq (tgt := 122) hx hb dX8_lookAt_107 (by decide) (fun c_107 => ?_) (fun c_107 => ?_)
                      · skip
                        refine lv_lload_n hx hb dX8_lookAt_122 rfl (lv_at hl 3 rfl) ?_
                        refine lv_lstore_n (lv' := [(3, .long (grM kf gf xf yf (sg h) (pf h).toNatClampNeg (nI c) d)), (8, .int 0), (6, .long (((sg h).toInt64) * (shV kf gf noD (xf d) (yf d) (pf h).toNatClampNeg))), (5, .int (nI d)), (2, .int (nI c)), (0, .ref h0), (1, .int (nI h))]) hx hb dX8_lookAt_123 rfl hl (by decide) rfl (fun ls hl => ?_)
                        refine lv_iinc (v := nI (d + 1)) (lv' := [(5, .int (nI (d + 1))), (3, .long (grM kf gf xf yf (sg h) (pf h).toNatClampNeg (nI c) d)), (8, .int 0), (6, .long (((sg h).toInt64) * (shV kf gf noD (xf d) (yf d) (pf h).toNatClampNeg))), (2, .int (nI c)), (0, .ref h0), (1, .int (nI h))]) hx hb dX8_lookAt_124 hl (k := 3) rfl (nI_1 _) (by decide) rfl (fun ls hl => ?_)
                        refine lv_goto (tgt := 34) hx hb dX8_lookAt_127 (by decide) ?_
                        have q9_12 : (grM kf gf xf yf (sg h) (pf h).toNatClampNeg (nI c) d) = (grM kf gf xf yf (sg h) (pf h).toNatClampNeg (nI c) (d + 1)) := by simp only [grM]; rw [if_neg (by simp [hasW_n c_87])]
                        exact ih_34 (d + 1) rs9_84 rw9_84 ra9_84 (by omega) (by omega) (Or.inl c_49) _ _ (hP.sub [6, 7, 8, 3, 4, 5, 0, 1, 2, 9] rfl) (hD.sub [6, 7, 8, 3, 4, 5, 0, 1, 2, 9] (by decide) rfl) hS ls (lv_cast (lv_sub hl [0, 1, 4, 5, 6] rfl) (lcons rfl (lcons (congrArg (fun z => (3, Value.long z)) q9_12) (lcons rfl (lcons rfl (lcons rfl rfl))))))
                      · skip
                        exact absurd c_107 (by decide)
                    · skip
                      have c_87 := b2i_n c_87
                      obtain ⟨⟨kq, t⟩, ht⟩ := Option.isSome_iff_exists.mp c_87
                      obtain ⟨-, hrw, hra⟩ := w_84.2 kq t ht
                      have hra : raI t ra9_84 := hra
                      obtain rfl : rw9_84 = nI t.length := hrw
                      have htl : t.length ≤ 8 := by have := rayR_len _ _ _ _ _ ht; omega
                      have hP : va_P G.1 vwCl [eI G msu 12 pf, eI G msg 12 sg, eZ G mlo 12 lo, eI G mg 64 gf, eZ G mhb 64 bf, eZ G mdn 64 (lkF bf gl ca (grV kf gf xf yf (sg h) (pf h).toNatClampNeg nd) c dn), (h0, .inr (8, [.ref mk, .ref mg, .ref mhb, .ref mdn, .int (nI nd), .ref mda, .ref mkp, .int kp, .ref mbr, .ref msu, .ref msg, .ref mlo, .int mo, .int ne, .int gl, .int ca, .int (nI no), .ref moa, .ref mog, .ref mop, .int rs9_84, .int (nI t.length), .ref mra, .int bc, .int bo, .int be])), eI G mda 4 da, eI G mk 64 kf, eI G mra 8 ra9_84] H := hP
                      have hD : va_D A [eI G msu 12 pf, eI G msg 12 sg, eZ G mlo 12 lo, eI G mg 64 gf, eZ G mhb 64 bf, eZ G mdn 64 (lkF bf gl ca (grV kf gf xf yf (sg h) (pf h).toNatClampNeg nd) c dn), (h0, .inr (8, [.ref mk, .ref mg, .ref mhb, .ref mdn, .int (nI nd), .ref mda, .ref mkp, .int kp, .ref mbr, .ref msu, .ref msg, .ref mlo, .int mo, .int ne, .int gl, .int ca, .int (nI no), .ref moa, .ref mog, .ref mop, .int rs9_84, .int (nI t.length), .ref mra, .int bc, .int bo, .int be])), eI G mda 4 da, eI G mk 64 kf, eI G mra 8 ra9_84] := hD
                      refine lv_aload_n hx hb dX8_lookAt_90 rfl (lv_at hl 4 rfl) ?_
                      refine lv_iload_n hx hb dX8_lookAt_91 rfl (lv_at hl 3 rfl) ?_
                      refine ca_Si (val := b2i (wnB ra9_84 (nI c) t.length)) (va_runV (As := [.int (nI c)]) (rest := []) ⟨hx, hb, hml, hown, hts⟩ (c_X8_hasWindow ln G h0 mk mg mhb mdn mda mkp mbr msu msg mlo moa mog mop mra nd kp mo ne gl ca no rs9_84 bc bo be ra9_84 t.length (nI c) htl) (cwV 1 hts (gV kCode_X8_hasWindow kMl_X8_124 kIm_X8_hasWindow kSel_X8_hasWindow kIni_X8) rfl rfl rfl ⟨rfl, hd_X8_hasWindow⟩ ⟨Nat.le_of_ble_eq_true rfl, Nat.le_of_ble_eq_true rfl⟩) ⟨ro_blind, va_recv hE.1 hP (ci := 8) (q0 := 6) rfl rfl, (ro_pre (hP.sub [6, 9] rfl) hS hE hT)⟩ rfl rfl hl.1 rfl (lv_room (Nat.le_of_ble_eq_true rfl)) dX8_lookAt_92 ⟨Nat.zero_le _, Nat.zero_le _⟩) ?_
                      refine lv_if_eq (tgt := 102) hx hb dX8_lookAt_95 (by decide) (fun c_95 => ?_) (fun c_95 => ?_)
                      · skip
                        have c_95 := b2i_z c_95
                        rw [wn_has ht hra] at c_95
                        refine lv_iconst (v := 0) hx hb dX8_lookAt_102 (by decide) ?_
                        refine lv_istore (lv' := [(8, .int 0), (6, .long (((sg h).toInt64) * (shV kf gf noD (xf d) (yf d) (pf h).toNatClampNeg))), (5, .int (nI d)), (3, .long (grM kf gf xf yf (sg h) (pf h).toNatClampNeg (nI c) d)), (2, .int (nI c)), (0, .ref h0), (1, .int (nI h))]) hx hb dX8_lookAt_103 hl (by decide) rfl (fun ls hl => ?_)
                        refine lv_iload hx hb dX8_lookAt_105 (lv_at hl 0 rfl) ?_
                        refine lv_if_eq (tgt := 122) hx hb dX8_lookAt_107 (by decide) (fun c_107 => ?_) (fun c_107 => ?_)
                        · skip
                          refine lv_lload_n hx hb dX8_lookAt_122 rfl (lv_at hl 3 rfl) ?_
                          refine lv_lstore_n (lv' := [(3, .long (grM kf gf xf yf (sg h) (pf h).toNatClampNeg (nI c) d)), (8, .int 0), (6, .long (((sg h).toInt64) * (shV kf gf noD (xf d) (yf d) (pf h).toNatClampNeg))), (5, .int (nI d)), (2, .int (nI c)), (0, .ref h0), (1, .int (nI h))]) hx hb dX8_lookAt_123 rfl hl (by decide) rfl (fun ls hl => ?_)
                          refine lv_iinc (v := nI (d + 1)) (lv' := [(5, .int (nI (d + 1))), (3, .long (grM kf gf xf yf (sg h) (pf h).toNatClampNeg (nI c) d)), (8, .int 0), (6, .long (((sg h).toInt64) * (shV kf gf noD (xf d) (yf d) (pf h).toNatClampNeg))), (2, .int (nI c)), (0, .ref h0), (1, .int (nI h))]) hx hb dX8_lookAt_124 hl (k := 3) rfl (nI_1 _) (by decide) rfl (fun ls hl => ?_)
                          refine lv_goto (tgt := 34) hx hb dX8_lookAt_127 (by decide) ?_
                          have q9_13 : (grM kf gf xf yf (sg h) (pf h).toNatClampNeg (nI c) d) = (grM kf gf xf yf (sg h) (pf h).toNatClampNeg (nI c) (d + 1)) := by simp only [grM]; rw [if_neg (by simp [c_95])]
                          exact ih_34 (d + 1) rs9_84 (nI t.length) ra9_84 (by omega) (by omega) (Or.inl c_49) _ _ (hP.sub [6, 7, 8, 3, 4, 5, 0, 1, 2, 9] rfl) (hD.sub [6, 7, 8, 3, 4, 5, 0, 1, 2, 9] (by decide) rfl) hS ls (lv_cast (lv_sub hl [0, 1, 4, 5, 6] rfl) (lcons rfl (lcons (congrArg (fun z => (3, Value.long z)) q9_13) (lcons rfl (lcons rfl (lcons rfl rfl))))))
                        · skip
                          exact absurd c_107 (by decide)
                      · skip
                        have c_95 := b2i_n c_95
                        rw [wn_has ht hra] at c_95
                        refine lv_iconst (v := 1) hx hb dX8_lookAt_98 (by decide) ?_
                        refine lv_goto (tgt := 103) hx hb dX8_lookAt_99 (by decide) ?_
                        refine lv_istore (lv' := [(8, .int 1), (6, .long (((sg h).toInt64) * (shV kf gf noD (xf d) (yf d) (pf h).toNatClampNeg))), (5, .int (nI d)), (3, .long (grM kf gf xf yf (sg h) (pf h).toNatClampNeg (nI c) d)), (2, .int (nI c)), (0, .ref h0), (1, .int (nI h))]) hx hb dX8_lookAt_103 hl (by decide) rfl (fun ls hl => ?_)
                        refine lv_iload hx hb dX8_lookAt_105 (lv_at hl 0 rfl) ?_
                        refine lv_if_eq (tgt := 122) hx hb dX8_lookAt_107 (by decide) (fun c_107 => ?_) (fun c_107 => ?_)
                        · skip
                          exact absurd c_107 (by decide)
                        · skip
                          refine lv_lload hx hb dX8_lookAt_110 (lv_at hl 1 rfl) ?_
                          refine lv_lload_n hx hb dX8_lookAt_112 rfl (lv_at hl 3 rfl) ?_
                          refine W.lcmp hx hb dX8_lookAt_113 ?_
                          refine lv_if_le (tgt := 122) hx hb dX8_lookAt_114 (by decide) (fun c_114 => ?_) (fun c_114 => ?_)
                          · skip
                            rw [lg_cmp_le] at c_114
                            refine lv_lload_n hx hb dX8_lookAt_122 rfl (lv_at hl 3 rfl) ?_
                            refine lv_lstore_n (lv' := [(3, .long (grM kf gf xf yf (sg h) (pf h).toNatClampNeg (nI c) d)), (8, .int 1), (6, .long (((sg h).toInt64) * (shV kf gf noD (xf d) (yf d) (pf h).toNatClampNeg))), (5, .int (nI d)), (2, .int (nI c)), (0, .ref h0), (1, .int (nI h))]) hx hb dX8_lookAt_123 rfl hl (by decide) rfl (fun ls hl => ?_)
                            refine lv_iinc (v := nI (d + 1)) (lv' := [(5, .int (nI (d + 1))), (3, .long (grM kf gf xf yf (sg h) (pf h).toNatClampNeg (nI c) d)), (8, .int 1), (6, .long (((sg h).toInt64) * (shV kf gf noD (xf d) (yf d) (pf h).toNatClampNeg))), (2, .int (nI c)), (0, .ref h0), (1, .int (nI h))]) hx hb dX8_lookAt_124 hl (k := 3) rfl (nI_1 _) (by decide) rfl (fun ls hl => ?_)
                            refine lv_goto (tgt := 34) hx hb dX8_lookAt_127 (by decide) ?_
                            have q9_14 : (grM kf gf xf yf (sg h) (pf h).toNatClampNeg (nI c) d) = (grM kf gf xf yf (sg h) (pf h).toNatClampNeg (nI c) (d + 1)) := by simp only [grM]; simp [c_95, c_114]
                            exact ih_34 (d + 1) rs9_84 (nI t.length) ra9_84 (by omega) (by omega) (Or.inl c_49) _ _ (hP.sub [6, 7, 8, 3, 4, 5, 0, 1, 2, 9] rfl) (hD.sub [6, 7, 8, 3, 4, 5, 0, 1, 2, 9] (by decide) rfl) hS ls (lv_cast (lv_sub hl [0, 1, 4, 5, 6] rfl) (lcons rfl (lcons (congrArg (fun z => (3, Value.long z)) q9_14) (lcons rfl (lcons rfl (lcons rfl rfl))))))
                          · skip
                            rw [lg_cmp_le] at c_114
                            refine lv_lload hx hb dX8_lookAt_117 (lv_at hl 1 rfl) ?_
                            refine lv_goto (tgt := 123) hx hb dX8_lookAt_119 (by decide) ?_
                            refine lv_lstore_n (lv' := [(3, .long (((sg h).toInt64) * (shV kf gf noD (xf d) (yf d) (pf h).toNatClampNeg))), (8, .int 1), (6, .long (((sg h).toInt64) * (shV kf gf noD (xf d) (yf d) (pf h).toNatClampNeg))), (5, .int (nI d)), (2, .int (nI c)), (0, .ref h0), (1, .int (nI h))]) hx hb dX8_lookAt_123 rfl hl (by decide) rfl (fun ls hl => ?_)
                            refine lv_iinc (v := nI (d + 1)) (lv' := [(5, .int (nI (d + 1))), (3, .long (((sg h).toInt64) * (shV kf gf noD (xf d) (yf d) (pf h).toNatClampNeg))), (8, .int 1), (6, .long (((sg h).toInt64) * (shV kf gf noD (xf d) (yf d) (pf h).toNatClampNeg))), (2, .int (nI c)), (0, .ref h0), (1, .int (nI h))]) hx hb dX8_lookAt_124 hl (k := 3) rfl (nI_1 _) (by decide) rfl (fun ls hl => ?_)
                            refine lv_goto (tgt := 34) hx hb dX8_lookAt_127 (by decide) ?_
                            have q9_15 : (((sg h).toInt64) * (shV kf gf noD (xf d) (yf d) (pf h).toNatClampNeg)) = (grM kf gf xf yf (sg h) (pf h).toNatClampNeg (nI c) (d + 1)) := by simp only [grM]; simp [c_95, c_114]
                            exact ih_34 (d + 1) rs9_84 (nI t.length) ra9_84 (by omega) (by omega) (Or.inl c_49) _ _ (hP.sub [6, 7, 8, 3, 4, 5, 0, 1, 2, 9] rfl) (hD.sub [6, 7, 8, 3, 4, 5, 0, 1, 2, 9] (by decide) rfl) hS ls (lv_cast (lv_sub hl [0, 1, 4, 5, 6] rfl) (lcons rfl (lcons (congrArg (fun z => (3, Value.long z)) q9_15) (lcons rfl (lcons rfl (lcons rfl rfl))))))
            have q9_16 : 0 = (nI 0) := rfl
            have q9_17 : (-1) = (grM kf gf xf yf (sg h) (pf h).toNatClampNeg (nI c) 0) := rfl
            exact J_34 5 0 rs1 rw1 ra1 (Nat.zero_le _) (by omega) (Or.inr rfl) _ _ (hP.sub [0, 1, 2, 3, 4, 5, 6, 7, 8, 9] rfl) (hD.sub [0, 1, 2, 3, 4, 5, 6, 7, 8, 9] (by decide) rfl) hS ls (lv_cast (lv_sub hl [0, 1, 2, 3, 4] rfl) (lcons (congrArg (fun z => (5, Value.int z)) q9_16) (lcons (congrArg (fun z => (3, Value.long z)) q9_17) (lcons rfl (lcons rfl (lcons rfl rfl))))))
    have q9_18 : 0 = (nI 0) := rfl
    have q9_19 : dn = (lkF bf gl ca (grV kf gf xf yf (sg h) (pf h).toNatClampNeg nd) 0 dn) := lk_0 bf gl ca (grV kf gf xf yf (sg h) (pf h).toNatClampNeg nd) dn
    have cw9 : ([(h0, .inr (8, [.ref mk, .ref mg, .ref mhb, .ref mdn, .int (nI nd), .ref mda, .ref mkp, .int kp, .ref mbr, .ref msu, .ref msg, .ref mlo, .int mo, .int ne, .int gl, .int ca, .int (nI no), .ref moa, .ref mog, .ref mop, .int rs, .int rw_, .ref mra, .int bc, .int bo, .int be])), eI G mda 4 da, eI G mk 64 kf, eI G mg 64 gf, eZ G mhb 64 bf, eZ G mdn 64 dn, eI G msu 12 pf, eI G msg 12 sg, eZ G mlo 12 lo, eI G mra 8 ra] : va_W) = [(h0, .inr (8, [.ref mk, .ref mg, .ref mhb, .ref mdn, .int (nI nd), .ref mda, .ref mkp, .int kp, .ref mbr, .ref msu, .ref msg, .ref mlo, .int mo, .int ne, .int gl, .int ca, .int (nI no), .ref moa, .ref mog, .ref mop, .int rs, .int rw_, .ref mra, .int bc, .int bo, .int be])), eI G mda 4 da, eI G mk 64 kf, eI G mg 64 gf, eZ G mhb 64 bf, eZ G mdn 64 (lkF bf gl ca (grV kf gf xf yf (sg h) (pf h).toNatClampNeg nd) 0 dn), eI G msu 12 pf, eI G msg 12 sg, eZ G mlo 12 lo, eI G mra 8 ra] := (lcons rfl (lcons rfl (lcons rfl (lcons rfl (lcons rfl (lcons (congrArg (fun z => eZ G mdn 64 z) q9_19) (lcons rfl (lcons rfl (lcons rfl (lcons rfl rfl))))))))))
    exact J_12 65 0 rs rw_ ra (by omega) (by omega) _ _ (va_castP (hP.sub [0, 1, 2, 3, 4, 5, 6, 7, 8, 9] rfl) cw9) (va_castD (hD.sub [0, 1, 2, 3, 4, 5, 6, 7, 8, 9] (by decide) rfl) cw9) hS ls (lv_cast (lv_sub hl [0, 1, 2] rfl) (lcons (congrArg (fun z => (2, Value.int z)) q9_18) (lcons rfl (lcons rfl rfl))))
  · skip
    have c_6 := b2i_n c_6
    have hP9 := hP.sub (ws' := [(h0, .inr (8, [.ref mk, .ref mg, .ref mhb, .ref mdn, .int (nI nd), .ref mda, .ref mkp, .int kp, .ref mbr, .ref msu, .ref msg, .ref mlo, .int mo, .int ne, .int gl, .int ca, .int (nI no), .ref moa, .ref mog, .ref mop, .int rs, .int rw_, .ref mra, .int bc, .int bo, .int be])), eI G mda 4 da, eI G mk 64 kf, eI G mg 64 gf, eZ G mhb 64 bf, eZ G mdn 64 dn, eI G msu 12 pf, eI G msg 12 sg, eZ G mlo 12 lo, eI G mra 8 ra]) [0, 1, 2, 3, 4, 5, 6, 7, 8, 9] rfl
    have hD9 := hD.sub (ws' := [(h0, .inr (8, [.ref mk, .ref mg, .ref mhb, .ref mdn, .int (nI nd), .ref mda, .ref mkp, .int kp, .ref mbr, .ref msu, .ref msg, .ref mlo, .int mo, .int ne, .int gl, .int ca, .int (nI no), .ref moa, .ref mog, .ref mop, .int rs, .int rw_, .ref mra, .int bc, .int bo, .int be])), eI G mda 4 da, eI G mk 64 kf, eI G mg 64 gf, eZ G mhb 64 bf, eZ G mdn 64 dn, eI G msu 12 pf, eI G msg 12 sg, eZ G mlo 12 lo, eI G mra 8 ra]) [0, 1, 2, 3, 4, 5, 6, 7, 8, 9] (by decide) rfl
    have q9_20 : dn = (lkH kf gf xf yf nd bf lo sg pf gl ca h dn) := by rw [lkH, if_pos c_6]
    have cw9 : ([(h0, .inr (8, [.ref mk, .ref mg, .ref mhb, .ref mdn, .int (nI nd), .ref mda, .ref mkp, .int kp, .ref mbr, .ref msu, .ref msg, .ref mlo, .int mo, .int ne, .int gl, .int ca, .int (nI no), .ref moa, .ref mog, .ref mop, .int rs, .int rw_, .ref mra, .int bc, .int bo, .int be])), eI G mda 4 da, eI G mk 64 kf, eI G mg 64 gf, eZ G mhb 64 bf, eZ G mdn 64 dn, eI G msu 12 pf, eI G msg 12 sg, eZ G mlo 12 lo, eI G mra 8 ra] : va_W) = [(h0, .inr (8, [.ref mk, .ref mg, .ref mhb, .ref mdn, .int (nI nd), .ref mda, .ref mkp, .int kp, .ref mbr, .ref msu, .ref msg, .ref mlo, .int mo, .int ne, .int gl, .int ca, .int (nI no), .ref moa, .ref mog, .ref mop, .int rs, .int rw_, .ref mra, .int bc, .int bo, .int be])), eI G mda 4 da, eI G mk 64 kf, eI G mg 64 gf, eZ G mhb 64 bf, eZ G mdn 64 (lkH kf gf xf yf nd bf lo sg pf gl ca h dn), eI G msu 12 pf, eI G msg 12 sg, eZ G mlo 12 lo, eI G mra 8 ra] := (lcons rfl (lcons rfl (lcons rfl (lcons rfl (lcons rfl (lcons (congrArg (fun z => eZ G mdn 64 z) q9_20) (lcons rfl (lcons rfl (lcons rfl (lcons rfl rfl))))))))))
    have hP9 := va_castP hP9 cw9
    have hD9 := va_castD hD9 cw9
    exact W.vret hx hb hr (fun t_ ht_ hW_ => ⟨⟨(rs, rw_, ra), rfl, trivial, by rw [ht_]; exact hP9, hD9⟩, hS.F ht_⟩) hS.2.2 dX8_lookAt_9
