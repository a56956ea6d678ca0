set_option maxHeartbeats 4000000 in
set_option maxRecDepth 100000 in
theorem c_X6_traceRay (ln : Launch) (G : gT) (h0 : Nat) (as_ : Nat) (ah : Nat) (aw : Nat) (au : Nat) (pl : Nat) (ak : Nat) (ag : Nat) (bl : Int64) (kf : Nat → Int32) (gf : Nat → Int32) (sf : Nat → Int32) (hf : Nat → Int64) (wf : Nat → Int64) (rn : Nat) (pt : Nat) (x0 : Int32) (y0 : Int32) (sz : Nat) (hrn : rn < 64) (hpt : pt < 16) (hok : plOK kf gf) : Met ln yX6_traceRay (wA (.code yX6_traceRay cX6_traceRay 16 none)) ({ frames := 2, cells := 0, slots := 0, locals := 46 } : Room) (va_Pc [.ref h0, .ref pl, .int (nI rn), .int (nI pt), .int x0, .int y0] (rwB G [(h0, .inr (6, [.ref as_, .ref ah, .ref aw, .ref au])), eI G as_ 64 sf, eJ G ah 64 hf, eJ G aw 64 wf, (pl, .inr (5, [.ref ak, .ref ag, .long bl])), eI G ak 64 kf, eI G ag 64 gf] sz)) (va_Qv (S := Unit) (fun (_ : Unit) => True) (fun u => wdB G (va_A [(h0, .inr (6, [.ref as_, .ref ah, .ref aw, .ref au])), eI G as_ 64 sf, eJ G ah 64 hf, eJ G aw 64 wf, (pl, .inr (5, [.ref ak, .ref ag, .long bl])), eI G ak 64 kf, eI G ag 64 gf] sz) [(h0, .inr (6, [.ref as_, .ref ah, .ref aw, .ref au])), eI G as_ 64 (upd sf rn (rayT kf gf x0 y0 pt).1), eJ G ah 64 (vp_updL hf rn (rayT kf gf x0 y0 pt).2.1), eJ G aw 64 (vp_updL wf rn (rayT kf gf x0 y0 pt).2.2), (pl, .inr (5, [.ref ak, .ref ag, .long bl])), eI G ak 64 kf, eI G ag 64 gf]) (va_A [(h0, .inr (6, [.ref as_, .ref ah, .ref aw, .ref au])), eI G as_ 64 sf, eJ G ah 64 hf, eJ G aw 64 wf, (pl, .inr (5, [.ref ak, .ref ag, .long bl])), eI G ak 64 kf, eI G ag 64 gf] sz)) 0 0 (va_A [(h0, .inr (6, [.ref as_, .ref ah, .ref aw, .ref au])), eI G as_ 64 sf, eJ G ah 64 hf, eJ G aw 64 wf, (pl, .inr (5, [.ref ak, .ref ag, .long bl])), eI G ak 64 kf, eI G ag 64 gf] sz) := by
  refine Met.ofW (cc := cX6_traceRay) (maxL := 16) (ret := none) (by decide) rfl ?_
  intro pg ev s mi args below meth cd s₁ B hml hv
  obtain ⟨rfl, hsz, hP, hE, hD0, hT⟩ := hv
  have hx := B.exec
  have hb := B.bytes
  have hr := B.returns
  have hts0 := atoms_spec (ws := wA (.code yX6_traceRay cX6_traceRay 16 none)) B.pre
  have hts : ∀ w ∈ wsA, w.before _ s = true := fun w h => hts0 w (List.mem_cons_of_mem _ h)
  have hown : s.vm.findClass RX6 = some mi.cls := findClass_of_methodNamed B.named
  have hlocks := B.notSynchronized
  subst hsz
  have hD := hD0.self (sz := s.heap.size)
  generalize hAe : va_A [(h0, .inr (6, [.ref as_, .ref ah, .ref aw, .ref au])), eI G as_ 64 sf, eJ G ah 64 hf, eJ G aw 64 wf, (pl, .inr (5, [.ref ak, .ref ag, .long bl])), eI G ak 64 kf, eI G ag 64 gf] s.heap.size = A at hD hT ⊢
  have hA : ∀ q : Nat, s.heap.size ≤ q → A q := fun q h => by rw [← hAe]; exact Or.inr h
  have hS : va_S A s.heap s.heap [] := va_S.rf
  have hl := lv_entry ([.ref h0, .ref pl, .int (nI rn), .int (nI pt), .int x0, .int y0]) (n := 16) (Nat.le_of_ble_eq_true rfl)
  rw [lg_entry_eq]
  generalize (lg_sl ([.ref h0, .ref pl, .int (nI rn), .int (nI pt), .int x0, .int y0]) ++ List.replicate (16 - (lg_sl ([.ref h0, .ref pl, .int (nI rn), .int (nI pt), .int x0, .int y0])).length) Slot.unset).toArray = ls at hl ⊢
  have hl : lv_has ls 16 [(0, .ref h0), (1, .ref pl), (2, .int (nI rn)), (3, .int (nI pt)), (4, .int x0), (5, .int y0)] := hl
  refine va_getsN hx hb hT.1 hS hown (nF_X6_45 hE.2) (fun _ h9 => h9) dX6_traceRay_0 ?_
  refine lv_iload_n hx hb dX6_traceRay_3 rfl (lv_at hl 3 rfl) ?_
  refine va_ti hx hb hT.2.2.1 hS (vp_in_nI (by omega) (by omega)) (v := .int (stX pt)) (by rw [show (nI pt).toNatClampNeg = pt from (nI_clamp (by omega))]) dX6_traceRay_4 ?_
  refine lv_istore (lv' := [(6, .int (stX pt)), (0, .ref h0), (1, .ref pl), (2, .int (nI rn)), (3, .int (nI pt)), (4, .int x0), (5, .int y0)]) hx hb dX6_traceRay_5 hl (by decide) rfl (fun ls hl => ?_)
  refine va_getsN hx hb hT.2.1 hS hown (nF_X6_48 hE.2) (fun _ h9 => h9) dX6_traceRay_7 ?_
  refine lv_iload_n hx hb dX6_traceRay_10 rfl (lv_at hl 4 rfl) ?_
  refine va_ti hx hb hT.2.2.2 hS (vp_in_nI (by omega) (by omega)) (v := .int (stY pt)) (by rw [show (nI pt).toNatClampNeg = pt from (nI_clamp (by omega))]) dX6_traceRay_11 ?_
  refine lv_istore (lv' := [(7, .int (stY pt)), (6, .int (stX pt)), (0, .ref h0), (1, .ref pl), (2, .int (nI rn)), (3, .int (nI pt)), (4, .int x0), (5, .int y0)]) hx hb dX6_traceRay_12 hl (by decide) rfl (fun ls hl => ?_)
  refine lv_iload hx hb dX6_traceRay_14 (lv_at hl 6 rfl) ?_
  refine lv_istore (lv' := [(8, .int x0), (7, .int (stY pt)), (6, .int (stX pt)), (0, .ref h0), (1, .ref pl), (2, .int (nI rn)), (3, .int (nI pt)), (4, .int x0), (5, .int y0)]) hx hb dX6_traceRay_16 hl (by decide) rfl (fun ls hl => ?_)
  refine lv_iload hx hb dX6_traceRay_18 (lv_at hl 8 rfl) ?_
  refine lv_istore (lv' := [(9, .int y0), (8, .int x0), (7, .int (stY pt)), (6, .int (stX pt)), (0, .ref h0), (1, .ref pl), (2, .int (nI rn)), (3, .int (nI pt)), (4, .int x0), (5, .int y0)]) hx hb dX6_traceRay_20 hl (by decide) rfl (fun ls hl => ?_)
  refine lv_iconst (v := 0) hx hb dX6_traceRay_22 (by decide) ?_
  refine lv_istore (lv' := [(10, .int 0), (9, .int y0), (8, .int x0), (7, .int (stY pt)), (6, .int (stX pt)), (0, .ref h0), (1, .ref pl), (2, .int (nI rn)), (3, .int (nI pt)), (4, .int x0), (5, .int y0)]) hx hb dX6_traceRay_23 hl (by decide) rfl (fun ls hl => ?_)
  refine lv_ldc2 hx hb hown (hts _ kCl_X6_51) dX6_traceRay_25 ?_
  refine lv_lstore (lv' := [(11, .long 2097152), (10, .int 0), (9, .int y0), (8, .int x0), (7, .int (stY pt)), (6, .int (stX pt)), (0, .ref h0), (1, .ref pl), (2, .int (nI rn)), (3, .int (nI pt)), (4, .int x0), (5, .int y0)]) hx hb dX6_traceRay_28 hl (by decide) rfl (fun ls hl => ?_)
  refine lv_lconst (v := 0) hx hb dX6_traceRay_30 (by decide) ?_
  refine lv_lstore (lv' := [(13, .long (0 : Int64)), (11, .long 2097152), (10, .int 0), (9, .int y0), (8, .int x0), (7, .int (stY pt)), (6, .int (stX pt)), (0, .ref h0), (1, .ref pl), (2, .int (nI rn)), (3, .int (nI pt)), (4, .int x0), (5, .int y0)]) hx hb dX6_traceRay_31 hl (by decide) rfl (fun ls hl => ?_)
  have J_33 : ∀ (n_ : Nat), ∀ (x : Int32) (y : Int32) (j : Nat) (s1 : Int64) (m1 : Int64), (j ≤ 8) → (9 ≤ j + n_) → (trFin gf (rayR kf (stX pt) (stY pt) (8 - j) x y) j s1 m1 = rayT kf gf x0 y0 pt) → ∀ (H : Heap) (locs : List Loc), va_P G.1 vwCl [(h0, .inr (6, [.ref as_, .ref ah, .ref aw, .ref au])), eI G as_ 64 sf, eJ G ah 64 hf, eJ G aw 64 wf, (pl, .inr (5, [.ref ak, .ref ag, .long bl])), eI G ak 64 kf, eI G ag 64 gf] H → va_D A [(h0, .inr (6, [.ref as_, .ref ah, .ref aw, .ref au])), eI G as_ 64 sf, eJ G ah 64 hf, eJ G aw 64 wf, (pl, .inr (5, [.ref ak, .ref ag, .long bl])), eI G ak 64 kf, eI G ag 64 gf] → va_S A s.heap H locs → ∀ (ls : Array Slot), lv_has ls 16 [(13, .long m1), (11, .long s1), (10, .int (nI j)), (9, .int y), (8, .int x), (7, .int (stY pt)), (6, .int (stX pt)), (0, .ref h0), (1, .ref pl), (2, .int (nI rn)), (3, .int (nI pt)), (4, .int x0), (5, .int y0)] → W pg ln ev ({ frames := 2, cells := 0, slots := 0, locals := 46 } : Room) s mi ([.ref h0, .ref pl, .int (nI rn), .int (nI pt), .int x0, .int y0] : List Value).toArray below meth cd H locs 0 0 (MQ below (va_Qv (S := Unit) (fun (_ : Unit) => True) (fun u => wdB G A [(h0, .inr (6, [.ref as_, .ref ah, .ref aw, .ref au])), eI G as_ 64 (upd sf rn (rayT kf gf x0 y0 pt).1), eJ G ah 64 (vp_updL hf rn (rayT kf gf x0 y0 pt).2.1), eJ G aw 64 (vp_updL wf rn (rayT kf gf x0 y0 pt).2.2), (pl, .inr (5, [.ref ak, .ref ag, .long bl])), eI G ak 64 kf, eI G ag 64 gf]) A) ([.ref h0, .ref pl, .int (nI rn), .int (nI pt), .int x0, .int y0] : List Value).toArray s 0 0 A) (F0 mi 33 ls []) := by
    intro n_
    induction n_ with
    | zero =>
      intro x y j s1 m1 hj hfu hfin H locs hP hD hS ls hl
      exact absurd hfu (by omega)
    | succ n_ ih_33 =>
      intro x y j s1 m1 hj hfu hfin H locs hP hD hS ls hl
      refine lv_iload hx hb dX6_traceRay_33 (lv_at hl 2 rfl) ?_
      refine lv_bipush (v := 8) hx hb dX6_traceRay_35 (by decide) ?_
      refine lv_icmp_ge (tgt := 146) hx hb dX6_traceRay_37 (by decide) (fun c_37 => ?_) (fun c_37 => ?_)
      · skip
        have e_hlt : j = 8 := by
          rcases Nat.lt_or_ge j 8 with q | q
          · exact absurd (show nI 8 ≤ nI j from c_37) (nI_ge q (by omega))
          · omega
        refine lv_iload hx hb dX6_traceRay_146 (lv_at hl 4 rfl) ?_
        refine lv_iload hx hb dX6_traceRay_148 (lv_at hl 3 rfl) ?_
        refine ca_Si (val := b2i (cellB x y)) (va_runSN (As := [.int x, .int y]) (rest := []) ⟨hx, hb, hml, hown, hts⟩ (c_X7_isCell ln x y ) ⟨va_cnB 2 hts (gA kCode_X7_isCell) rfl rfl rfl (nM_X6_53 hE.2) (hts _ kIni_X7) hd_X7_isCell ⟨Nat.le_of_ble_eq_true rfl, Nat.le_of_ble_eq_true rfl⟩, hts _ kSt_X7_isCell, trivial⟩ ⟨pu_blind, pu_pre⟩ rfl rfl hl.1 rfl (lv_room (Nat.le_of_ble_eq_true rfl)) dX6_traceRay_150 ⟨Nat.zero_le _, Nat.zero_le _⟩) ?_
        refine lv_if_ne (tgt := 160) hx hb dX6_traceRay_153 (by decide) (fun c_153 => ?_) (fun c_153 => ?_)
        · skip
          have c_153 := b2i_n c_153
          have hF : rayT kf gf x0 y0 pt = (-1, 0, 0) := by first | exact hfin.symm.trans (tr_shut c_153 c_62 _ _ _ _) | exact hfin.symm.trans (by rw [e_hlt]; exact tr_end c_153 _ _ _) | exact absurd (c_153.symm.trans c_47) (by decide)
          refine lv_iconst (v := 0) hx hb dX6_traceRay_160 (by decide) ?_
          refine lv_istore (lv' := [(15, .int 0), (13, .long m1), (11, .long s1), (10, .int (nI j)), (9, .int y), (8, .int x), (7, .int (stY pt)), (6, .int (stX pt)), (0, .ref h0), (1, .ref pl), (2, .int (nI rn)), (3, .int (nI pt)), (4, .int x0), (5, .int y0)]) hx hb dX6_traceRay_161 hl (by decide) rfl (fun ls hl => ?_)
          refine lv_aload_n hx hb dX6_traceRay_163 rfl (lv_at hl 8 rfl) ?_
          refine va_get (ci := 6) (C := RX6) (T := TX6) (N := 4) hx hb hts hinX6 hown hE.1 hP 0 rfl rfl 0 (by decide) (hts _ kFl_X6_9) (fun _ h9 => h9) rfl dX6_traceRay_164 ?_
          refine lv_iload_n hx hb dX6_traceRay_167 rfl (lv_at hl 10 rfl) ?_
          refine lv_iload hx hb dX6_traceRay_168 (lv_at hl 0 rfl) ?_
          refine lv_if_eq (tgt := 178) hx hb dX6_traceRay_170 (by decide) (fun c_170 => ?_) (fun c_170 => ?_)
          · skip
            refine lv_iconst (v := -1) hx hb dX6_traceRay_178 (by decide) ?_
            refine ri_ast (j := rn) hx hb hE hP hD hS 1 rfl (nI_clamp (by omega)) (vp_in_nI (by omega) (by omega)) dX6_traceRay_179 (fun H locs hP hD hS => ?_)
            have hP : va_P G.1 vwCl [(h0, .inr (6, [.ref as_, .ref ah, .ref aw, .ref au])), eI G as_ 64 (upd sf rn (-1)), eJ G ah 64 hf, eJ G aw 64 wf, (pl, .inr (5, [.ref ak, .ref ag, .long bl])), eI G ak 64 kf, eI G ag 64 gf] H := hP
            have hD : va_D A [(h0, .inr (6, [.ref as_, .ref ah, .ref aw, .ref au])), eI G as_ 64 (upd sf rn (-1)), eJ G ah 64 hf, eJ G aw 64 wf, (pl, .inr (5, [.ref ak, .ref ag, .long bl])), eI G ak 64 kf, eI G ag 64 gf] := hD
            refine lv_aload_n hx hb dX6_traceRay_180 rfl (lv_at hl 8 rfl) ?_
            refine va_get (ci := 6) (C := RX6) (T := TX6) (N := 4) hx hb hts hinX6 hown hE.1 hP 0 rfl rfl 1 (by decide) (hts _ kFl_X6_15) (fun _ h9 => h9) rfl dX6_traceRay_181 ?_
            refine lv_iload_n hx hb dX6_traceRay_184 rfl (lv_at hl 10 rfl) ?_
            refine lv_iload hx hb dX6_traceRay_185 (lv_at hl 0 rfl) ?_
            refine lv_if_eq (tgt := 195) hx hb dX6_traceRay_187 (by decide) (fun c_187 => ?_) (fun c_187 => ?_)
            · skip
              refine lv_lconst (v := 0) hx hb dX6_traceRay_195 (by decide) ?_
              refine rj_ast (j := rn) hx hb hE hP hD hS 2 rfl (nI_clamp (by omega)) (vp_in_nI (by omega) (by omega)) dX6_traceRay_196 (fun H locs hP hD hS => ?_)
              have hP : va_P G.1 vwCl [(h0, .inr (6, [.ref as_, .ref ah, .ref aw, .ref au])), eI G as_ 64 (upd sf rn (-1)), eJ G ah 64 (vp_updL hf rn (0 : Int64)), eJ G aw 64 wf, (pl, .inr (5, [.ref ak, .ref ag, .long bl])), eI G ak 64 kf, eI G ag 64 gf] H := hP
              have hD : va_D A [(h0, .inr (6, [.ref as_, .ref ah, .ref aw, .ref au])), eI G as_ 64 (upd sf rn (-1)), eJ G ah 64 (vp_updL hf rn (0 : Int64)), eJ G aw 64 wf, (pl, .inr (5, [.ref ak, .ref ag, .long bl])), eI G ak 64 kf, eI G ag 64 gf] := hD
              refine lv_aload_n hx hb dX6_traceRay_197 rfl (lv_at hl 8 rfl) ?_
              refine va_get (ci := 6) (C := RX6) (T := TX6) (N := 4) hx hb hts hinX6 hown hE.1 hP 0 rfl rfl 2 (by decide) (hts _ kFl_X6_19) (fun _ h9 => h9) rfl dX6_traceRay_198 ?_
              refine lv_iload_n hx hb dX6_traceRay_201 rfl (lv_at hl 10 rfl) ?_
              refine lv_iload hx hb dX6_traceRay_202 (lv_at hl 0 rfl) ?_
              refine lv_if_eq (tgt := 212) hx hb dX6_traceRay_204 (by decide) (fun c_204 => ?_) (fun c_204 => ?_)
              · skip
                refine lv_lconst (v := 0) hx hb dX6_traceRay_212 (by decide) ?_
                refine rj_ast (j := rn) hx hb hE hP hD hS 3 rfl (nI_clamp (by omega)) (vp_in_nI (by omega) (by omega)) dX6_traceRay_213 (fun H locs hP hD hS => ?_)
                have hP : va_P G.1 vwCl [(h0, .inr (6, [.ref as_, .ref ah, .ref aw, .ref au])), eI G as_ 64 (upd sf rn (-1)), eJ G ah 64 (vp_updL hf rn (0 : Int64)), eJ G aw 64 (vp_updL wf rn (0 : Int64)), (pl, .inr (5, [.ref ak, .ref ag, .long bl])), eI G ak 64 kf, eI G ag 64 gf] H := hP
                have hD : va_D A [(h0, .inr (6, [.ref as_, .ref ah, .ref aw, .ref au])), eI G as_ 64 (upd sf rn (-1)), eJ G ah 64 (vp_updL hf rn (0 : Int64)), eJ G aw 64 (vp_updL wf rn (0 : Int64)), (pl, .inr (5, [.ref ak, .ref ag, .long bl])), eI G ak 64 kf, eI G ag 64 gf] := hD
                have hP9 := hP.sub (ws' := [(h0, .inr (6, [.ref as_, .ref ah, .ref aw, .ref au])), eI G as_ 64 (upd sf rn (-1)), eJ G ah 64 (vp_updL hf rn (0 : Int64)), eJ G aw 64 (vp_updL wf rn (0 : Int64)), (pl, .inr (5, [.ref ak, .ref ag, .long bl])), eI G ak 64 kf, eI G ag 64 gf]) [0, 1, 2, 3, 4, 5, 6] rfl
                have hD9 := hD.sub (ws' := [(h0, .inr (6, [.ref as_, .ref ah, .ref aw, .ref au])), eI G as_ 64 (upd sf rn (-1)), eJ G ah 64 (vp_updL hf rn (0 : Int64)), eJ G aw 64 (vp_updL wf rn (0 : Int64)), (pl, .inr (5, [.ref ak, .ref ag, .long bl])), eI G ak 64 kf, eI G ag 64 gf]) [0, 1, 2, 3, 4, 5, 6] (by decide) rfl
                have q9_1 : (upd sf rn (-1)) = (upd sf rn (rayT kf gf x0 y0 pt).1) := by rw [hF]
                have q9_2 : (vp_updL hf rn (0 : Int64)) = (vp_updL hf rn (rayT kf gf x0 y0 pt).2.1) := by rw [hF]
                have q9_3 : (vp_updL wf rn (0 : Int64)) = (vp_updL wf rn (rayT kf gf x0 y0 pt).2.2) := by rw [hF]
                have cw9 : ([(h0, .inr (6, [.ref as_, .ref ah, .ref aw, .ref au])), eI G as_ 64 (upd sf rn (-1)), eJ G ah 64 (vp_updL hf rn (0 : Int64)), eJ G aw 64 (vp_updL wf rn (0 : Int64)), (pl, .inr (5, [.ref ak, .ref ag, .long bl])), eI G ak 64 kf, eI G ag 64 gf] : va_W) = [(h0, .inr (6, [.ref as_, .ref ah, .ref aw, .ref au])), eI G as_ 64 (upd sf rn (rayT kf gf x0 y0 pt).1), eJ G ah 64 (vp_updL hf rn (rayT kf gf x0 y0 pt).2.1), eJ G aw 64 (vp_updL wf rn (rayT kf gf x0 y0 pt).2.2), (pl, .inr (5, [.ref ak, .ref ag, .long bl])), eI G ak 64 kf, eI G ag 64 gf] := (lcons rfl (lcons (congrArg (fun z => eI G as_ 64 z) q9_1) (lcons (congrArg (fun z => eJ G ah 64 z) q9_2) (lcons (congrArg (fun z => eJ G aw 64 z) q9_3) (lcons rfl (lcons rfl (lcons rfl rfl)))))))
                have hP9 := va_castP hP9 cw9
                have hD9 := va_castD hD9 cw9
                exact W.vret hx hb hr (fun t ht hW => ⟨⟨(), rfl, trivial, by rw [ht]; exact hP9, hD9⟩, hS.F ht⟩) hS.2.2 dX6_traceRay_214
              · skip
                exact absurd c_204 (by decide)
            · skip
              exact absurd c_187 (by decide)
          · skip
            exact absurd c_170 (by decide)
        · skip
          have c_153 := b2i_z c_153
          have hF : rayT kf gf x0 y0 pt = (nI j, s1, m1) := hfin.symm.trans (tr_out c_153 _ _ _ _)
          refine lv_iconst (v := 1) hx hb dX6_traceRay_156 (by decide) ?_
          refine lv_goto (tgt := 161) hx hb dX6_traceRay_157 (by decide) ?_
          refine lv_istore (lv' := [(15, .int 1), (13, .long m1), (11, .long s1), (10, .int (nI j)), (9, .int y), (8, .int x), (7, .int (stY pt)), (6, .int (stX pt)), (0, .ref h0), (1, .ref pl), (2, .int (nI rn)), (3, .int (nI pt)), (4, .int x0), (5, .int y0)]) hx hb dX6_traceRay_161 hl (by decide) rfl (fun ls hl => ?_)
          refine lv_aload_n hx hb dX6_traceRay_163 rfl (lv_at hl 8 rfl) ?_
          refine va_get (ci := 6) (C := RX6) (T := TX6) (N := 4) hx hb hts hinX6 hown hE.1 hP 0 rfl rfl 0 (by decide) (hts _ kFl_X6_9) (fun _ h9 => h9) rfl dX6_traceRay_164 ?_
          refine lv_iload_n hx hb dX6_traceRay_167 rfl (lv_at hl 10 rfl) ?_
          refine lv_iload hx hb dX6_traceRay_168 (lv_at hl 0 rfl) ?_
          refine lv_if_eq (tgt := 178) hx hb dX6_traceRay_170 (by decide) (fun c_170 => ?_) (fun c_170 => ?_)
          · skip
            exact absurd c_170 (by decide)
          · skip
            refine lv_iload hx hb dX6_traceRay_173 (lv_at hl 3 rfl) ?_
            refine lv_goto (tgt := 179) hx hb dX6_traceRay_175 (by decide) ?_
            refine ri_ast (j := rn) hx hb hE hP hD hS 1 rfl (nI_clamp (by omega)) (vp_in_nI (by omega) (by omega)) dX6_traceRay_179 (fun H locs hP hD hS => ?_)
            have hP : va_P G.1 vwCl [(h0, .inr (6, [.ref as_, .ref ah, .ref aw, .ref au])), eI G as_ 64 (upd sf rn (nI j)), eJ G ah 64 hf, eJ G aw 64 wf, (pl, .inr (5, [.ref ak, .ref ag, .long bl])), eI G ak 64 kf, eI G ag 64 gf] H := hP
            have hD : va_D A [(h0, .inr (6, [.ref as_, .ref ah, .ref aw, .ref au])), eI G as_ 64 (upd sf rn (nI j)), eJ G ah 64 hf, eJ G aw 64 wf, (pl, .inr (5, [.ref ak, .ref ag, .long bl])), eI G ak 64 kf, eI G ag 64 gf] := hD
            refine lv_aload_n hx hb dX6_traceRay_180 rfl (lv_at hl 8 rfl) ?_
            refine va_get (ci := 6) (C := RX6) (T := TX6) (N := 4) hx hb hts hinX6 hown hE.1 hP 0 rfl rfl 1 (by decide) (hts _ kFl_X6_15) (fun _ h9 => h9) rfl dX6_traceRay_181 ?_
            refine lv_iload_n hx hb dX6_traceRay_184 rfl (lv_at hl 10 rfl) ?_
            refine lv_iload hx hb dX6_traceRay_185 (lv_at hl 0 rfl) ?_
            refine lv_if_eq (tgt := 195) hx hb dX6_traceRay_187 (by decide) (fun c_187 => ?_) (fun c_187 => ?_)
            · skip
              exact absurd c_187 (by decide)
            · skip
              refine lv_lload hx hb dX6_traceRay_190 (lv_at hl 2 rfl) ?_
              refine lv_goto (tgt := 196) hx hb dX6_traceRay_192 (by decide) ?_
              refine rj_ast (j := rn) hx hb hE hP hD hS 2 rfl (nI_clamp (by omega)) (vp_in_nI (by omega) (by omega)) dX6_traceRay_196 (fun H locs hP hD hS => ?_)
              have hP : va_P G.1 vwCl [(h0, .inr (6, [.ref as_, .ref ah, .ref aw, .ref au])), eI G as_ 64 (upd sf rn (nI j)), eJ G ah 64 (vp_updL hf rn s1), eJ G aw 64 wf, (pl, .inr (5, [.ref ak, .ref ag, .long bl])), eI G ak 64 kf, eI G ag 64 gf] H := hP
              have hD : va_D A [(h0, .inr (6, [.ref as_, .ref ah, .ref aw, .ref au])), eI G as_ 64 (upd sf rn (nI j)), eJ G ah 64 (vp_updL hf rn s1), eJ G aw 64 wf, (pl, .inr (5, [.ref ak, .ref ag, .long bl])), eI G ak 64 kf, eI G ag 64 gf] := hD
              refine lv_aload_n hx hb dX6_traceRay_197 rfl (lv_at hl 8 rfl) ?_
              refine va_get (ci := 6) (C := RX6) (T := TX6) (N := 4) hx hb hts hinX6 hown hE.1 hP 0 rfl rfl 2 (by decide) (hts _ kFl_X6_19) (fun _ h9 => h9) rfl dX6_traceRay_198 ?_
              refine lv_iload_n hx hb dX6_traceRay_201 rfl (lv_at hl 10 rfl) ?_
              refine lv_iload hx hb dX6_traceRay_202 (lv_at hl 0 rfl) ?_
              refine lv_if_eq (tgt := 212) hx hb dX6_traceRay_204 (by decide) (fun c_204 => ?_) (fun c_204 => ?_)
              · skip
                exact absurd c_204 (by decide)
              · skip
                refine lv_lload hx hb dX6_traceRay_207 (lv_at hl 1 rfl) ?_
                refine lv_goto (tgt := 213) hx hb dX6_traceRay_209 (by decide) ?_
                refine rj_ast (j := rn) hx hb hE hP hD hS 3 rfl (nI_clamp (by omega)) (vp_in_nI (by omega) (by omega)) dX6_traceRay_213 (fun H locs hP hD hS => ?_)
                have hP : va_P G.1 vwCl [(h0, .inr (6, [.ref as_, .ref ah, .ref aw, .ref au])), eI G as_ 64 (upd sf rn (nI j)), eJ G ah 64 (vp_updL hf rn s1), eJ G aw 64 (vp_updL wf rn m1), (pl, .inr (5, [.ref ak, .ref ag, .long bl])), eI G ak 64 kf, eI G ag 64 gf] H := hP
                have hD : va_D A [(h0, .inr (6, [.ref as_, .ref ah, .ref aw, .ref au])), eI G as_ 64 (upd sf rn (nI j)), eJ G ah 64 (vp_updL hf rn s1), eJ G aw 64 (vp_updL wf rn m1), (pl, .inr (5, [.ref ak, .ref ag, .long bl])), eI G ak 64 kf, eI G ag 64 gf] := hD
                have hP9 := hP.sub (ws' := [(h0, .inr (6, [.ref as_, .ref ah, .ref aw, .ref au])), eI G as_ 64 (upd sf rn (nI j)), eJ G ah 64 (vp_updL hf rn s1), eJ G aw 64 (vp_updL wf rn m1), (pl, .inr (5, [.ref ak, .ref ag, .long bl])), eI G ak 64 kf, eI G ag 64 gf]) [0, 1, 2, 3, 4, 5, 6] rfl
                have hD9 := hD.sub (ws' := [(h0, .inr (6, [.ref as_, .ref ah, .ref aw, .ref au])), eI G as_ 64 (upd sf rn (nI j)), eJ G ah 64 (vp_updL hf rn s1), eJ G aw 64 (vp_updL wf rn m1), (pl, .inr (5, [.ref ak, .ref ag, .long bl])), eI G ak 64 kf, eI G ag 64 gf]) [0, 1, 2, 3, 4, 5, 6] (by decide) rfl
                have q9_4 : (upd sf rn (nI j)) = (upd sf rn (rayT kf gf x0 y0 pt).1) := by rw [hF]
                have q9_5 : (vp_updL hf rn s1) = (vp_updL hf rn (rayT kf gf x0 y0 pt).2.1) := by rw [hF]
                have q9_6 : (vp_updL wf rn m1) = (vp_updL wf rn (rayT kf gf x0 y0 pt).2.2) := by rw [hF]
                have cw9 : ([(h0, .inr (6, [.ref as_, .ref ah, .ref aw, .ref au])), eI G as_ 64 (upd sf rn (nI j)), eJ G ah 64 (vp_updL hf rn s1), eJ G aw 64 (vp_updL wf rn m1), (pl, .inr (5, [.ref ak, .ref ag, .long bl])), eI G ak 64 kf, eI G ag 64 gf] : va_W) = [(h0, .inr (6, [.ref as_, .ref ah, .ref aw, .ref au])), eI G as_ 64 (upd sf rn (rayT kf gf x0 y0 pt).1), eJ G ah 64 (vp_updL hf rn (rayT kf gf x0 y0 pt).2.1), eJ G aw 64 (vp_updL wf rn (rayT kf gf x0 y0 pt).2.2), (pl, .inr (5, [.ref ak, .ref ag, .long bl])), eI G ak 64 kf, eI G ag 64 gf] := (lcons rfl (lcons (congrArg (fun z => eI G as_ 64 z) q9_4) (lcons (congrArg (fun z => eJ G ah 64 z) q9_5) (lcons (congrArg (fun z => eJ G aw 64 z) q9_6) (lcons rfl (lcons rfl (lcons rfl rfl)))))))
                have hP9 := va_castP hP9 cw9
                have hD9 := va_castD hD9 cw9
                exact W.vret hx hb hr (fun t ht hW => ⟨⟨(), rfl, trivial, by rw [ht]; exact hP9, hD9⟩, hS.F ht⟩) hS.2.2 dX6_traceRay_214
      · skip
        have hlt : j < 8 := by
          rcases Nat.lt_or_ge j 8 with q | q
          · exact q
          · exact absurd (show _ ≤ nI j from (nI_le (a := 8) (b := j) q (by omega))) c_37
        refine lv_iload hx hb dX6_traceRay_40 (lv_at hl 4 rfl) ?_
        refine lv_iload hx hb dX6_traceRay_42 (lv_at hl 3 rfl) ?_
        refine ca_Si (val := b2i (cellB x y)) (va_runSN (As := [.int x, .int y]) (rest := []) ⟨hx, hb, hml, hown, hts⟩ (c_X7_isCell ln x y ) ⟨va_cnB 2 hts (gA kCode_X7_isCell) rfl rfl rfl (nM_X6_53 hE.2) (hts _ kIni_X7) hd_X7_isCell ⟨Nat.le_of_ble_eq_true rfl, Nat.le_of_ble_eq_true rfl⟩, hts _ kSt_X7_isCell, trivial⟩ ⟨pu_blind, pu_pre⟩ rfl rfl hl.1 rfl (lv_room (Nat.le_of_ble_eq_true rfl)) dX6_traceRay_44 ⟨Nat.zero_le _, Nat.zero_le _⟩) ?_
        refine lv_if_eq (tgt := 146) hx hb dX6_traceRay_47 (by decide) (fun c_47 => ?_) (fun c_47 => ?_)
        · skip
          have c_47 := b2i_z c_47
          refine lv_iload hx hb dX6_traceRay_146 (lv_at hl 4 rfl) ?_
          refine lv_iload hx hb dX6_traceRay_148 (lv_at hl 3 rfl) ?_
          refine ca_Si (val := b2i (cellB x y)) (va_runSN (As := [.int x, .int y]) (rest := []) ⟨hx, hb, hml, hown, hts⟩ (c_X7_isCell ln x y ) ⟨va_cnB 2 hts (gA kCode_X7_isCell) rfl rfl rfl (nM_X6_53 hE.2) (hts _ kIni_X7) hd_X7_isCell ⟨Nat.le_of_ble_eq_true rfl, Nat.le_of_ble_eq_true rfl⟩, hts _ kSt_X7_isCell, trivial⟩ ⟨pu_blind, pu_pre⟩ rfl rfl hl.1 rfl (lv_room (Nat.le_of_ble_eq_true rfl)) dX6_traceRay_150 ⟨Nat.zero_le _, Nat.zero_le _⟩) ?_
          refine lv_if_ne (tgt := 160) hx hb dX6_traceRay_153 (by decide) (fun c_153 => ?_) (fun c_153 => ?_)
          · skip
            have c_153 := b2i_n c_153
            exact absurd (c_153.symm.trans c_47) (by decide)
          · skip
            have c_153 := b2i_z c_153
            have hF : rayT kf gf x0 y0 pt = (nI j, s1, m1) := hfin.symm.trans (tr_out c_153 _ _ _ _)
            refine lv_iconst (v := 1) hx hb dX6_traceRay_156 (by decide) ?_
            refine lv_goto (tgt := 161) hx hb dX6_traceRay_157 (by decide) ?_
            refine lv_istore (lv' := [(15, .int 1), (13, .long m1), (11, .long s1), (10, .int (nI j)), (9, .int y), (8, .int x), (7, .int (stY pt)), (6, .int (stX pt)), (0, .ref h0), (1, .ref pl), (2, .int (nI rn)), (3, .int (nI pt)), (4, .int x0), (5, .int y0)]) hx hb dX6_traceRay_161 hl (by decide) rfl (fun ls hl => ?_)
            refine lv_aload_n hx hb dX6_traceRay_163 rfl (lv_at hl 8 rfl) ?_
            refine va_get (ci := 6) (C := RX6) (T := TX6) (N := 4) hx hb hts hinX6 hown hE.1 hP 0 rfl rfl 0 (by decide) (hts _ kFl_X6_9) (fun _ h9 => h9) rfl dX6_traceRay_164 ?_
            refine lv_iload_n hx hb dX6_traceRay_167 rfl (lv_at hl 10 rfl) ?_
            refine lv_iload hx hb dX6_traceRay_168 (lv_at hl 0 rfl) ?_
            refine lv_if_eq (tgt := 178) hx hb dX6_traceRay_170 (by decide) (fun c_170 => ?_) (fun c_170 => ?_)
            · skip
              exact absurd c_170 (by decide)
            · skip
              refine lv_iload hx hb dX6_traceRay_173 (lv_at hl 3 rfl) ?_
              refine lv_goto (tgt := 179) hx hb dX6_traceRay_175 (by decide) ?_
              refine ri_ast (j := rn) hx hb hE hP hD hS 1 rfl (nI_clamp (by omega)) (vp_in_nI (by omega) (by omega)) dX6_traceRay_179 (fun H locs hP hD hS => ?_)
              have hP : va_P G.1 vwCl [(h0, .inr (6, [.ref as_, .ref ah, .ref aw, .ref au])), eI G as_ 64 (upd sf rn (nI j)), eJ G ah 64 hf, eJ G aw 64 wf, (pl, .inr (5, [.ref ak, .ref ag, .long bl])), eI G ak 64 kf, eI G ag 64 gf] H := hP
              have hD : va_D A [(h0, .inr (6, [.ref as_, .ref ah, .ref aw, .ref au])), eI G as_ 64 (upd sf rn (nI j)), eJ G ah 64 hf, eJ G aw 64 wf, (pl, .inr (5, [.ref ak, .ref ag, .long bl])), eI G ak 64 kf, eI G ag 64 gf] := hD
              refine lv_aload_n hx hb dX6_traceRay_180 rfl (lv_at hl 8 rfl) ?_
              refine va_get (ci := 6) (C := RX6) (T := TX6) (N := 4) hx hb hts hinX6 hown hE.1 hP 0 rfl rfl 1 (by decide) (hts _ kFl_X6_15) (fun _ h9 => h9) rfl dX6_traceRay_181 ?_
              refine lv_iload_n hx hb dX6_traceRay_184 rfl (lv_at hl 10 rfl) ?_
              refine lv_iload hx hb dX6_traceRay_185 (lv_at hl 0 rfl) ?_
              refine lv_if_eq (tgt := 195) hx hb dX6_traceRay_187 (by decide) (fun c_187 => ?_) (fun c_187 => ?_)
              · skip
                exact absurd c_187 (by decide)
              · skip
                refine lv_lload hx hb dX6_traceRay_190 (lv_at hl 2 rfl) ?_
                refine lv_goto (tgt := 196) hx hb dX6_traceRay_192 (by decide) ?_
                refine rj_ast (j := rn) hx hb hE hP hD hS 2 rfl (nI_clamp (by omega)) (vp_in_nI (by omega) (by omega)) dX6_traceRay_196 (fun H locs hP hD hS => ?_)
                have hP : va_P G.1 vwCl [(h0, .inr (6, [.ref as_, .ref ah, .ref aw, .ref au])), eI G as_ 64 (upd sf rn (nI j)), eJ G ah 64 (vp_updL hf rn s1), eJ G aw 64 wf, (pl, .inr (5, [.ref ak, .ref ag, .long bl])), eI G ak 64 kf, eI G ag 64 gf] H := hP
                have hD : va_D A [(h0, .inr (6, [.ref as_, .ref ah, .ref aw, .ref au])), eI G as_ 64 (upd sf rn (nI j)), eJ G ah 64 (vp_updL hf rn s1), eJ G aw 64 wf, (pl, .inr (5, [.ref ak, .ref ag, .long bl])), eI G ak 64 kf, eI G ag 64 gf] := hD
                refine lv_aload_n hx hb dX6_traceRay_197 rfl (lv_at hl 8 rfl) ?_
                refine va_get (ci := 6) (C := RX6) (T := TX6) (N := 4) hx hb hts hinX6 hown hE.1 hP 0 rfl rfl 2 (by decide) (hts _ kFl_X6_19) (fun _ h9 => h9) rfl dX6_traceRay_198 ?_
                refine lv_iload_n hx hb dX6_traceRay_201 rfl (lv_at hl 10 rfl) ?_
                refine lv_iload hx hb dX6_traceRay_202 (lv_at hl 0 rfl) ?_
                refine lv_if_eq (tgt := 212) hx hb dX6_traceRay_204 (by decide) (fun c_204 => ?_) (fun c_204 => ?_)
                · skip
                  exact absurd c_204 (by decide)
                · skip
                  refine lv_lload hx hb dX6_traceRay_207 (lv_at hl 1 rfl) ?_
                  refine lv_goto (tgt := 213) hx hb dX6_traceRay_209 (by decide) ?_
                  refine rj_ast (j := rn) hx hb hE hP hD hS 3 rfl (nI_clamp (by omega)) (vp_in_nI (by omega) (by omega)) dX6_traceRay_213 (fun H locs hP hD hS => ?_)
                  have hP : va_P G.1 vwCl [(h0, .inr (6, [.ref as_, .ref ah, .ref aw, .ref au])), eI G as_ 64 (upd sf rn (nI j)), eJ G ah 64 (vp_updL hf rn s1), eJ G aw 64 (vp_updL wf rn m1), (pl, .inr (5, [.ref ak, .ref ag, .long bl])), eI G ak 64 kf, eI G ag 64 gf] H := hP
                  have hD : va_D A [(h0, .inr (6, [.ref as_, .ref ah, .ref aw, .ref au])), eI G as_ 64 (upd sf rn (nI j)), eJ G ah 64 (vp_updL hf rn s1), eJ G aw 64 (vp_updL wf rn m1), (pl, .inr (5, [.ref ak, .ref ag, .long bl])), eI G ak 64 kf, eI G ag 64 gf] := hD
                  have hP9 := hP.sub (ws' := [(h0, .inr (6, [.ref as_, .ref ah, .ref aw, .ref au])), eI G as_ 64 (upd sf rn (nI j)), eJ G ah 64 (vp_updL hf rn s1), eJ G aw 64 (vp_updL wf rn m1), (pl, .inr (5, [.ref ak, .ref ag, .long bl])), eI G ak 64 kf, eI G ag 64 gf]) [0, 1, 2, 3, 4, 5, 6] rfl
                  have hD9 := hD.sub (ws' := [(h0, .inr (6, [.ref as_, .ref ah, .ref aw, .ref au])), eI G as_ 64 (upd sf rn (nI j)), eJ G ah 64 (vp_updL hf rn s1), eJ G aw 64 (vp_updL wf rn m1), (pl, .inr (5, [.ref ak, .ref ag, .long bl])), eI G ak 64 kf, eI G ag 64 gf]) [0, 1, 2, 3, 4, 5, 6] (by decide) rfl
                  have q9_7 : (upd sf rn (nI j)) = (upd sf rn (rayT kf gf x0 y0 pt).1) := by rw [hF]
                  have q9_8 : (vp_updL hf rn s1) = (vp_updL hf rn (rayT kf gf x0 y0 pt).2.1) := by rw [hF]
                  have q9_9 : (vp_updL wf rn m1) = (vp_updL wf rn (rayT kf gf x0 y0 pt).2.2) := by rw [hF]
                  have cw9 : ([(h0, .inr (6, [.ref as_, .ref ah, .ref aw, .ref au])), eI G as_ 64 (upd sf rn (nI j)), eJ G ah 64 (vp_updL hf rn s1), eJ G aw 64 (vp_updL wf rn m1), (pl, .inr (5, [.ref ak, .ref ag, .long bl])), eI G ak 64 kf, eI G ag 64 gf] : va_W) = [(h0, .inr (6, [.ref as_, .ref ah, .ref aw, .ref au])), eI G as_ 64 (upd sf rn (rayT kf gf x0 y0 pt).1), eJ G ah 64 (vp_updL hf rn (rayT kf gf x0 y0 pt).2.1), eJ G aw 64 (vp_updL wf rn (rayT kf gf x0 y0 pt).2.2), (pl, .inr (5, [.ref ak, .ref ag, .long bl])), eI G ak 64 kf, eI G ag 64 gf] := (lcons rfl (lcons (congrArg (fun z => eI G as_ 64 z) q9_7) (lcons (congrArg (fun z => eJ G ah 64 z) q9_8) (lcons (congrArg (fun z => eJ G aw 64 z) q9_9) (lcons rfl (lcons rfl (lcons rfl rfl)))))))
                  have hP9 := va_castP hP9 cw9
                  have hD9 := va_castD hD9 cw9
                  exact W.vret hx hb hr (fun t ht hW => ⟨⟨(), rfl, trivial, by rw [ht]; exact hP9, hD9⟩, hS.F ht⟩) hS.2.2 dX6_traceRay_214
        · skip
          have c_47 := b2i_n c_47
          refine lv_aload_n hx hb dX6_traceRay_50 rfl (lv_at hl 8 rfl) ?_
          refine lv_iload hx hb dX6_traceRay_51 (lv_at hl 4 rfl) ?_
          refine lv_iload hx hb dX6_traceRay_53 (lv_at hl 3 rfl) ?_
          refine lv_iload hx hb dX6_traceRay_55 (lv_at hl 6 rfl) ?_
          refine lv_iload hx hb dX6_traceRay_57 (lv_at hl 5 rfl) ?_
          refine ca_Si (val := b2i (shutB kf x y (stX pt) (stY pt))) (va_runVN (As := [.int x, .int y, .int (stX pt), .int (stY pt)]) (rest := []) ⟨hx, hb, hml, hown, hts⟩ (c_X5_isShut ln G pl ak ag bl kf x y (stX pt) (stY pt) ) ⟨va_cnB 4 hts (gA kCode_X5_isShut) rfl rfl rfl (nM_X6_57 hE.2) (hts _ kIni_X5) hd_X5_isShut ⟨Nat.le_of_ble_eq_true rfl, Nat.le_of_ble_eq_true rfl⟩, hts _ kIm_X5_isShut, hts _ kSel_X5_isShut⟩ ⟨ro_blind, va_recv hE.1 hP (ci := 5) (q0 := 4) rfl rfl, (ro_pre (hP.sub [4, 5] rfl) hS hE hT)⟩ rfl rfl hl.1 rfl (lv_room (Nat.le_of_ble_eq_true rfl)) dX6_traceRay_59 ⟨Nat.zero_le _, Nat.zero_le _⟩) ?_
          refine lv_if_ne (tgt := 146) hx hb dX6_traceRay_62 (by decide) (fun c_62 => ?_) (fun c_62 => ?_)
          · skip
            have c_62 := b2i_n c_62
            refine lv_iload hx hb dX6_traceRay_146 (lv_at hl 4 rfl) ?_
            refine lv_iload hx hb dX6_traceRay_148 (lv_at hl 3 rfl) ?_
            refine ca_Si (val := b2i (cellB x y)) (va_runSN (As := [.int x, .int y]) (rest := []) ⟨hx, hb, hml, hown, hts⟩ (c_X7_isCell ln x y ) ⟨va_cnB 2 hts (gA kCode_X7_isCell) rfl rfl rfl (nM_X6_53 hE.2) (hts _ kIni_X7) hd_X7_isCell ⟨Nat.le_of_ble_eq_true rfl, Nat.le_of_ble_eq_true rfl⟩, hts _ kSt_X7_isCell, trivial⟩ ⟨pu_blind, pu_pre⟩ rfl rfl hl.1 rfl (lv_room (Nat.le_of_ble_eq_true rfl)) dX6_traceRay_150 ⟨Nat.zero_le _, Nat.zero_le _⟩) ?_
            refine lv_if_ne (tgt := 160) hx hb dX6_traceRay_153 (by decide) (fun c_153 => ?_) (fun c_153 => ?_)
            · skip
              have c_153 := b2i_n c_153
              have hF : rayT kf gf x0 y0 pt = (-1, 0, 0) := by first | exact hfin.symm.trans (tr_shut c_153 c_62 _ _ _ _) | exact hfin.symm.trans (by rw [e_hlt]; exact tr_end c_153 _ _ _) | exact absurd (c_153.symm.trans c_47) (by decide)
              refine lv_iconst (v := 0) hx hb dX6_traceRay_160 (by decide) ?_
              refine lv_istore (lv' := [(15, .int 0), (13, .long m1), (11, .long s1), (10, .int (nI j)), (9, .int y), (8, .int x), (7, .int (stY pt)), (6, .int (stX pt)), (0, .ref h0), (1, .ref pl), (2, .int (nI rn)), (3, .int (nI pt)), (4, .int x0), (5, .int y0)]) hx hb dX6_traceRay_161 hl (by decide) rfl (fun ls hl => ?_)
              refine lv_aload_n hx hb dX6_traceRay_163 rfl (lv_at hl 8 rfl) ?_
              refine va_get (ci := 6) (C := RX6) (T := TX6) (N := 4) hx hb hts hinX6 hown hE.1 hP 0 rfl rfl 0 (by decide) (hts _ kFl_X6_9) (fun _ h9 => h9) rfl dX6_traceRay_164 ?_
              refine lv_iload_n hx hb dX6_traceRay_167 rfl (lv_at hl 10 rfl) ?_
              refine lv_iload hx hb dX6_traceRay_168 (lv_at hl 0 rfl) ?_
              refine lv_if_eq (tgt := 178) hx hb dX6_traceRay_170 (by decide) (fun c_170 => ?_) (fun c_170 => ?_)
              · skip
                refine lv_iconst (v := -1) hx hb dX6_traceRay_178 (by decide) ?_
                refine ri_ast (j := rn) hx hb hE hP hD hS 1 rfl (nI_clamp (by omega)) (vp_in_nI (by omega) (by omega)) dX6_traceRay_179 (fun H locs hP hD hS => ?_)
                have hP : va_P G.1 vwCl [(h0, .inr (6, [.ref as_, .ref ah, .ref aw, .ref au])), eI G as_ 64 (upd sf rn (-1)), eJ G ah 64 hf, eJ G aw 64 wf, (pl, .inr (5, [.ref ak, .ref ag, .long bl])), eI G ak 64 kf, eI G ag 64 gf] H := hP
                have hD : va_D A [(h0, .inr (6, [.ref as_, .ref ah, .ref aw, .ref au])), eI G as_ 64 (upd sf rn (-1)), eJ G ah 64 hf, eJ G aw 64 wf, (pl, .inr (5, [.ref ak, .ref ag, .long bl])), eI G ak 64 kf, eI G ag 64 gf] := hD
                refine lv_aload_n hx hb dX6_traceRay_180 rfl (lv_at hl 8 rfl) ?_
                refine va_get (ci := 6) (C := RX6) (T := TX6) (N := 4) hx hb hts hinX6 hown hE.1 hP 0 rfl rfl 1 (by decide) (hts _ kFl_X6_15) (fun _ h9 => h9) rfl dX6_traceRay_181 ?_
                refine lv_iload_n hx hb dX6_traceRay_184 rfl (lv_at hl 10 rfl) ?_
                refine lv_iload hx hb dX6_traceRay_185 (lv_at hl 0 rfl) ?_
                refine lv_if_eq (tgt := 195) hx hb dX6_traceRay_187 (by decide) (fun c_187 => ?_) (fun c_187 => ?_)
                · skip
                  refine lv_lconst (v := 0) hx hb dX6_traceRay_195 (by decide) ?_
                  refine rj_ast (j := rn) hx hb hE hP hD hS 2 rfl (nI_clamp (by omega)) (vp_in_nI (by omega) (by omega)) dX6_traceRay_196 (fun H locs hP hD hS => ?_)
                  have hP : va_P G.1 vwCl [(h0, .inr (6, [.ref as_, .ref ah, .ref aw, .ref au])), eI G as_ 64 (upd sf rn (-1)), eJ G ah 64 (vp_updL hf rn (0 : Int64)), eJ G aw 64 wf, (pl, .inr (5, [.ref ak, .ref ag, .long bl])), eI G ak 64 kf, eI G ag 64 gf] H := hP
                  have hD : va_D A [(h0, .inr (6, [.ref as_, .ref ah, .ref aw, .ref au])), eI G as_ 64 (upd sf rn (-1)), eJ G ah 64 (vp_updL hf rn (0 : Int64)), eJ G aw 64 wf, (pl, .inr (5, [.ref ak, .ref ag, .long bl])), eI G ak 64 kf, eI G ag 64 gf] := hD
                  refine lv_aload_n hx hb dX6_traceRay_197 rfl (lv_at hl 8 rfl) ?_
                  refine va_get (ci := 6) (C := RX6) (T := TX6) (N := 4) hx hb hts hinX6 hown hE.1 hP 0 rfl rfl 2 (by decide) (hts _ kFl_X6_19) (fun _ h9 => h9) rfl dX6_traceRay_198 ?_
                  refine lv_iload_n hx hb dX6_traceRay_201 rfl (lv_at hl 10 rfl) ?_
                  refine lv_iload hx hb dX6_traceRay_202 (lv_at hl 0 rfl) ?_
                  refine lv_if_eq (tgt := 212) hx hb dX6_traceRay_204 (by decide) (fun c_204 => ?_) (fun c_204 => ?_)
                  · skip
                    refine lv_lconst (v := 0) hx hb dX6_traceRay_212 (by decide) ?_
                    refine rj_ast (j := rn) hx hb hE hP hD hS 3 rfl (nI_clamp (by omega)) (vp_in_nI (by omega) (by omega)) dX6_traceRay_213 (fun H locs hP hD hS => ?_)
                    have hP : va_P G.1 vwCl [(h0, .inr (6, [.ref as_, .ref ah, .ref aw, .ref au])), eI G as_ 64 (upd sf rn (-1)), eJ G ah 64 (vp_updL hf rn (0 : Int64)), eJ G aw 64 (vp_updL wf rn (0 : Int64)), (pl, .inr (5, [.ref ak, .ref ag, .long bl])), eI G ak 64 kf, eI G ag 64 gf] H := hP
                    have hD : va_D A [(h0, .inr (6, [.ref as_, .ref ah, .ref aw, .ref au])), eI G as_ 64 (upd sf rn (-1)), eJ G ah 64 (vp_updL hf rn (0 : Int64)), eJ G aw 64 (vp_updL wf rn (0 : Int64)), (pl, .inr (5, [.ref ak, .ref ag, .long bl])), eI G ak 64 kf, eI G ag 64 gf] := hD
                    have hP9 := hP.sub (ws' := [(h0, .inr (6, [.ref as_, .ref ah, .ref aw, .ref au])), eI G as_ 64 (upd sf rn (-1)), eJ G ah 64 (vp_updL hf rn (0 : Int64)), eJ G aw 64 (vp_updL wf rn (0 : Int64)), (pl, .inr (5, [.ref ak, .ref ag, .long bl])), eI G ak 64 kf, eI G ag 64 gf]) [0, 1, 2, 3, 4, 5, 6] rfl
                    have hD9 := hD.sub (ws' := [(h0, .inr (6, [.ref as_, .ref ah, .ref aw, .ref au])), eI G as_ 64 (upd sf rn (-1)), eJ G ah 64 (vp_updL hf rn (0 : Int64)), eJ G aw 64 (vp_updL wf rn (0 : Int64)), (pl, .inr (5, [.ref ak, .ref ag, .long bl])), eI G ak 64 kf, eI G ag 64 gf]) [0, 1, 2, 3, 4, 5, 6] (by decide) rfl
                    have q9_10 : (upd sf rn (-1)) = (upd sf rn (rayT kf gf x0 y0 pt).1) := by rw [hF]
                    have q9_11 : (vp_updL hf rn (0 : Int64)) = (vp_updL hf rn (rayT kf gf x0 y0 pt).2.1) := by rw [hF]
                    have q9_12 : (vp_updL wf rn (0 : Int64)) = (vp_updL wf rn (rayT kf gf x0 y0 pt).2.2) := by rw [hF]
                    have cw9 : ([(h0, .inr (6, [.ref as_, .ref ah, .ref aw, .ref au])), eI G as_ 64 (upd sf rn (-1)), eJ G ah 64 (vp_updL hf rn (0 : Int64)), eJ G aw 64 (vp_updL wf rn (0 : Int64)), (pl, .inr (5, [.ref ak, .ref ag, .long bl])), eI G ak 64 kf, eI G ag 64 gf] : va_W) = [(h0, .inr (6, [.ref as_, .ref ah, .ref aw, .ref au])), eI G as_ 64 (upd sf rn (rayT kf gf x0 y0 pt).1), eJ G ah 64 (vp_updL hf rn (rayT kf gf x0 y0 pt).2.1), eJ G aw 64 (vp_updL wf rn (rayT kf gf x0 y0 pt).2.2), (pl, .inr (5, [.ref ak, .ref ag, .long bl])), eI G ak 64 kf, eI G ag 64 gf] := (lcons rfl (lcons (congrArg (fun z => eI G as_ 64 z) q9_10) (lcons (congrArg (fun z => eJ G ah 64 z) q9_11) (lcons (congrArg (fun z => eJ G aw 64 z) q9_12) (lcons rfl (lcons rfl (lcons rfl rfl)))))))
                    have hP9 := va_castP hP9 cw9
                    have hD9 := va_castD hD9 cw9
                    exact W.vret hx hb hr (fun t ht hW => ⟨⟨(), rfl, trivial, by rw [ht]; exact hP9, hD9⟩, hS.F ht⟩) hS.2.2 dX6_traceRay_214
                  · skip
                    exact absurd c_204 (by decide)
                · skip
                  exact absurd c_187 (by decide)
              · skip
                exact absurd c_170 (by decide)
            · skip
              have c_153 := b2i_z c_153
              exact absurd (c_153.symm.trans c_47) (by decide)
          · skip
            have c_62 := b2i_z c_62
            refine lv_iload hx hb dX6_traceRay_65 (lv_at hl 4 rfl) ?_
            refine lv_iload hx hb dX6_traceRay_67 (lv_at hl 6 rfl) ?_
            refine lv_iadd hx hb dX6_traceRay_69 ?_
            refine lv_istore (lv' := [(8, .int (x + (stX pt))), (13, .long m1), (11, .long s1), (10, .int (nI j)), (9, .int y), (7, .int (stY pt)), (6, .int (stX pt)), (0, .ref h0), (1, .ref pl), (2, .int (nI rn)), (3, .int (nI pt)), (4, .int x0), (5, .int y0)]) hx hb dX6_traceRay_70 hl (by decide) rfl (fun ls hl => ?_)
            refine lv_iload hx hb dX6_traceRay_72 (lv_at hl 4 rfl) ?_
            refine lv_iload hx hb dX6_traceRay_74 (lv_at hl 5 rfl) ?_
            refine lv_iadd hx hb dX6_traceRay_76 ?_
            refine lv_istore (lv' := [(9, .int (y + (stY pt))), (8, .int (x + (stX pt))), (13, .long m1), (11, .long s1), (10, .int (nI j)), (7, .int (stY pt)), (6, .int (stX pt)), (0, .ref h0), (1, .ref pl), (2, .int (nI rn)), (3, .int (nI pt)), (4, .int x0), (5, .int y0)]) hx hb dX6_traceRay_77 hl (by decide) rfl (fun ls hl => ?_)
            refine lv_iinc (v := nI (j + 1)) (lv' := [(10, .int (nI (j + 1))), (9, .int (y + (stY pt))), (8, .int (x + (stX pt))), (13, .long m1), (11, .long s1), (7, .int (stY pt)), (6, .int (stX pt)), (0, .ref h0), (1, .ref pl), (2, .int (nI rn)), (3, .int (nI pt)), (4, .int x0), (5, .int y0)]) hx hb dX6_traceRay_79 hl (k := 4) rfl (nI_1 _) (by decide) rfl (fun ls hl => ?_)
            refine lv_iload hx hb dX6_traceRay_82 (lv_at hl 2 rfl) ?_
            refine lv_iload hx hb dX6_traceRay_84 (lv_at hl 1 rfl) ?_
            refine ca_Si (val := b2i (cellB (x + (stX pt)) (y + (stY pt)))) (va_runSN (As := [.int (x + (stX pt)), .int (y + (stY pt))]) (rest := []) ⟨hx, hb, hml, hown, hts⟩ (c_X7_isCell ln (x + (stX pt)) (y + (stY pt)) ) ⟨va_cnB 2 hts (gA kCode_X7_isCell) rfl rfl rfl (nM_X6_53 hE.2) (hts _ kIni_X7) hd_X7_isCell ⟨Nat.le_of_ble_eq_true rfl, Nat.le_of_ble_eq_true rfl⟩, hts _ kSt_X7_isCell, trivial⟩ ⟨pu_blind, pu_pre⟩ rfl rfl hl.1 rfl (lv_room (Nat.le_of_ble_eq_true rfl)) dX6_traceRay_86 ⟨Nat.zero_le _, Nat.zero_le _⟩) ?_
            refine lv_if_eq (tgt := 33) hx hb dX6_traceRay_89 (by decide) (fun c_89 => ?_) (fun c_89 => ?_)
            · skip
              have c_89 := b2i_z c_89
              have hw := win_n (kf := kf) c_89
              exact ih_33 (x + (stX pt)) (y + (stY pt)) (j + 1) s1 m1 (by omega) (by omega) ((tr_no c_47 c_62 hw hlt s1 m1).symm.trans hfin) _ _ (hP.sub [0, 1, 2, 3, 4, 5, 6] rfl) (hD.sub [0, 1, 2, 3, 4, 5, 6] (by decide) rfl) hS ls (lv_sub hl [3, 4, 0, 1, 2, 5, 6, 7, 8, 9, 10, 11, 12] rfl)
            · skip
              have c_89 := b2i_n c_89
              refine lv_aload_n hx hb dX6_traceRay_92 rfl (lv_at hl 8 rfl) ?_
              refine va_getN (ci := 5) (C := RX5) (T := TX5) (N := 3) hx hb hts hinX5 hown hE.1 hP 4 rfl rfl 1 (by decide) (nF_X6_63 hE.2) (fun _ h9 => h9) rfl dX6_traceRay_93 ?_
              refine lv_iload hx hb dX6_traceRay_96 (lv_at hl 2 rfl) ?_
              refine lv_iload hx hb dX6_traceRay_98 (lv_at hl 1 rfl) ?_
              refine ca_Si (val := (y + (stY pt)) * 8 + (x + (stX pt))) (va_runSN (As := [.int (x + (stX pt)), .int (y + (stY pt))]) (rest := [.ref ag]) ⟨hx, hb, hml, hown, hts⟩ (c_X7_cellNumber ln (x + (stX pt)) (y + (stY pt)) ) ⟨va_cnB 2 hts (gA kCode_X7_cellNumber) rfl rfl rfl (nM_X6_66 hE.2) (hts _ kIni_X7) hd_X7_cellNumber ⟨Nat.le_of_ble_eq_true rfl, Nat.le_of_ble_eq_true rfl⟩, hts _ kSt_X7_cellNumber, trivial⟩ ⟨pu_blind, pu_pre⟩ rfl rfl hl.1 rfl (lv_room (Nat.le_of_ble_eq_true rfl)) dX6_traceRay_100 ⟨Nat.zero_le _, Nat.zero_le _⟩) ?_
              refine ri_ald (j := cn (x + stX pt) (y + stY pt)) hx hb hE hP 6 rfl rfl (cn_in c_89) dX6_traceRay_103 ?_
              refine lv_if_le (tgt := 33) hx hb dX6_traceRay_104 (by decide) (fun c_104 => ?_) (fun c_104 => ?_)
              · skip
                have hw := win_f hok c_89 c_104
                exact ih_33 (x + (stX pt)) (y + (stY pt)) (j + 1) s1 m1 (by omega) (by omega) ((tr_no c_47 c_62 hw hlt s1 m1).symm.trans hfin) _ _ (hP.sub [0, 1, 2, 3, 4, 5, 6] rfl) (hD.sub [0, 1, 2, 3, 4, 5, 6] (by decide) rfl) hS ls (lv_sub hl [3, 4, 0, 1, 2, 5, 6, 7, 8, 9, 10, 11, 12] rfl)
              · skip
                have hw := win_t hok c_89 c_104
                refine lv_lload hx hb dX6_traceRay_107 (lv_at hl 4 rfl) ?_
                refine lv_ldc2 hx hb hown (hts _ kCl_X6_69) dX6_traceRay_109 ?_
                refine lv_ldiv hx hb dX6_traceRay_112 (by decide) ?_
                refine lv_aload_n hx hb dX6_traceRay_113 rfl (lv_at hl 8 rfl) ?_
                refine va_getN (ci := 5) (C := RX5) (T := TX5) (N := 3) hx hb hts hinX5 hown hE.1 hP 4 rfl rfl 1 (by decide) (nF_X6_63 hE.2) (fun _ h9 => h9) rfl dX6_traceRay_114 ?_
                refine lv_iload hx hb dX6_traceRay_117 (lv_at hl 2 rfl) ?_
                refine lv_iload hx hb dX6_traceRay_119 (lv_at hl 1 rfl) ?_
                refine ca_Si (val := (y + (stY pt)) * 8 + (x + (stX pt))) (va_runSN (As := [.int (x + (stX pt)), .int (y + (stY pt))]) (rest := [.ref ag, .long (s1 / 8)]) ⟨hx, hb, hml, hown, hts⟩ (c_X7_cellNumber ln (x + (stX pt)) (y + (stY pt)) ) ⟨va_cnB 2 hts (gA kCode_X7_cellNumber) rfl rfl rfl (nM_X6_66 hE.2) (hts _ kIni_X7) hd_X7_cellNumber ⟨Nat.le_of_ble_eq_true rfl, Nat.le_of_ble_eq_true rfl⟩, hts _ kSt_X7_cellNumber, trivial⟩ ⟨pu_blind, pu_pre⟩ rfl rfl hl.1 rfl (lv_room (Nat.le_of_ble_eq_true rfl)) dX6_traceRay_121 ⟨Nat.zero_le _, Nat.zero_le _⟩) ?_
                refine ri_ald (j := cn (x + stX pt) (y + stY pt)) hx hb hE hP 6 rfl rfl (cn_in c_89) dX6_traceRay_124 ?_
                refine lv_i2l hx hb dX6_traceRay_125 rfl ?_
                refine lv_lmul hx hb dX6_traceRay_126 ?_
                refine lv_lstore (lv' := [(11, .long ((s1 / 8) * ((gf (cn (x + stX pt) (y + stY pt))).toInt64))), (10, .int (nI (j + 1))), (9, .int (y + (stY pt))), (8, .int (x + (stX pt))), (13, .long m1), (7, .int (stY pt)), (6, .int (stX pt)), (0, .ref h0), (1, .ref pl), (2, .int (nI rn)), (3, .int (nI pt)), (4, .int x0), (5, .int y0)]) hx hb dX6_traceRay_127 hl (by decide) rfl (fun ls hl => ?_)
                refine lv_lload hx hb dX6_traceRay_129 (lv_at hl 4 rfl) ?_
                refine lv_lconst (v := 1) hx hb dX6_traceRay_131 (by decide) ?_
                refine lv_iload hx hb dX6_traceRay_132 (lv_at hl 3 rfl) ?_
                refine lv_iload hx hb dX6_traceRay_134 (lv_at hl 2 rfl) ?_
                refine ca_Si (val := (y + (stY pt)) * 8 + (x + (stX pt))) (va_runSN (As := [.int (x + (stX pt)), .int (y + (stY pt))]) (rest := [.long (1 : Int64), .long m1]) ⟨hx, hb, hml, hown, hts⟩ (c_X7_cellNumber ln (x + (stX pt)) (y + (stY pt)) ) ⟨va_cnB 2 hts (gA kCode_X7_cellNumber) rfl rfl rfl (nM_X6_66 hE.2) (hts _ kIni_X7) hd_X7_cellNumber ⟨Nat.le_of_ble_eq_true rfl, Nat.le_of_ble_eq_true rfl⟩, hts _ kSt_X7_cellNumber, trivial⟩ ⟨pu_blind, pu_pre⟩ rfl rfl hl.1 rfl (lv_room (Nat.le_of_ble_eq_true rfl)) dX6_traceRay_136 ⟨Nat.zero_le _, Nat.zero_le _⟩) ?_
                refine lv_lshl hx hb dX6_traceRay_139 rfl ?_
                refine lv_lor hx hb dX6_traceRay_140 ?_
                refine lv_lstore (lv' := [(13, .long (m1 ||| ((1 : Int64) <<< (((y + (stY pt)) * 8 + (x + (stX pt))).toInt64 &&& 63)))), (11, .long ((s1 / 8) * ((gf (cn (x + stX pt) (y + stY pt))).toInt64))), (10, .int (nI (j + 1))), (9, .int (y + (stY pt))), (8, .int (x + (stX pt))), (7, .int (stY pt)), (6, .int (stX pt)), (0, .ref h0), (1, .ref pl), (2, .int (nI rn)), (3, .int (nI pt)), (4, .int x0), (5, .int y0)]) hx hb dX6_traceRay_141 hl (by decide) rfl (fun ls hl => ?_)
                refine lv_goto (tgt := 33) hx hb dX6_traceRay_143 (by decide) ?_
                exact ih_33 (x + (stX pt)) (y + (stY pt)) (j + 1) ((s1 / 8) * ((gf (cn (x + stX pt) (y + stY pt))).toInt64)) (m1 ||| ((1 : Int64) <<< (((y + (stY pt)) * 8 + (x + (stX pt))).toInt64 &&& 63))) (by omega) (by omega) ((tr_win c_47 c_62 hw hlt s1 m1).symm.trans hfin) _ _ (hP.sub [0, 1, 2, 3, 4, 5, 6] rfl) (hD.sub [0, 1, 2, 3, 4, 5, 6] (by decide) rfl) hS ls (lv_sub hl [0, 1, 2, 3, 4, 5, 6, 7, 8, 9, 10, 11, 12] rfl)
  have q9_13 : (0 : Int64) = 0 := rfl
  have q9_14 : 0 = (nI 0) := rfl
  exact J_33 9 x0 y0 0 2097152 0 (by omega) (by omega) rfl _ _ (hP.sub [0, 1, 2, 3, 4, 5, 6] rfl) (hD.sub [0, 1, 2, 3, 4, 5, 6] (by decide) rfl) hS ls (lv_cast (lv_sub hl [0, 1, 2, 3, 4, 5, 6, 7, 8, 9, 10, 11, 12] rfl) (lcons (congrArg (fun z => (13, Value.long z)) q9_13) (lcons rfl (lcons (congrArg (fun z => (10, Value.int z)) q9_14) (lcons rfl (lcons rfl (lcons rfl (lcons rfl (lcons rfl (lcons rfl (lcons rfl (lcons rfl (lcons rfl (lcons rfl rfl))))))))))))))
set_option maxHeartbeats 4000000 in
set_option maxRecDepth 100000 in
theorem c_X6_trace (ln : Launch) (G : gT) (h0 : Nat) (as_ : Nat) (ah : Nat) (aw : Nat) (au : Nat) (pl : Nat) (ak : Nat) (ag : Nat) (bl : Int64) (dk : Nat) (ax : Nat) (ay : Nat) (az : Nat) (nd : Nat) (kp : Int32) (kf : Nat → Int32) (gf : Nat → Int32) (sf : Nat → Int32) (hf : Nat → Int64) (wf : Nat → Int64) (uf : Nat → Int64) (xf : Nat → Int32) (yf : Nat → Int32) (sz : Nat) (hnd : nd ≤ 4) (hok : plOK kf gf) : Met ln yX6_trace (wA (.code yX6_trace cX6_trace 7 none)) ({ frames := 3, cells := 0, slots := 0, locals := 81 } : Room) (va_Pc [.ref h0, .ref pl, .ref dk] (rwB G [(h0, .inr (6, [.ref as_, .ref ah, .ref aw, .ref au])), eI G as_ 64 sf, eJ G ah 64 hf, eJ G aw 64 wf, eJ G au 4 uf, (pl, .inr (5, [.ref ak, .ref ag, .long bl])), eI G ak 64 kf, eI G ag 64 gf, (dk, .inr (1, [.ref ax, .ref ay, .ref az, .int (nI nd), .int kp])), eI G ax 4 xf, eI G ay 4 yf] sz)) (va_Qv (S := Unit) (fun (_ : Unit) => True) (fun u => wdB G (va_A [(h0, .inr (6, [.ref as_, .ref ah, .ref aw, .ref au])), eI G as_ 64 sf, eJ G ah 64 hf, eJ G aw 64 wf, eJ G au 4 uf, (pl, .inr (5, [.ref ak, .ref ag, .long bl])), eI G ak 64 kf, eI G ag 64 gf, (dk, .inr (1, [.ref ax, .ref ay, .ref az, .int (nI nd), .int kp])), eI G ax 4 xf, eI G ay 4 yf] sz) [(h0, .inr (6, [.ref as_, .ref ah, .ref aw, .ref au])), eI G as_ 64 (tS kf gf xf yf (nd * 16) sf), eJ G ah 64 (tH kf gf xf yf (nd * 16) hf), eJ G aw 64 (tW kf gf xf yf (nd * 16) wf), eJ G au 4 (tU kf gf xf yf nd uf), (pl, .inr (5, [.ref ak, .ref ag, .long bl])), eI G ak 64 kf, eI G ag 64 gf, (dk, .inr (1, [.ref ax, .ref ay, .ref az, .int (nI nd), .int kp])), eI G ax 4 xf, eI G ay 4 yf]) (va_A [(h0, .inr (6, [.ref as_, .ref ah, .ref aw, .ref au])), eI G as_ 64 sf, eJ G ah 64 hf, eJ G aw 64 wf, eJ G au 4 uf, (pl, .inr (5, [.ref ak, .ref ag, .long bl])), eI G ak 64 kf, eI G ag 64 gf, (dk, .inr (1, [.ref ax, .ref ay, .ref az, .int (nI nd), .int kp])), eI G ax 4 xf, eI G ay 4 yf] sz)) 0 0 (va_A [(h0, .inr (6, [.ref as_, .ref ah, .ref aw, .ref au])), eI G as_ 64 sf, eJ G ah 64 hf, eJ G aw 64 wf, eJ G au 4 uf, (pl, .inr (5, [.ref ak, .ref ag, .long bl])), eI G ak 64 kf, eI G ag 64 gf, (dk, .inr (1, [.ref ax, .ref ay, .ref az, .int (nI nd), .int kp])), eI G ax 4 xf, eI G ay 4 yf] sz) := by
  refine Met.ofW (cc := cX6_trace) (maxL := 7) (ret := none) (by decide) rfl ?_
  intro pg ev s mi args below meth cd s₁ B hml hv
  obtain ⟨rfl, hsz, hP, hE, hD0, hT⟩ := hv
  have hx := B.exec
  have hb := B.bytes
  have hr := B.returns
  have hts0 := atoms_spec (ws := wA (.code yX6_trace cX6_trace 7 none)) B.pre
  have hts : ∀ w ∈ wsA, w.before _ s = true := fun w h => hts0 w (List.mem_cons_of_mem _ h)
  have hown : s.vm.findClass RX6 = some mi.cls := findClass_of_methodNamed B.named
  have hlocks := B.notSynchronized
  subst hsz
  have hD := hD0.self (sz := s.heap.size)
  generalize hAe : va_A [(h0, .inr (6, [.ref as_, .ref ah, .ref aw, .ref au])), eI G as_ 64 sf, eJ G ah 64 hf, eJ G aw 64 wf, eJ G au 4 uf, (pl, .inr (5, [.ref ak, .ref ag, .long bl])), eI G ak 64 kf, eI G ag 64 gf, (dk, .inr (1, [.ref ax, .ref ay, .ref az, .int (nI nd), .int kp])), eI G ax 4 xf, eI G ay 4 yf] s.heap.size = A at hD hT ⊢
  have hA : ∀ q : Nat, s.heap.size ≤ q → A q := fun q h => by rw [← hAe]; exact Or.inr h
  have hS : va_S A s.heap s.heap [] := va_S.rf
  have hl := lv_entry ([.ref h0, .ref pl, .ref dk]) (n := 7) (Nat.le_of_ble_eq_true rfl)
  rw [lg_entry_eq]
  generalize (lg_sl ([.ref h0, .ref pl, .ref dk]) ++ List.replicate (7 - (lg_sl ([.ref h0, .ref pl, .ref dk])).length) Slot.unset).toArray = ls at hl ⊢
  have hl : lv_has ls 7 [(0, .ref h0), (1, .ref pl), (2, .ref dk)] := hl
  refine lv_iconst (v := 0) hx hb dX6_trace_0 (by decide) ?_
  refine lv_istore_n (lv' := [(3, .int 0), (0, .ref h0), (1, .ref pl), (2, .ref dk)]) hx hb dX6_trace_1 rfl hl (by decide) rfl (fun ls hl => ?_)
  have J_2 : ∀ (n_ : Nat), ∀ (i : Nat), (i ≤ nd) → (5 ≤ i + n_) → ∀ (H : Heap) (locs : List Loc), va_P G.1 vwCl [(h0, .inr (6, [.ref as_, .ref ah, .ref aw, .ref au])), eI G as_ 64 (tS kf gf xf yf (i * 16) sf), eJ G ah 64 (tH kf gf xf yf (i * 16) hf), eJ G aw 64 (tW kf gf xf yf (i * 16) wf), eJ G au 4 (tU kf gf xf yf i uf), (pl, .inr (5, [.ref ak, .ref ag, .long bl])), eI G ak 64 kf, eI G ag 64 gf, (dk, .inr (1, [.ref ax, .ref ay, .ref az, .int (nI nd), .int kp])), eI G ax 4 xf, eI G ay 4 yf] H → va_D A [(h0, .inr (6, [.ref as_, .ref ah, .ref aw, .ref au])), eI G as_ 64 (tS kf gf xf yf (i * 16) sf), eJ G ah 64 (tH kf gf xf yf (i * 16) hf), eJ G aw 64 (tW kf gf xf yf (i * 16) wf), eJ G au 4 (tU kf gf xf yf i uf), (pl, .inr (5, [.ref ak, .ref ag, .long bl])), eI G ak 64 kf, eI G ag 64 gf, (dk, .inr (1, [.ref ax, .ref ay, .ref az, .int (nI nd), .int kp])), eI G ax 4 xf, eI G ay 4 yf] → va_S A s.heap H locs → ∀ (ls : Array Slot), lv_has ls 7 [(3, .int (nI i)), (0, .ref h0), (1, .ref pl), (2, .ref dk)] → W pg ln ev ({ frames := 3, cells := 0, slots := 0, locals := 81 } : Room) s mi ([.ref h0, .ref pl, .ref dk] : List Value).toArray below meth cd H locs 0 0 (MQ below (va_Qv (S := Unit) (fun (_ : Unit) => True) (fun u => wdB G A [(h0, .inr (6, [.ref as_, .ref ah, .ref aw, .ref au])), eI G as_ 64 (tS kf gf xf yf (nd * 16) sf), eJ G ah 64 (tH kf gf xf yf (nd * 16) hf), eJ G aw 64 (tW kf gf xf yf (nd * 16) wf), eJ G au 4 (tU kf gf xf yf nd uf), (pl, .inr (5, [.ref ak, .ref ag, .long bl])), eI G ak 64 kf, eI G ag 64 gf, (dk, .inr (1, [.ref ax, .ref ay, .ref az, .int (nI nd), .int kp])), eI G ax 4 xf, eI G ay 4 yf]) A) ([.ref h0, .ref pl, .ref dk] : List Value).toArray s 0 0 A) (F0 mi 2 ls []) := by
    intro n_
    induction n_ with
    | zero =>
      intro i hi hfi H locs hP hD hS ls hl
      exact absurd hfi (by omega)
    | succ n_ ih_2 =>
      intro i hi hfi H locs hP hD hS ls hl
      refine lv_iload_n hx hb dX6_trace_2 rfl (lv_at hl 0 rfl) ?_
      refine lv_aload_n hx hb dX6_trace_3 rfl (lv_at hl 3 rfl) ?_
      refine va_getN (ci := 1) (C := RX1) (T := TX1) (N := 5) hx hb hts hinX1 hown hE.1 hP 8 rfl rfl 3 (by decide) (nF_X6_25 hE.2) (fun _ h9 => h9) rfl dX6_trace_4 ?_
      refine lv_icmp_ge (tgt := 84) hx hb dX6_trace_7 (by decide) (fun c_7 => ?_) (fun c_7 => ?_)
      · skip
        have e_hli : i = nd := by
          rcases Nat.lt_or_ge i nd with q | q
          · exact absurd (show nI nd ≤ nI i from c_7) (nI_ge q (by omega))
          · omega
        have hP9 := hP.sub (ws' := [(h0, .inr (6, [.ref as_, .ref ah, .ref aw, .ref au])), eI G as_ 64 (tS kf gf xf yf (i * 16) sf), eJ G ah 64 (tH kf gf xf yf (i * 16) hf), eJ G aw 64 (tW kf gf xf yf (i * 16) wf), eJ G au 4 (tU kf gf xf yf i uf), (pl, .inr (5, [.ref ak, .ref ag, .long bl])), eI G ak 64 kf, eI G ag 64 gf, (dk, .inr (1, [.ref ax, .ref ay, .ref az, .int (nI nd), .int kp])), eI G ax 4 xf, eI G ay 4 yf]) [0, 1, 2, 3, 4, 5, 6, 7, 8, 9, 10] rfl
        have hD9 := hD.sub (ws' := [(h0, .inr (6, [.ref as_, .ref ah, .ref aw, .ref au])), eI G as_ 64 (tS kf gf xf yf (i * 16) sf), eJ G ah 64 (tH kf gf xf yf (i * 16) hf), eJ G aw 64 (tW kf gf xf yf (i * 16) wf), eJ G au 4 (tU kf gf xf yf i uf), (pl, .inr (5, [.ref ak, .ref ag, .long bl])), eI G ak 64 kf, eI G ag 64 gf, (dk, .inr (1, [.ref ax, .ref ay, .ref az, .int (nI nd), .int kp])), eI G ax 4 xf, eI G ay 4 yf]) [0, 1, 2, 3, 4, 5, 6, 7, 8, 9, 10] (by decide) rfl
        have q9_1 : (tS kf gf xf yf (i * 16) sf) = (tS kf gf xf yf (nd * 16) sf) := by rw [e_hli]
        have q9_2 : (tH kf gf xf yf (i * 16) hf) = (tH kf gf xf yf (nd * 16) hf) := by rw [e_hli]
        have q9_3 : (tW kf gf xf yf (i * 16) wf) = (tW kf gf xf yf (nd * 16) wf) := by rw [e_hli]
        have q9_4 : (tU kf gf xf yf i uf) = (tU kf gf xf yf nd uf) := by rw [e_hli]
        have cw9 : ([(h0, .inr (6, [.ref as_, .ref ah, .ref aw, .ref au])), eI G as_ 64 (tS kf gf xf yf (i * 16) sf), eJ G ah 64 (tH kf gf xf yf (i * 16) hf), eJ G aw 64 (tW kf gf xf yf (i * 16) wf), eJ G au 4 (tU kf gf xf yf i uf), (pl, .inr (5, [.ref ak, .ref ag, .long bl])), eI G ak 64 kf, eI G ag 64 gf, (dk, .inr (1, [.ref ax, .ref ay, .ref az, .int (nI nd), .int kp])), eI G ax 4 xf, eI G ay 4 yf] : va_W) = [(h0, .inr (6, [.ref as_, .ref ah, .ref aw, .ref au])), eI G as_ 64 (tS kf gf xf yf (nd * 16) sf), eJ G ah 64 (tH kf gf xf yf (nd * 16) hf), eJ G aw 64 (tW kf gf xf yf (nd * 16) wf), eJ G au 4 (tU kf gf xf yf nd uf), (pl, .inr (5, [.ref ak, .ref ag, .long bl])), eI G ak 64 kf, eI G ag 64 gf, (dk, .inr (1, [.ref ax, .ref ay, .ref az, .int (nI nd), .int kp])), eI G ax 4 xf, eI G ay 4 yf] := (lcons rfl (lcons (congrArg (fun z => eI G as_ 64 z) q9_1) (lcons (congrArg (fun z => eJ G ah 64 z) q9_2) (lcons (congrArg (fun z => eJ G aw 64 z) q9_3) (lcons (congrArg (fun z => eJ G au 4 z) q9_4) (lcons rfl (lcons rfl (lcons rfl (lcons rfl (lcons rfl (lcons rfl rfl)))))))))))
        have hP9 := va_castP hP9 cw9
        have hD9 := va_castD hD9 cw9
        exact W.vret hx hb hr (fun t ht hW => ⟨⟨(), rfl, trivial, by rw [ht]; exact hP9, hD9⟩, hS.F ht⟩) hS.2.2 dX6_trace_84
      · skip
        have hli : i < nd := by
          rcases Nat.lt_or_ge i nd with q | q
          · exact q
          · exact absurd (show _ ≤ nI i from (nI_le (a := nd) (b := i) q (by omega))) c_7
        refine lv_lconst (v := 0) hx hb dX6_trace_10 (by decide) ?_
        refine lv_lstore (lv' := [(4, .long (0 : Int64)), (3, .int (nI i)), (0, .ref h0), (1, .ref pl), (2, .ref dk)]) hx hb dX6_trace_11 hl (by decide) rfl (fun ls hl => ?_)
        refine lv_iconst (v := 0) hx hb dX6_trace_13 (by decide) ?_
        refine lv_istore (lv' := [(6, .int 0), (4, .long (0 : Int64)), (3, .int (nI i)), (0, .ref h0), (1, .ref pl), (2, .ref dk)]) hx hb dX6_trace_14 hl (by decide) rfl (fun ls hl => ?_)
        have J_16 : ∀ (n_ : Nat), ∀ (j : Nat), (j ≤ 16) → (17 ≤ j + n_) → ∀ (H : Heap) (locs : List Loc), va_P G.1 vwCl [(h0, .inr (6, [.ref as_, .ref ah, .ref aw, .ref au])), eI G as_ 64 (tS kf gf xf yf (i * 16 + j) sf), eJ G ah 64 (tH kf gf xf yf (i * 16 + j) hf), eJ G aw 64 (tW kf gf xf yf (i * 16 + j) wf), eJ G au 4 (tU kf gf xf yf i uf), (pl, .inr (5, [.ref ak, .ref ag, .long bl])), eI G ak 64 kf, eI G ag 64 gf, (dk, .inr (1, [.ref ax, .ref ay, .ref az, .int (nI nd), .int kp])), eI G ax 4 xf, eI G ay 4 yf] H → va_D A [(h0, .inr (6, [.ref as_, .ref ah, .ref aw, .ref au])), eI G as_ 64 (tS kf gf xf yf (i * 16 + j) sf), eJ G ah 64 (tH kf gf xf yf (i * 16 + j) hf), eJ G aw 64 (tW kf gf xf yf (i * 16 + j) wf), eJ G au 4 (tU kf gf xf yf i uf), (pl, .inr (5, [.ref ak, .ref ag, .long bl])), eI G ak 64 kf, eI G ag 64 gf, (dk, .inr (1, [.ref ax, .ref ay, .ref az, .int (nI nd), .int kp])), eI G ax 4 xf, eI G ay 4 yf] → va_S A s.heap H locs → ∀ (ls : Array Slot), lv_has ls 7 [(6, .int (nI j)), (4, .long (sumL (fun p => (rayT kf gf (xf i) (yf i) p).2.1) j)), (3, .int (nI i)), (0, .ref h0), (1, .ref pl), (2, .ref dk)] → W pg ln ev ({ frames := 3, cells := 0, slots := 0, locals := 81 } : Room) s mi ([.ref h0, .ref pl, .ref dk] : List Value).toArray below meth cd H locs 0 0 (MQ below (va_Qv (S := Unit) (fun (_ : Unit) => True) (fun u => wdB G A [(h0, .inr (6, [.ref as_, .ref ah, .ref aw, .ref au])), eI G as_ 64 (tS kf gf xf yf (nd * 16) sf), eJ G ah 64 (tH kf gf xf yf (nd * 16) hf), eJ G aw 64 (tW kf gf xf yf (nd * 16) wf), eJ G au 4 (tU kf gf xf yf nd uf), (pl, .inr (5, [.ref ak, .ref ag, .long bl])), eI G ak 64 kf, eI G ag 64 gf, (dk, .inr (1, [.ref ax, .ref ay, .ref az, .int (nI nd), .int kp])), eI G ax 4 xf, eI G ay 4 yf]) A) ([.ref h0, .ref pl, .ref dk] : List Value).toArray s 0 0 A) (F0 mi 16 ls []) := by
          intro n_
          induction n_ with
          | zero =>
            intro j hj hfj H locs hP hD hS ls hl
            exact absurd hfj (by omega)
          | succ n_ ih_16 =>
            intro j hj hfj H locs hP hD hS ls hl
            refine lv_iload hx hb dX6_trace_16 (lv_at hl 0 rfl) ?_
            refine lv_bipush (v := 16) hx hb dX6_trace_18 (by decide) ?_
            refine lv_icmp_ge (tgt := 70) hx hb dX6_trace_20 (by decide) (fun c_20 => ?_) (fun c_20 => ?_)
            · skip
              have e_hlj : j = 16 := by
                rcases Nat.lt_or_ge j 16 with q | q
                · exact absurd (show nI 16 ≤ nI j from c_20) (nI_ge q (by omega))
                · omega
              refine lv_aload_n hx hb dX6_trace_70 rfl (lv_at hl 3 rfl) ?_
              refine va_get (ci := 6) (C := RX6) (T := TX6) (N := 4) hx hb hts hinX6 hown hE.1 hP 0 rfl rfl 3 (by decide) (hts _ kFl_X6_22) (fun _ h9 => h9) rfl dX6_trace_71 ?_
              refine lv_iload_n hx hb dX6_trace_74 rfl (lv_at hl 2 rfl) ?_
              refine lv_lload hx hb dX6_trace_75 (lv_at hl 1 rfl) ?_
              refine rj_ast (j := i) hx hb hE hP hD hS 4 rfl (nI_clamp (by omega)) (vp_in_nI (by omega) (by omega)) dX6_trace_77 (fun H locs hP hD hS => ?_)
              have hP : va_P G.1 vwCl [(h0, .inr (6, [.ref as_, .ref ah, .ref aw, .ref au])), eI G as_ 64 (tS kf gf xf yf (i * 16 + j) sf), eJ G ah 64 (tH kf gf xf yf (i * 16 + j) hf), eJ G aw 64 (tW kf gf xf yf (i * 16 + j) wf), eJ G au 4 (vp_updL (tU kf gf xf yf i uf) i (sumL (fun p => (rayT kf gf (xf i) (yf i) p).2.1) j)), (pl, .inr (5, [.ref ak, .ref ag, .long bl])), eI G ak 64 kf, eI G ag 64 gf, (dk, .inr (1, [.ref ax, .ref ay, .ref az, .int (nI nd), .int kp])), eI G ax 4 xf, eI G ay 4 yf] H := hP
              have hD : va_D A [(h0, .inr (6, [.ref as_, .ref ah, .ref aw, .ref au])), eI G as_ 64 (tS kf gf xf yf (i * 16 + j) sf), eJ G ah 64 (tH kf gf xf yf (i * 16 + j) hf), eJ G aw 64 (tW kf gf xf yf (i * 16 + j) wf), eJ G au 4 (vp_updL (tU kf gf xf yf i uf) i (sumL (fun p => (rayT kf gf (xf i) (yf i) p).2.1) j)), (pl, .inr (5, [.ref ak, .ref ag, .long bl])), eI G ak 64 kf, eI G ag 64 gf, (dk, .inr (1, [.ref ax, .ref ay, .ref az, .int (nI nd), .int kp])), eI G ax 4 xf, eI G ay 4 yf] := hD
              refine lv_iinc (v := nI (i + 1)) (lv' := [(3, .int (nI (i + 1))), (6, .int (nI j)), (4, .long (sumL (fun p => (rayT kf gf (xf i) (yf i) p).2.1) j)), (0, .ref h0), (1, .ref pl), (2, .ref dk)]) hx hb dX6_trace_78 hl (k := 2) rfl (nI_1 _) (by decide) rfl (fun ls hl => ?_)
              refine lv_goto (tgt := 2) hx hb dX6_trace_81 (by decide) ?_
              have q9_5 : (tS kf gf xf yf (i * 16 + j) sf) = (tS kf gf xf yf ((i + 1) * 16) sf) := by rw [e_hlj, Nat.succ_mul]
              have q9_6 : (tH kf gf xf yf (i * 16 + j) hf) = (tH kf gf xf yf ((i + 1) * 16) hf) := by rw [e_hlj, Nat.succ_mul]
              have q9_7 : (tW kf gf xf yf (i * 16 + j) wf) = (tW kf gf xf yf ((i + 1) * 16) wf) := by rw [e_hlj, Nat.succ_mul]
              have q9_8 : (vp_updL (tU kf gf xf yf i uf) i (sumL (fun p => (rayT kf gf (xf i) (yf i) p).2.1) j)) = (tU kf gf xf yf (i + 1) uf) := by rw [e_hlj]; exact tU_s
              have cw9 : ([(h0, .inr (6, [.ref as_, .ref ah, .ref aw, .ref au])), eI G as_ 64 (tS kf gf xf yf (i * 16 + j) sf), eJ G ah 64 (tH kf gf xf yf (i * 16 + j) hf), eJ G aw 64 (tW kf gf xf yf (i * 16 + j) wf), eJ G au 4 (vp_updL (tU kf gf xf yf i uf) i (sumL (fun p => (rayT kf gf (xf i) (yf i) p).2.1) j)), (pl, .inr (5, [.ref ak, .ref ag, .long bl])), eI G ak 64 kf, eI G ag 64 gf, (dk, .inr (1, [.ref ax, .ref ay, .ref az, .int (nI nd), .int kp])), eI G ax 4 xf, eI G ay 4 yf] : va_W) = [(h0, .inr (6, [.ref as_, .ref ah, .ref aw, .ref au])), eI G as_ 64 (tS kf gf xf yf ((i + 1) * 16) sf), eJ G ah 64 (tH kf gf xf yf ((i + 1) * 16) hf), eJ G aw 64 (tW kf gf xf yf ((i + 1) * 16) wf), eJ G au 4 (tU kf gf xf yf (i + 1) uf), (pl, .inr (5, [.ref ak, .ref ag, .long bl])), eI G ak 64 kf, eI G ag 64 gf, (dk, .inr (1, [.ref ax, .ref ay, .ref az, .int (nI nd), .int kp])), eI G ax 4 xf, eI G ay 4 yf] := (lcons rfl (lcons (congrArg (fun z => eI G as_ 64 z) q9_5) (lcons (congrArg (fun z => eJ G ah 64 z) q9_6) (lcons (congrArg (fun z => eJ G aw 64 z) q9_7) (lcons (congrArg (fun z => eJ G au 4 z) q9_8) (lcons rfl (lcons rfl (lcons rfl (lcons rfl (lcons rfl (lcons rfl rfl)))))))))))
              exact ih_2 (i + 1) (by omega) (by omega) _ _ (va_castP (hP.sub [0, 1, 2, 3, 4, 5, 6, 7, 8, 9, 10] rfl) cw9) (va_castD (hD.sub [0, 1, 2, 3, 4, 5, 6, 7, 8, 9, 10] (by decide) rfl) cw9) hS ls (lv_sub hl [0, 3, 4, 5] rfl)
            · skip
              have hlj : j < 16 := by
                rcases Nat.lt_or_ge j 16 with q | q
                · exact q
                · exact absurd (show _ ≤ nI j from (nI_le (a := 16) (b := j) q (by omega))) c_20
              refine lv_aload_n hx hb dX6_trace_23 rfl (lv_at hl 3 rfl) ?_
              refine lv_aload_n hx hb dX6_trace_24 rfl (lv_at hl 4 rfl) ?_
              refine lv_iload_n hx hb dX6_trace_25 rfl (lv_at hl 2 rfl) ?_
              refine lv_iload hx hb dX6_trace_26 (lv_at hl 0 rfl) ?_
              refine ca_Si (val := (nI i) * 16 + (nI j)) (va_runSN (As := [.int (nI i), .int (nI j)]) (rest := [.ref pl, .ref h0]) ⟨hx, hb, hml, hown, hts⟩ (c_X7_rayNumber ln (nI i) (nI j) ) ⟨va_cnB 2 hts (gA kCode_X7_rayNumber) rfl rfl rfl (nM_X6_31 hE.2) (hts _ kIni_X7) hd_X7_rayNumber ⟨Nat.le_of_ble_eq_true rfl, Nat.le_of_ble_eq_true rfl⟩, hts _ kSt_X7_rayNumber, trivial⟩ ⟨pu_blind, pu_pre⟩ rfl rfl hl.1 rfl (lv_room (Nat.le_of_ble_eq_true rfl)) dX6_trace_28 ⟨Nat.zero_le _, Nat.zero_le _⟩) ?_
              rw [show ((nI i) * 16 + (nI j)) = (nI (i * 16 + j)) from rn_eq i j]
              refine lv_iload hx hb dX6_trace_31 (lv_at hl 0 rfl) ?_
              refine lv_aload_n hx hb dX6_trace_33 rfl (lv_at hl 5 rfl) ?_
              refine va_getN (ci := 1) (C := RX1) (T := TX1) (N := 5) hx hb hts hinX1 hown hE.1 hP 8 rfl rfl 0 (by decide) (nF_X6_35 hE.2) (fun _ h9 => h9) rfl dX6_trace_34 ?_
              refine lv_iload_n hx hb dX6_trace_37 rfl (lv_at hl 2 rfl) ?_
              refine ri_ald (j := i) hx hb hE hP 9 rfl (nI_clamp (by omega)) (vp_in_nI (by omega) (by omega)) dX6_trace_38 ?_
              refine lv_aload_n hx hb dX6_trace_39 rfl (lv_at hl 5 rfl) ?_
              refine va_getN (ci := 1) (C := RX1) (T := TX1) (N := 5) hx hb hts hinX1 hown hE.1 hP 8 rfl rfl 1 (by decide) (nF_X6_38 hE.2) (fun _ h9 => h9) rfl dX6_trace_40 ?_
              refine lv_iload_n hx hb dX6_trace_43 rfl (lv_at hl 2 rfl) ?_
              refine ri_ald (j := i) hx hb hE hP 10 rfl (nI_clamp (by omega)) (vp_in_nI (by omega) (by omega)) dX6_trace_44 ?_
              have hF_ := va_free (wc := [(h0, .inr (6, [.ref as_, .ref ah, .ref aw, .ref au])), eI G as_ 64 (tS kf gf xf yf (i * 16 + j) sf), eJ G ah 64 (tH kf gf xf yf (i * 16 + j) hf), eJ G aw 64 (tW kf gf xf yf (i * 16 + j) wf), (pl, .inr (5, [.ref ak, .ref ag, .long bl])), eI G ak 64 kf, eI G ag 64 gf]) hD hS hA [0, 1, 2, 3, 5, 6, 7] rfl
              refine ca_Qv (wr := [eJ G au 4 (tU kf gf xf yf i uf), (dk, .inr (1, [.ref ax, .ref ay, .ref az, .int (nI nd), .int kp])), eI G ax 4 xf, eI G ay 4 yf]) (va_runV (As := [.ref pl, .int (nI (i * 16 + j)), .int (nI j), .int (xf i), .int (yf i)]) (rest := []) ⟨hx, hb, hml, hown, hts⟩ (c_X6_traceRay ln G h0 as_ ah aw au pl ak ag bl kf gf (tS kf gf xf yf (i * 16 + j) sf) (tH kf gf xf yf (i * 16 + j) hf) (tW kf gf xf yf (i * 16 + j) wf) (i * 16 + j) j (xf i) (yf i) H.size (by omega) (by omega) (by assumption)) (cwV 5 hts (gV kCode_X6_traceRay kMl_X6_41 kIm_X6_traceRay kSel_X6_traceRay kIni_X6) rfl rfl rfl ⟨rfl, hd_X6_traceRay⟩ ⟨Nat.le_of_ble_eq_true rfl, Nat.le_of_ble_eq_true rfl⟩) ⟨rw_blind, va_recv hE.1 hP (ci := 6) (q0 := 0) rfl rfl, (rw_pre (hP.sub [0, 1, 2, 3, 5, 6, 7] rfl) (hD.sub [0, 1, 2, 3, 5, 6, 7] (by decide) rfl) hF_ hS hE hT)⟩ rfl rfl hl.1 rfl (lv_room (Nat.le_of_ble_eq_true rfl)) dX6_trace_45 ⟨Nat.zero_le _, Nat.zero_le _⟩) hP hD hS hA [0, 1, 2, 3, 5, 6, 7] [4, 8, 9, 10] rfl rfl rfl (by decide) (fun u_45 H locs w_45 hP hD hS => ?_)
              have hP : va_P G.1 vwCl [eJ G au 4 (tU kf gf xf yf i uf), (dk, .inr (1, [.ref ax, .ref ay, .ref az, .int (nI nd), .int kp])), eI G ax 4 xf, eI G ay 4 yf, (h0, .inr (6, [.ref as_, .ref ah, .ref aw, .ref au])), eI G as_ 64 (upd (tS kf gf xf yf (i * 16 + j) sf) (i * 16 + j) (rayT kf gf (xf i) (yf i) j).1), eJ G ah 64 (vp_updL (tH kf gf xf yf (i * 16 + j) hf) (i * 16 + j) (rayT kf gf (xf i) (yf i) j).2.1), eJ G aw 64 (vp_updL (tW kf gf xf yf (i * 16 + j) wf) (i * 16 + j) (rayT kf gf (xf i) (yf i) j).2.2), (pl, .inr (5, [.ref ak, .ref ag, .long bl])), eI G ak 64 kf, eI G ag 64 gf] H := hP
              have hD : va_D A [eJ G au 4 (tU kf gf xf yf i uf), (dk, .inr (1, [.ref ax, .ref ay, .ref az, .int (nI nd), .int kp])), eI G ax 4 xf, eI G ay 4 yf, (h0, .inr (6, [.ref as_, .ref ah, .ref aw, .ref au])), eI G as_ 64 (upd (tS kf gf xf yf (i * 16 + j) sf) (i * 16 + j) (rayT kf gf (xf i) (yf i) j).1), eJ G ah 64 (vp_updL (tH kf gf xf yf (i * 16 + j) hf) (i * 16 + j) (rayT kf gf (xf i) (yf i) j).2.1), eJ G aw 64 (vp_updL (tW kf gf xf yf (i * 16 + j) wf) (i * 16 + j) (rayT kf gf (xf i) (yf i) j).2.2), (pl, .inr (5, [.ref ak, .ref ag, .long bl])), eI G ak 64 kf, eI G ag 64 gf] := hD
              refine lv_lload hx hb dX6_trace_48 (lv_at hl 1 rfl) ?_
              refine lv_aload_n hx hb dX6_trace_50 rfl (lv_at hl 3 rfl) ?_
              refine va_get (ci := 6) (C := RX6) (T := TX6) (N := 4) hx hb hts hinX6 hown hE.1 hP 4 rfl rfl 1 (by decide) (hts _ kFl_X6_15) (fun _ h9 => h9) rfl dX6_trace_51 ?_
              refine lv_iload_n hx hb dX6_trace_54 rfl (lv_at hl 2 rfl) ?_
              refine lv_iload hx hb dX6_trace_55 (lv_at hl 0 rfl) ?_
              refine ca_Si (val := (nI i) * 16 + (nI j)) (va_runSN (As := [.int (nI i), .int (nI j)]) (rest := [.ref ah, .long (sumL (fun p => (rayT kf gf (xf i) (yf i) p).2.1) j)]) ⟨hx, hb, hml, hown, hts⟩ (c_X7_rayNumber ln (nI i) (nI j) ) ⟨va_cnB 2 hts (gA kCode_X7_rayNumber) rfl rfl rfl (nM_X6_31 hE.2) (hts _ kIni_X7) hd_X7_rayNumber ⟨Nat.le_of_ble_eq_true rfl, Nat.le_of_ble_eq_true rfl⟩, hts _ kSt_X7_rayNumber, trivial⟩ ⟨pu_blind, pu_pre⟩ rfl rfl hl.1 rfl (lv_room (Nat.le_of_ble_eq_true rfl)) dX6_trace_57 ⟨Nat.zero_le _, Nat.zero_le _⟩) ?_
              rw [show ((nI i) * 16 + (nI j)) = (nI (i * 16 + j)) from rn_eq i j]
              refine rj_ald (j := i * 16 + j) hx hb hE hP 6 rfl (nI_clamp (by omega)) (vp_in_nI (by omega) (by omega)) dX6_trace_60 ?_
              refine lv_ladd hx hb dX6_trace_61 ?_
              refine lv_lstore (lv' := [(4, .long ((sumL (fun p => (rayT kf gf (xf i) (yf i) p).2.1) j) + ((vp_updL (tH kf gf xf yf (i * 16 + j) hf) (i * 16 + j) (rayT kf gf (xf i) (yf i) j).2.1) (i * 16 + j)))), (6, .int (nI j)), (3, .int (nI i)), (0, .ref h0), (1, .ref pl), (2, .ref dk)]) hx hb dX6_trace_62 hl (by decide) rfl (fun ls hl => ?_)
              refine lv_iinc (v := nI (j + 1)) (lv' := [(6, .int (nI (j + 1))), (4, .long ((sumL (fun p => (rayT kf gf (xf i) (yf i) p).2.1) j) + ((vp_updL (tH kf gf xf yf (i * 16 + j) hf) (i * 16 + j) (rayT kf gf (xf i) (yf i) j).2.1) (i * 16 + j)))), (3, .int (nI i)), (0, .ref h0), (1, .ref pl), (2, .ref dk)]) hx hb dX6_trace_64 hl (k := 1) rfl (nI_1 _) (by decide) rfl (fun ls hl => ?_)
              refine lv_goto (tgt := 16) hx hb dX6_trace_67 (by decide) ?_
              have q9_9 : ((sumL (fun p => (rayT kf gf (xf i) (yf i) p).2.1) j) + ((vp_updL (tH kf gf xf yf (i * 16 + j) hf) (i * 16 + j) (rayT kf gf (xf i) (yf i) j).2.1) (i * 16 + j))) = (sumL (fun p => (rayT kf gf (xf i) (yf i) p).2.1) (j + 1)) := by rw [pk_uLs]; rfl
              have q9_10 : (upd (tS kf gf xf yf (i * 16 + j) sf) (i * 16 + j) (rayT kf gf (xf i) (yf i) j).1) = (tS kf gf xf yf (i * 16 + (j + 1)) sf) := tS_s hlj
              have q9_11 : (vp_updL (tH kf gf xf yf (i * 16 + j) hf) (i * 16 + j) (rayT kf gf (xf i) (yf i) j).2.1) = (tH kf gf xf yf (i * 16 + (j + 1)) hf) := tH_s hlj
              have q9_12 : (vp_updL (tW kf gf xf yf (i * 16 + j) wf) (i * 16 + j) (rayT kf gf (xf i) (yf i) j).2.2) = (tW kf gf xf yf (i * 16 + (j + 1)) wf) := tW_s hlj
              have cw9 : ([(h0, .inr (6, [.ref as_, .ref ah, .ref aw, .ref au])), eI G as_ 64 (upd (tS kf gf xf yf (i * 16 + j) sf) (i * 16 + j) (rayT kf gf (xf i) (yf i) j).1), eJ G ah 64 (vp_updL (tH kf gf xf yf (i * 16 + j) hf) (i * 16 + j) (rayT kf gf (xf i) (yf i) j).2.1), eJ G aw 64 (vp_updL (tW kf gf xf yf (i * 16 + j) wf) (i * 16 + j) (rayT kf gf (xf i) (yf i) j).2.2), eJ G au 4 (tU kf gf xf yf i uf), (pl, .inr (5, [.ref ak, .ref ag, .long bl])), eI G ak 64 kf, eI G ag 64 gf, (dk, .inr (1, [.ref ax, .ref ay, .ref az, .int (nI nd), .int kp])), eI G ax 4 xf, eI G ay 4 yf] : va_W) = [(h0, .inr (6, [.ref as_, .ref ah, .ref aw, .ref au])), eI G as_ 64 (tS kf gf xf yf (i * 16 + (j + 1)) sf), eJ G ah 64 (tH kf gf xf yf (i * 16 + (j + 1)) hf), eJ G aw 64 (tW kf gf xf yf (i * 16 + (j + 1)) wf), eJ G au 4 (tU kf gf xf yf i uf), (pl, .inr (5, [.ref ak, .ref ag, .long bl])), eI G ak 64 kf, eI G ag 64 gf, (dk, .inr (1, [.ref ax, .ref ay, .ref az, .int (nI nd), .int kp])), eI G ax 4 xf, eI G ay 4 yf] := (lcons rfl (lcons (congrArg (fun z => eI G as_ 64 z) q9_10) (lcons (congrArg (fun z => eJ G ah 64 z) q9_11) (lcons (congrArg (fun z => eJ G aw 64 z) q9_12) (lcons rfl (lcons rfl (lcons rfl (lcons rfl (lcons rfl (lcons rfl (lcons rfl rfl)))))))))))
              exact ih_16 (j + 1) (by omega) (by omega) _ _ (va_castP (hP.sub [4, 5, 6, 7, 0, 8, 9, 10, 1, 2, 3] rfl) cw9) (va_castD (hD.sub [4, 5, 6, 7, 0, 8, 9, 10, 1, 2, 3] (by decide) rfl) cw9) hS ls (lv_cast (lv_sub hl [0, 1, 2, 3, 4, 5] rfl) (lcons rfl (lcons (congrArg (fun z => (4, Value.long z)) q9_9) (lcons rfl (lcons rfl (lcons rfl (lcons rfl rfl)))))))
        have q9_13 : 0 = (nI 0) := rfl
        have q9_14 : (0 : Int64) = (sumL (fun p => (rayT kf gf (xf i) (yf i) p).2.1) 0) := rfl
        have q9_15 : (tS kf gf xf yf (i * 16) sf) = (tS kf gf xf yf (i * 16 + 0) sf) := rfl
        have q9_16 : (tH kf gf xf yf (i * 16) hf) = (tH kf gf xf yf (i * 16 + 0) hf) := rfl
        have q9_17 : (tW kf gf xf yf (i * 16) wf) = (tW kf gf xf yf (i * 16 + 0) wf) := rfl
        have cw9 : ([(h0, .inr (6, [.ref as_, .ref ah, .ref aw, .ref au])), eI G as_ 64 (tS kf gf xf yf (i * 16) sf), eJ G ah 64 (tH kf gf xf yf (i * 16) hf), eJ G aw 64 (tW kf gf xf yf (i * 16) wf), eJ G au 4 (tU kf gf xf yf i uf), (pl, .inr (5, [.ref ak, .ref ag, .long bl])), eI G ak 64 kf, eI G ag 64 gf, (dk, .inr (1, [.ref ax, .ref ay, .ref az, .int (nI nd), .int kp])), eI G ax 4 xf, eI G ay 4 yf] : va_W) = [(h0, .inr (6, [.ref as_, .ref ah, .ref aw, .ref au])), eI G as_ 64 (tS kf gf xf yf (i * 16 + 0) sf), eJ G ah 64 (tH kf gf xf yf (i * 16 + 0) hf), eJ G aw 64 (tW kf gf xf yf (i * 16 + 0) wf), eJ G au 4 (tU kf gf xf yf i uf), (pl, .inr (5, [.ref ak, .ref ag, .long bl])), eI G ak 64 kf, eI G ag 64 gf, (dk, .inr (1, [.ref ax, .ref ay, .ref az, .int (nI nd), .int kp])), eI G ax 4 xf, eI G ay 4 yf] := (lcons rfl (lcons (congrArg (fun z => eI G as_ 64 z) q9_15) (lcons (congrArg (fun z => eJ G ah 64 z) q9_16) (lcons (congrArg (fun z => eJ G aw 64 z) q9_17) (lcons rfl (lcons rfl (lcons rfl (lcons rfl (lcons rfl (lcons rfl (lcons rfl rfl)))))))))))
        exact J_16 17 0 (by omega) (by omega) _ _ (va_castP (hP.sub [0, 1, 2, 3, 4, 5, 6, 7, 8, 9, 10] rfl) cw9) (va_castD (hD.sub [0, 1, 2, 3, 4, 5, 6, 7, 8, 9, 10] (by decide) rfl) cw9) hS ls (lv_cast (lv_sub hl [0, 1, 2, 3, 4, 5] rfl) (lcons (congrArg (fun z => (6, Value.int z)) q9_13) (lcons (congrArg (fun z => (4, Value.long z)) q9_14) (lcons rfl (lcons rfl (lcons rfl (lcons rfl rfl)))))))
  have q9_18 : 0 = (nI 0) := rfl
  have q9_19 : sf = (tS kf gf xf yf (0 * 16) sf) := tS_0 kf gf xf yf sf
  have q9_20 : hf = (tH kf gf xf yf (0 * 16) hf) := tH_0 kf gf xf yf hf
  have q9_21 : wf = (tW kf gf xf yf (0 * 16) wf) := tW_0 kf gf xf yf wf
  have q9_22 : uf = (tU kf gf xf yf 0 uf) := tU_0 kf gf xf yf uf
  have cw9 : ([(h0, .inr (6, [.ref as_, .ref ah, .ref aw, .ref au])), eI G as_ 64 sf, eJ G ah 64 hf, eJ G aw 64 wf, eJ G au 4 uf, (pl, .inr (5, [.ref ak, .ref ag, .long bl])), eI G ak 64 kf, eI G ag 64 gf, (dk, .inr (1, [.ref ax, .ref ay, .ref az, .int (nI nd), .int kp])), eI G ax 4 xf, eI G ay 4 yf] : va_W) = [(h0, .inr (6, [.ref as_, .ref ah, .ref aw, .ref au])), eI G as_ 64 (tS kf gf xf yf (0 * 16) sf), eJ G ah 64 (tH kf gf xf yf (0 * 16) hf), eJ G aw 64 (tW kf gf xf yf (0 * 16) wf), eJ G au 4 (tU kf gf xf yf 0 uf), (pl, .inr (5, [.ref ak, .ref ag, .long bl])), eI G ak 64 kf, eI G ag 64 gf, (dk, .inr (1, [.ref ax, .ref ay, .ref az, .int (nI nd), .int kp])), eI G ax 4 xf, eI G ay 4 yf] := (lcons rfl (lcons (congrArg (fun z => eI G as_ 64 z) q9_19) (lcons (congrArg (fun z => eJ G ah 64 z) q9_20) (lcons (congrArg (fun z => eJ G aw 64 z) q9_21) (lcons (congrArg (fun z => eJ G au 4 z) q9_22) (lcons rfl (lcons rfl (lcons rfl (lcons rfl (lcons rfl (lcons rfl rfl)))))))))))
  exact J_2 5 0 (by omega) (by omega) _ _ (va_castP (hP.sub [0, 1, 2, 3, 4, 5, 6, 7, 8, 9, 10] rfl) cw9) (va_castD (hD.sub [0, 1, 2, 3, 4, 5, 6, 7, 8, 9, 10] (by decide) rfl) cw9) hS ls (lv_cast (lv_sub hl [0, 1, 2, 3] rfl) (lcons (congrArg (fun z => (3, Value.int z)) q9_18) (lcons rfl (lcons rfl (lcons rfl rfl)))))
set_option maxHeartbeats 4000000 in
set_option maxRecDepth 100000 in
theorem c_X6_shareUnder (ln : Launch) (G : gT) (h0 : Nat) (as_ : Nat) (ah : Nat) (aw : Nat) (au : Nat) (pl : Nat) (ak : Nat) (ag : Nat) (bl : Int64) (dk : Nat) (ax : Nat) (ay : Nat) (az : Nat) (nd : Nat) (kp : Int32) (gf : Nat → Int32) (sf : Nat → Int32) (hf : Nat → Int64) (wf : Nat → Int64) (xf : Nat → Int32) (yf : Nat → Int32) (d : Nat) (pt : Nat) (lw : Int64) (hd4 : d < 4) (hpt : pt < 16) (h8 : (sf (d * 16 + pt)).toInt ≤ 8) : Met ln yX6_shareUnder (wA (.code yX6_shareUnder cX6_shareUnder 13 (some .long))) ({ frames := 1, cells := 0, slots := 0, locals := 22 } : Room) (va_Pc [.ref h0, .ref pl, .ref dk, .int (nI d), .int (nI pt), .long lw] (roB G [(h0, .inr (6, [.ref as_, .ref ah, .ref aw, .ref au])), eI G as_ 64 sf, eJ G ah 64 hf, eJ G aw 64 wf, (pl, .inr (5, [.ref ak, .ref ag, .long bl])), eI G ag 64 gf, (dk, .inr (1, [.ref ax, .ref ay, .ref az, .int (nI nd), .int kp])), eI G ax 4 xf, eI G ay 4 yf])) (vp_Sl (fun r => r = suV gf xf yf sf hf wf lw d pt)) 0 0 (fun _ => False) := by
  refine Met.ofW (cc := cX6_shareUnder) (maxL := 13) (ret := (some .long)) (by decide) rfl ?_
  intro pg ev s mi args below meth cd s₁ B hml hv
  obtain ⟨rfl, hP, hE, hT⟩ := hv
  have hx := B.exec
  have hb := B.bytes
  have hr := B.returns
  have hts0 := atoms_spec (ws := wA (.code yX6_shareUnder cX6_shareUnder 13 (some .long))) B.pre
  have hts : ∀ w ∈ wsA, w.before _ s = true := fun w h => hts0 w (List.mem_cons_of_mem _ h)
  have hown : s.vm.findClass RX6 = some mi.cls := findClass_of_methodNamed B.named
  have hlocks := B.notSynchronized
  have hS : va_S (fun _ => False) s.heap s.heap [] := va_S.rf
  have hl := lv_entry ([.ref h0, .ref pl, .ref dk, .int (nI d), .int (nI pt), .long lw]) (n := 13) (Nat.le_of_ble_eq_true rfl)
  rw [lg_entry_eq]
  generalize (lg_sl ([.ref h0, .ref pl, .ref dk, .int (nI d), .int (nI pt), .long lw]) ++ List.replicate (13 - (lg_sl ([.ref h0, .ref pl, .ref dk, .int (nI d), .int (nI pt), .long lw])).length) Slot.unset).toArray = ls at hl ⊢
  have hl : lv_has ls 13 [(0, .ref h0), (1, .ref pl), (2, .ref dk), (3, .int (nI d)), (4, .int (nI pt)), (5, .long lw)] := hl
  obtain ⟨K, hK⟩ : ∃ K, (sf (d * 16 + pt)).toNatClampNeg - 1 = K := ⟨_, rfl⟩
  have hK7 := un_K h8
  rw [hK] at hK7
  refine lv_iload_n hx hb dX6_shareUnder_0 rfl (lv_at hl 3 rfl) ?_
  refine lv_iload hx hb dX6_shareUnder_1 (lv_at hl 4 rfl) ?_
  refine ca_Si (val := (nI d) * 16 + (nI pt)) (va_runSN (As := [.int (nI d), .int (nI pt)]) (rest := []) ⟨hx, hb, hml, hown, hts⟩ (c_X7_rayNumber ln (nI d) (nI pt) ) ⟨va_cnB 2 hts (gA kCode_X7_rayNumber) rfl rfl rfl (nM_X6_31 hE.2) (hts _ kIni_X7) hd_X7_rayNumber ⟨Nat.le_of_ble_eq_true rfl, Nat.le_of_ble_eq_true rfl⟩, hts _ kSt_X7_rayNumber, trivial⟩ ⟨pu_blind, pu_pre⟩ rfl rfl hl.1 rfl (lv_room (Nat.le_of_ble_eq_true rfl)) dX6_shareUnder_3 ⟨Nat.zero_le _, Nat.zero_le _⟩) ?_
  rw [show ((nI d) * 16 + (nI pt)) = (nI (d * 16 + pt)) from rn_eq d pt]
  refine lv_istore (lv' := [(7, .int (nI (d * 16 + pt))), (0, .ref h0), (1, .ref pl), (2, .ref dk), (3, .int (nI d)), (4, .int (nI pt)), (5, .long lw)]) hx hb dX6_shareUnder_6 hl (by decide) rfl (fun ls hl => ?_)
  refine lv_aload_n hx hb dX6_shareUnder_8 rfl (lv_at hl 1 rfl) ?_
  refine va_get (ci := 6) (C := RX6) (T := TX6) (N := 4) hx hb hts hinX6 hown hE.1 hP 0 rfl rfl 1 (by decide) (hts _ kFl_X6_15) (fun _ h9 => h9) rfl dX6_shareUnder_9 ?_
  refine lv_iload hx hb dX6_shareUnder_12 (lv_at hl 0 rfl) ?_
  refine rj_ald (j := d * 16 + pt) hx hb hE hP 2 rfl (nI_clamp (by omega)) (vp_in_nI (by omega) (by omega)) dX6_shareUnder_14 ?_
  refine lv_lstore (lv' := [(8, .long (hf (d * 16 + pt))), (7, .int (nI (d * 16 + pt))), (0, .ref h0), (1, .ref pl), (2, .ref dk), (3, .int (nI d)), (4, .int (nI pt)), (5, .long lw)]) hx hb dX6_shareUnder_15 hl (by decide) rfl (fun ls hl => ?_)
  refine lv_aload_n hx hb dX6_shareUnder_17 rfl (lv_at hl 2 rfl) ?_
  refine va_get (ci := 6) (C := RX6) (T := TX6) (N := 4) hx hb hts hinX6 hown hE.1 hP 0 rfl rfl 2 (by decide) (hts _ kFl_X6_19) (fun _ h9 => h9) rfl dX6_shareUnder_18 ?_
  refine lv_iload hx hb dX6_shareUnder_21 (lv_at hl 1 rfl) ?_
  refine rj_ald (j := d * 16 + pt) hx hb hE hP 3 rfl (nI_clamp (by omega)) (vp_in_nI (by omega) (by omega)) dX6_shareUnder_23 ?_
  refine lv_lload hx hb dX6_shareUnder_24 (lv_at hl 7 rfl) ?_
  refine lv_land hx hb dX6_shareUnder_26 ?_
  refine lv_lconst (v := 0) hx hb dX6_shareUnder_27 (by decide) ?_
  refine W.lcmp hx hb dX6_shareUnder_28 ?_
  refine lv_if_ne (tgt := 35) hx hb dX6_shareUnder_29 (by decide) (fun c_29 => ?_) (fun c_29 => ?_)
  · skip
    rw [lg_cmp_eq] at c_29
    refine lv_aload_n hx hb dX6_shareUnder_35 rfl (lv_at hl 4 rfl) ?_
    refine va_getN (ci := 1) (C := RX1) (T := TX1) (N := 5) hx hb hts hinX1 hown hE.1 hP 6 rfl rfl 0 (by decide) (nF_X6_35 hE.2) (fun _ h9 => h9) rfl dX6_shareUnder_36 ?_
    refine lv_iload_n hx hb dX6_shareUnder_39 rfl (lv_at hl 5 rfl) ?_
    refine ri_ald (j := d) hx hb hE hP 7 rfl (nI_clamp (by omega)) (vp_in_nI (by omega) (by omega)) dX6_shareUnder_40 ?_
    refine lv_aload_n hx hb dX6_shareUnder_41 rfl (lv_at hl 4 rfl) ?_
    refine va_getN (ci := 1) (C := RX1) (T := TX1) (N := 5) hx hb hts hinX1 hown hE.1 hP 6 rfl rfl 1 (by decide) (nF_X6_38 hE.2) (fun _ h9 => h9) rfl dX6_shareUnder_42 ?_
    refine lv_iload_n hx hb dX6_shareUnder_45 rfl (lv_at hl 5 rfl) ?_
    refine ri_ald (j := d) hx hb hE hP 8 rfl (nI_clamp (by omega)) (vp_in_nI (by omega) (by omega)) dX6_shareUnder_46 ?_
    refine ca_Si (val := (yf d) * 8 + (xf d)) (va_runSN (As := [.int (xf d), .int (yf d)]) (rest := []) ⟨hx, hb, hml, hown, hts⟩ (c_X7_cellNumber ln (xf d) (yf d) ) ⟨va_cnB 2 hts (gA kCode_X7_cellNumber) rfl rfl rfl (nM_X6_66 hE.2) (hts _ kIni_X7) hd_X7_cellNumber ⟨Nat.le_of_ble_eq_true rfl, Nat.le_of_ble_eq_true rfl⟩, hts _ kSt_X7_cellNumber, trivial⟩ ⟨pu_blind, pu_pre⟩ rfl rfl hl.1 rfl (lv_room (Nat.le_of_ble_eq_true rfl)) dX6_shareUnder_47 ⟨Nat.zero_le _, Nat.zero_le _⟩) ?_
    refine lv_istore (lv' := [(10, .int ((yf d) * 8 + (xf d))), (8, .long (hf (d * 16 + pt))), (7, .int (nI (d * 16 + pt))), (0, .ref h0), (1, .ref pl), (2, .ref dk), (3, .int (nI d)), (4, .int (nI pt)), (5, .long lw)]) hx hb dX6_shareUnder_50 hl (by decide) rfl (fun ls hl => ?_)
    refine va_getsN hx hb hT.1 hS hown (nF_X6_45 hE.2) (fun _ h9 => h9) dX6_shareUnder_52 ?_
    refine lv_iload hx hb dX6_shareUnder_55 (lv_at hl 7 rfl) ?_
    refine va_ti hx hb hT.2.2.1 hS (vp_in_nI (by omega) (by omega)) (v := .int (stX pt)) (by rw [show (nI pt).toNatClampNeg = pt from (nI_clamp (by omega))]) dX6_shareUnder_57 ?_
    refine va_getsN hx hb hT.2.1 hS hown (nF_X6_48 hE.2) (fun _ h9 => h9) dX6_shareUnder_58 ?_
    refine lv_iload hx hb dX6_shareUnder_61 (lv_at hl 7 rfl) ?_
    refine va_ti hx hb hT.2.2.2 hS (vp_in_nI (by omega) (by omega)) (v := .int (stY pt)) (by rw [show (nI pt).toNatClampNeg = pt from (nI_clamp (by omega))]) dX6_shareUnder_63 ?_
    refine ca_Si (val := (stY pt) * 8 + (stX pt)) (va_runSN (As := [.int (stX pt), .int (stY pt)]) (rest := []) ⟨hx, hb, hml, hown, hts⟩ (c_X7_cellNumber ln (stX pt) (stY pt) ) ⟨va_cnB 2 hts (gA kCode_X7_cellNumber) rfl rfl rfl (nM_X6_66 hE.2) (hts _ kIni_X7) hd_X7_cellNumber ⟨Nat.le_of_ble_eq_true rfl, Nat.le_of_ble_eq_true rfl⟩, hts _ kSt_X7_cellNumber, trivial⟩ ⟨pu_blind, pu_pre⟩ rfl rfl hl.1 rfl (lv_room (Nat.le_of_ble_eq_true rfl)) dX6_shareUnder_64 ⟨Nat.zero_le _, Nat.zero_le _⟩) ?_
    refine lv_istore (lv' := [(11, .int ((stY pt) * 8 + (stX pt))), (10, .int ((yf d) * 8 + (xf d))), (8, .long (hf (d * 16 + pt))), (7, .int (nI (d * 16 + pt))), (0, .ref h0), (1, .ref pl), (2, .ref dk), (3, .int (nI d)), (4, .int (nI pt)), (5, .long lw)]) hx hb dX6_shareUnder_67 hl (by decide) rfl (fun ls hl => ?_)
    refine lv_iconst (v := 1) hx hb dX6_shareUnder_69 (by decide) ?_
    refine lv_istore (lv' := [(12, .int 1), (11, .int ((stY pt) * 8 + (stX pt))), (10, .int ((yf d) * 8 + (xf d))), (8, .long (hf (d * 16 + pt))), (7, .int (nI (d * 16 + pt))), (0, .ref h0), (1, .ref pl), (2, .ref dk), (3, .int (nI d)), (4, .int (nI pt)), (5, .long lw)]) hx hb dX6_shareUnder_70 hl (by decide) rfl (fun ls hl => ?_)
    have J_72 : ∀ (n_ : Nat), ∀ (c : Int32) (s1 : Int64) (j : Nat), (j ≤ K) → (8 ≤ j + n_) → (unGo gf lw (stY pt * 8 + stX pt) (K - j) c s1 = unGo gf lw (stY pt * 8 + stX pt) ((sf (d * 16 + pt)).toNatClampNeg - 1) (yf d * 8 + xf d) (hf (d * 16 + pt))) → ∀ (ls : Array Slot), lv_has ls 13 [(12, .int (nI (j + 1))), (11, .int ((stY pt) * 8 + (stX pt))), (10, .int c), (8, .long s1), (7, .int (nI (d * 16 + pt))), (0, .ref h0), (1, .ref pl), (2, .ref dk), (3, .int (nI d)), (4, .int (nI pt)), (5, .long lw)] → W pg ln ev ({ frames := 1, cells := 0, slots := 0, locals := 22 } : Room) s mi ([.ref h0, .ref pl, .ref dk, .int (nI d), .int (nI pt), .long lw] : List Value).toArray below meth cd s.heap [] 0 0 (MQ below (vp_Sl (fun r => r = suV gf xf yf sf hf wf lw d pt)) ([.ref h0, .ref pl, .ref dk, .int (nI d), .int (nI pt), .long lw] : List Value).toArray s 0 0 (fun _ => False)) (F0 mi 72 ls []) := by
      intro n_
      induction n_ with
      | zero =>
        intro c s1 j hj hfj hfin ls hl
        exact absurd hfj (by omega)
      | succ n_ ih_72 =>
        intro c s1 j hj hfj hfin ls hl
        refine lv_iload hx hb dX6_shareUnder_72 (lv_at hl 0 rfl) ?_
        refine lv_aload_n hx hb dX6_shareUnder_74 rfl (lv_at hl 5 rfl) ?_
        refine va_get (ci := 6) (C := RX6) (T := TX6) (N := 4) hx hb hts hinX6 hown hE.1 hP 0 rfl rfl 0 (by decide) (hts _ kFl_X6_9) (fun _ h9 => h9) rfl dX6_shareUnder_75 ?_
        refine lv_iload hx hb dX6_shareUnder_78 (lv_at hl 4 rfl) ?_
        refine ri_ald (j := d * 16 + pt) hx hb hE hP 1 rfl (nI_clamp (by omega)) (vp_in_nI (by omega) (by omega)) dX6_shareUnder_80 ?_
        refine lv_icmp_ge (tgt := 142) hx hb dX6_shareUnder_81 (by decide) (fun c_81 => ?_) (fun c_81 => ?_)
        · skip
          have e_K := un_exit h8 hK hj c_81
          refine lv_lload hx hb dX6_shareUnder_142 (lv_at hl 3 rfl) ?_
          exact W.lret (v := s1) hx hb hr (fun t ht hW => ⟨s1, rfl, by rw [suV, if_neg c_29, ← hfin, e_K, Nat.sub_self]; rfl, ht⟩) hS.2.2 dX6_shareUnder_144
        · skip
          have hlt := un_go h8 hK hj c_81
          refine lv_iload hx hb dX6_shareUnder_84 (lv_at hl 2 rfl) ?_
          refine lv_iload hx hb dX6_shareUnder_86 (lv_at hl 1 rfl) ?_
          refine lv_iadd hx hb dX6_shareUnder_88 ?_
          refine lv_istore (lv' := [(10, .int (c + ((stY pt) * 8 + (stX pt)))), (12, .int (nI (j + 1))), (11, .int ((stY pt) * 8 + (stX pt))), (8, .long s1), (7, .int (nI (d * 16 + pt))), (0, .ref h0), (1, .ref pl), (2, .ref dk), (3, .int (nI d)), (4, .int (nI pt)), (5, .long lw)]) hx hb dX6_shareUnder_89 hl (by decide) rfl (fun ls hl => ?_)
          refine lv_iload hx hb dX6_shareUnder_91 (lv_at hl 0 rfl) ?_
          refine lv_if_lt (tgt := 136) hx hb dX6_shareUnder_93 (by decide) (fun c_93 => ?_) (fun c_93 => ?_)
          · skip
            refine lv_iinc (v := nI (j + 1 + 1)) (lv' := [(12, .int (nI (j + 1 + 1))), (10, .int (c + ((stY pt) * 8 + (stX pt)))), (11, .int ((stY pt) * 8 + (stX pt))), (8, .long s1), (7, .int (nI (d * 16 + pt))), (0, .ref h0), (1, .ref pl), (2, .ref dk), (3, .int (nI d)), (4, .int (nI pt)), (5, .long lw)]) hx hb dX6_shareUnder_136 hl (k := 1) rfl (nI_1 _) (by decide) rfl (fun ls hl => ?_)
            refine lv_goto (tgt := 72) hx hb dX6_shareUnder_139 (by decide) ?_
            have q9_1 : (nI (j + 1 + 1)) = (nI ((j + 1) + 1)) := by first | rfl | simp [c_29, c_81, c_93]
            exact ih_72 (c + ((stY pt) * 8 + (stX pt))) s1 (j + 1) (by omega) (by omega) (by rw [← hfin, un_s hlt]; simp only [unStep, unB, c_93]; rfl) ls (lv_cast (lv_sub hl [0, 2, 1, 3, 4, 5, 6, 7, 8, 9, 10] rfl) (lcons (congrArg (fun z => (12, Value.int z)) q9_1) (lcons rfl (lcons rfl (lcons rfl (lcons rfl (lcons rfl (lcons rfl (lcons rfl (lcons rfl (lcons rfl (lcons rfl rfl))))))))))))
          · skip
            refine lv_iload hx hb dX6_shareUnder_96 (lv_at hl 0 rfl) ?_
            refine lv_bipush (v := 64) hx hb dX6_shareUnder_98 (by decide) ?_
            refine lv_icmp_ge (tgt := 136) hx hb dX6_shareUnder_100 (by decide) (fun c_100 => ?_) (fun c_100 => ?_)
            · skip
              refine lv_iinc (v := nI (j + 1 + 1)) (lv' := [(12, .int (nI (j + 1 + 1))), (10, .int (c + ((stY pt) * 8 + (stX pt)))), (11, .int ((stY pt) * 8 + (stX pt))), (8, .long s1), (7, .int (nI (d * 16 + pt))), (0, .ref h0), (1, .ref pl), (2, .ref dk), (3, .int (nI d)), (4, .int (nI pt)), (5, .long lw)]) hx hb dX6_shareUnder_136 hl (k := 1) rfl (nI_1 _) (by decide) rfl (fun ls hl => ?_)
              refine lv_goto (tgt := 72) hx hb dX6_shareUnder_139 (by decide) ?_
              have q9_2 : (nI (j + 1 + 1)) = (nI ((j + 1) + 1)) := by first | rfl | simp [c_29, c_81, c_93, c_100]
              exact ih_72 (c + ((stY pt) * 8 + (stX pt))) s1 (j + 1) (by omega) (by omega) (by rw [← hfin, un_s hlt]; simp only [unStep, unB, c_93, c_100]; rfl) ls (lv_cast (lv_sub hl [0, 2, 1, 3, 4, 5, 6, 7, 8, 9, 10] rfl) (lcons (congrArg (fun z => (12, Value.int z)) q9_2) (lcons rfl (lcons rfl (lcons rfl (lcons rfl (lcons rfl (lcons rfl (lcons rfl (lcons rfl (lcons rfl (lcons rfl rfl))))))))))))
            · skip
              refine lv_aload_n hx hb dX6_shareUnder_103 rfl (lv_at hl 6 rfl) ?_
              refine va_getN (ci := 5) (C := RX5) (T := TX5) (N := 3) hx hb hts hinX5 hown hE.1 hP 4 rfl rfl 1 (by decide) (nF_X6_63 hE.2) (fun _ h9 => h9) rfl dX6_shareUnder_104 ?_
              refine lv_iload hx hb dX6_shareUnder_107 (lv_at hl 0 rfl) ?_
              refine ri_ald (j := (c + ((stY pt) * 8 + (stX pt))).toNatClampNeg) hx hb hE hP 5 rfl rfl (vp_in64 c_93 c_100) dX6_shareUnder_109 ?_
              refine lv_if_le (tgt := 136) hx hb dX6_shareUnder_110 (by decide) (fun c_110 => ?_) (fun c_110 => ?_)
              · skip
                refine lv_iinc (v := nI (j + 1 + 1)) (lv' := [(12, .int (nI (j + 1 + 1))), (10, .int (c + ((stY pt) * 8 + (stX pt)))), (11, .int ((stY pt) * 8 + (stX pt))), (8, .long s1), (7, .int (nI (d * 16 + pt))), (0, .ref h0), (1, .ref pl), (2, .ref dk), (3, .int (nI d)), (4, .int (nI pt)), (5, .long lw)]) hx hb dX6_shareUnder_136 hl (k := 1) rfl (nI_1 _) (by decide) rfl (fun ls hl => ?_)
                refine lv_goto (tgt := 72) hx hb dX6_shareUnder_139 (by decide) ?_
                have q9_3 : (nI (j + 1 + 1)) = (nI ((j + 1) + 1)) := by first | rfl | simp [c_29, c_81, c_93, c_100, c_110]
                exact ih_72 (c + ((stY pt) * 8 + (stX pt))) s1 (j + 1) (by omega) (by omega) (by rw [← hfin, un_s hlt]; simp only [unStep, unB, c_93, c_100, c_110]; rfl) ls (lv_cast (lv_sub hl [0, 2, 1, 3, 4, 5, 6, 7, 8, 9, 10] rfl) (lcons (congrArg (fun z => (12, Value.int z)) q9_3) (lcons rfl (lcons rfl (lcons rfl (lcons rfl (lcons rfl (lcons rfl (lcons rfl (lcons rfl (lcons rfl (lcons rfl rfl))))))))))))
              · skip
                refine lv_lload hx hb dX6_shareUnder_113 (lv_at hl 10 rfl) ?_
                refine lv_iload hx hb dX6_shareUnder_115 (lv_at hl 0 rfl) ?_
                refine ca_Si (val := b2i (hbB lw (c + ((stY pt) * 8 + (stX pt))))) (va_runSN (As := [.long lw, .int (c + ((stY pt) * 8 + (stX pt)))]) (rest := []) ⟨hx, hb, hml, hown, hts⟩ (c_X7_hasBit ln lw (c + ((stY pt) * 8 + (stX pt))) ) ⟨va_cnB 2 hts (gA kCode_X7_hasBit) rfl rfl rfl (nM_X6_79 hE.2) (hts _ kIni_X7) hd_X7_hasBit ⟨Nat.le_of_ble_eq_true rfl, Nat.le_of_ble_eq_true rfl⟩, hts _ kSt_X7_hasBit, trivial⟩ ⟨pu_blind, pu_pre⟩ rfl rfl hl.1 rfl (lv_room (Nat.le_of_ble_eq_true rfl)) dX6_shareUnder_117 ⟨Nat.zero_le _, Nat.zero_le _⟩) ?_
                refine lv_if_eq (tgt := 136) hx hb dX6_shareUnder_120 (by decide) (fun c_120 => ?_) (fun c_120 => ?_)
                · skip
                  have c_120 := b2i_z c_120
                  refine lv_iinc (v := nI (j + 1 + 1)) (lv' := [(12, .int (nI (j + 1 + 1))), (10, .int (c + ((stY pt) * 8 + (stX pt)))), (11, .int ((stY pt) * 8 + (stX pt))), (8, .long s1), (7, .int (nI (d * 16 + pt))), (0, .ref h0), (1, .ref pl), (2, .ref dk), (3, .int (nI d)), (4, .int (nI pt)), (5, .long lw)]) hx hb dX6_shareUnder_136 hl (k := 1) rfl (nI_1 _) (by decide) rfl (fun ls hl => ?_)
                  refine lv_goto (tgt := 72) hx hb dX6_shareUnder_139 (by decide) ?_
                  have q9_4 : (nI (j + 1 + 1)) = (nI ((j + 1) + 1)) := by first | rfl | simp [c_29, c_81, c_93, c_100, c_110, c_120]
                  exact ih_72 (c + ((stY pt) * 8 + (stX pt))) s1 (j + 1) (by omega) (by omega) (by rw [← hfin, un_s hlt]; simp only [unStep, unB, c_93, c_100, c_110, c_120]; rfl) ls (lv_cast (lv_sub hl [0, 2, 1, 3, 4, 5, 6, 7, 8, 9, 10] rfl) (lcons (congrArg (fun z => (12, Value.int z)) q9_4) (lcons rfl (lcons rfl (lcons rfl (lcons rfl (lcons rfl (lcons rfl (lcons rfl (lcons rfl (lcons rfl (lcons rfl rfl))))))))))))
                · skip
                  have c_120 := b2i_n c_120
                  refine lv_lload hx hb dX6_shareUnder_123 (lv_at hl 3 rfl) ?_
                  refine lv_aload_n hx hb dX6_shareUnder_125 rfl (lv_at hl 6 rfl) ?_
                  refine va_getN (ci := 5) (C := RX5) (T := TX5) (N := 3) hx hb hts hinX5 hown hE.1 hP 4 rfl rfl 1 (by decide) (nF_X6_63 hE.2) (fun _ h9 => h9) rfl dX6_shareUnder_126 ?_
                  refine lv_iload hx hb dX6_shareUnder_129 (lv_at hl 0 rfl) ?_
                  refine ri_ald (j := (c + ((stY pt) * 8 + (stX pt))).toNatClampNeg) hx hb hE hP 5 rfl rfl (vp_in64 c_93 c_100) dX6_shareUnder_131 ?_
                  refine lv_i2l hx hb dX6_shareUnder_132 rfl ?_
                  refine lv_ldiv hx hb dX6_shareUnder_133 (i64_ne c_110) ?_
                  refine lv_lstore (lv' := [(8, .long (s1 / ((gf ((c + ((stY pt) * 8 + (stX pt))).toNatClampNeg)).toInt64))), (10, .int (c + ((stY pt) * 8 + (stX pt)))), (12, .int (nI (j + 1))), (11, .int ((stY pt) * 8 + (stX pt))), (7, .int (nI (d * 16 + pt))), (0, .ref h0), (1, .ref pl), (2, .ref dk), (3, .int (nI d)), (4, .int (nI pt)), (5, .long lw)]) hx hb dX6_shareUnder_134 hl (by decide) rfl (fun ls hl => ?_)
                  refine lv_iinc (v := nI (j + 1 + 1)) (lv' := [(12, .int (nI (j + 1 + 1))), (8, .long (s1 / ((gf ((c + ((stY pt) * 8 + (stX pt))).toNatClampNeg)).toInt64))), (10, .int (c + ((stY pt) * 8 + (stX pt)))), (11, .int ((stY pt) * 8 + (stX pt))), (7, .int (nI (d * 16 + pt))), (0, .ref h0), (1, .ref pl), (2, .ref dk), (3, .int (nI d)), (4, .int (nI pt)), (5, .long lw)]) hx hb dX6_shareUnder_136 hl (k := 2) rfl (nI_1 _) (by decide) rfl (fun ls hl => ?_)
                  refine lv_goto (tgt := 72) hx hb dX6_shareUnder_139 (by decide) ?_
                  have q9_5 : (nI (j + 1 + 1)) = (nI ((j + 1) + 1)) := by first | rfl | simp [c_29, c_81, c_93, c_100, c_110, c_120]
                  exact ih_72 (c + ((stY pt) * 8 + (stX pt))) (s1 / ((gf ((c + ((stY pt) * 8 + (stX pt))).toNatClampNeg)).toInt64)) (j + 1) (by omega) (by omega) (by rw [← hfin, un_s hlt]; simp only [unStep, unB, c_93, c_100, c_110, c_120]; rfl) ls (lv_cast (lv_sub hl [0, 3, 2, 1, 4, 5, 6, 7, 8, 9, 10] rfl) (lcons (congrArg (fun z => (12, Value.int z)) q9_5) (lcons rfl (lcons rfl (lcons rfl (lcons rfl (lcons rfl (lcons rfl (lcons rfl (lcons rfl (lcons rfl (lcons rfl rfl))))))))))))
    have q9_6 : 1 = (nI (0 + 1)) := rfl
    have q9_7 : ((yf d) * 8 + (xf d)) = (yf d * 8 + xf d) := rfl
    exact J_72 8 (yf d * 8 + xf d) (hf (d * 16 + pt)) 0 (by omega) (by omega) (by rw [hK]; rfl) ls (lv_cast (lv_sub hl [0, 1, 2, 3, 4, 5, 6, 7, 8, 9, 10] rfl) (lcons (congrArg (fun z => (12, Value.int z)) q9_6) (lcons rfl (lcons (congrArg (fun z => (10, Value.int z)) q9_7) (lcons rfl (lcons rfl (lcons rfl (lcons rfl (lcons rfl (lcons rfl (lcons rfl (lcons rfl rfl))))))))))))
  · skip
    rw [lg_cmp_eq] at c_29
    refine lv_lload hx hb dX6_shareUnder_32 (lv_at hl 0 rfl) ?_
    exact W.lret (v := hf (d * 16 + pt)) hx hb hr (fun t ht hW => ⟨hf (d * 16 + pt), rfl, by simp [suV, c_29], ht⟩) hS.2.2 dX6_shareUnder_34
set_option maxHeartbeats 4000000 in
set_option maxRecDepth 100000 in
theorem c_X6_sumUnder (ln : Launch) (G : gT) (h0 : Nat) (as_ : Nat) (ah : Nat) (aw : Nat) (au : Nat) (pl : Nat) (ak : Nat) (ag : Nat) (bl : Int64) (dk : Nat) (ax : Nat) (ay : Nat) (az : Nat) (nd : Nat) (kp : Int32) (gf : Nat → Int32) (sf : Nat → Int32) (hf : Nat → Int64) (wf : Nat → Int64) (uf : Nat → Int64) (xf : Nat → Int32) (yf : Nat → Int32) (d : Nat) (lw : Int64) (hd4 : d < 4) (h8 : ∀ q, q < 16 → (sf (d * 16 + q)).toInt ≤ 8) : Met ln yX6_sumUnder (wA (.code yX6_sumUnder cX6_sumUnder 9 (some .long))) ({ frames := 2, cells := 0, slots := 0, locals := 54 } : Room) (va_Pc [.ref h0, .ref pl, .ref dk, .int (nI d), .long lw] (roB G [(h0, .inr (6, [.ref as_, .ref ah, .ref aw, .ref au])), eI G as_ 64 sf, eJ G ah 64 hf, eJ G aw 64 wf, eJ G au 4 uf, (pl, .inr (5, [.ref ak, .ref ag, .long bl])), eI G ag 64 gf, (dk, .inr (1, [.ref ax, .ref ay, .ref az, .int (nI nd), .int kp])), eI G ax 4 xf, eI G ay 4 yf])) (vp_Sl (fun r => r = sumV gf xf yf sf hf wf uf lw d)) 0 0 (fun _ => False) := by
  refine Met.ofW (cc := cX6_sumUnder) (maxL := 9) (ret := (some .long)) (by decide) rfl ?_
  intro pg ev s mi args below meth cd s₁ B hml hv
  obtain ⟨rfl, hP, hE, hT⟩ := hv
  have hx := B.exec
  have hb := B.bytes
  have hr := B.returns
  have hts0 := atoms_spec (ws := wA (.code yX6_sumUnder cX6_sumUnder 9 (some .long))) B.pre
  have hts : ∀ w ∈ wsA, w.before _ s = true := fun w h => hts0 w (List.mem_cons_of_mem _ h)
  have hown : s.vm.findClass RX6 = some mi.cls := findClass_of_methodNamed B.named
  have hlocks := B.notSynchronized
  have hS : va_S (fun _ => False) s.heap s.heap [] := va_S.rf
  have hl := lv_entry ([.ref h0, .ref pl, .ref dk, .int (nI d), .long lw]) (n := 9) (Nat.le_of_ble_eq_true rfl)
  rw [lg_entry_eq]
  generalize (lg_sl ([.ref h0, .ref pl, .ref dk, .int (nI d), .long lw]) ++ List.replicate (9 - (lg_sl ([.ref h0, .ref pl, .ref dk, .int (nI d), .long lw])).length) Slot.unset).toArray = ls at hl ⊢
  have hl : lv_has ls 9 [(0, .ref h0), (1, .ref pl), (2, .ref dk), (3, .int (nI d)), (4, .long lw)] := hl
  refine lv_lload hx hb dX6_sumUnder_0 (lv_at hl 4 rfl) ?_
  refine lv_lconst (v := 0) hx hb dX6_sumUnder_2 (by decide) ?_
  refine W.lcmp hx hb dX6_sumUnder_3 ?_
  refine lv_if_ne (tgt := 14) hx hb dX6_sumUnder_4 (by decide) (fun c_4 => ?_) (fun c_4 => ?_)
  · skip
    rw [lg_cmp_eq] at c_4
    refine lv_lconst (v := 0) hx hb dX6_sumUnder_14 (by decide) ?_
    refine lv_lstore (lv' := [(6, .long (0 : Int64)), (0, .ref h0), (1, .ref pl), (2, .ref dk), (3, .int (nI d)), (4, .long lw)]) hx hb dX6_sumUnder_15 hl (by decide) rfl (fun ls hl => ?_)
    refine lv_iconst (v := 0) hx hb dX6_sumUnder_17 (by decide) ?_
    refine lv_istore (lv' := [(8, .int 0), (6, .long (0 : Int64)), (0, .ref h0), (1, .ref pl), (2, .ref dk), (3, .int (nI d)), (4, .long lw)]) hx hb dX6_sumUnder_18 hl (by decide) rfl (fun ls hl => ?_)
    have J_20 : ∀ (n_ : Nat), ∀ (j : Nat), (j ≤ 16) → (17 ≤ j + n_) → ∀ (ls : Array Slot), lv_has ls 9 [(8, .int (nI j)), (6, .long (sumL (fun q => suV gf xf yf sf hf wf lw d q) j)), (0, .ref h0), (1, .ref pl), (2, .ref dk), (3, .int (nI d)), (4, .long lw)] → W pg ln ev ({ frames := 2, cells := 0, slots := 0, locals := 54 } : Room) s mi ([.ref h0, .ref pl, .ref dk, .int (nI d), .long lw] : List Value).toArray below meth cd s.heap [] 0 0 (MQ below (vp_Sl (fun r => r = sumV gf xf yf sf hf wf uf lw d)) ([.ref h0, .ref pl, .ref dk, .int (nI d), .long lw] : List Value).toArray s 0 0 (fun _ => False)) (F0 mi 20 ls []) := by
      intro n_
      induction n_ with
      | zero =>
        intro j hj hfj ls hl
        exact absurd hfj (by omega)
      | succ n_ ih_20 =>
        intro j hj hfj ls hl
        refine lv_iload hx hb dX6_sumUnder_20 (lv_at hl 0 rfl) ?_
        refine lv_bipush (v := 16) hx hb dX6_sumUnder_22 (by decide) ?_
        refine lv_icmp_ge (tgt := 49) hx hb dX6_sumUnder_24 (by decide) (fun c_24 => ?_) (fun c_24 => ?_)
        · skip
          have e_hlt : j = 16 := by
            rcases Nat.lt_or_ge j 16 with q | q
            · exact absurd (show nI 16 ≤ nI j from c_24) (nI_ge q (by omega))
            · omega
          refine lv_lload hx hb dX6_sumUnder_49 (lv_at hl 1 rfl) ?_
          exact W.lret (v := sumL (fun q => suV gf xf yf sf hf wf lw d q) j) hx hb hr (fun t ht hW => ⟨sumL (fun q => suV gf xf yf sf hf wf lw d q) j, rfl, by rw [sumV, if_neg c_4, e_hlt], ht⟩) hS.2.2 dX6_sumUnder_51
        · skip
          have hlt : j < 16 := by
            rcases Nat.lt_or_ge j 16 with q | q
            · exact q
            · exact absurd (show _ ≤ nI j from (nI_le (a := 16) (b := j) q (by omega))) c_24
          refine lv_lload hx hb dX6_sumUnder_27 (lv_at hl 1 rfl) ?_
          refine lv_aload_n hx hb dX6_sumUnder_29 rfl (lv_at hl 2 rfl) ?_
          refine lv_aload_n hx hb dX6_sumUnder_30 rfl (lv_at hl 3 rfl) ?_
          refine lv_aload_n hx hb dX6_sumUnder_31 rfl (lv_at hl 4 rfl) ?_
          refine lv_iload_n hx hb dX6_sumUnder_32 rfl (lv_at hl 5 rfl) ?_
          refine lv_iload hx hb dX6_sumUnder_33 (lv_at hl 0 rfl) ?_
          refine lv_lload hx hb dX6_sumUnder_35 (lv_at hl 6 rfl) ?_
          refine ca_Sl (val := suV gf xf yf sf hf wf lw d j) (va_runV (As := [.ref pl, .ref dk, .int (nI d), .int (nI j), .long lw]) (rest := [.long (sumL (fun q => suV gf xf yf sf hf wf lw d q) j)]) ⟨hx, hb, hml, hown, hts⟩ (c_X6_shareUnder ln G h0 as_ ah aw au pl ak ag bl dk ax ay az nd kp gf sf hf wf xf yf d j lw (by omega) (by omega) (h8 j hlt)) (cwV 5 hts (gV kCode_X6_shareUnder kMl_X6_75 kIm_X6_shareUnder kSel_X6_shareUnder kIni_X6) rfl rfl rfl ⟨rfl, hd_X6_shareUnder⟩ ⟨Nat.le_of_ble_eq_true rfl, Nat.le_of_ble_eq_true rfl⟩) ⟨ro_blind, va_recv hE.1 hP (ci := 6) (q0 := 0) rfl rfl, (ro_pre (hP.sub [0, 1, 2, 3, 5, 6, 7, 8, 9] rfl) hS hE hT)⟩ rfl rfl hl.1 rfl (lv_room (Nat.le_of_ble_eq_true rfl)) dX6_sumUnder_37 ⟨Nat.zero_le _, Nat.zero_le _⟩) ?_
          refine lv_ladd hx hb dX6_sumUnder_40 ?_
          refine lv_lstore (lv' := [(6, .long ((sumL (fun q => suV gf xf yf sf hf wf lw d q) j) + (suV gf xf yf sf hf wf lw d j))), (8, .int (nI j)), (0, .ref h0), (1, .ref pl), (2, .ref dk), (3, .int (nI d)), (4, .long lw)]) hx hb dX6_sumUnder_41 hl (by decide) rfl (fun ls hl => ?_)
          refine lv_iinc (v := nI (j + 1)) (lv' := [(8, .int (nI (j + 1))), (6, .long ((sumL (fun q => suV gf xf yf sf hf wf lw d q) j) + (suV gf xf yf sf hf wf lw d j))), (0, .ref h0), (1, .ref pl), (2, .ref dk), (3, .int (nI d)), (4, .long lw)]) hx hb dX6_sumUnder_43 hl (k := 1) rfl (nI_1 _) (by decide) rfl (fun ls hl => ?_)
          refine lv_goto (tgt := 20) hx hb dX6_sumUnder_46 (by decide) ?_
          have q9_1 : ((sumL (fun q => suV gf xf yf sf hf wf lw d q) j) + (suV gf xf yf sf hf wf lw d j)) = (sumL (fun q => suV gf xf yf sf hf wf lw d q) (j + 1)) := rfl
          exact ih_20 (j + 1) (by omega) (by omega) ls (lv_cast (lv_sub hl [0, 1, 2, 3, 4, 5, 6] rfl) (lcons rfl (lcons (congrArg (fun z => (6, Value.long z)) q9_1) (lcons rfl (lcons rfl (lcons rfl (lcons rfl (lcons rfl rfl))))))))
    have q9_2 : 0 = (nI 0) := rfl
    have q9_3 : (0 : Int64) = (sumL (fun q => suV gf xf yf sf hf wf lw d q) 0) := rfl
    exact J_20 17 0 (by omega) (by omega) ls (lv_cast (lv_sub hl [0, 1, 2, 3, 4, 5, 6] rfl) (lcons (congrArg (fun z => (8, Value.int z)) q9_2) (lcons (congrArg (fun z => (6, Value.long z)) q9_3) (lcons rfl (lcons rfl (lcons rfl (lcons rfl (lcons rfl rfl))))))))
  · skip
    rw [lg_cmp_eq] at c_4
    refine lv_aload_n hx hb dX6_sumUnder_7 rfl (lv_at hl 0 rfl) ?_
    refine va_get (ci := 6) (C := RX6) (T := TX6) (N := 4) hx hb hts hinX6 hown hE.1 hP 0 rfl rfl 3 (by decide) (hts _ kFl_X6_22) (fun _ h9 => h9) rfl dX6_sumUnder_8 ?_
    refine lv_iload_n hx hb dX6_sumUnder_11 rfl (lv_at hl 3 rfl) ?_
    refine rj_ald (j := d) hx hb hE hP 4 rfl (nI_clamp (by omega)) (vp_in_nI (by omega) (by omega)) dX6_sumUnder_12 ?_
    exact W.lret (v := uf d) hx hb hr (fun t ht hW => ⟨uf d, rfl, by simp [sumV, c_4], ht⟩) hS.2.2 dX6_sumUnder_13
set_option maxHeartbeats 4000000 in
set_option maxRecDepth 100000 in
theorem c_X6_windowsWith (ln : Launch) (G : gT) (h0 : Nat) (as_ : Nat) (ah : Nat) (aw : Nat) (au : Nat) (hf : Nat → Int64) (wf : Nat → Int64) (le : Int32) (nd : Nat) (pt : Nat) (sg : Int32) (hnd : nd ≤ 4) (hpt : pt < 16) : Met ln yX6_windowsWith (wA (.code yX6_windowsWith cX6_windowsWith 9 (some .long))) ({ frames := 1, cells := 0, slots := 0, locals := 21 } : Room) (va_Pc [.ref h0, .int le, .int (nI nd), .int (nI pt), .int sg] (roB G [(h0, .inr (6, [.ref as_, .ref ah, .ref aw, .ref au])), eJ G ah 64 hf, eJ G aw 64 wf])) (vp_Sl (fun r => r = wwL hf wf le pt sg nd)) 0 0 (fun _ => False) := by
  refine Met.ofW (cc := cX6_windowsWith) (maxL := 9) (ret := (some .long)) (by decide) rfl ?_
  intro pg ev s mi args below meth cd s₁ B hml hv
  obtain ⟨rfl, hP, hE, hT⟩ := hv
  have hx := B.exec
  have hb := B.bytes
  have hr := B.returns
  have hts0 := atoms_spec (ws := wA (.code yX6_windowsWith cX6_windowsWith 9 (some .long))) B.pre
  have hts : ∀ w ∈ wsA, w.before _ s = true := fun w h => hts0 w (List.mem_cons_of_mem _ h)
  have hown : s.vm.findClass RX6 = some mi.cls := findClass_of_methodNamed B.named
  have hlocks := B.notSynchronized
  have hS : va_S (fun _ => False) s.heap s.heap [] := va_S.rf
  have hl := lv_entry ([.ref h0, .int le, .int (nI nd), .int (nI pt), .int sg]) (n := 9) (Nat.le_of_ble_eq_true rfl)
  rw [lg_entry_eq]
  generalize (lg_sl ([.ref h0, .int le, .int (nI nd), .int (nI pt), .int sg]) ++ List.replicate (9 - (lg_sl ([.ref h0, .int le, .int (nI nd), .int (nI pt), .int sg])).length) Slot.unset).toArray = ls at hl ⊢
  have hl : lv_has ls 9 [(0, .ref h0), (1, .int le), (2, .int (nI nd)), (3, .int (nI pt)), (4, .int sg)] := hl
  refine lv_lconst (v := 0) hx hb dX6_windowsWith_0 (by decide) ?_
  refine lv_lstore (lv' := [(5, .long (0 : Int64)), (0, .ref h0), (1, .int le), (2, .int (nI nd)), (3, .int (nI pt)), (4, .int sg)]) hx hb dX6_windowsWith_1 hl (by decide) rfl (fun ls hl => ?_)
  refine lv_iconst (v := 0) hx hb dX6_windowsWith_3 (by decide) ?_
  refine lv_istore (lv' := [(7, .int 0), (5, .long (0 : Int64)), (0, .ref h0), (1, .int le), (2, .int (nI nd)), (3, .int (nI pt)), (4, .int sg)]) hx hb dX6_windowsWith_4 hl (by decide) rfl (fun ls hl => ?_)
  have J_6 : ∀ (n_ : Nat), ∀ (j : Nat), (j ≤ nd) → (5 ≤ j + n_) → ∀ (ls : Array Slot), lv_has ls 9 [(7, .int (nI j)), (5, .long (wwL hf wf le pt sg j)), (0, .ref h0), (1, .int le), (2, .int (nI nd)), (3, .int (nI pt)), (4, .int sg)] → W pg ln ev ({ frames := 1, cells := 0, slots := 0, locals := 21 } : Room) s mi ([.ref h0, .int le, .int (nI nd), .int (nI pt), .int sg] : List Value).toArray below meth cd s.heap [] 0 0 (MQ below (vp_Sl (fun r => r = wwL hf wf le pt sg nd)) ([.ref h0, .int le, .int (nI nd), .int (nI pt), .int sg] : List Value).toArray s 0 0 (fun _ => False)) (F0 mi 6 ls []) := by
    intro n_
    induction n_ with
    | zero =>
      intro j hj hfj ls hl
      exact absurd hfj (by omega)
    | succ n_ ih_6 =>
      intro j hj hfj ls hl
      refine lv_iload hx hb dX6_windowsWith_6 (lv_at hl 0 rfl) ?_
      refine lv_iload_n hx hb dX6_windowsWith_8 rfl (lv_at hl 4 rfl) ?_
      refine lv_icmp_ge (tgt := 59) hx hb dX6_windowsWith_9 (by decide) (fun c_9 => ?_) (fun c_9 => ?_)
      · skip
        have e_hlt : j = nd := by
          rcases Nat.lt_or_ge j nd with q | q
          · exact absurd (show nI nd ≤ nI j from c_9) (nI_ge q (by omega))
          · omega
        refine lv_lload hx hb dX6_windowsWith_59 (lv_at hl 1 rfl) ?_
        exact W.lret (v := wwL hf wf le pt sg j) hx hb hr (fun t ht hW => ⟨wwL hf wf le pt sg j, rfl, by rw [e_hlt], ht⟩) hS.2.2 dX6_windowsWith_61
      · skip
        have hlt : j < nd := by
          rcases Nat.lt_or_ge j nd with q | q
          · exact q
          · exact absurd (show _ ≤ nI j from (nI_le (a := nd) (b := j) q (by omega))) c_9
        refine lv_iload hx hb dX6_windowsWith_12 (lv_at hl 0 rfl) ?_
        refine lv_iload_n hx hb dX6_windowsWith_14 rfl (lv_at hl 5 rfl) ?_
        refine ca_Si (val := (nI j) * 16 + (nI pt)) (va_runSN (As := [.int (nI j), .int (nI pt)]) (rest := []) ⟨hx, hb, hml, hown, hts⟩ (c_X7_rayNumber ln (nI j) (nI pt) ) ⟨va_cnB 2 hts (gA kCode_X7_rayNumber) rfl rfl rfl (nM_X6_31 hE.2) (hts _ kIni_X7) hd_X7_rayNumber ⟨Nat.le_of_ble_eq_true rfl, Nat.le_of_ble_eq_true rfl⟩, hts _ kSt_X7_rayNumber, trivial⟩ ⟨pu_blind, pu_pre⟩ rfl rfl hl.1 rfl (lv_room (Nat.le_of_ble_eq_true rfl)) dX6_windowsWith_15 ⟨Nat.zero_le _, Nat.zero_le _⟩) ?_
        rw [show ((nI j) * 16 + (nI pt)) = (nI (j * 16 + pt)) from rn_eq j pt]
        refine lv_istore (lv' := [(8, .int (nI (j * 16 + pt))), (7, .int (nI j)), (5, .long (wwL hf wf le pt sg j)), (0, .ref h0), (1, .int le), (2, .int (nI nd)), (3, .int (nI pt)), (4, .int sg)]) hx hb dX6_windowsWith_18 hl (by decide) rfl (fun ls hl => ?_)
        refine lv_iload hx hb dX6_windowsWith_20 (lv_at hl 7 rfl) ?_
        refine lv_i2l hx hb dX6_windowsWith_22 rfl ?_
        refine lv_aload_n hx hb dX6_windowsWith_23 rfl (lv_at hl 3 rfl) ?_
        refine va_get (ci := 6) (C := RX6) (T := TX6) (N := 4) hx hb hts hinX6 hown hE.1 hP 0 rfl rfl 1 (by decide) (hts _ kFl_X6_15) (fun _ h9 => h9) rfl dX6_windowsWith_24 ?_
        refine lv_iload hx hb dX6_windowsWith_27 (lv_at hl 0 rfl) ?_
        refine rj_ald (j := j * 16 + pt) hx hb hE hP 1 rfl (nI_clamp (by omega)) (vp_in_nI (by omega) (by omega)) dX6_windowsWith_29 ?_
        refine lv_lmul hx hb dX6_windowsWith_30 ?_
        refine lv_iload_n hx hb dX6_windowsWith_31 rfl (lv_at hl 4 rfl) ?_
        refine lv_i2l hx hb dX6_windowsWith_32 rfl ?_
        refine lv_ldc2 hx hb hown (hts _ kCl_X6_51) dX6_windowsWith_33 ?_
        refine lv_lmul hx hb dX6_windowsWith_36 ?_
        refine W.lcmp hx hb dX6_windowsWith_37 ?_
        refine lv_if_lt (tgt := 53) hx hb dX6_windowsWith_38 (by decide) (fun c_38 => ?_) (fun c_38 => ?_)
        · skip
          rw [lg_cmp_lt] at c_38
          refine lv_iinc (v := nI (j + 1)) (lv' := [(7, .int (nI (j + 1))), (8, .int (nI (j * 16 + pt))), (5, .long (wwL hf wf le pt sg j)), (0, .ref h0), (1, .int le), (2, .int (nI nd)), (3, .int (nI pt)), (4, .int sg)]) hx hb dX6_windowsWith_53 hl (k := 1) rfl (nI_1 _) (by decide) rfl (fun ls hl => ?_)
          refine lv_goto (tgt := 6) hx hb dX6_windowsWith_56 (by decide) ?_
          have q9_1 : (wwL hf wf le pt sg j) = (wwL hf wf le pt sg (j + 1)) := by simp only [wwL]; simp [c_38]
          exact ih_6 (j + 1) (by omega) (by omega) ls (lv_cast (lv_sub hl [0, 2, 3, 4, 5, 6, 7] rfl) (lcons rfl (lcons (congrArg (fun z => (5, Value.long z)) q9_1) (lcons rfl (lcons rfl (lcons rfl (lcons rfl (lcons rfl rfl))))))))
        · skip
          rw [lg_cmp_lt] at c_38
          refine lv_lload hx hb dX6_windowsWith_41 (lv_at hl 2 rfl) ?_
          refine lv_aload_n hx hb dX6_windowsWith_43 rfl (lv_at hl 3 rfl) ?_
          refine va_get (ci := 6) (C := RX6) (T := TX6) (N := 4) hx hb hts hinX6 hown hE.1 hP 0 rfl rfl 2 (by decide) (hts _ kFl_X6_19) (fun _ h9 => h9) rfl dX6_windowsWith_44 ?_
          refine lv_iload hx hb dX6_windowsWith_47 (lv_at hl 0 rfl) ?_
          refine rj_ald (j := j * 16 + pt) hx hb hE hP 2 rfl (nI_clamp (by omega)) (vp_in_nI (by omega) (by omega)) dX6_windowsWith_49 ?_
          refine lv_lor hx hb dX6_windowsWith_50 ?_
          refine lv_lstore (lv' := [(5, .long ((wwL hf wf le pt sg j) ||| (wf (j * 16 + pt)))), (8, .int (nI (j * 16 + pt))), (7, .int (nI j)), (0, .ref h0), (1, .int le), (2, .int (nI nd)), (3, .int (nI pt)), (4, .int sg)]) hx hb dX6_windowsWith_51 hl (by decide) rfl (fun ls hl => ?_)
          refine lv_iinc (v := nI (j + 1)) (lv' := [(7, .int (nI (j + 1))), (5, .long ((wwL hf wf le pt sg j) ||| (wf (j * 16 + pt)))), (8, .int (nI (j * 16 + pt))), (0, .ref h0), (1, .int le), (2, .int (nI nd)), (3, .int (nI pt)), (4, .int sg)]) hx hb dX6_windowsWith_53 hl (k := 2) rfl (nI_1 _) (by decide) rfl (fun ls hl => ?_)
          refine lv_goto (tgt := 6) hx hb dX6_windowsWith_56 (by decide) ?_
          have q9_2 : ((wwL hf wf le pt sg j) ||| (wf (j * 16 + pt))) = (wwL hf wf le pt sg (j + 1)) := by simp only [wwL]; simp [c_38]
          exact ih_6 (j + 1) (by omega) (by omega) ls (lv_cast (lv_sub hl [0, 1, 3, 4, 5, 6, 7] rfl) (lcons rfl (lcons (congrArg (fun z => (5, Value.long z)) q9_2) (lcons rfl (lcons rfl (lcons rfl (lcons rfl (lcons rfl rfl))))))))
  have q9_3 : 0 = (nI 0) := rfl
  have q9_4 : (0 : Int64) = (wwL hf wf le pt sg 0) := rfl
  exact J_6 5 0 (by omega) (by omega) ls (lv_cast (lv_sub hl [0, 1, 2, 3, 4, 5, 6] rfl) (lcons (congrArg (fun z => (7, Value.int z)) q9_3) (lcons (congrArg (fun z => (5, Value.long z)) q9_4) (lcons rfl (lcons rfl (lcons rfl (lcons rfl (lcons rfl rfl))))))))
set_option maxHeartbeats 4000000 in
set_option maxRecDepth 100000 in
theorem c_X0_next (ln : Launch) (G : gT) (h0 : Nat) (aw_ : Nat) (gl : Int32) (ca : Int32) (hr_ : Nat) (ab : Nat) (ap : Nat) (agg : Nat) (al : Nat) (mo : Int32) (ne : Int32) (ry : Nat) (as_ : Nat) (ah : Nat) (aw : Nat) (au : Nat) (pf : Nat → Int32) (sg : Nat → Int32) (hf : Nat → Int64) (wf : Nat → Int64) (now : Int64) (h : Nat) (nd : Nat) (hh : h < 12) (hnd : nd ≤ 4) (hpf : vp_in (pf h) 16) : Met ln yX0_next (wA (.code yX0_next cX0_next 13 (some .long))) ({ frames := 2, cells := 0, slots := 0, locals := 49 } : Room) (va_Pc [.ref h0, .long now, .ref hr_, .int (nI h), .ref ry, .int (nI nd)] (roB G [(h0, .inr (0, [.ref aw_, .int gl, .int ca])), (hr_, .inr (3, [.ref ab, .ref ap, .ref agg, .ref al, .int mo, .int ne])), eI G ap 12 pf, eI G agg 12 sg, (ry, .inr (6, [.ref as_, .ref ah, .ref aw, .ref au])), eJ G ah 64 hf, eJ G aw 64 wf])) (vp_Sl (fun r => r = nxV hf wf gl ca (pf h).toNatClampNeg (sg h) nd now)) 0 0 (fun _ => False) := by
  refine Met.ofW (cc := cX0_next) (maxL := 13) (ret := (some .long)) (by decide) rfl ?_
  intro pg ev s mi args below meth cd s₁ B hml hv
  obtain ⟨rfl, hP, hE, hT⟩ := hv
  have hx := B.exec
  have hb := B.bytes
  have hr := B.returns
  have hts0 := atoms_spec (ws := wA (.code yX0_next cX0_next 13 (some .long))) B.pre
  have hts : ∀ w ∈ wsA, w.before _ s = true := fun w h => hts0 w (List.mem_cons_of_mem _ h)
  have hown : s.vm.findClass RX0 = some mi.cls := findClass_of_methodNamed B.named
  have hlocks := B.notSynchronized
  have hS : va_S (fun _ => False) s.heap s.heap [] := va_S.rf
  have hl := lv_entry ([.ref h0, .long now, .ref hr_, .int (nI h), .ref ry, .int (nI nd)]) (n := 13) (Nat.le_of_ble_eq_true rfl)
  rw [lg_entry_eq]
  generalize (lg_sl ([.ref h0, .long now, .ref hr_, .int (nI h), .ref ry, .int (nI nd)]) ++ List.replicate (13 - (lg_sl ([.ref h0, .long now, .ref hr_, .int (nI h), .ref ry, .int (nI nd)])).length) Slot.unset).toArray = ls at hl ⊢
  have hl : lv_has ls 13 [(0, .ref h0), (1, .long now), (3, .ref hr_), (4, .int (nI h)), (5, .ref ry), (6, .int (nI nd))] := hl
  refine lv_aload_n hx hb dX0_next_0 rfl (lv_at hl 2 rfl) ?_
  refine va_getN (ci := 3) (C := RX3) (T := TX3) (N := 6) hx hb hts hinX3 hown hE.1 hP 1 rfl rfl 1 (by decide) (nF_X0_36 hE.2) (fun _ h9 => h9) rfl dX0_next_1 ?_
  refine lv_iload hx hb dX0_next_4 (lv_at hl 3 rfl) ?_
  refine ri_ald (j := h) hx hb hE hP 2 rfl (nI_clamp (by omega)) (vp_in_nI (by omega) (by omega)) dX0_next_6 ?_
  refine lv_istore (lv' := [(7, .int (pf h)), (0, .ref h0), (1, .long now), (3, .ref hr_), (4, .int (nI h)), (5, .ref ry), (6, .int (nI nd))]) hx hb dX0_next_7 hl (by decide) rfl (fun ls hl => ?_)
  obtain ⟨pt, hpe⟩ : ∃ pt, pt = (pf h).toNatClampNeg := ⟨_, rfl⟩
  have hpn : pf h = nI pt := by rw [hpe]; exact (nI_back hpf (by omega)).1
  have hpt : pt < 16 := by rw [hpe]; exact (nI_back hpf (by omega)).2
  rw [hpn] at hl
  have hl : lv_has ls 13 [(7, .int (nI pt)), (0, .ref h0), (1, .long now), (3, .ref hr_), (4, .int (nI h)), (5, .ref ry), (6, .int (nI nd))] := hl
  refine lv_aload_n hx hb dX0_next_9 rfl (lv_at hl 3 rfl) ?_
  refine va_getN (ci := 3) (C := RX3) (T := TX3) (N := 6) hx hb hts hinX3 hown hE.1 hP 1 rfl rfl 2 (by decide) (nF_X0_40 hE.2) (fun _ h9 => h9) rfl dX0_next_10 ?_
  refine lv_iload hx hb dX0_next_13 (lv_at hl 4 rfl) ?_
  refine ri_ald (j := h) hx hb hE hP 3 rfl (nI_clamp (by omega)) (vp_in_nI (by omega) (by omega)) dX0_next_15 ?_
  refine lv_istore (lv' := [(8, .int (sg h)), (7, .int (nI pt)), (0, .ref h0), (1, .long now), (3, .ref hr_), (4, .int (nI h)), (5, .ref ry), (6, .int (nI nd))]) hx hb dX0_next_16 hl (by decide) rfl (fun ls hl => ?_)
  refine lv_aload hx hb dX0_next_18 (lv_at hl 6 rfl) ?_
  refine lv_aload_n hx hb dX0_next_20 rfl (lv_at hl 2 rfl) ?_
  refine va_get (ci := 0) (C := RX0) (T := TX0) (N := 3) hx hb hts hinX0 hown hE.1 hP 0 rfl rfl 1 (by decide) (hts _ kFl_X0_15) (fun _ h9 => h9) rfl dX0_next_21 ?_
  refine lv_iload hx hb dX0_next_24 (lv_at hl 7 rfl) ?_
  refine lv_iload hx hb dX0_next_26 (lv_at hl 1 rfl) ?_
  refine lv_iload hx hb dX0_next_28 (lv_at hl 0 rfl) ?_
  refine ca_Sl (val := wwL hf wf gl pt (sg h) nd) (va_runVN (As := [.int gl, .int (nI nd), .int (nI pt), .int (sg h)]) (rest := []) ⟨hx, hb, hml, hown, hts⟩ (c_X6_windowsWith ln G ry as_ ah aw au hf wf gl nd pt (sg h) (by omega) (by omega)) ⟨va_cnB 4 hts (gA kCode_X6_windowsWith) rfl rfl rfl (nM_X0_43 hE.2) (hts _ kIni_X6) hd_X6_windowsWith ⟨Nat.le_of_ble_eq_true rfl, Nat.le_of_ble_eq_true rfl⟩, hts _ kIm_X6_windowsWith, hts _ kSel_X6_windowsWith⟩ ⟨ro_blind, va_recv hE.1 hP (ci := 6) (q0 := 4) rfl rfl, (ro_pre (hP.sub [4, 5, 6] rfl) hS hE hT)⟩ rfl rfl hl.1 rfl (lv_room (Nat.le_of_ble_eq_true rfl)) dX0_next_30 ⟨Nat.zero_le _, Nat.zero_le _⟩) ?_
  refine lv_lstore (lv' := [(9, .long (wwL hf wf gl pt (sg h) nd)), (8, .int (sg h)), (7, .int (nI pt)), (0, .ref h0), (1, .long now), (3, .ref hr_), (4, .int (nI h)), (5, .ref ry), (6, .int (nI nd))]) hx hb dX0_next_33 hl (by decide) rfl (fun ls hl => ?_)
  refine lv_aload hx hb dX0_next_35 (lv_at hl 7 rfl) ?_
  refine lv_aload_n hx hb dX0_next_37 rfl (lv_at hl 3 rfl) ?_
  refine va_get (ci := 0) (C := RX0) (T := TX0) (N := 3) hx hb hts hinX0 hown hE.1 hP 0 rfl rfl 2 (by decide) (hts _ kFl_X0_19) (fun _ h9 => h9) rfl dX0_next_38 ?_
  refine lv_iload hx hb dX0_next_41 (lv_at hl 8 rfl) ?_
  refine lv_iload hx hb dX0_next_43 (lv_at hl 2 rfl) ?_
  refine lv_iload hx hb dX0_next_45 (lv_at hl 1 rfl) ?_
  refine ca_Sl (val := wwL hf wf ca pt (sg h) nd) (va_runVN (As := [.int ca, .int (nI nd), .int (nI pt), .int (sg h)]) (rest := []) ⟨hx, hb, hml, hown, hts⟩ (c_X6_windowsWith ln G ry as_ ah aw au hf wf ca nd pt (sg h) (by omega) (by omega)) ⟨va_cnB 4 hts (gA kCode_X6_windowsWith) rfl rfl rfl (nM_X0_43 hE.2) (hts _ kIni_X6) hd_X6_windowsWith ⟨Nat.le_of_ble_eq_true rfl, Nat.le_of_ble_eq_true rfl⟩, hts _ kIm_X6_windowsWith, hts _ kSel_X6_windowsWith⟩ ⟨ro_blind, va_recv hE.1 hP (ci := 6) (q0 := 4) rfl rfl, (ro_pre (hP.sub [4, 5, 6] rfl) hS hE hT)⟩ rfl rfl hl.1 rfl (lv_room (Nat.le_of_ble_eq_true rfl)) dX0_next_47 ⟨Nat.zero_le _, Nat.zero_le _⟩) ?_
  refine lv_lstore (lv' := [(11, .long (wwL hf wf ca pt (sg h) nd)), (9, .long (wwL hf wf gl pt (sg h) nd)), (8, .int (sg h)), (7, .int (nI pt)), (0, .ref h0), (1, .long now), (3, .ref hr_), (4, .int (nI h)), (5, .ref ry), (6, .int (nI nd))]) hx hb dX0_next_50 hl (by decide) rfl (fun ls hl => ?_)
  refine lv_lload_n hx hb dX0_next_52 rfl (lv_at hl 5 rfl) ?_
  refine lv_ldc2 hx hb hown (hts _ kCl_X0_49) dX0_next_53 ?_
  refine lv_lxor hx hb dX0_next_56 ?_
  refine lv_lload hx hb dX0_next_57 (lv_at hl 1 rfl) ?_
  refine lv_land hx hb dX0_next_59 ?_
  refine lv_lload_n hx hb dX0_next_60 rfl (lv_at hl 5 rfl) ?_
  refine lv_lload hx hb dX0_next_61 (lv_at hl 0 rfl) ?_
  refine lv_land hx hb dX0_next_63 ?_
  refine lv_lor hx hb dX0_next_64 ?_
  exact W.lret (v := ((now ^^^ (-1)) &&& (wwL hf wf gl pt (sg h) nd)) ||| (now &&& (wwL hf wf ca pt (sg h) nd))) hx hb hr (fun t ht hW => ⟨((now ^^^ (-1)) &&& (wwL hf wf gl pt (sg h) nd)) ||| (now &&& (wwL hf wf ca pt (sg h) nd)), rfl, by rw [← hpe]; rfl, ht⟩) hS.2.2 dX0_next_65
set_option maxHeartbeats 4000000 in
set_option maxRecDepth 100000 in
theorem c_X0_follow (ln : Launch) (G : gT) (h0 : Nat) (aw_ : Nat) (gl : Int32) (ca : Int32) (hr_ : Nat) (ab : Nat) (ap : Nat) (agg : Nat) (al : Nat) (mo : Int32) (ne : Int32) (ry : Nat) (as_ : Nat) (ah : Nat) (aw : Nat) (au : Nat) (lf : Nat → Int64) (lo : Nat → Bool) (pf : Nat → Int32) (sg : Nat → Int32) (hf : Nat → Int64) (wf : Nat → Int64) (nd : Nat) (al_ : Int64) (sz : Nat) (hnd : nd ≤ 4) (hpf : ∀ h, h < 12 → vp_in (pf h) 16) : Met ln yX0_follow (wA (.code yX0_follow cX0_follow 9 none)) ({ frames := 3, cells := 0, slots := 0, locals := 81 } : Room) (va_Pc [.ref h0, .ref hr_, .ref ry, .int (nI nd), .long al_] (rwB G [(h0, .inr (0, [.ref aw_, .int gl, .int ca])), eJ G aw_ 12 lf, (hr_, .inr (3, [.ref ab, .ref ap, .ref agg, .ref al, .int mo, .int ne])), eI G ap 12 pf, eI G agg 12 sg, eZ G al 12 lo, (ry, .inr (6, [.ref as_, .ref ah, .ref aw, .ref au])), eJ G ah 64 hf, eJ G aw 64 wf] sz)) (va_Qv (S := Unit) (fun (_ : Unit) => True) (fun u => wdB G (va_A [(h0, .inr (0, [.ref aw_, .int gl, .int ca])), eJ G aw_ 12 lf, (hr_, .inr (3, [.ref ab, .ref ap, .ref agg, .ref al, .int mo, .int ne])), eI G ap 12 pf, eI G agg 12 sg, eZ G al 12 lo, (ry, .inr (6, [.ref as_, .ref ah, .ref aw, .ref au])), eJ G ah 64 hf, eJ G aw 64 wf] sz) [(h0, .inr (0, [.ref aw_, .int gl, .int ca])), eJ G aw_ 12 (loA lo sg pf hf wf gl ca nd al_ 12 lf), (hr_, .inr (3, [.ref ab, .ref ap, .ref agg, .ref al, .int mo, .int ne])), eI G ap 12 pf, eI G agg 12 sg, eZ G al 12 lo, (ry, .inr (6, [.ref as_, .ref ah, .ref aw, .ref au])), eJ G ah 64 hf, eJ G aw 64 wf]) (va_A [(h0, .inr (0, [.ref aw_, .int gl, .int ca])), eJ G aw_ 12 lf, (hr_, .inr (3, [.ref ab, .ref ap, .ref agg, .ref al, .int mo, .int ne])), eI G ap 12 pf, eI G agg 12 sg, eZ G al 12 lo, (ry, .inr (6, [.ref as_, .ref ah, .ref aw, .ref au])), eJ G ah 64 hf, eJ G aw 64 wf] sz)) 0 0 (va_A [(h0, .inr (0, [.ref aw_, .int gl, .int ca])), eJ G aw_ 12 lf, (hr_, .inr (3, [.ref ab, .ref ap, .ref agg, .ref al, .int mo, .int ne])), eI G ap 12 pf, eI G agg 12 sg, eZ G al 12 lo, (ry, .inr (6, [.ref as_, .ref ah, .ref aw, .ref au])), eJ G ah 64 hf, eJ G aw 64 wf] sz) := by
  refine Met.ofW (cc := cX0_follow) (maxL := 9) (ret := none) (by decide) rfl ?_
  intro pg ev s mi args below meth cd s₁ B hml hv
  obtain ⟨rfl, hsz, hP, hE, hD0, hT⟩ := hv
  have hx := B.exec
  have hb := B.bytes
  have hr := B.returns
  have hts0 := atoms_spec (ws := wA (.code yX0_follow cX0_follow 9 none)) B.pre
  have hts : ∀ w ∈ wsA, w.before _ s = true := fun w h => hts0 w (List.mem_cons_of_mem _ h)
  have hown : s.vm.findClass RX0 = some mi.cls := findClass_of_methodNamed B.named
  have hlocks := B.notSynchronized
  subst hsz
  have hD := hD0.self (sz := s.heap.size)
  generalize hAe : va_A [(h0, .inr (0, [.ref aw_, .int gl, .int ca])), eJ G aw_ 12 lf, (hr_, .inr (3, [.ref ab, .ref ap, .ref agg, .ref al, .int mo, .int ne])), eI G ap 12 pf, eI G agg 12 sg, eZ G al 12 lo, (ry, .inr (6, [.ref as_, .ref ah, .ref aw, .ref au])), eJ G ah 64 hf, eJ G aw 64 wf] s.heap.size = A at hD hT ⊢
  have hA : ∀ q : Nat, s.heap.size ≤ q → A q := fun q h => by rw [← hAe]; exact Or.inr h
  have hS : va_S A s.heap s.heap [] := va_S.rf
  have hl := lv_entry ([.ref h0, .ref hr_, .ref ry, .int (nI nd), .long al_]) (n := 9) (Nat.le_of_ble_eq_true rfl)
  rw [lg_entry_eq]
  generalize (lg_sl ([.ref h0, .ref hr_, .ref ry, .int (nI nd), .long al_]) ++ List.replicate (9 - (lg_sl ([.ref h0, .ref hr_, .ref ry, .int (nI nd), .long al_])).length) Slot.unset).toArray = ls at hl ⊢
  have hl : lv_has ls 9 [(0, .ref h0), (1, .ref hr_), (2, .ref ry), (3, .int (nI nd)), (4, .long al_)] := hl
  refine lv_lconst (v := 0) hx hb dX0_follow_0 (by decide) ?_
  refine lv_lstore (lv' := [(6, .long (0 : Int64)), (0, .ref h0), (1, .ref hr_), (2, .ref ry), (3, .int (nI nd)), (4, .long al_)]) hx hb dX0_follow_1 hl (by decide) rfl (fun ls hl => ?_)
  refine lv_iconst (v := 0) hx hb dX0_follow_3 (by decide) ?_
  refine lv_istore (lv' := [(8, .int 0), (6, .long (0 : Int64)), (0, .ref h0), (1, .ref hr_), (2, .ref ry), (3, .int (nI nd)), (4, .long al_)]) hx hb dX0_follow_4 hl (by decide) rfl (fun ls hl => ?_)
  have J_6 : ∀ (n_ : Nat), ∀ (j : Nat), (j ≤ 12) → (13 ≤ j + n_) → ∀ (H : Heap) (locs : List Loc), va_P G.1 vwCl [(h0, .inr (0, [.ref aw_, .int gl, .int ca])), eJ G aw_ 12 (loA lo sg pf hf wf gl ca nd al_ j lf), (hr_, .inr (3, [.ref ab, .ref ap, .ref agg, .ref al, .int mo, .int ne])), eI G ap 12 pf, eI G agg 12 sg, eZ G al 12 lo, (ry, .inr (6, [.ref as_, .ref ah, .ref aw, .ref au])), eJ G ah 64 hf, eJ G aw 64 wf] H → va_D A [(h0, .inr (0, [.ref aw_, .int gl, .int ca])), eJ G aw_ 12 (loA lo sg pf hf wf gl ca nd al_ j lf), (hr_, .inr (3, [.ref ab, .ref ap, .ref agg, .ref al, .int mo, .int ne])), eI G ap 12 pf, eI G agg 12 sg, eZ G al 12 lo, (ry, .inr (6, [.ref as_, .ref ah, .ref aw, .ref au])), eJ G ah 64 hf, eJ G aw 64 wf] → va_S A s.heap H locs → ∀ (ls : Array Slot), lv_has ls 9 [(8, .int (nI j)), (6, .long (loN lo sg pf hf wf gl ca nd al_ j)), (0, .ref h0), (1, .ref hr_), (2, .ref ry), (3, .int (nI nd)), (4, .long al_)] → W pg ln ev ({ frames := 3, cells := 0, slots := 0, locals := 81 } : Room) s mi ([.ref h0, .ref hr_, .ref ry, .int (nI nd), .long al_] : List Value).toArray below meth cd H locs 0 0 (MQ below (va_Qv (S := Unit) (fun (_ : Unit) => True) (fun u => wdB G A [(h0, .inr (0, [.ref aw_, .int gl, .int ca])), eJ G aw_ 12 (loA lo sg pf hf wf gl ca nd al_ 12 lf), (hr_, .inr (3, [.ref ab, .ref ap, .ref agg, .ref al, .int mo, .int ne])), eI G ap 12 pf, eI G agg 12 sg, eZ G al 12 lo, (ry, .inr (6, [.ref as_, .ref ah, .ref aw, .ref au])), eJ G ah 64 hf, eJ G aw 64 wf]) A) ([.ref h0, .ref hr_, .ref ry, .int (nI nd), .long al_] : List Value).toArray s 0 0 A) (F0 mi 6 ls []) := by
    intro n_
    induction n_ with
    | zero =>
      intro j hj hfj H locs hP hD hS ls hl
      exact absurd hfj (by omega)
    | succ n_ ih_6 =>
      intro j hj hfj H locs hP hD hS ls hl
      refine lv_iload hx hb dX0_follow_6 (lv_at hl 0 rfl) ?_
      refine lv_bipush (v := 12) hx hb dX0_follow_8 (by decide) ?_
      refine lv_icmp_ge (tgt := 67) hx hb dX0_follow_10 (by decide) (fun c_10 => ?_) (fun c_10 => ?_)
      · skip
        have e_hlt : j = 12 := by
          rcases Nat.lt_or_ge j 12 with q | q
          · exact absurd (show nI 12 ≤ nI j from c_10) (nI_ge q (by omega))
          · omega
        have hP9 := hP.sub (ws' := [(h0, .inr (0, [.ref aw_, .int gl, .int ca])), eJ G aw_ 12 (loA lo sg pf hf wf gl ca nd al_ j lf), (hr_, .inr (3, [.ref ab, .ref ap, .ref agg, .ref al, .int mo, .int ne])), eI G ap 12 pf, eI G agg 12 sg, eZ G al 12 lo, (ry, .inr (6, [.ref as_, .ref ah, .ref aw, .ref au])), eJ G ah 64 hf, eJ G aw 64 wf]) [0, 1, 2, 3, 4, 5, 6, 7, 8] rfl
        have hD9 := hD.sub (ws' := [(h0, .inr (0, [.ref aw_, .int gl, .int ca])), eJ G aw_ 12 (loA lo sg pf hf wf gl ca nd al_ j lf), (hr_, .inr (3, [.ref ab, .ref ap, .ref agg, .ref al, .int mo, .int ne])), eI G ap 12 pf, eI G agg 12 sg, eZ G al 12 lo, (ry, .inr (6, [.ref as_, .ref ah, .ref aw, .ref au])), eJ G ah 64 hf, eJ G aw 64 wf]) [0, 1, 2, 3, 4, 5, 6, 7, 8] (by decide) rfl
        have q9_1 : (loA lo sg pf hf wf gl ca nd al_ j lf) = (loA lo sg pf hf wf gl ca nd al_ 12 lf) := by rw [e_hlt]
        have cw9 : ([(h0, .inr (0, [.ref aw_, .int gl, .int ca])), eJ G aw_ 12 (loA lo sg pf hf wf gl ca nd al_ j lf), (hr_, .inr (3, [.ref ab, .ref ap, .ref agg, .ref al, .int mo, .int ne])), eI G ap 12 pf, eI G agg 12 sg, eZ G al 12 lo, (ry, .inr (6, [.ref as_, .ref ah, .ref aw, .ref au])), eJ G ah 64 hf, eJ G aw 64 wf] : va_W) = [(h0, .inr (0, [.ref aw_, .int gl, .int ca])), eJ G aw_ 12 (loA lo sg pf hf wf gl ca nd al_ 12 lf), (hr_, .inr (3, [.ref ab, .ref ap, .ref agg, .ref al, .int mo, .int ne])), eI G ap 12 pf, eI G agg 12 sg, eZ G al 12 lo, (ry, .inr (6, [.ref as_, .ref ah, .ref aw, .ref au])), eJ G ah 64 hf, eJ G aw 64 wf] := (lcons rfl (lcons (congrArg (fun z => eJ G aw_ 12 z) q9_1) (lcons rfl (lcons rfl (lcons rfl (lcons rfl (lcons rfl (lcons rfl (lcons rfl rfl)))))))))
        have hP9 := va_castP hP9 cw9
        have hD9 := va_castD hD9 cw9
        exact W.vret hx hb hr (fun t ht hW => ⟨⟨(), rfl, trivial, by rw [ht]; exact hP9, hD9⟩, hS.F ht⟩) hS.2.2 dX0_follow_67
      · skip
        have hlt : j < 12 := by
          rcases Nat.lt_or_ge j 12 with q | q
          · exact q
          · exact absurd (show _ ≤ nI j from (nI_le (a := 12) (b := j) q (by omega))) c_10
        refine lv_aload_n hx hb dX0_follow_13 rfl (lv_at hl 3 rfl) ?_
        refine va_getN (ci := 3) (C := RX3) (T := TX3) (N := 6) hx hb hts hinX3 hown hE.1 hP 2 rfl rfl 3 (by decide) (nF_X0_22 hE.2) (fun _ h9 => h9) rfl dX0_follow_14 ?_
        refine lv_iload hx hb dX0_follow_17 (lv_at hl 0 rfl) ?_
        refine rz_ald (j := j) hx hb hE hP 5 rfl (nI_clamp (by omega)) (vp_in_nI (by omega) (by omega)) dX0_follow_19 ?_
        refine lv_if_ne (tgt := 52) hx hb dX0_follow_20 (by decide) (fun c_20 => ?_) (fun c_20 => ?_)
        · skip
          have c_20 := b2i_n c_20
          refine lv_aload_n hx hb dX0_follow_52 rfl (lv_at hl 2 rfl) ?_
          refine va_get (ci := 0) (C := RX0) (T := TX0) (N := 3) hx hb hts hinX0 hown hE.1 hP 0 rfl rfl 0 (by decide) (hts _ kFl_X0_9) (fun _ h9 => h9) rfl dX0_follow_53 ?_
          refine lv_iload hx hb dX0_follow_56 (lv_at hl 0 rfl) ?_
          refine lv_lload hx hb dX0_follow_58 (lv_at hl 1 rfl) ?_
          refine rj_ast (j := j) hx hb hE hP hD hS 1 rfl (nI_clamp (by omega)) (vp_in_nI (by omega) (by omega)) dX0_follow_60 (fun H locs hP hD hS => ?_)
          have hP : va_P G.1 vwCl [(h0, .inr (0, [.ref aw_, .int gl, .int ca])), eJ G aw_ 12 (vp_updL (loA lo sg pf hf wf gl ca nd al_ j lf) j (loN lo sg pf hf wf gl ca nd al_ j)), (hr_, .inr (3, [.ref ab, .ref ap, .ref agg, .ref al, .int mo, .int ne])), eI G ap 12 pf, eI G agg 12 sg, eZ G al 12 lo, (ry, .inr (6, [.ref as_, .ref ah, .ref aw, .ref au])), eJ G ah 64 hf, eJ G aw 64 wf] H := hP
          have hD : va_D A [(h0, .inr (0, [.ref aw_, .int gl, .int ca])), eJ G aw_ 12 (vp_updL (loA lo sg pf hf wf gl ca nd al_ j lf) j (loN lo sg pf hf wf gl ca nd al_ j)), (hr_, .inr (3, [.ref ab, .ref ap, .ref agg, .ref al, .int mo, .int ne])), eI G ap 12 pf, eI G agg 12 sg, eZ G al 12 lo, (ry, .inr (6, [.ref as_, .ref ah, .ref aw, .ref au])), eJ G ah 64 hf, eJ G aw 64 wf] := hD
          refine lv_iinc (v := nI (j + 1)) (lv' := [(8, .int (nI (j + 1))), (6, .long (loN lo sg pf hf wf gl ca nd al_ j)), (0, .ref h0), (1, .ref hr_), (2, .ref ry), (3, .int (nI nd)), (4, .long al_)]) hx hb dX0_follow_61 hl (k := 0) rfl (nI_1 _) (by decide) rfl (fun ls hl => ?_)
          refine lv_goto (tgt := 6) hx hb dX0_follow_64 (by decide) ?_
          have q9_2 : (loN lo sg pf hf wf gl ca nd al_ j) = (loN lo sg pf hf wf gl ca nd al_ (j + 1)) := by simp [loN, c_10, c_20]
          have q9_3 : (vp_updL (loA lo sg pf hf wf gl ca nd al_ j lf) j (loN lo sg pf hf wf gl ca nd al_ j)) = (loA lo sg pf hf wf gl ca nd al_ (j + 1) lf) := loA_s (by simp [loN, c_10, c_20])
          have cw9 : ([(h0, .inr (0, [.ref aw_, .int gl, .int ca])), eJ G aw_ 12 (vp_updL (loA lo sg pf hf wf gl ca nd al_ j lf) j (loN lo sg pf hf wf gl ca nd al_ j)), (hr_, .inr (3, [.ref ab, .ref ap, .ref agg, .ref al, .int mo, .int ne])), eI G ap 12 pf, eI G agg 12 sg, eZ G al 12 lo, (ry, .inr (6, [.ref as_, .ref ah, .ref aw, .ref au])), eJ G ah 64 hf, eJ G aw 64 wf] : va_W) = [(h0, .inr (0, [.ref aw_, .int gl, .int ca])), eJ G aw_ 12 (loA lo sg pf hf wf gl ca nd al_ (j + 1) lf), (hr_, .inr (3, [.ref ab, .ref ap, .ref agg, .ref al, .int mo, .int ne])), eI G ap 12 pf, eI G agg 12 sg, eZ G al 12 lo, (ry, .inr (6, [.ref as_, .ref ah, .ref aw, .ref au])), eJ G ah 64 hf, eJ G aw 64 wf] := (lcons rfl (lcons (congrArg (fun z => eJ G aw_ 12 z) q9_3) (lcons rfl (lcons rfl (lcons rfl (lcons rfl (lcons rfl (lcons rfl (lcons rfl rfl)))))))))
          exact ih_6 (j + 1) (by omega) (by omega) _ _ (va_castP (hP.sub [0, 1, 2, 3, 4, 5, 6, 7, 8] rfl) cw9) (va_castD (hD.sub [0, 1, 2, 3, 4, 5, 6, 7, 8] (by decide) rfl) cw9) hS ls (lv_cast (lv_sub hl [0, 1, 2, 3, 4, 5, 6] rfl) (lcons rfl (lcons (congrArg (fun z => (6, Value.long z)) q9_2) (lcons rfl (lcons rfl (lcons rfl (lcons rfl (lcons rfl rfl))))))))
        · skip
          have c_20 := b2i_z c_20
          refine lv_aload_n hx hb dX0_follow_23 rfl (lv_at hl 3 rfl) ?_
          refine lv_iload hx hb dX0_follow_24 (lv_at hl 0 rfl) ?_
          refine ca_Si (val := b2i (sunB lo sg (nI j).toNatClampNeg)) (va_runVN (As := [.int (nI j)]) (rest := []) ⟨hx, hb, hml, hown, hts⟩ (c_X3_hasSun ln G hr_ ab ap agg al mo ne sg lo (nI j) (vp_in_nI (by omega) (by omega))) ⟨va_cnB 1 hts (gA kCode_X3_hasSun) rfl rfl rfl (nM_X0_28 hE.2) (hts _ kIni_X3) hd_X3_hasSun ⟨Nat.le_of_ble_eq_true rfl, Nat.le_of_ble_eq_true rfl⟩, hts _ kIm_X3_hasSun, hts _ kSel_X3_hasSun⟩ ⟨ro_blind, va_recv hE.1 hP (ci := 3) (q0 := 2) rfl rfl, (ro_pre (hP.sub [2, 4, 5] rfl) hS hE hT)⟩ rfl rfl hl.1 rfl (lv_room (Nat.le_of_ble_eq_true rfl)) dX0_follow_26 ⟨Nat.zero_le _, Nat.zero_le _⟩) ?_
          rw [show (b2i (sunB lo sg (nI j).toNatClampNeg)) = (b2i (sunB lo sg j)) from by rw [nI_clamp (by omega)]]
          refine lv_if_eq (tgt := 49) hx hb dX0_follow_29 (by decide) (fun c_29 => ?_) (fun c_29 => ?_)
          · skip
            have c_29 := b2i_z c_29
            refine lv_lconst (v := 0) hx hb dX0_follow_49 (by decide) ?_
            refine lv_lstore (lv' := [(6, .long (0 : Int64)), (8, .int (nI j)), (0, .ref h0), (1, .ref hr_), (2, .ref ry), (3, .int (nI nd)), (4, .long al_)]) hx hb dX0_follow_50 hl (by decide) rfl (fun ls hl => ?_)
            refine lv_aload_n hx hb dX0_follow_52 rfl (lv_at hl 2 rfl) ?_
            refine va_get (ci := 0) (C := RX0) (T := TX0) (N := 3) hx hb hts hinX0 hown hE.1 hP 0 rfl rfl 0 (by decide) (hts _ kFl_X0_9) (fun _ h9 => h9) rfl dX0_follow_53 ?_
            refine lv_iload hx hb dX0_follow_56 (lv_at hl 1 rfl) ?_
            refine lv_lload hx hb dX0_follow_58 (lv_at hl 0 rfl) ?_
            refine rj_ast (j := j) hx hb hE hP hD hS 1 rfl (nI_clamp (by omega)) (vp_in_nI (by omega) (by omega)) dX0_follow_60 (fun H locs hP hD hS => ?_)
            have hP : va_P G.1 vwCl [(h0, .inr (0, [.ref aw_, .int gl, .int ca])), eJ G aw_ 12 (vp_updL (loA lo sg pf hf wf gl ca nd al_ j lf) j (0 : Int64)), (hr_, .inr (3, [.ref ab, .ref ap, .ref agg, .ref al, .int mo, .int ne])), eI G ap 12 pf, eI G agg 12 sg, eZ G al 12 lo, (ry, .inr (6, [.ref as_, .ref ah, .ref aw, .ref au])), eJ G ah 64 hf, eJ G aw 64 wf] H := hP
            have hD : va_D A [(h0, .inr (0, [.ref aw_, .int gl, .int ca])), eJ G aw_ 12 (vp_updL (loA lo sg pf hf wf gl ca nd al_ j lf) j (0 : Int64)), (hr_, .inr (3, [.ref ab, .ref ap, .ref agg, .ref al, .int mo, .int ne])), eI G ap 12 pf, eI G agg 12 sg, eZ G al 12 lo, (ry, .inr (6, [.ref as_, .ref ah, .ref aw, .ref au])), eJ G ah 64 hf, eJ G aw 64 wf] := hD
            refine lv_iinc (v := nI (j + 1)) (lv' := [(8, .int (nI (j + 1))), (6, .long (0 : Int64)), (0, .ref h0), (1, .ref hr_), (2, .ref ry), (3, .int (nI nd)), (4, .long al_)]) hx hb dX0_follow_61 hl (k := 1) rfl (nI_1 _) (by decide) rfl (fun ls hl => ?_)
            refine lv_goto (tgt := 6) hx hb dX0_follow_64 (by decide) ?_
            have q9_4 : (0 : Int64) = (loN lo sg pf hf wf gl ca nd al_ (j + 1)) := by simp [loN, c_10, c_20, c_29]
            have q9_5 : (vp_updL (loA lo sg pf hf wf gl ca nd al_ j lf) j (0 : Int64)) = (loA lo sg pf hf wf gl ca nd al_ (j + 1) lf) := loA_s (by simp [loN, c_10, c_20, c_29])
            have cw9 : ([(h0, .inr (0, [.ref aw_, .int gl, .int ca])), eJ G aw_ 12 (vp_updL (loA lo sg pf hf wf gl ca nd al_ j lf) j (0 : Int64)), (hr_, .inr (3, [.ref ab, .ref ap, .ref agg, .ref al, .int mo, .int ne])), eI G ap 12 pf, eI G agg 12 sg, eZ G al 12 lo, (ry, .inr (6, [.ref as_, .ref ah, .ref aw, .ref au])), eJ G ah 64 hf, eJ G aw 64 wf] : va_W) = [(h0, .inr (0, [.ref aw_, .int gl, .int ca])), eJ G aw_ 12 (loA lo sg pf hf wf gl ca nd al_ (j + 1) lf), (hr_, .inr (3, [.ref ab, .ref ap, .ref agg, .ref al, .int mo, .int ne])), eI G ap 12 pf, eI G agg 12 sg, eZ G al 12 lo, (ry, .inr (6, [.ref as_, .ref ah, .ref aw, .ref au])), eJ G ah 64 hf, eJ G aw 64 wf] := (lcons rfl (lcons (congrArg (fun z => eJ G aw_ 12 z) q9_5) (lcons rfl (lcons rfl (lcons rfl (lcons rfl (lcons rfl (lcons rfl (lcons rfl rfl)))))))))
            exact ih_6 (j + 1) (by omega) (by omega) _ _ (va_castP (hP.sub [0, 1, 2, 3, 4, 5, 6, 7, 8] rfl) cw9) (va_castD (hD.sub [0, 1, 2, 3, 4, 5, 6, 7, 8] (by decide) rfl) cw9) hS ls (lv_cast (lv_sub hl [0, 1, 2, 3, 4, 5, 6] rfl) (lcons rfl (lcons (congrArg (fun z => (6, Value.long z)) q9_4) (lcons rfl (lcons rfl (lcons rfl (lcons rfl (lcons rfl rfl))))))))
          · skip
            have c_29 := b2i_n c_29
            refine lv_aload_n hx hb dX0_follow_32 rfl (lv_at hl 2 rfl) ?_
            refine lv_lload hx hb dX0_follow_33 (lv_at hl 1 rfl) ?_
            refine lv_aload_n hx hb dX0_follow_35 rfl (lv_at hl 3 rfl) ?_
            refine lv_iload hx hb dX0_follow_36 (lv_at hl 0 rfl) ?_
            refine lv_aload_n hx hb dX0_follow_38 rfl (lv_at hl 4 rfl) ?_
            refine lv_iload_n hx hb dX0_follow_39 rfl (lv_at hl 5 rfl) ?_
            refine ca_Sl (val := nxV hf wf gl ca (pf j).toNatClampNeg (sg j) nd (loN lo sg pf hf wf gl ca nd al_ j)) (va_runV (As := [.long (loN lo sg pf hf wf gl ca nd al_ j), .ref hr_, .int (nI j), .ref ry, .int (nI nd)]) (rest := []) ⟨hx, hb, hml, hown, hts⟩ (c_X0_next ln G h0 aw_ gl ca hr_ ab ap agg al mo ne ry as_ ah aw au pf sg hf wf (loN lo sg pf hf wf gl ca nd al_ j) j nd (by omega) (by omega) (hpf j hlt)) (cwV 5 hts (gV kCode_X0_next kMl_X0_32 kIm_X0_next kSel_X0_next kIni_X0) rfl rfl rfl ⟨rfl, hd_X0_next⟩ ⟨Nat.le_of_ble_eq_true rfl, Nat.le_of_ble_eq_true rfl⟩) ⟨ro_blind, va_recv hE.1 hP (ci := 0) (q0 := 0) rfl rfl, (ro_pre (hP.sub [0, 2, 3, 4, 6, 7, 8] rfl) hS hE hT)⟩ rfl rfl hl.1 rfl (lv_room (Nat.le_of_ble_eq_true rfl)) dX0_follow_40 ⟨Nat.zero_le _, Nat.zero_le _⟩) ?_
            refine lv_lload hx hb dX0_follow_43 (lv_at hl 6 rfl) ?_
            refine lv_land hx hb dX0_follow_45 ?_
            refine lv_goto (tgt := 50) hx hb dX0_follow_46 (by decide) ?_
            refine lv_lstore (lv' := [(6, .long ((nxV hf wf gl ca (pf j).toNatClampNeg (sg j) nd (loN lo sg pf hf wf gl ca nd al_ j)) &&& al_)), (8, .int (nI j)), (0, .ref h0), (1, .ref hr_), (2, .ref ry), (3, .int (nI nd)), (4, .long al_)]) hx hb dX0_follow_50 hl (by decide) rfl (fun ls hl => ?_)
            refine lv_aload_n hx hb dX0_follow_52 rfl (lv_at hl 2 rfl) ?_
            refine va_get (ci := 0) (C := RX0) (T := TX0) (N := 3) hx hb hts hinX0 hown hE.1 hP 0 rfl rfl 0 (by decide) (hts _ kFl_X0_9) (fun _ h9 => h9) rfl dX0_follow_53 ?_
            refine lv_iload hx hb dX0_follow_56 (lv_at hl 1 rfl) ?_
            refine lv_lload hx hb dX0_follow_58 (lv_at hl 0 rfl) ?_
            refine rj_ast (j := j) hx hb hE hP hD hS 1 rfl (nI_clamp (by omega)) (vp_in_nI (by omega) (by omega)) dX0_follow_60 (fun H locs hP hD hS => ?_)
            have hP : va_P G.1 vwCl [(h0, .inr (0, [.ref aw_, .int gl, .int ca])), eJ G aw_ 12 (vp_updL (loA lo sg pf hf wf gl ca nd al_ j lf) j ((nxV hf wf gl ca (pf j).toNatClampNeg (sg j) nd (loN lo sg pf hf wf gl ca nd al_ j)) &&& al_)), (hr_, .inr (3, [.ref ab, .ref ap, .ref agg, .ref al, .int mo, .int ne])), eI G ap 12 pf, eI G agg 12 sg, eZ G al 12 lo, (ry, .inr (6, [.ref as_, .ref ah, .ref aw, .ref au])), eJ G ah 64 hf, eJ G aw 64 wf] H := hP
            have hD : va_D A [(h0, .inr (0, [.ref aw_, .int gl, .int ca])), eJ G aw_ 12 (vp_updL (loA lo sg pf hf wf gl ca nd al_ j lf) j ((nxV hf wf gl ca (pf j).toNatClampNeg (sg j) nd (loN lo sg pf hf wf gl ca nd al_ j)) &&& al_)), (hr_, .inr (3, [.ref ab, .ref ap, .ref agg, .ref al, .int mo, .int ne])), eI G ap 12 pf, eI G agg 12 sg, eZ G al 12 lo, (ry, .inr (6, [.ref as_, .ref ah, .ref aw, .ref au])), eJ G ah 64 hf, eJ G aw 64 wf] := hD
            refine lv_iinc (v := nI (j + 1)) (lv' := [(8, .int (nI (j + 1))), (6, .long ((nxV hf wf gl ca (pf j).toNatClampNeg (sg j) nd (loN lo sg pf hf wf gl ca nd al_ j)) &&& al_)), (0, .ref h0), (1, .ref hr_), (2, .ref ry), (3, .int (nI nd)), (4, .long al_)]) hx hb dX0_follow_61 hl (k := 1) rfl (nI_1 _) (by decide) rfl (fun ls hl => ?_)
            refine lv_goto (tgt := 6) hx hb dX0_follow_64 (by decide) ?_
            have q9_6 : ((nxV hf wf gl ca (pf j).toNatClampNeg (sg j) nd (loN lo sg pf hf wf gl ca nd al_ j)) &&& al_) = (loN lo sg pf hf wf gl ca nd al_ (j + 1)) := by simp [loN, c_10, c_20, c_29]
            have q9_7 : (vp_updL (loA lo sg pf hf wf gl ca nd al_ j lf) j ((nxV hf wf gl ca (pf j).toNatClampNeg (sg j) nd (loN lo sg pf hf wf gl ca nd al_ j)) &&& al_)) = (loA lo sg pf hf wf gl ca nd al_ (j + 1) lf) := loA_s (by simp [loN, c_10, c_20, c_29])
            have cw9 : ([(h0, .inr (0, [.ref aw_, .int gl, .int ca])), eJ G aw_ 12 (vp_updL (loA lo sg pf hf wf gl ca nd al_ j lf) j ((nxV hf wf gl ca (pf j).toNatClampNeg (sg j) nd (loN lo sg pf hf wf gl ca nd al_ j)) &&& al_)), (hr_, .inr (3, [.ref ab, .ref ap, .ref agg, .ref al, .int mo, .int ne])), eI G ap 12 pf, eI G agg 12 sg, eZ G al 12 lo, (ry, .inr (6, [.ref as_, .ref ah, .ref aw, .ref au])), eJ G ah 64 hf, eJ G aw 64 wf] : va_W) = [(h0, .inr (0, [.ref aw_, .int gl, .int ca])), eJ G aw_ 12 (loA lo sg pf hf wf gl ca nd al_ (j + 1) lf), (hr_, .inr (3, [.ref ab, .ref ap, .ref agg, .ref al, .int mo, .int ne])), eI G ap 12 pf, eI G agg 12 sg, eZ G al 12 lo, (ry, .inr (6, [.ref as_, .ref ah, .ref aw, .ref au])), eJ G ah 64 hf, eJ G aw 64 wf] := (lcons rfl (lcons (congrArg (fun z => eJ G aw_ 12 z) q9_7) (lcons rfl (lcons rfl (lcons rfl (lcons rfl (lcons rfl (lcons rfl (lcons rfl rfl)))))))))
            exact ih_6 (j + 1) (by omega) (by omega) _ _ (va_castP (hP.sub [0, 1, 2, 3, 4, 5, 6, 7, 8] rfl) cw9) (va_castD (hD.sub [0, 1, 2, 3, 4, 5, 6, 7, 8] (by decide) rfl) cw9) hS ls (lv_cast (lv_sub hl [0, 1, 2, 3, 4, 5, 6] rfl) (lcons rfl (lcons (congrArg (fun z => (6, Value.long z)) q9_6) (lcons rfl (lcons rfl (lcons rfl (lcons rfl (lcons rfl rfl))))))))
  have q9_8 : 0 = (nI 0) := rfl
  have q9_9 : (0 : Int64) = (loN lo sg pf hf wf gl ca nd al_ 0) := rfl
  have q9_10 : lf = (loA lo sg pf hf wf gl ca nd al_ 0 lf) := loA_0 lo sg pf hf wf gl ca nd al_ lf
  have cw9 : ([(h0, .inr (0, [.ref aw_, .int gl, .int ca])), eJ G aw_ 12 lf, (hr_, .inr (3, [.ref ab, .ref ap, .ref agg, .ref al, .int mo, .int ne])), eI G ap 12 pf, eI G agg 12 sg, eZ G al 12 lo, (ry, .inr (6, [.ref as_, .ref ah, .ref aw, .ref au])), eJ G ah 64 hf, eJ G aw 64 wf] : va_W) = [(h0, .inr (0, [.ref aw_, .int gl, .int ca])), eJ G aw_ 12 (loA lo sg pf hf wf gl ca nd al_ 0 lf), (hr_, .inr (3, [.ref ab, .ref ap, .ref agg, .ref al, .int mo, .int ne])), eI G ap 12 pf, eI G agg 12 sg, eZ G al 12 lo, (ry, .inr (6, [.ref as_, .ref ah, .ref aw, .ref au])), eJ G ah 64 hf, eJ G aw 64 wf] := (lcons rfl (lcons (congrArg (fun z => eJ G aw_ 12 z) q9_10) (lcons rfl (lcons rfl (lcons rfl (lcons rfl (lcons rfl (lcons rfl (lcons rfl rfl)))))))))
  exact J_6 13 0 (by omega) (by omega) _ _ (va_castP (hP.sub [0, 1, 2, 3, 4, 5, 6, 7, 8] rfl) cw9) (va_castD (hD.sub [0, 1, 2, 3, 4, 5, 6, 7, 8] (by decide) rfl) cw9) hS ls (lv_cast (lv_sub hl [0, 1, 2, 3, 4, 5, 6] rfl) (lcons (congrArg (fun z => (8, Value.int z)) q9_8) (lcons (congrArg (fun z => (6, Value.long z)) q9_9) (lcons rfl (lcons rfl (lcons rfl (lcons rfl (lcons rfl rfl))))))))
