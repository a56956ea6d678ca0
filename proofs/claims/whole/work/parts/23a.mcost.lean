set_option maxHeartbeats 4000000 in
set_option maxRecDepth 100000 in
theorem c_X8_costOf (ln : Launch) (G : gT) (h0 : Nat) (mk : Nat) (mg : Nat) (mhb : Nat) (mdn : Nat) (mda : Nat) (mkp : Nat) (mbr : Nat) (msu : Nat) (msg : Nat) (mlo : Nat) (moa : Nat) (mog : Nat) (mop : Nat) (mra : Nat) (nd : Nat) (kp : Int32) (mo : Int32) (ne : Int32) (gl : Int32) (ca : Int32) (no : Nat) (rs : Int32) (rw_ : Int32) (bc : Int32) (bo : Int32) (be : Int32) (kf : Nat → Int32) (cf : Nat → Int32) (pr : Nat → Int32) (chn : Nat) (hno : no ≤ 5) (hch : chn < 32) (hcf : ∀ q, q < no → vp_in (cf q) 64) : Met ln yX8_costOf (wA (.code yX8_costOf cX8_costOf 5 (some .int))) ({ frames := 0, cells := 0, slots := 0, locals := 0 } : Room) (va_Pc [.ref h0, .int (nI chn)] (roB G [(h0, .inr (8, [.ref mk, .ref mg, .ref mhb, .ref mdn, .int (nI nd), .ref mda, .ref mkp, .int kp, .ref mbr, .ref msu, .ref msg, .ref mlo, .int mo, .int ne, .int gl, .int ca, .int (nI no), .ref moa, .ref mog, .ref mop, .int rs, .int rw_, .ref mra, .int bc, .int bo, .int be])), eI G mk 64 kf, eI G moa 5 cf, eI G mop 5 pr])) (vp_Si (fun r => r = csM pr kf cf chn no)) 0 0 (fun _ => False) := by
  refine Met.ofW (cc := cX8_costOf) (maxL := 5) (ret := (some .int)) (by decide) rfl ?_
  intro pg ev s mi args below meth cd s₁ B hml hv
  obtain ⟨rfl, hP, hE, hT⟩ := hv
  have hx := B.exec
  have hb := B.bytes
  have hr := B.returns
  have hts0 := atoms_spec (ws := wA (.code yX8_costOf cX8_costOf 5 (some .int))) B.pre
  have hts : ∀ w ∈ wsA, w.before _ s = true := fun w h => hts0 w (List.mem_cons_of_mem _ h)
  have hown : s.vm.findClass RX8 = some mi.cls := findClass_of_methodNamed B.named
  have hlocks := B.notSynchronized
  have hS : va_S (fun _ => False) s.heap s.heap [] := va_S.rf
  have hl := lv_entry ([.ref h0, .int (nI chn)]) (n := 5) (Nat.le_of_ble_eq_true rfl)
  rw [lg_entry_eq]
  generalize (lg_sl ([.ref h0, .int (nI chn)]) ++ List.replicate (5 - (lg_sl ([.ref h0, .int (nI chn)])).length) Slot.unset).toArray = ls at hl ⊢
  have hl : lv_has ls 5 [(0, .ref h0), (1, .int (nI chn))] := hl
  refine lv_iconst (v := 0) hx hb dX8_costOf_0 (by decide) ?_
  refine lv_istore_n (lv' := [(2, .int 0), (0, .ref h0), (1, .int (nI chn))]) hx hb dX8_costOf_1 rfl hl (by decide) rfl (fun ls hl => ?_)
  refine lv_iconst (v := 0) hx hb dX8_costOf_2 (by decide) ?_
  refine lv_istore_n (lv' := [(3, .int 0), (2, .int 0), (0, .ref h0), (1, .int (nI chn))]) hx hb dX8_costOf_3 rfl hl (by decide) rfl (fun ls hl => ?_)
  have J_4 : ∀ (n_ : Nat), ∀ (j : Nat), (j ≤ no) → (6 ≤ j + n_) → (icM kf cf chn j = true) → ∀ (ls : Array Slot), lv_has ls 5 [(3, .int (nI j)), (2, .int (coL pr chn j)), (0, .ref h0), (1, .int (nI chn))] → W pg ln ev ({ frames := 0, cells := 0, slots := 0, locals := 0 } : Room) s mi ([.ref h0, .int (nI chn)] : List Value).toArray below meth cd s.heap [] 0 0 (MQ below (vp_Si (fun r => r = csM pr kf cf chn no)) ([.ref h0, .int (nI chn)] : List Value).toArray s 0 0 (fun _ => False)) (F0 mi 4 ls []) := by
    intro n_
    induction n_ with
    | zero =>
      intro j hj hfj hic ls hl
      exact absurd hfj (by omega)
    | succ n_ ih_4 =>
      intro j hj hfj hic ls hl
      refine lv_iload_n hx hb dX8_costOf_4 rfl (lv_at hl 0 rfl) ?_
      refine lv_aload_n hx hb dX8_costOf_5 rfl (lv_at hl 2 rfl) ?_
      refine va_get (ci := 8) (C := RX8) (T := TX8) (N := 26) hx hb hts hinX8 hown hE.1 hP 0 rfl rfl 16 (by decide) (hts _ kFl_X8_146) (fun _ h9 => h9) rfl dX8_costOf_6 ?_
      refine lv_icmp_ge (tgt := 96) hx hb dX8_costOf_9 (by decide) (fun c_9 => ?_) (fun c_9 => ?_)
      · skip
        have e_hlj : j = no := by
          rcases Nat.lt_or_ge j no with z9 | z9
          · exact absurd (show nI no ≤ nI j from c_9) (nI_ge z9 (by omega))
          · omega
        refine lv_iload_n hx hb dX8_costOf_96 rfl (lv_at hl 1 rfl) ?_
        exact W.iret (v := coL pr chn j) hx hb hr (fun t_ ht_ hW_ => ⟨coL pr chn j, rfl, (by rw [e_hlj] at hic ⊢; rw [csM, if_pos hic]), ht_⟩) hS.2.2 dX8_costOf_97
      · skip
        have hlj : j < no := by
          rcases Nat.lt_or_ge j no with z9 | z9
          · exact z9
          · exact absurd (show _ ≤ nI j from (nI_le (a := no) (b := j) z9 (by omega))) c_9
        refine lv_iload_n hx hb dX8_costOf_12 rfl (lv_at hl 3 rfl) ?_
        refine lv_iload_n hx hb dX8_costOf_13 rfl (lv_at hl 0 rfl) ?_
        refine lv_ishr hx hb dX8_costOf_14 ?_
        refine lv_iconst (v := 1) hx hb dX8_costOf_15 (by decide) ?_
        refine lv_iand hx hb dX8_costOf_16 ?_
        refine lv_iconst (v := 1) hx hb dX8_costOf_17 (by decide) ?_
        refine lv_icmp_ne (tgt := 90) hx hb dX8_costOf_18 (by decide) (fun c_18 => ?_) (fun c_18 => ?_)
        · skip
          have hbt_j : chn.testBit j = false := bitm_f hch (by omega) c_18
          refine lv_iinc (v := nI (j + 1)) (lv' := [(3, .int (nI (j + 1))), (2, .int (coL pr chn j)), (0, .ref h0), (1, .int (nI chn))]) hx hb dX8_costOf_90 hl (k := 0) rfl (nI_1 _) (by decide) rfl (fun ls hl => ?_)
          refine lv_goto (tgt := 4) hx hb dX8_costOf_93 (by decide) ?_
          have q9_1 : (coL pr chn j) = (coL pr chn (j + 1)) := by simp [coL, hbt_j]
          exact ih_4 (j + 1) (by omega) (by omega) (by simp [icM, hic, hbt_j]) ls (lv_cast (lv_sub hl [0, 1, 2, 3] rfl) (lcons rfl (lcons (congrArg (fun z => (2, Value.int z)) q9_1) (lcons rfl (lcons rfl rfl)))))
        · skip
          have hbt_j : chn.testBit j = true := bitm_t hch (by omega) c_18
          refine lv_iload_n hx hb dX8_costOf_21 rfl (lv_at hl 1 rfl) ?_
          refine lv_aload_n hx hb dX8_costOf_22 rfl (lv_at hl 2 rfl) ?_
          refine va_get (ci := 8) (C := RX8) (T := TX8) (N := 26) hx hb hts hinX8 hown hE.1 hP 0 rfl rfl 19 (by decide) (hts _ kFl_X8_60) (fun _ h9 => h9) rfl dX8_costOf_23 ?_
          refine lv_iload_n hx hb dX8_costOf_26 rfl (lv_at hl 0 rfl) ?_
          refine ri_ald (j := j) hx hb hE hP 3 rfl (nI_clamp (by omega)) (vp_in_nI (by omega) (by omega)) dX8_costOf_27 ?_
          refine lv_iadd hx hb dX8_costOf_28 ?_
          refine lv_istore_n (lv' := [(2, .int ((coL pr chn j) + (pr j))), (3, .int (nI j)), (0, .ref h0), (1, .int (nI chn))]) hx hb dX8_costOf_29 rfl hl (by decide) rfl (fun ls hl => ?_)
          refine lv_aload_n hx hb dX8_costOf_30 rfl (lv_at hl 2 rfl) ?_
          refine va_get (ci := 8) (C := RX8) (T := TX8) (N := 26) hx hb hts hinX8 hown hE.1 hP 0 rfl rfl 0 (by decide) (hts _ kFl_X8_7) (fun _ h9 => h9) rfl dX8_costOf_31 ?_
          refine lv_aload_n hx hb dX8_costOf_34 rfl (lv_at hl 2 rfl) ?_
          refine va_get (ci := 8) (C := RX8) (T := TX8) (N := 26) hx hb hts hinX8 hown hE.1 hP 0 rfl rfl 17 (by decide) (hts _ kFl_X8_54) (fun _ h9 => h9) rfl dX8_costOf_35 ?_
          refine lv_iload_n hx hb dX8_costOf_38 rfl (lv_at hl 1 rfl) ?_
          refine ri_ald (j := j) hx hb hE hP 2 rfl (nI_clamp (by omega)) (vp_in_nI (by omega) (by omega)) dX8_costOf_39 ?_
          refine ri_ald (j := (cf j).toNatClampNeg) hx hb hE hP 1 rfl rfl (hcf j hlj) dX8_costOf_40 ?_
          refine lv_iconst (v := 1) hx hb dX8_costOf_41 (by decide) ?_
          refine lv_icmp_eq (tgt := 47) hx hb dX8_costOf_42 (by decide) (fun c_42 => ?_) (fun c_42 => ?_)
          · skip
            refine lv_iconst (v := 0) hx hb dX8_costOf_47 (by decide) ?_
            refine lv_istore (lv' := [(4, .int 0), (2, .int ((coL pr chn j) + (pr j))), (3, .int (nI j)), (0, .ref h0), (1, .int (nI chn))]) hx hb dX8_costOf_48 hl (by decide) rfl (fun ls hl => ?_)
            have J_50 : ∀ (n_ : Nat), ∀ (q : Nat), (q ≤ j) → (6 ≤ q + n_) → (dupM cf chn j q = true) → ∀ (ls : Array Slot), lv_has ls 5 [(4, .int (nI q)), (2, .int ((coL pr chn j) + (pr j))), (3, .int (nI j)), (0, .ref h0), (1, .int (nI chn))] → W pg ln ev ({ frames := 0, cells := 0, slots := 0, locals := 0 } : Room) s mi ([.ref h0, .int (nI chn)] : List Value).toArray below meth cd s.heap [] 0 0 (MQ below (vp_Si (fun r => r = csM pr kf cf chn no)) ([.ref h0, .int (nI chn)] : List Value).toArray s 0 0 (fun _ => False)) (F0 mi 50 ls []) := by
              intro n_
              induction n_ with
              | zero =>
                intro q hq hfq hdu ls hl
                exact absurd hfq (by omega)
              | succ n_ ih_50 =>
                intro q hq hfq hdu ls hl
                refine lv_iload hx hb dX8_costOf_50 (lv_at hl 0 rfl) ?_
                refine lv_iload_n hx hb dX8_costOf_52 rfl (lv_at hl 2 rfl) ?_
                refine lv_icmp_ge (tgt := 90) hx hb dX8_costOf_53 (by decide) (fun c_53 => ?_) (fun c_53 => ?_)
                · skip
                  have e_hlq : q = j := by
                    rcases Nat.lt_or_ge q j with z9 | z9
                    · exact absurd (show nI j ≤ nI q from c_53) (nI_ge z9 (by omega))
                    · omega
                  refine lv_iinc (v := nI (j + 1)) (lv' := [(3, .int (nI (j + 1))), (4, .int (nI q)), (2, .int ((coL pr chn j) + (pr j))), (0, .ref h0), (1, .int (nI chn))]) hx hb dX8_costOf_90 hl (k := 2) rfl (nI_1 _) (by decide) rfl (fun ls hl => ?_)
                  refine lv_goto (tgt := 4) hx hb dX8_costOf_93 (by decide) ?_
                  have q9_2 : ((coL pr chn j) + (pr j)) = (coL pr chn (j + 1)) := by simp [coL, hbt_j]
                  exact ih_4 (j + 1) (by omega) (by omega) (by rw [e_hlq] at hdu; simp [icM, hic, hbt_j, c_42, hdu]) ls (lv_cast (lv_sub hl [0, 2, 3, 4] rfl) (lcons rfl (lcons (congrArg (fun z => (2, Value.int z)) q9_2) (lcons rfl (lcons rfl rfl)))))
                · skip
                  have hlq : q < j := by
                    rcases Nat.lt_or_ge q j with z9 | z9
                    · exact z9
                    · exact absurd (show _ ≤ nI q from (nI_le (a := j) (b := q) z9 (by omega))) c_53
                  refine lv_iload_n hx hb dX8_costOf_56 rfl (lv_at hl 4 rfl) ?_
                  refine lv_iload hx hb dX8_costOf_57 (lv_at hl 0 rfl) ?_
                  refine lv_ishr hx hb dX8_costOf_59 ?_
                  refine lv_iconst (v := 1) hx hb dX8_costOf_60 (by decide) ?_
                  refine lv_iand hx hb dX8_costOf_61 ?_
                  refine lv_iconst (v := 1) hx hb dX8_costOf_62 (by decide) ?_
                  refine lv_icmp_ne (tgt := 84) hx hb dX8_costOf_63 (by decide) (fun c_63 => ?_) (fun c_63 => ?_)
                  · skip
                    have hbt_q : chn.testBit q = false := bitm_f hch (by omega) c_63
                    refine lv_iinc (v := nI (q + 1)) (lv' := [(4, .int (nI (q + 1))), (2, .int ((coL pr chn j) + (pr j))), (3, .int (nI j)), (0, .ref h0), (1, .int (nI chn))]) hx hb dX8_costOf_84 hl (k := 0) rfl (nI_1 _) (by decide) rfl (fun ls hl => ?_)
                    refine lv_goto (tgt := 50) hx hb dX8_costOf_87 (by decide) ?_
                    exact ih_50 (q + 1) (by omega) (by omega) (by simp [dupM, hdu, hbt_q]) ls (lv_sub hl [0, 1, 2, 3, 4] rfl)
                  · skip
                    have hbt_q : chn.testBit q = true := bitm_t hch (by omega) c_63
                    refine lv_aload_n hx hb dX8_costOf_66 rfl (lv_at hl 3 rfl) ?_
                    refine va_get (ci := 8) (C := RX8) (T := TX8) (N := 26) hx hb hts hinX8 hown hE.1 hP 0 rfl rfl 17 (by decide) (hts _ kFl_X8_54) (fun _ h9 => h9) rfl dX8_costOf_67 ?_
                    refine lv_iload hx hb dX8_costOf_70 (lv_at hl 0 rfl) ?_
                    refine ri_ald (j := q) hx hb hE hP 2 rfl (nI_clamp (by omega)) (vp_in_nI (by omega) (by omega)) dX8_costOf_72 ?_
                    refine lv_aload_n hx hb dX8_costOf_73 rfl (lv_at hl 3 rfl) ?_
                    refine va_get (ci := 8) (C := RX8) (T := TX8) (N := 26) hx hb hts hinX8 hown hE.1 hP 0 rfl rfl 17 (by decide) (hts _ kFl_X8_54) (fun _ h9 => h9) rfl dX8_costOf_74 ?_
                    refine lv_iload_n hx hb dX8_costOf_77 rfl (lv_at hl 2 rfl) ?_
                    refine ri_ald (j := j) hx hb hE hP 2 rfl (nI_clamp (by omega)) (vp_in_nI (by omega) (by omega)) dX8_costOf_78 ?_
                    refine lv_icmp_ne (tgt := 84) hx hb dX8_costOf_79 (by decide) (fun c_79 => ?_) (fun c_79 => ?_)
                    · skip
                      refine lv_iinc (v := nI (q + 1)) (lv' := [(4, .int (nI (q + 1))), (2, .int ((coL pr chn j) + (pr j))), (3, .int (nI j)), (0, .ref h0), (1, .int (nI chn))]) hx hb dX8_costOf_84 hl (k := 0) rfl (nI_1 _) (by decide) rfl (fun ls hl => ?_)
                      refine lv_goto (tgt := 50) hx hb dX8_costOf_87 (by decide) ?_
                      exact ih_50 (q + 1) (by omega) (by omega) (by simp [dupM, hdu, hbt_q, c_79]) ls (lv_sub hl [0, 1, 2, 3, 4] rfl)
                    · skip
                      refine lv_iconst (v := -1) hx hb dX8_costOf_82 (by decide) ?_
                      exact W.iret (v := (-1)) hx hb hr (fun t_ ht_ hW_ => ⟨(-1), rfl, (by rw [csM, if_neg (by rw [icM_dn (j := j) (by rw [icM, if_pos hbt_j, dupM_dn (j := q) (by simp [dupM, hbt_q, c_79]) j (by omega)]; simp) no (by omega)]; decide)]), ht_⟩) hS.2.2 dX8_costOf_83
            have q9_3 : 0 = (nI 0) := rfl
            exact J_50 6 0 (by omega) (by omega) rfl ls (lv_cast (lv_sub hl [0, 1, 2, 3, 4] rfl) (lcons (congrArg (fun z => (4, Value.int z)) q9_3) (lcons rfl (lcons rfl (lcons rfl (lcons rfl rfl))))))
          · skip
            refine lv_iconst (v := -1) hx hb dX8_costOf_45 (by decide) ?_
            exact W.iret (v := (-1)) hx hb hr (fun t_ ht_ hW_ => ⟨(-1), rfl, (by rw [csM, if_neg (by rw [icM_dn (j := j) (by simp [icM, hbt_j, c_42]) no (by omega)]; decide)]), ht_⟩) hS.2.2 dX8_costOf_46
  have q9_4 : 0 = (nI 0) := rfl
  have q9_5 : 0 = (coL pr chn 0) := rfl
  exact J_4 6 0 (by omega) (by omega) rfl ls (lv_cast (lv_sub hl [0, 1, 2, 3] rfl) (lcons (congrArg (fun z => (3, Value.int z)) q9_4) (lcons (congrArg (fun z => (2, Value.int z)) q9_5) (lcons rfl (lcons rfl rfl)))))
set_option maxHeartbeats 4000000 in
set_option maxRecDepth 100000 in
theorem c_X8_put (ln : Launch) (G : gT) (h0 : Nat) (mk : Nat) (mg : Nat) (mhb : Nat) (mdn : Nat) (mda : Nat) (mkp : Nat) (mbr : Nat) (msu : Nat) (msg : Nat) (mlo : Nat) (moa : Nat) (mog : Nat) (mop : Nat) (mra : Nat) (nd : Nat) (kp : Int32) (mo : Int32) (ne : Int32) (gl : Int32) (ca : Int32) (no : Nat) (rs : Int32) (rw_ : Int32) (bc : Int32) (bo : Int32) (be : Int32) (kf : Nat → Int32) (gf : Nat → Int32) (cf : Nat → Int32) (og : Nat → Int32) (chn : Nat) (sz : Nat) (hno : no ≤ 5) (hch : chn < 32) (hcf : ∀ q, q < no → vp_in (cf q) 64) : Met ln yX8_put (wA (.code yX8_put cX8_put 3 none)) ({ frames := 0, cells := 0, slots := 0, locals := 0 } : Room) (va_Pc [.ref h0, .int (nI chn)] (rwB G [(h0, .inr (8, [.ref mk, .ref mg, .ref mhb, .ref mdn, .int (nI nd), .ref mda, .ref mkp, .int kp, .ref mbr, .ref msu, .ref msg, .ref mlo, .int mo, .int ne, .int gl, .int ca, .int (nI no), .ref moa, .ref mog, .ref mop, .int rs, .int rw_, .ref mra, .int bc, .int bo, .int be])), eI G mk 64 kf, eI G mg 64 gf, eI G moa 5 cf, eI G mog 5 og] sz)) (va_Qv (S := Unit) (fun (_ : Unit) => True) (fun u => wdB G (va_A [(h0, .inr (8, [.ref mk, .ref mg, .ref mhb, .ref mdn, .int (nI nd), .ref mda, .ref mkp, .int kp, .ref mbr, .ref msu, .ref msg, .ref mlo, .int mo, .int ne, .int gl, .int ca, .int (nI no), .ref moa, .ref mog, .ref mop, .int rs, .int rw_, .ref mra, .int bc, .int bo, .int be])), eI G mk 64 kf, eI G mg 64 gf, eI G moa 5 cf, eI G mog 5 og] sz) [(h0, .inr (8, [.ref mk, .ref mg, .ref mhb, .ref mdn, .int (nI nd), .ref mda, .ref mkp, .int kp, .ref mbr, .ref msu, .ref msg, .ref mlo, .int mo, .int ne, .int gl, .int ca, .int (nI no), .ref moa, .ref mog, .ref mop, .int rs, .int rw_, .ref mra, .int bc, .int bo, .int be])), eI G mk 64 (opF cf chn (fun _ => 2) kf no), eI G mg 64 (opF cf chn og gf no), eI G moa 5 cf, eI G mog 5 og]) (va_A [(h0, .inr (8, [.ref mk, .ref mg, .ref mhb, .ref mdn, .int (nI nd), .ref mda, .ref mkp, .int kp, .ref mbr, .ref msu, .ref msg, .ref mlo, .int mo, .int ne, .int gl, .int ca, .int (nI no), .ref moa, .ref mog, .ref mop, .int rs, .int rw_, .ref mra, .int bc, .int bo, .int be])), eI G mk 64 kf, eI G mg 64 gf, eI G moa 5 cf, eI G mog 5 og] sz)) 0 0 (va_A [(h0, .inr (8, [.ref mk, .ref mg, .ref mhb, .ref mdn, .int (nI nd), .ref mda, .ref mkp, .int kp, .ref mbr, .ref msu, .ref msg, .ref mlo, .int mo, .int ne, .int gl, .int ca, .int (nI no), .ref moa, .ref mog, .ref mop, .int rs, .int rw_, .ref mra, .int bc, .int bo, .int be])), eI G mk 64 kf, eI G mg 64 gf, eI G moa 5 cf, eI G mog 5 og] sz) := by
  refine Met.ofW (cc := cX8_put) (maxL := 3) (ret := none) (by decide) rfl ?_
  intro pg ev s mi args below meth cd s₁ B hml hv
  obtain ⟨rfl, hsz, hP, hE, hD0, hT⟩ := hv
  have hx := B.exec
  have hb := B.bytes
  have hr := B.returns
  have hts0 := atoms_spec (ws := wA (.code yX8_put cX8_put 3 none)) B.pre
  have hts : ∀ w ∈ wsA, w.before _ s = true := fun w h => hts0 w (List.mem_cons_of_mem _ h)
  have hown : s.vm.findClass RX8 = some mi.cls := findClass_of_methodNamed B.named
  have hlocks := B.notSynchronized
  subst hsz
  have hD := hD0.self (sz := s.heap.size)
  generalize hAe : va_A [(h0, .inr (8, [.ref mk, .ref mg, .ref mhb, .ref mdn, .int (nI nd), .ref mda, .ref mkp, .int kp, .ref mbr, .ref msu, .ref msg, .ref mlo, .int mo, .int ne, .int gl, .int ca, .int (nI no), .ref moa, .ref mog, .ref mop, .int rs, .int rw_, .ref mra, .int bc, .int bo, .int be])), eI G mk 64 kf, eI G mg 64 gf, eI G moa 5 cf, eI G mog 5 og] s.heap.size = A at hD hT ⊢
  have hA : ∀ q : Nat, s.heap.size ≤ q → A q := fun q h => by rw [← hAe]; exact Or.inr h
  have hS : va_S A s.heap s.heap [] := va_S.rf
  have hl := lv_entry ([.ref h0, .int (nI chn)]) (n := 3) (Nat.le_of_ble_eq_true rfl)
  rw [lg_entry_eq]
  generalize (lg_sl ([.ref h0, .int (nI chn)]) ++ List.replicate (3 - (lg_sl ([.ref h0, .int (nI chn)])).length) Slot.unset).toArray = ls at hl ⊢
  have hl : lv_has ls 3 [(0, .ref h0), (1, .int (nI chn))] := hl
  refine lv_iconst (v := 0) hx hb dX8_put_0 (by decide) ?_
  refine lv_istore_n (lv' := [(2, .int 0), (0, .ref h0), (1, .int (nI chn))]) hx hb dX8_put_1 rfl hl (by decide) rfl (fun ls hl => ?_)
  have J_2 : ∀ (n_ : Nat), ∀ (j : Nat), (j ≤ no) → (6 ≤ j + n_) → ∀ (H : Heap) (locs : List Loc), va_P G.1 vwCl [(h0, .inr (8, [.ref mk, .ref mg, .ref mhb, .ref mdn, .int (nI nd), .ref mda, .ref mkp, .int kp, .ref mbr, .ref msu, .ref msg, .ref mlo, .int mo, .int ne, .int gl, .int ca, .int (nI no), .ref moa, .ref mog, .ref mop, .int rs, .int rw_, .ref mra, .int bc, .int bo, .int be])), eI G mk 64 (opF cf chn (fun _ => 2) kf j), eI G mg 64 (opF cf chn og gf j), eI G moa 5 cf, eI G mog 5 og] H → va_D A [(h0, .inr (8, [.ref mk, .ref mg, .ref mhb, .ref mdn, .int (nI nd), .ref mda, .ref mkp, .int kp, .ref mbr, .ref msu, .ref msg, .ref mlo, .int mo, .int ne, .int gl, .int ca, .int (nI no), .ref moa, .ref mog, .ref mop, .int rs, .int rw_, .ref mra, .int bc, .int bo, .int be])), eI G mk 64 (opF cf chn (fun _ => 2) kf j), eI G mg 64 (opF cf chn og gf j), eI G moa 5 cf, eI G mog 5 og] → va_S A s.heap H locs → ∀ (ls : Array Slot), lv_has ls 3 [(2, .int (nI j)), (0, .ref h0), (1, .int (nI chn))] → W pg ln ev ({ frames := 0, cells := 0, slots := 0, locals := 0 } : Room) s mi ([.ref h0, .int (nI chn)] : List Value).toArray below meth cd H locs 0 0 (MQ below (va_Qv (S := Unit) (fun (_ : Unit) => True) (fun u => wdB G A [(h0, .inr (8, [.ref mk, .ref mg, .ref mhb, .ref mdn, .int (nI nd), .ref mda, .ref mkp, .int kp, .ref mbr, .ref msu, .ref msg, .ref mlo, .int mo, .int ne, .int gl, .int ca, .int (nI no), .ref moa, .ref mog, .ref mop, .int rs, .int rw_, .ref mra, .int bc, .int bo, .int be])), eI G mk 64 (opF cf chn (fun _ => 2) kf no), eI G mg 64 (opF cf chn og gf no), eI G moa 5 cf, eI G mog 5 og]) A) ([.ref h0, .int (nI chn)] : List Value).toArray s 0 0 A) (F0 mi 2 ls []) := by
    intro n_
    induction n_ with
    | zero =>
      intro j hj hfj H locs hP hD hS ls hl
      exact absurd hfj (by omega)
    | succ n_ ih_2 =>
      intro j hj hfj H locs hP hD hS ls hl
      refine lv_iload_n hx hb dX8_put_2 rfl (lv_at hl 0 rfl) ?_
      refine lv_aload_n hx hb dX8_put_3 rfl (lv_at hl 1 rfl) ?_
      refine va_get (ci := 8) (C := RX8) (T := TX8) (N := 26) hx hb hts hinX8 hown hE.1 hP 0 rfl rfl 16 (by decide) (hts _ kFl_X8_146) (fun _ h9 => h9) rfl dX8_put_4 ?_
      refine lv_icmp_ge (tgt := 54) hx hb dX8_put_7 (by decide) (fun c_7 => ?_) (fun c_7 => ?_)
      · skip
        have e_hlj : j = no := by
          rcases Nat.lt_or_ge j no with z9 | z9
          · exact absurd (show nI no ≤ nI j from c_7) (nI_ge z9 (by omega))
          · omega
        have hP9 := hP.sub (ws' := [(h0, .inr (8, [.ref mk, .ref mg, .ref mhb, .ref mdn, .int (nI nd), .ref mda, .ref mkp, .int kp, .ref mbr, .ref msu, .ref msg, .ref mlo, .int mo, .int ne, .int gl, .int ca, .int (nI no), .ref moa, .ref mog, .ref mop, .int rs, .int rw_, .ref mra, .int bc, .int bo, .int be])), eI G mk 64 (opF cf chn (fun _ => 2) kf j), eI G mg 64 (opF cf chn og gf j), eI G moa 5 cf, eI G mog 5 og]) [0, 1, 2, 3, 4] rfl
        have hD9 := hD.sub (ws' := [(h0, .inr (8, [.ref mk, .ref mg, .ref mhb, .ref mdn, .int (nI nd), .ref mda, .ref mkp, .int kp, .ref mbr, .ref msu, .ref msg, .ref mlo, .int mo, .int ne, .int gl, .int ca, .int (nI no), .ref moa, .ref mog, .ref mop, .int rs, .int rw_, .ref mra, .int bc, .int bo, .int be])), eI G mk 64 (opF cf chn (fun _ => 2) kf j), eI G mg 64 (opF cf chn og gf j), eI G moa 5 cf, eI G mog 5 og]) [0, 1, 2, 3, 4] (by decide) rfl
        have q9_1 : (opF cf chn (fun _ => 2) kf j) = (opF cf chn (fun _ => 2) kf no) := by rw [e_hlj]
        have q9_2 : (opF cf chn og gf j) = (opF cf chn og gf no) := by rw [e_hlj]
        have cw9 : ([(h0, .inr (8, [.ref mk, .ref mg, .ref mhb, .ref mdn, .int (nI nd), .ref mda, .ref mkp, .int kp, .ref mbr, .ref msu, .ref msg, .ref mlo, .int mo, .int ne, .int gl, .int ca, .int (nI no), .ref moa, .ref mog, .ref mop, .int rs, .int rw_, .ref mra, .int bc, .int bo, .int be])), eI G mk 64 (opF cf chn (fun _ => 2) kf j), eI G mg 64 (opF cf chn og gf j), eI G moa 5 cf, eI G mog 5 og] : va_W) = [(h0, .inr (8, [.ref mk, .ref mg, .ref mhb, .ref mdn, .int (nI nd), .ref mda, .ref mkp, .int kp, .ref mbr, .ref msu, .ref msg, .ref mlo, .int mo, .int ne, .int gl, .int ca, .int (nI no), .ref moa, .ref mog, .ref mop, .int rs, .int rw_, .ref mra, .int bc, .int bo, .int be])), eI G mk 64 (opF cf chn (fun _ => 2) kf no), eI G mg 64 (opF cf chn og gf no), eI G moa 5 cf, eI G mog 5 og] := (lcons rfl (lcons (congrArg (fun z => eI G mk 64 z) q9_1) (lcons (congrArg (fun z => eI G mg 64 z) q9_2) (lcons rfl (lcons rfl rfl)))))
        have hP9 := va_castP hP9 cw9
        have hD9 := va_castD hD9 cw9
        exact W.vret hx hb hr (fun t_ ht_ hW_ => ⟨⟨(), rfl, trivial, by rw [ht_]; exact hP9, hD9⟩, hS.F ht_⟩) hS.2.2 dX8_put_54
      · skip
        have hlj : j < no := by
          rcases Nat.lt_or_ge j no with z9 | z9
          · exact z9
          · exact absurd (show _ ≤ nI j from (nI_le (a := no) (b := j) z9 (by omega))) c_7
        refine lv_iload_n hx hb dX8_put_10 rfl (lv_at hl 2 rfl) ?_
        refine lv_iload_n hx hb dX8_put_11 rfl (lv_at hl 0 rfl) ?_
        refine lv_ishr hx hb dX8_put_12 ?_
        refine lv_iconst (v := 1) hx hb dX8_put_13 (by decide) ?_
        refine lv_iand hx hb dX8_put_14 ?_
        refine lv_iconst (v := 1) hx hb dX8_put_15 (by decide) ?_
        refine lv_icmp_ne (tgt := 48) hx hb dX8_put_16 (by decide) (fun c_16 => ?_) (fun c_16 => ?_)
        · skip
          have hbt_j : chn.testBit j = false := bitm_f hch (by omega) c_16
          refine lv_iinc (v := nI (j + 1)) (lv' := [(2, .int (nI (j + 1))), (0, .ref h0), (1, .int (nI chn))]) hx hb dX8_put_48 hl (k := 0) rfl (nI_1 _) (by decide) rfl (fun ls hl => ?_)
          refine lv_goto (tgt := 2) hx hb dX8_put_51 (by decide) ?_
          have q9_3 : (opF cf chn (fun _ => 2) kf j) = (opF cf chn (fun _ => 2) kf (j + 1)) := by simp [opF, hbt_j]
          have q9_4 : (opF cf chn og gf j) = (opF cf chn og gf (j + 1)) := by simp [opF, hbt_j]
          have cw9 : ([(h0, .inr (8, [.ref mk, .ref mg, .ref mhb, .ref mdn, .int (nI nd), .ref mda, .ref mkp, .int kp, .ref mbr, .ref msu, .ref msg, .ref mlo, .int mo, .int ne, .int gl, .int ca, .int (nI no), .ref moa, .ref mog, .ref mop, .int rs, .int rw_, .ref mra, .int bc, .int bo, .int be])), eI G mk 64 (opF cf chn (fun _ => 2) kf j), eI G mg 64 (opF cf chn og gf j), eI G moa 5 cf, eI G mog 5 og] : va_W) = [(h0, .inr (8, [.ref mk, .ref mg, .ref mhb, .ref mdn, .int (nI nd), .ref mda, .ref mkp, .int kp, .ref mbr, .ref msu, .ref msg, .ref mlo, .int mo, .int ne, .int gl, .int ca, .int (nI no), .ref moa, .ref mog, .ref mop, .int rs, .int rw_, .ref mra, .int bc, .int bo, .int be])), eI G mk 64 (opF cf chn (fun _ => 2) kf (j + 1)), eI G mg 64 (opF cf chn og gf (j + 1)), eI G moa 5 cf, eI G mog 5 og] := (lcons rfl (lcons (congrArg (fun z => eI G mk 64 z) q9_3) (lcons (congrArg (fun z => eI G mg 64 z) q9_4) (lcons rfl (lcons rfl rfl)))))
          exact ih_2 (j + 1) (by omega) (by omega) _ _ (va_castP (hP.sub [0, 1, 2, 3, 4] rfl) cw9) (va_castD (hD.sub [0, 1, 2, 3, 4] (by decide) rfl) cw9) hS ls (lv_sub hl [0, 1, 2] rfl)
        · skip
          have hbt_j : chn.testBit j = true := bitm_t hch (by omega) c_16
          refine lv_aload_n hx hb dX8_put_19 rfl (lv_at hl 1 rfl) ?_
          refine va_get (ci := 8) (C := RX8) (T := TX8) (N := 26) hx hb hts hinX8 hown hE.1 hP 0 rfl rfl 0 (by decide) (hts _ kFl_X8_7) (fun _ h9 => h9) rfl dX8_put_20 ?_
          refine lv_aload_n hx hb dX8_put_23 rfl (lv_at hl 1 rfl) ?_
          refine va_get (ci := 8) (C := RX8) (T := TX8) (N := 26) hx hb hts hinX8 hown hE.1 hP 0 rfl rfl 17 (by decide) (hts _ kFl_X8_54) (fun _ h9 => h9) rfl dX8_put_24 ?_
          refine lv_iload_n hx hb dX8_put_27 rfl (lv_at hl 0 rfl) ?_
          refine ri_ald (j := j) hx hb hE hP 3 rfl (nI_clamp (by omega)) (vp_in_nI (by omega) (by omega)) dX8_put_28 ?_
          refine lv_iconst (v := 2) hx hb dX8_put_29 (by decide) ?_
          refine ri_ast (j := (cf j).toNatClampNeg) hx hb hE hP hD hS 1 rfl rfl (hcf j hlj) dX8_put_30 (fun H locs hP hD hS => ?_)
          have hP : va_P G.1 vwCl [(h0, .inr (8, [.ref mk, .ref mg, .ref mhb, .ref mdn, .int (nI nd), .ref mda, .ref mkp, .int kp, .ref mbr, .ref msu, .ref msg, .ref mlo, .int mo, .int ne, .int gl, .int ca, .int (nI no), .ref moa, .ref mog, .ref mop, .int rs, .int rw_, .ref mra, .int bc, .int bo, .int be])), eI G mk 64 (upd (opF cf chn (fun _ => 2) kf j) ((cf j).toNatClampNeg) 2), eI G mg 64 (opF cf chn og gf j), eI G moa 5 cf, eI G mog 5 og] H := hP
          have hD : va_D A [(h0, .inr (8, [.ref mk, .ref mg, .ref mhb, .ref mdn, .int (nI nd), .ref mda, .ref mkp, .int kp, .ref mbr, .ref msu, .ref msg, .ref mlo, .int mo, .int ne, .int gl, .int ca, .int (nI no), .ref moa, .ref mog, .ref mop, .int rs, .int rw_, .ref mra, .int bc, .int bo, .int be])), eI G mk 64 (upd (opF cf chn (fun _ => 2) kf j) ((cf j).toNatClampNeg) 2), eI G mg 64 (opF cf chn og gf j), eI G moa 5 cf, eI G mog 5 og] := hD
          refine lv_aload_n hx hb dX8_put_31 rfl (lv_at hl 1 rfl) ?_
          refine va_get (ci := 8) (C := RX8) (T := TX8) (N := 26) hx hb hts hinX8 hown hE.1 hP 0 rfl rfl 1 (by decide) (hts _ kFl_X8_13) (fun _ h9 => h9) rfl dX8_put_32 ?_
          refine lv_aload_n hx hb dX8_put_35 rfl (lv_at hl 1 rfl) ?_
          refine va_get (ci := 8) (C := RX8) (T := TX8) (N := 26) hx hb hts hinX8 hown hE.1 hP 0 rfl rfl 17 (by decide) (hts _ kFl_X8_54) (fun _ h9 => h9) rfl dX8_put_36 ?_
          refine lv_iload_n hx hb dX8_put_39 rfl (lv_at hl 0 rfl) ?_
          refine ri_ald (j := j) hx hb hE hP 3 rfl (nI_clamp (by omega)) (vp_in_nI (by omega) (by omega)) dX8_put_40 ?_
          refine lv_aload_n hx hb dX8_put_41 rfl (lv_at hl 1 rfl) ?_
          refine va_get (ci := 8) (C := RX8) (T := TX8) (N := 26) hx hb hts hinX8 hown hE.1 hP 0 rfl rfl 18 (by decide) (hts _ kFl_X8_57) (fun _ h9 => h9) rfl dX8_put_42 ?_
          refine lv_iload_n hx hb dX8_put_45 rfl (lv_at hl 0 rfl) ?_
          refine ri_ald (j := j) hx hb hE hP 4 rfl (nI_clamp (by omega)) (vp_in_nI (by omega) (by omega)) dX8_put_46 ?_
          refine ri_ast (j := (cf j).toNatClampNeg) hx hb hE hP hD hS 2 rfl rfl (hcf j hlj) dX8_put_47 (fun H locs hP hD hS => ?_)
          have hP : va_P G.1 vwCl [(h0, .inr (8, [.ref mk, .ref mg, .ref mhb, .ref mdn, .int (nI nd), .ref mda, .ref mkp, .int kp, .ref mbr, .ref msu, .ref msg, .ref mlo, .int mo, .int ne, .int gl, .int ca, .int (nI no), .ref moa, .ref mog, .ref mop, .int rs, .int rw_, .ref mra, .int bc, .int bo, .int be])), eI G mk 64 (upd (opF cf chn (fun _ => 2) kf j) ((cf j).toNatClampNeg) 2), eI G mg 64 (upd (opF cf chn og gf j) ((cf j).toNatClampNeg) (og j)), eI G moa 5 cf, eI G mog 5 og] H := hP
          have hD : va_D A [(h0, .inr (8, [.ref mk, .ref mg, .ref mhb, .ref mdn, .int (nI nd), .ref mda, .ref mkp, .int kp, .ref mbr, .ref msu, .ref msg, .ref mlo, .int mo, .int ne, .int gl, .int ca, .int (nI no), .ref moa, .ref mog, .ref mop, .int rs, .int rw_, .ref mra, .int bc, .int bo, .int be])), eI G mk 64 (upd (opF cf chn (fun _ => 2) kf j) ((cf j).toNatClampNeg) 2), eI G mg 64 (upd (opF cf chn og gf j) ((cf j).toNatClampNeg) (og j)), eI G moa 5 cf, eI G mog 5 og] := hD
          refine lv_iinc (v := nI (j + 1)) (lv' := [(2, .int (nI (j + 1))), (0, .ref h0), (1, .int (nI chn))]) hx hb dX8_put_48 hl (k := 0) rfl (nI_1 _) (by decide) rfl (fun ls hl => ?_)
          refine lv_goto (tgt := 2) hx hb dX8_put_51 (by decide) ?_
          have q9_5 : (upd (opF cf chn (fun _ => 2) kf j) ((cf j).toNatClampNeg) 2) = (opF cf chn (fun _ => 2) kf (j + 1)) := by simp [opF, hbt_j]
          have q9_6 : (upd (opF cf chn og gf j) ((cf j).toNatClampNeg) (og j)) = (opF cf chn og gf (j + 1)) := by simp [opF, hbt_j]
          have cw9 : ([(h0, .inr (8, [.ref mk, .ref mg, .ref mhb, .ref mdn, .int (nI nd), .ref mda, .ref mkp, .int kp, .ref mbr, .ref msu, .ref msg, .ref mlo, .int mo, .int ne, .int gl, .int ca, .int (nI no), .ref moa, .ref mog, .ref mop, .int rs, .int rw_, .ref mra, .int bc, .int bo, .int be])), eI G mk 64 (upd (opF cf chn (fun _ => 2) kf j) ((cf j).toNatClampNeg) 2), eI G mg 64 (upd (opF cf chn og gf j) ((cf j).toNatClampNeg) (og j)), eI G moa 5 cf, eI G mog 5 og] : va_W) = [(h0, .inr (8, [.ref mk, .ref mg, .ref mhb, .ref mdn, .int (nI nd), .ref mda, .ref mkp, .int kp, .ref mbr, .ref msu, .ref msg, .ref mlo, .int mo, .int ne, .int gl, .int ca, .int (nI no), .ref moa, .ref mog, .ref mop, .int rs, .int rw_, .ref mra, .int bc, .int bo, .int be])), eI G mk 64 (opF cf chn (fun _ => 2) kf (j + 1)), eI G mg 64 (opF cf chn og gf (j + 1)), eI G moa 5 cf, eI G mog 5 og] := (lcons rfl (lcons (congrArg (fun z => eI G mk 64 z) q9_5) (lcons (congrArg (fun z => eI G mg 64 z) q9_6) (lcons rfl (lcons rfl rfl)))))
          exact ih_2 (j + 1) (by omega) (by omega) _ _ (va_castP (hP.sub [0, 1, 2, 3, 4] rfl) cw9) (va_castD (hD.sub [0, 1, 2, 3, 4] (by decide) rfl) cw9) hS ls (lv_sub hl [0, 1, 2] rfl)
  have q9_7 : 0 = (nI 0) := rfl
  have q9_8 : kf = (opF cf chn (fun _ => 2) kf 0) := rfl
  have q9_9 : gf = (opF cf chn og gf 0) := rfl
  have cw9 : ([(h0, .inr (8, [.ref mk, .ref mg, .ref mhb, .ref mdn, .int (nI nd), .ref mda, .ref mkp, .int kp, .ref mbr, .ref msu, .ref msg, .ref mlo, .int mo, .int ne, .int gl, .int ca, .int (nI no), .ref moa, .ref mog, .ref mop, .int rs, .int rw_, .ref mra, .int bc, .int bo, .int be])), eI G mk 64 kf, eI G mg 64 gf, eI G moa 5 cf, eI G mog 5 og] : va_W) = [(h0, .inr (8, [.ref mk, .ref mg, .ref mhb, .ref mdn, .int (nI nd), .ref mda, .ref mkp, .int kp, .ref mbr, .ref msu, .ref msg, .ref mlo, .int mo, .int ne, .int gl, .int ca, .int (nI no), .ref moa, .ref mog, .ref mop, .int rs, .int rw_, .ref mra, .int bc, .int bo, .int be])), eI G mk 64 (opF cf chn (fun _ => 2) kf 0), eI G mg 64 (opF cf chn og gf 0), eI G moa 5 cf, eI G mog 5 og] := (lcons rfl (lcons (congrArg (fun z => eI G mk 64 z) q9_8) (lcons (congrArg (fun z => eI G mg 64 z) q9_9) (lcons rfl (lcons rfl rfl)))))
  exact J_2 6 0 (by omega) (by omega) _ _ (va_castP (hP.sub [0, 1, 2, 3, 4] rfl) cw9) (va_castD (hD.sub [0, 1, 2, 3, 4] (by decide) rfl) cw9) hS ls (lv_cast (lv_sub hl [0, 1, 2] rfl) (lcons (congrArg (fun z => (2, Value.int z)) q9_7) (lcons rfl (lcons rfl rfl))))
set_option maxHeartbeats 4000000 in
set_option maxRecDepth 100000 in
theorem c_X8_takeBack (ln : Launch) (G : gT) (h0 : Nat) (mk : Nat) (mg : Nat) (mhb : Nat) (mdn : Nat) (mda : Nat) (mkp : Nat) (mbr : Nat) (msu : Nat) (msg : Nat) (mlo : Nat) (moa : Nat) (mog : Nat) (mop : Nat) (mra : Nat) (nd : Nat) (kp : Int32) (mo : Int32) (ne : Int32) (gl : Int32) (ca : Int32) (no : Nat) (rs : Int32) (rw_ : Int32) (bc : Int32) (bo : Int32) (be : Int32) (kf : Nat → Int32) (gf : Nat → Int32) (cf : Nat → Int32) (chn : Nat) (sz : Nat) (hno : no ≤ 5) (hch : chn < 32) (hcf : ∀ q, q < no → vp_in (cf q) 64) : Met ln yX8_takeBack (wA (.code yX8_takeBack cX8_takeBack 3 none)) ({ frames := 0, cells := 0, slots := 0, locals := 0 } : Room) (va_Pc [.ref h0, .int (nI chn)] (rwB G [(h0, .inr (8, [.ref mk, .ref mg, .ref mhb, .ref mdn, .int (nI nd), .ref mda, .ref mkp, .int kp, .ref mbr, .ref msu, .ref msg, .ref mlo, .int mo, .int ne, .int gl, .int ca, .int (nI no), .ref moa, .ref mog, .ref mop, .int rs, .int rw_, .ref mra, .int bc, .int bo, .int be])), eI G mk 64 kf, eI G mg 64 gf, eI G moa 5 cf] sz)) (va_Qv (S := Unit) (fun (_ : Unit) => True) (fun u => wdB G (va_A [(h0, .inr (8, [.ref mk, .ref mg, .ref mhb, .ref mdn, .int (nI nd), .ref mda, .ref mkp, .int kp, .ref mbr, .ref msu, .ref msg, .ref mlo, .int mo, .int ne, .int gl, .int ca, .int (nI no), .ref moa, .ref mog, .ref mop, .int rs, .int rw_, .ref mra, .int bc, .int bo, .int be])), eI G mk 64 kf, eI G mg 64 gf, eI G moa 5 cf] sz) [(h0, .inr (8, [.ref mk, .ref mg, .ref mhb, .ref mdn, .int (nI nd), .ref mda, .ref mkp, .int kp, .ref mbr, .ref msu, .ref msg, .ref mlo, .int mo, .int ne, .int gl, .int ca, .int (nI no), .ref moa, .ref mog, .ref mop, .int rs, .int rw_, .ref mra, .int bc, .int bo, .int be])), eI G mk 64 (opF cf chn (fun _ => 1) kf no), eI G mg 64 (opF cf chn (fun _ => 0) gf no), eI G moa 5 cf]) (va_A [(h0, .inr (8, [.ref mk, .ref mg, .ref mhb, .ref mdn, .int (nI nd), .ref mda, .ref mkp, .int kp, .ref mbr, .ref msu, .ref msg, .ref mlo, .int mo, .int ne, .int gl, .int ca, .int (nI no), .ref moa, .ref mog, .ref mop, .int rs, .int rw_, .ref mra, .int bc, .int bo, .int be])), eI G mk 64 kf, eI G mg 64 gf, eI G moa 5 cf] sz)) 0 0 (va_A [(h0, .inr (8, [.ref mk, .ref mg, .ref mhb, .ref mdn, .int (nI nd), .ref mda, .ref mkp, .int kp, .ref mbr, .ref msu, .ref msg, .ref mlo, .int mo, .int ne, .int gl, .int ca, .int (nI no), .ref moa, .ref mog, .ref mop, .int rs, .int rw_, .ref mra, .int bc, .int bo, .int be])), eI G mk 64 kf, eI G mg 64 gf, eI G moa 5 cf] sz) := by
  refine Met.ofW (cc := cX8_takeBack) (maxL := 3) (ret := none) (by decide) rfl ?_
  intro pg ev s mi args below meth cd s₁ B hml hv
  obtain ⟨rfl, hsz, hP, hE, hD0, hT⟩ := hv
  have hx := B.exec
  have hb := B.bytes
  have hr := B.returns
  have hts0 := atoms_spec (ws := wA (.code yX8_takeBack cX8_takeBack 3 none)) B.pre
  have hts : ∀ w ∈ wsA, w.before _ s = true := fun w h => hts0 w (List.mem_cons_of_mem _ h)
  have hown : s.vm.findClass RX8 = some mi.cls := findClass_of_methodNamed B.named
  have hlocks := B.notSynchronized
  subst hsz
  have hD := hD0.self (sz := s.heap.size)
  generalize hAe : va_A [(h0, .inr (8, [.ref mk, .ref mg, .ref mhb, .ref mdn, .int (nI nd), .ref mda, .ref mkp, .int kp, .ref mbr, .ref msu, .ref msg, .ref mlo, .int mo, .int ne, .int gl, .int ca, .int (nI no), .ref moa, .ref mog, .ref mop, .int rs, .int rw_, .ref mra, .int bc, .int bo, .int be])), eI G mk 64 kf, eI G mg 64 gf, eI G moa 5 cf] s.heap.size = A at hD hT ⊢
  have hA : ∀ q : Nat, s.heap.size ≤ q → A q := fun q h => by rw [← hAe]; exact Or.inr h
  have hS : va_S A s.heap s.heap [] := va_S.rf
  have hl := lv_entry ([.ref h0, .int (nI chn)]) (n := 3) (Nat.le_of_ble_eq_true rfl)
  rw [lg_entry_eq]
  generalize (lg_sl ([.ref h0, .int (nI chn)]) ++ List.replicate (3 - (lg_sl ([.ref h0, .int (nI chn)])).length) Slot.unset).toArray = ls at hl ⊢
  have hl : lv_has ls 3 [(0, .ref h0), (1, .int (nI chn))] := hl
  refine lv_iconst (v := 0) hx hb dX8_takeBack_0 (by decide) ?_
  refine lv_istore_n (lv' := [(2, .int 0), (0, .ref h0), (1, .int (nI chn))]) hx hb dX8_takeBack_1 rfl hl (by decide) rfl (fun ls hl => ?_)
  have J_2 : ∀ (n_ : Nat), ∀ (j : Nat), (j ≤ no) → (6 ≤ j + n_) → ∀ (H : Heap) (locs : List Loc), va_P G.1 vwCl [(h0, .inr (8, [.ref mk, .ref mg, .ref mhb, .ref mdn, .int (nI nd), .ref mda, .ref mkp, .int kp, .ref mbr, .ref msu, .ref msg, .ref mlo, .int mo, .int ne, .int gl, .int ca, .int (nI no), .ref moa, .ref mog, .ref mop, .int rs, .int rw_, .ref mra, .int bc, .int bo, .int be])), eI G mk 64 (opF cf chn (fun _ => 1) kf j), eI G mg 64 (opF cf chn (fun _ => 0) gf j), eI G moa 5 cf] H → va_D A [(h0, .inr (8, [.ref mk, .ref mg, .ref mhb, .ref mdn, .int (nI nd), .ref mda, .ref mkp, .int kp, .ref mbr, .ref msu, .ref msg, .ref mlo, .int mo, .int ne, .int gl, .int ca, .int (nI no), .ref moa, .ref mog, .ref mop, .int rs, .int rw_, .ref mra, .int bc, .int bo, .int be])), eI G mk 64 (opF cf chn (fun _ => 1) kf j), eI G mg 64 (opF cf chn (fun _ => 0) gf j), eI G moa 5 cf] → va_S A s.heap H locs → ∀ (ls : Array Slot), lv_has ls 3 [(2, .int (nI j)), (0, .ref h0), (1, .int (nI chn))] → W pg ln ev ({ frames := 0, cells := 0, slots := 0, locals := 0 } : Room) s mi ([.ref h0, .int (nI chn)] : List Value).toArray below meth cd H locs 0 0 (MQ below (va_Qv (S := Unit) (fun (_ : Unit) => True) (fun u => wdB G A [(h0, .inr (8, [.ref mk, .ref mg, .ref mhb, .ref mdn, .int (nI nd), .ref mda, .ref mkp, .int kp, .ref mbr, .ref msu, .ref msg, .ref mlo, .int mo, .int ne, .int gl, .int ca, .int (nI no), .ref moa, .ref mog, .ref mop, .int rs, .int rw_, .ref mra, .int bc, .int bo, .int be])), eI G mk 64 (opF cf chn (fun _ => 1) kf no), eI G mg 64 (opF cf chn (fun _ => 0) gf no), eI G moa 5 cf]) A) ([.ref h0, .int (nI chn)] : List Value).toArray s 0 0 A) (F0 mi 2 ls []) := by
    intro n_
    induction n_ with
    | zero =>
      intro j hj hfj H locs hP hD hS ls hl
      exact absurd hfj (by omega)
    | succ n_ ih_2 =>
      intro j hj hfj H locs hP hD hS ls hl
      refine lv_iload_n hx hb dX8_takeBack_2 rfl (lv_at hl 0 rfl) ?_
      refine lv_aload_n hx hb dX8_takeBack_3 rfl (lv_at hl 1 rfl) ?_
      refine va_get (ci := 8) (C := RX8) (T := TX8) (N := 26) hx hb hts hinX8 hown hE.1 hP 0 rfl rfl 16 (by decide) (hts _ kFl_X8_146) (fun _ h9 => h9) rfl dX8_takeBack_4 ?_
      refine lv_icmp_ge (tgt := 49) hx hb dX8_takeBack_7 (by decide) (fun c_7 => ?_) (fun c_7 => ?_)
      · skip
        have e_hlj : j = no := by
          rcases Nat.lt_or_ge j no with z9 | z9
          · exact absurd (show nI no ≤ nI j from c_7) (nI_ge z9 (by omega))
          · omega
        have hP9 := hP.sub (ws' := [(h0, .inr (8, [.ref mk, .ref mg, .ref mhb, .ref mdn, .int (nI nd), .ref mda, .ref mkp, .int kp, .ref mbr, .ref msu, .ref msg, .ref mlo, .int mo, .int ne, .int gl, .int ca, .int (nI no), .ref moa, .ref mog, .ref mop, .int rs, .int rw_, .ref mra, .int bc, .int bo, .int be])), eI G mk 64 (opF cf chn (fun _ => 1) kf j), eI G mg 64 (opF cf chn (fun _ => 0) gf j), eI G moa 5 cf]) [0, 1, 2, 3] rfl
        have hD9 := hD.sub (ws' := [(h0, .inr (8, [.ref mk, .ref mg, .ref mhb, .ref mdn, .int (nI nd), .ref mda, .ref mkp, .int kp, .ref mbr, .ref msu, .ref msg, .ref mlo, .int mo, .int ne, .int gl, .int ca, .int (nI no), .ref moa, .ref mog, .ref mop, .int rs, .int rw_, .ref mra, .int bc, .int bo, .int be])), eI G mk 64 (opF cf chn (fun _ => 1) kf j), eI G mg 64 (opF cf chn (fun _ => 0) gf j), eI G moa 5 cf]) [0, 1, 2, 3] (by decide) rfl
        have q9_1 : (opF cf chn (fun _ => 1) kf j) = (opF cf chn (fun _ => 1) kf no) := by rw [e_hlj]
        have q9_2 : (opF cf chn (fun _ => 0) gf j) = (opF cf chn (fun _ => 0) gf no) := by rw [e_hlj]
        have cw9 : ([(h0, .inr (8, [.ref mk, .ref mg, .ref mhb, .ref mdn, .int (nI nd), .ref mda, .ref mkp, .int kp, .ref mbr, .ref msu, .ref msg, .ref mlo, .int mo, .int ne, .int gl, .int ca, .int (nI no), .ref moa, .ref mog, .ref mop, .int rs, .int rw_, .ref mra, .int bc, .int bo, .int be])), eI G mk 64 (opF cf chn (fun _ => 1) kf j), eI G mg 64 (opF cf chn (fun _ => 0) gf j), eI G moa 5 cf] : va_W) = [(h0, .inr (8, [.ref mk, .ref mg, .ref mhb, .ref mdn, .int (nI nd), .ref mda, .ref mkp, .int kp, .ref mbr, .ref msu, .ref msg, .ref mlo, .int mo, .int ne, .int gl, .int ca, .int (nI no), .ref moa, .ref mog, .ref mop, .int rs, .int rw_, .ref mra, .int bc, .int bo, .int be])), eI G mk 64 (opF cf chn (fun _ => 1) kf no), eI G mg 64 (opF cf chn (fun _ => 0) gf no), eI G moa 5 cf] := (lcons rfl (lcons (congrArg (fun z => eI G mk 64 z) q9_1) (lcons (congrArg (fun z => eI G mg 64 z) q9_2) (lcons rfl rfl))))
        have hP9 := va_castP hP9 cw9
        have hD9 := va_castD hD9 cw9
        exact W.vret hx hb hr (fun t_ ht_ hW_ => ⟨⟨(), rfl, trivial, by rw [ht_]; exact hP9, hD9⟩, hS.F ht_⟩) hS.2.2 dX8_takeBack_49
      · skip
        have hlj : j < no := by
          rcases Nat.lt_or_ge j no with z9 | z9
          · exact z9
          · exact absurd (show _ ≤ nI j from (nI_le (a := no) (b := j) z9 (by omega))) c_7
        refine lv_iload_n hx hb dX8_takeBack_10 rfl (lv_at hl 2 rfl) ?_
        refine lv_iload_n hx hb dX8_takeBack_11 rfl (lv_at hl 0 rfl) ?_
        refine lv_ishr hx hb dX8_takeBack_12 ?_
        refine lv_iconst (v := 1) hx hb dX8_takeBack_13 (by decide) ?_
        refine lv_iand hx hb dX8_takeBack_14 ?_
        refine lv_iconst (v := 1) hx hb dX8_takeBack_15 (by decide) ?_
        refine lv_icmp_ne (tgt := 43) hx hb dX8_takeBack_16 (by decide) (fun c_16 => ?_) (fun c_16 => ?_)
        · skip
          have hbt_j : chn.testBit j = false := bitm_f hch (by omega) c_16
          refine lv_iinc (v := nI (j + 1)) (lv' := [(2, .int (nI (j + 1))), (0, .ref h0), (1, .int (nI chn))]) hx hb dX8_takeBack_43 hl (k := 0) rfl (nI_1 _) (by decide) rfl (fun ls hl => ?_)
          refine lv_goto (tgt := 2) hx hb dX8_takeBack_46 (by decide) ?_
          have q9_3 : (opF cf chn (fun _ => 1) kf j) = (opF cf chn (fun _ => 1) kf (j + 1)) := by simp [opF, hbt_j]
          have q9_4 : (opF cf chn (fun _ => 0) gf j) = (opF cf chn (fun _ => 0) gf (j + 1)) := by simp [opF, hbt_j]
          have cw9 : ([(h0, .inr (8, [.ref mk, .ref mg, .ref mhb, .ref mdn, .int (nI nd), .ref mda, .ref mkp, .int kp, .ref mbr, .ref msu, .ref msg, .ref mlo, .int mo, .int ne, .int gl, .int ca, .int (nI no), .ref moa, .ref mog, .ref mop, .int rs, .int rw_, .ref mra, .int bc, .int bo, .int be])), eI G mk 64 (opF cf chn (fun _ => 1) kf j), eI G mg 64 (opF cf chn (fun _ => 0) gf j), eI G moa 5 cf] : va_W) = [(h0, .inr (8, [.ref mk, .ref mg, .ref mhb, .ref mdn, .int (nI nd), .ref mda, .ref mkp, .int kp, .ref mbr, .ref msu, .ref msg, .ref mlo, .int mo, .int ne, .int gl, .int ca, .int (nI no), .ref moa, .ref mog, .ref mop, .int rs, .int rw_, .ref mra, .int bc, .int bo, .int be])), eI G mk 64 (opF cf chn (fun _ => 1) kf (j + 1)), eI G mg 64 (opF cf chn (fun _ => 0) gf (j + 1)), eI G moa 5 cf] := (lcons rfl (lcons (congrArg (fun z => eI G mk 64 z) q9_3) (lcons (congrArg (fun z => eI G mg 64 z) q9_4) (lcons rfl rfl))))
          exact ih_2 (j + 1) (by omega) (by omega) _ _ (va_castP (hP.sub [0, 1, 2, 3] rfl) cw9) (va_castD (hD.sub [0, 1, 2, 3] (by decide) rfl) cw9) hS ls (lv_sub hl [0, 1, 2] rfl)
        · skip
          have hbt_j : chn.testBit j = true := bitm_t hch (by omega) c_16
          refine lv_aload_n hx hb dX8_takeBack_19 rfl (lv_at hl 1 rfl) ?_
          refine va_get (ci := 8) (C := RX8) (T := TX8) (N := 26) hx hb hts hinX8 hown hE.1 hP 0 rfl rfl 0 (by decide) (hts _ kFl_X8_7) (fun _ h9 => h9) rfl dX8_takeBack_20 ?_
          refine lv_aload_n hx hb dX8_takeBack_23 rfl (lv_at hl 1 rfl) ?_
          refine va_get (ci := 8) (C := RX8) (T := TX8) (N := 26) hx hb hts hinX8 hown hE.1 hP 0 rfl rfl 17 (by decide) (hts _ kFl_X8_54) (fun _ h9 => h9) rfl dX8_takeBack_24 ?_
          refine lv_iload_n hx hb dX8_takeBack_27 rfl (lv_at hl 0 rfl) ?_
          refine ri_ald (j := j) hx hb hE hP 3 rfl (nI_clamp (by omega)) (vp_in_nI (by omega) (by omega)) dX8_takeBack_28 ?_
          refine lv_iconst (v := 1) hx hb dX8_takeBack_29 (by decide) ?_
          refine ri_ast (j := (cf j).toNatClampNeg) hx hb hE hP hD hS 1 rfl rfl (hcf j hlj) dX8_takeBack_30 (fun H locs hP hD hS => ?_)
          have hP : va_P G.1 vwCl [(h0, .inr (8, [.ref mk, .ref mg, .ref mhb, .ref mdn, .int (nI nd), .ref mda, .ref mkp, .int kp, .ref mbr, .ref msu, .ref msg, .ref mlo, .int mo, .int ne, .int gl, .int ca, .int (nI no), .ref moa, .ref mog, .ref mop, .int rs, .int rw_, .ref mra, .int bc, .int bo, .int be])), eI G mk 64 (upd (opF cf chn (fun _ => 1) kf j) ((cf j).toNatClampNeg) 1), eI G mg 64 (opF cf chn (fun _ => 0) gf j), eI G moa 5 cf] H := hP
          have hD : va_D A [(h0, .inr (8, [.ref mk, .ref mg, .ref mhb, .ref mdn, .int (nI nd), .ref mda, .ref mkp, .int kp, .ref mbr, .ref msu, .ref msg, .ref mlo, .int mo, .int ne, .int gl, .int ca, .int (nI no), .ref moa, .ref mog, .ref mop, .int rs, .int rw_, .ref mra, .int bc, .int bo, .int be])), eI G mk 64 (upd (opF cf chn (fun _ => 1) kf j) ((cf j).toNatClampNeg) 1), eI G mg 64 (opF cf chn (fun _ => 0) gf j), eI G moa 5 cf] := hD
          refine lv_aload_n hx hb dX8_takeBack_31 rfl (lv_at hl 1 rfl) ?_
          refine va_get (ci := 8) (C := RX8) (T := TX8) (N := 26) hx hb hts hinX8 hown hE.1 hP 0 rfl rfl 1 (by decide) (hts _ kFl_X8_13) (fun _ h9 => h9) rfl dX8_takeBack_32 ?_
          refine lv_aload_n hx hb dX8_takeBack_35 rfl (lv_at hl 1 rfl) ?_
          refine va_get (ci := 8) (C := RX8) (T := TX8) (N := 26) hx hb hts hinX8 hown hE.1 hP 0 rfl rfl 17 (by decide) (hts _ kFl_X8_54) (fun _ h9 => h9) rfl dX8_takeBack_36 ?_
          refine lv_iload_n hx hb dX8_takeBack_39 rfl (lv_at hl 0 rfl) ?_
          refine ri_ald (j := j) hx hb hE hP 3 rfl (nI_clamp (by omega)) (vp_in_nI (by omega) (by omega)) dX8_takeBack_40 ?_
          refine lv_iconst (v := 0) hx hb dX8_takeBack_41 (by decide) ?_
          refine ri_ast (j := (cf j).toNatClampNeg) hx hb hE hP hD hS 2 rfl rfl (hcf j hlj) dX8_takeBack_42 (fun H locs hP hD hS => ?_)
          have hP : va_P G.1 vwCl [(h0, .inr (8, [.ref mk, .ref mg, .ref mhb, .ref mdn, .int (nI nd), .ref mda, .ref mkp, .int kp, .ref mbr, .ref msu, .ref msg, .ref mlo, .int mo, .int ne, .int gl, .int ca, .int (nI no), .ref moa, .ref mog, .ref mop, .int rs, .int rw_, .ref mra, .int bc, .int bo, .int be])), eI G mk 64 (upd (opF cf chn (fun _ => 1) kf j) ((cf j).toNatClampNeg) 1), eI G mg 64 (upd (opF cf chn (fun _ => 0) gf j) ((cf j).toNatClampNeg) 0), eI G moa 5 cf] H := hP
          have hD : va_D A [(h0, .inr (8, [.ref mk, .ref mg, .ref mhb, .ref mdn, .int (nI nd), .ref mda, .ref mkp, .int kp, .ref mbr, .ref msu, .ref msg, .ref mlo, .int mo, .int ne, .int gl, .int ca, .int (nI no), .ref moa, .ref mog, .ref mop, .int rs, .int rw_, .ref mra, .int bc, .int bo, .int be])), eI G mk 64 (upd (opF cf chn (fun _ => 1) kf j) ((cf j).toNatClampNeg) 1), eI G mg 64 (upd (opF cf chn (fun _ => 0) gf j) ((cf j).toNatClampNeg) 0), eI G moa 5 cf] := hD
          refine lv_iinc (v := nI (j + 1)) (lv' := [(2, .int (nI (j + 1))), (0, .ref h0), (1, .int (nI chn))]) hx hb dX8_takeBack_43 hl (k := 0) rfl (nI_1 _) (by decide) rfl (fun ls hl => ?_)
          refine lv_goto (tgt := 2) hx hb dX8_takeBack_46 (by decide) ?_
          have q9_5 : (upd (opF cf chn (fun _ => 1) kf j) ((cf j).toNatClampNeg) 1) = (opF cf chn (fun _ => 1) kf (j + 1)) := by simp [opF, hbt_j]
          have q9_6 : (upd (opF cf chn (fun _ => 0) gf j) ((cf j).toNatClampNeg) 0) = (opF cf chn (fun _ => 0) gf (j + 1)) := by simp [opF, hbt_j]
          have cw9 : ([(h0, .inr (8, [.ref mk, .ref mg, .ref mhb, .ref mdn, .int (nI nd), .ref mda, .ref mkp, .int kp, .ref mbr, .ref msu, .ref msg, .ref mlo, .int mo, .int ne, .int gl, .int ca, .int (nI no), .ref moa, .ref mog, .ref mop, .int rs, .int rw_, .ref mra, .int bc, .int bo, .int be])), eI G mk 64 (upd (opF cf chn (fun _ => 1) kf j) ((cf j).toNatClampNeg) 1), eI G mg 64 (upd (opF cf chn (fun _ => 0) gf j) ((cf j).toNatClampNeg) 0), eI G moa 5 cf] : va_W) = [(h0, .inr (8, [.ref mk, .ref mg, .ref mhb, .ref mdn, .int (nI nd), .ref mda, .ref mkp, .int kp, .ref mbr, .ref msu, .ref msg, .ref mlo, .int mo, .int ne, .int gl, .int ca, .int (nI no), .ref moa, .ref mog, .ref mop, .int rs, .int rw_, .ref mra, .int bc, .int bo, .int be])), eI G mk 64 (opF cf chn (fun _ => 1) kf (j + 1)), eI G mg 64 (opF cf chn (fun _ => 0) gf (j + 1)), eI G moa 5 cf] := (lcons rfl (lcons (congrArg (fun z => eI G mk 64 z) q9_5) (lcons (congrArg (fun z => eI G mg 64 z) q9_6) (lcons rfl rfl))))
          exact ih_2 (j + 1) (by omega) (by omega) _ _ (va_castP (hP.sub [0, 1, 2, 3] rfl) cw9) (va_castD (hD.sub [0, 1, 2, 3] (by decide) rfl) cw9) hS ls (lv_sub hl [0, 1, 2] rfl)
  have q9_7 : 0 = (nI 0) := rfl
  have q9_8 : kf = (opF cf chn (fun _ => 1) kf 0) := rfl
  have q9_9 : gf = (opF cf chn (fun _ => 0) gf 0) := rfl
  have cw9 : ([(h0, .inr (8, [.ref mk, .ref mg, .ref mhb, .ref mdn, .int (nI nd), .ref mda, .ref mkp, .int kp, .ref mbr, .ref msu, .ref msg, .ref mlo, .int mo, .int ne, .int gl, .int ca, .int (nI no), .ref moa, .ref mog, .ref mop, .int rs, .int rw_, .ref mra, .int bc, .int bo, .int be])), eI G mk 64 kf, eI G mg 64 gf, eI G moa 5 cf] : va_W) = [(h0, .inr (8, [.ref mk, .ref mg, .ref mhb, .ref mdn, .int (nI nd), .ref mda, .ref mkp, .int kp, .ref mbr, .ref msu, .ref msg, .ref mlo, .int mo, .int ne, .int gl, .int ca, .int (nI no), .ref moa, .ref mog, .ref mop, .int rs, .int rw_, .ref mra, .int bc, .int bo, .int be])), eI G mk 64 (opF cf chn (fun _ => 1) kf 0), eI G mg 64 (opF cf chn (fun _ => 0) gf 0), eI G moa 5 cf] := (lcons rfl (lcons (congrArg (fun z => eI G mk 64 z) q9_8) (lcons (congrArg (fun z => eI G mg 64 z) q9_9) (lcons rfl rfl))))
  exact J_2 6 0 (by omega) (by omega) _ _ (va_castP (hP.sub [0, 1, 2, 3] rfl) cw9) (va_castD (hD.sub [0, 1, 2, 3] (by decide) rfl) cw9) hS ls (lv_cast (lv_sub hl [0, 1, 2] rfl) (lcons (congrArg (fun z => (2, Value.int z)) q9_7) (lcons rfl (lcons rfl rfl))))
