set_option maxHeartbeats 4000000 in
set_option maxRecDepth 100000 in
theorem c_X8_count (ln : Launch) (G : gT) (h0 : Nat) (mk : Nat) (mg : Nat) (mhb : Nat) (mdn : Nat) (mda : Nat) (mkp : Nat) (mbr : Nat) (msu : Nat) (msg : Nat) (mlo : Nat) (moa : Nat) (mog : Nat) (mop : Nat) (mra : Nat) (nd : Nat) (kp : Int32) (mo : Int32) (ne : Int32) (gl : Int32) (ca : Int32) (no : Nat) (rs : Int32) (rw_ : Int32) (bc : Int32) (bo : Int32) (be : Int32) (kf : Nat → Int32) (lo : Nat → Bool) (w : Int32)  : Met ln yX8_count (wA (.code yX8_count cX8_count 4 (some .int))) ({ frames := 0, cells := 0, slots := 0, locals := 0 } : Room) (va_Pc [.ref h0, .int w] (roB G [(h0, .inr (8, [.ref mk, .ref mg, .ref mhb, .ref mdn, .int (nI nd), .ref mda, .ref mkp, .int kp, .ref mbr, .ref msu, .ref msg, .ref mlo, .int mo, .int ne, .int gl, .int ca, .int (nI no), .ref moa, .ref mog, .ref mop, .int rs, .int rw_, .ref mra, .int bc, .int bo, .int be])), eI G mk 64 kf, eZ G mlo 12 lo])) (vp_Si (fun r => r = aCount nd no lo kf w)) 0 0 (fun _ => False) := by
  refine Met.ofW (cc := cX8_count) (maxL := 4) (ret := (some .int)) (by decide) rfl ?_
  intro pg ev s mi args below meth cd s₁ B hml hv
  obtain ⟨rfl, hP, hE, hT⟩ := hv
  have hx := B.exec
  have hb := B.bytes
  have hr := B.returns
  have hts0 := atoms_spec (ws := wA (.code yX8_count cX8_count 4 (some .int))) B.pre
  have hts : ∀ w ∈ wsA, w.before _ s = true := fun w h => hts0 w (List.mem_cons_of_mem _ h)
  have hown : s.vm.findClass RX8 = some mi.cls := findClass_of_methodNamed B.named
  have hlocks := B.notSynchronized
  have hS : va_S (fun _ => False) s.heap s.heap [] := va_S.rf
  have hl := lv_entry ([.ref h0, .int w]) (n := 4) (Nat.le_of_ble_eq_true rfl)
  rw [lg_entry_eq]
  generalize (lg_sl ([.ref h0, .int w]) ++ List.replicate (4 - (lg_sl ([.ref h0, .int w])).length) Slot.unset).toArray = ls at hl ⊢
  have hl : lv_has ls 4 [(0, .ref h0), (1, .int w)] := hl
  refine lv_iconst (v := 0) hx hb dX8_count_0 (by decide) ?_
  refine lv_istore_n (lv' := [(2, .int 0), (0, .ref h0), (1, .int w)]) hx hb dX8_count_1 rfl hl (by decide) rfl (fun ls hl => ?_)
  refine lv_iload_n hx hb dX8_count_2 rfl (lv_at hl 2 rfl) ?_
  rcases tw_split 5 (by decide) w with c_3 | ⟨kk_, hkk_, c_3⟩
  · skip
    refine lv_tableOut (tgt := 147) hx hb dX8_count_3 c_3 (by decide) ?_
    refine lv_bipush (v := -3) hx hb dX8_count_147 (by decide) ?_
    exact W.iret (v := (-3)) hx hb hr (fun t_ ht_ hW_ => ⟨(-3), rfl, (co_d c_3), ht_⟩) hS.2.2 dX8_count_149
  · skip
    rcases (show kk_ = 0 ∨ kk_ = 1 ∨ kk_ = 2 ∨ kk_ = 3 ∨ kk_ = 4 by omega) with rfl | rfl | rfl | rfl | rfl
    · skip
      have c_3i : (w).toInt = 0 := by rw [c_3]; decide
      refine lv_tableIn (off := 33) (tgt := 36) hx hb dX8_count_3 (by rw [c_3i]; decide) (by rw [c_3i]; decide) (by rw [c_3i]; decide) (by decide) ?_
      refine lv_aload_n hx hb dX8_count_36 rfl (lv_at hl 1 rfl) ?_
      refine va_get (ci := 8) (C := RX8) (T := TX8) (N := 26) hx hb hts hinX8 hown hE.1 hP 0 rfl rfl 4 (by decide) (hts _ kFl_X8_70) (fun _ h9 => h9) rfl dX8_count_37 ?_
      exact W.iret (v := nI nd) hx hb hr (fun t_ ht_ hW_ => ⟨nI nd, rfl, (by rw [co_k c_3]; rfl), ht_⟩) hS.2.2 dX8_count_40
    · skip
      have c_3i : (w).toInt = 1 := by rw [c_3]; decide
      refine lv_tableIn (off := 38) (tgt := 41) hx hb dX8_count_3 (by rw [c_3i]; decide) (by rw [c_3i]; decide) (by rw [c_3i]; decide) (by decide) ?_
      refine lv_aload_n hx hb dX8_count_41 rfl (lv_at hl 1 rfl) ?_
      refine va_get (ci := 8) (C := RX8) (T := TX8) (N := 26) hx hb hts hinX8 hown hE.1 hP 0 rfl rfl 16 (by decide) (hts _ kFl_X8_146) (fun _ h9 => h9) rfl dX8_count_42 ?_
      exact W.iret (v := nI no) hx hb hr (fun t_ ht_ hW_ => ⟨nI no, rfl, (by rw [co_k c_3]; rfl), ht_⟩) hS.2.2 dX8_count_45
    · skip
      have c_3i : (w).toInt = 2 := by rw [c_3]; decide
      refine lv_tableIn (off := 43) (tgt := 46) hx hb dX8_count_3 (by rw [c_3i]; decide) (by rw [c_3i]; decide) (by rw [c_3i]; decide) (by decide) ?_
      refine lv_iconst (v := 0) hx hb dX8_count_46 (by decide) ?_
      refine lv_istore_n (lv' := [(3, .int 0), (2, .int 0), (0, .ref h0), (1, .int w)]) hx hb dX8_count_47 rfl hl (by decide) rfl (fun ls hl => ?_)
      have J_48 : ∀ (n_ : Nat), ∀ (j : Nat), (j ≤ 12) → (13 ≤ j + n_) → ∀ (ls : Array Slot), lv_has ls 4 [(3, .int (nI j)), (2, .int (nI (cntB lo j))), (0, .ref h0), (1, .int w)] → W pg ln ev ({ frames := 0, cells := 0, slots := 0, locals := 0 } : Room) s mi ([.ref h0, .int w] : List Value).toArray below meth cd s.heap [] 0 0 (MQ below (vp_Si (fun r => r = aCount nd no lo kf w)) ([.ref h0, .int w] : List Value).toArray s 0 0 (fun _ => False)) (F0 mi 48 ls []) := by
        intro n_
        induction n_ with
        | zero =>
          intro j hj hfj ls hl
          exact absurd hfj (by omega)
        | succ n_ ih_48 =>
          intro j hj hfj ls hl
          refine lv_iload_n hx hb dX8_count_48 rfl (lv_at hl 0 rfl) ?_
          refine lv_bipush (v := 12) hx hb dX8_count_49 (by decide) ?_
          refine lv_icmp_ge (tgt := 77) hx hb dX8_count_51 (by decide) (fun c_51 => ?_) (fun c_51 => ?_)
          · skip
            have e_hla : j = 12 := by
              rcases Nat.lt_or_ge j 12 with z9 | z9
              · exact absurd (show nI 12 ≤ nI j from c_51) (nI_ge z9 (by omega))
              · omega
            refine lv_iload_n hx hb dX8_count_77 rfl (lv_at hl 1 rfl) ?_
            exact W.iret (v := nI (cntB lo j)) hx hb hr (fun t_ ht_ hW_ => ⟨nI (cntB lo j), rfl, (by rw [co_k c_3, e_hla]; rfl), ht_⟩) hS.2.2 dX8_count_78
          · skip
            have hla : j < 12 := by
              rcases Nat.lt_or_ge j 12 with z9 | z9
              · exact z9
              · exact absurd (show _ ≤ nI j from (nI_le (a := 12) (b := j) z9 (by omega))) c_51
            refine lv_iload_n hx hb dX8_count_54 rfl (lv_at hl 1 rfl) ?_
            refine lv_aload_n hx hb dX8_count_55 rfl (lv_at hl 2 rfl) ?_
            refine va_get (ci := 8) (C := RX8) (T := TX8) (N := 26) hx hb hts hinX8 hown hE.1 hP 0 rfl rfl 11 (by decide) (hts _ kFl_X8_38) (fun _ h9 => h9) rfl dX8_count_56 ?_
            refine lv_iload_n hx hb dX8_count_59 rfl (lv_at hl 0 rfl) ?_
            refine rz_ald (j := j) hx hb hE hP 2 rfl (nI_clamp (by omega)) (vp_in_nI (by omega) (by omega)) dX8_count_60 ?_
            refine lv_if_eq (tgt := 68) hx hb dX8_count_61 (by decide) (fun c_61 => ?_) (fun c_61 => ?_)
            · skip
              have c_61 := b2i_z c_61
              refine lv_iconst (v := 0) hx hb dX8_count_68 (by decide) ?_
              refine lv_iadd hx hb dX8_count_69 ?_
              refine lv_istore_n (lv' := [(2, .int ((nI (cntB lo j)) + 0)), (3, .int (nI j)), (0, .ref h0), (1, .int w)]) hx hb dX8_count_70 rfl hl (by decide) rfl (fun ls hl => ?_)
              refine lv_iinc (v := nI (j + 1)) (lv' := [(3, .int (nI (j + 1))), (2, .int ((nI (cntB lo j)) + 0)), (0, .ref h0), (1, .int w)]) hx hb dX8_count_71 hl (k := 1) rfl (nI_1 _) (by decide) rfl (fun ls hl => ?_)
              refine lv_goto (tgt := 48) hx hb dX8_count_74 (by decide) ?_
              have q9_1 : ((nI (cntB lo j)) + 0) = (nI (cntB lo (j + 1))) := (by simp [cntB, cntI, c_61, nI_p1])
              exact ih_48 (j + 1) (by omega) (by omega) ls (lv_cast (lv_sub hl [0, 1, 2, 3] rfl) (lcons rfl (lcons (congrArg (fun z => (2, Value.int z)) q9_1) (lcons rfl (lcons rfl rfl)))))
            · skip
              have c_61 := b2i_n c_61
              refine lv_iconst (v := 1) hx hb dX8_count_64 (by decide) ?_
              refine lv_goto (tgt := 69) hx hb dX8_count_65 (by decide) ?_
              refine lv_iadd hx hb dX8_count_69 ?_
              refine lv_istore_n (lv' := [(2, .int ((nI (cntB lo j)) + 1)), (3, .int (nI j)), (0, .ref h0), (1, .int w)]) hx hb dX8_count_70 rfl hl (by decide) rfl (fun ls hl => ?_)
              refine lv_iinc (v := nI (j + 1)) (lv' := [(3, .int (nI (j + 1))), (2, .int ((nI (cntB lo j)) + 1)), (0, .ref h0), (1, .int w)]) hx hb dX8_count_71 hl (k := 1) rfl (nI_1 _) (by decide) rfl (fun ls hl => ?_)
              refine lv_goto (tgt := 48) hx hb dX8_count_74 (by decide) ?_
              have q9_2 : ((nI (cntB lo j)) + 1) = (nI (cntB lo (j + 1))) := (by simp [cntB, cntI, c_61, nI_p1])
              exact ih_48 (j + 1) (by omega) (by omega) ls (lv_cast (lv_sub hl [0, 1, 2, 3] rfl) (lcons rfl (lcons (congrArg (fun z => (2, Value.int z)) q9_2) (lcons rfl (lcons rfl rfl)))))
      have q9_3 : 0 = (nI 0) := rfl
      have q9_4 : 0 = (nI (cntB lo 0)) := rfl
      exact J_48 13 0 (by omega) (by omega) ls (lv_cast (lv_sub hl [0, 1, 2, 3] rfl) (lcons (congrArg (fun z => (3, Value.int z)) q9_3) (lcons (congrArg (fun z => (2, Value.int z)) q9_4) (lcons rfl (lcons rfl rfl)))))
    · skip
      have c_3i : (w).toInt = 3 := by rw [c_3]; decide
      refine lv_tableIn (off := 76) (tgt := 79) hx hb dX8_count_3 (by rw [c_3i]; decide) (by rw [c_3i]; decide) (by rw [c_3i]; decide) (by decide) ?_
      refine lv_iconst (v := 0) hx hb dX8_count_79 (by decide) ?_
      refine lv_istore_n (lv' := [(3, .int 0), (2, .int 0), (0, .ref h0), (1, .int w)]) hx hb dX8_count_80 rfl hl (by decide) rfl (fun ls hl => ?_)
      have J_81 : ∀ (n_ : Nat), ∀ (j : Nat), (j ≤ 64) → (65 ≤ j + n_) → ∀ (ls : Array Slot), lv_has ls 4 [(3, .int (nI j)), (2, .int (nI (cntI kf 1 j))), (0, .ref h0), (1, .int w)] → W pg ln ev ({ frames := 0, cells := 0, slots := 0, locals := 0 } : Room) s mi ([.ref h0, .int w] : List Value).toArray below meth cd s.heap [] 0 0 (MQ below (vp_Si (fun r => r = aCount nd no lo kf w)) ([.ref h0, .int w] : List Value).toArray s 0 0 (fun _ => False)) (F0 mi 81 ls []) := by
        intro n_
        induction n_ with
        | zero =>
          intro j hj hfj ls hl
          exact absurd hfj (by omega)
        | succ n_ ih_81 =>
          intro j hj hfj ls hl
          refine lv_iload_n hx hb dX8_count_81 rfl (lv_at hl 0 rfl) ?_
          refine lv_bipush (v := 64) hx hb dX8_count_82 (by decide) ?_
          refine lv_icmp_ge (tgt := 111) hx hb dX8_count_84 (by decide) (fun c_84 => ?_) (fun c_84 => ?_)
          · skip
            have e_hlb : j = 64 := by
              rcases Nat.lt_or_ge j 64 with z9 | z9
              · exact absurd (show nI 64 ≤ nI j from c_84) (nI_ge z9 (by omega))
              · omega
            refine lv_iload_n hx hb dX8_count_111 rfl (lv_at hl 1 rfl) ?_
            exact W.iret (v := nI (cntI kf 1 j)) hx hb hr (fun t_ ht_ hW_ => ⟨nI (cntI kf 1 j), rfl, (by rw [co_k c_3, e_hlb]; rfl), ht_⟩) hS.2.2 dX8_count_112
          · skip
            have hlb : j < 64 := by
              rcases Nat.lt_or_ge j 64 with z9 | z9
              · exact z9
              · exact absurd (show _ ≤ nI j from (nI_le (a := 64) (b := j) z9 (by omega))) c_84
            refine lv_iload_n hx hb dX8_count_87 rfl (lv_at hl 1 rfl) ?_
            refine lv_aload_n hx hb dX8_count_88 rfl (lv_at hl 2 rfl) ?_
            refine va_get (ci := 8) (C := RX8) (T := TX8) (N := 26) hx hb hts hinX8 hown hE.1 hP 0 rfl rfl 0 (by decide) (hts _ kFl_X8_7) (fun _ h9 => h9) rfl dX8_count_89 ?_
            refine lv_iload_n hx hb dX8_count_92 rfl (lv_at hl 0 rfl) ?_
            refine ri_ald (j := j) hx hb hE hP 1 rfl (nI_clamp (by omega)) (vp_in_nI (by omega) (by omega)) dX8_count_93 ?_
            refine lv_iconst (v := 1) hx hb dX8_count_94 (by decide) ?_
            refine lv_icmp_ne (tgt := 102) hx hb dX8_count_95 (by decide) (fun c_95 => ?_) (fun c_95 => ?_)
            · skip
              refine lv_iconst (v := 0) hx hb dX8_count_102 (by decide) ?_
              refine lv_iadd hx hb dX8_count_103 ?_
              refine lv_istore_n (lv' := [(2, .int ((nI (cntI kf 1 j)) + 0)), (3, .int (nI j)), (0, .ref h0), (1, .int w)]) hx hb dX8_count_104 rfl hl (by decide) rfl (fun ls hl => ?_)
              refine lv_iinc (v := nI (j + 1)) (lv' := [(3, .int (nI (j + 1))), (2, .int ((nI (cntI kf 1 j)) + 0)), (0, .ref h0), (1, .int w)]) hx hb dX8_count_105 hl (k := 1) rfl (nI_1 _) (by decide) rfl (fun ls hl => ?_)
              refine lv_goto (tgt := 81) hx hb dX8_count_108 (by decide) ?_
              have q9_5 : ((nI (cntI kf 1 j)) + 0) = (nI (cntI kf 1 (j + 1))) := (by simp [cntB, cntI, c_95, nI_p1])
              exact ih_81 (j + 1) (by omega) (by omega) ls (lv_cast (lv_sub hl [0, 1, 2, 3] rfl) (lcons rfl (lcons (congrArg (fun z => (2, Value.int z)) q9_5) (lcons rfl (lcons rfl rfl)))))
            · skip
              refine lv_iconst (v := 1) hx hb dX8_count_98 (by decide) ?_
              refine lv_goto (tgt := 103) hx hb dX8_count_99 (by decide) ?_
              refine lv_iadd hx hb dX8_count_103 ?_
              refine lv_istore_n (lv' := [(2, .int ((nI (cntI kf 1 j)) + 1)), (3, .int (nI j)), (0, .ref h0), (1, .int w)]) hx hb dX8_count_104 rfl hl (by decide) rfl (fun ls hl => ?_)
              refine lv_iinc (v := nI (j + 1)) (lv' := [(3, .int (nI (j + 1))), (2, .int ((nI (cntI kf 1 j)) + 1)), (0, .ref h0), (1, .int w)]) hx hb dX8_count_105 hl (k := 1) rfl (nI_1 _) (by decide) rfl (fun ls hl => ?_)
              refine lv_goto (tgt := 81) hx hb dX8_count_108 (by decide) ?_
              have q9_6 : ((nI (cntI kf 1 j)) + 1) = (nI (cntI kf 1 (j + 1))) := (by simp [cntB, cntI, c_95, nI_p1])
              exact ih_81 (j + 1) (by omega) (by omega) ls (lv_cast (lv_sub hl [0, 1, 2, 3] rfl) (lcons rfl (lcons (congrArg (fun z => (2, Value.int z)) q9_6) (lcons rfl (lcons rfl rfl)))))
      have q9_7 : 0 = (nI 0) := rfl
      have q9_8 : 0 = (nI (cntI kf 1 0)) := rfl
      exact J_81 65 0 (by omega) (by omega) ls (lv_cast (lv_sub hl [0, 1, 2, 3] rfl) (lcons (congrArg (fun z => (3, Value.int z)) q9_7) (lcons (congrArg (fun z => (2, Value.int z)) q9_8) (lcons rfl (lcons rfl rfl)))))
    · skip
      have c_3i : (w).toInt = 4 := by rw [c_3]; decide
      refine lv_tableIn (off := 110) (tgt := 113) hx hb dX8_count_3 (by rw [c_3i]; decide) (by rw [c_3i]; decide) (by rw [c_3i]; decide) (by decide) ?_
      refine lv_iconst (v := 0) hx hb dX8_count_113 (by decide) ?_
      refine lv_istore_n (lv' := [(3, .int 0), (2, .int 0), (0, .ref h0), (1, .int w)]) hx hb dX8_count_114 rfl hl (by decide) rfl (fun ls hl => ?_)
      have J_115 : ∀ (n_ : Nat), ∀ (j : Nat), (j ≤ 64) → (65 ≤ j + n_) → ∀ (ls : Array Slot), lv_has ls 4 [(3, .int (nI j)), (2, .int (nI (cntI kf 2 j))), (0, .ref h0), (1, .int w)] → W pg ln ev ({ frames := 0, cells := 0, slots := 0, locals := 0 } : Room) s mi ([.ref h0, .int w] : List Value).toArray below meth cd s.heap [] 0 0 (MQ below (vp_Si (fun r => r = aCount nd no lo kf w)) ([.ref h0, .int w] : List Value).toArray s 0 0 (fun _ => False)) (F0 mi 115 ls []) := by
        intro n_
        induction n_ with
        | zero =>
          intro j hj hfj ls hl
          exact absurd hfj (by omega)
        | succ n_ ih_115 =>
          intro j hj hfj ls hl
          refine lv_iload_n hx hb dX8_count_115 rfl (lv_at hl 0 rfl) ?_
          refine lv_bipush (v := 64) hx hb dX8_count_116 (by decide) ?_
          refine lv_icmp_ge (tgt := 145) hx hb dX8_count_118 (by decide) (fun c_118 => ?_) (fun c_118 => ?_)
          · skip
            have e_hlc : j = 64 := by
              rcases Nat.lt_or_ge j 64 with z9 | z9
              · exact absurd (show nI 64 ≤ nI j from c_118) (nI_ge z9 (by omega))
              · omega
            refine lv_iload_n hx hb dX8_count_145 rfl (lv_at hl 1 rfl) ?_
            exact W.iret (v := nI (cntI kf 2 j)) hx hb hr (fun t_ ht_ hW_ => ⟨nI (cntI kf 2 j), rfl, (by rw [co_k c_3, e_hlc]; rfl), ht_⟩) hS.2.2 dX8_count_146
          · skip
            have hlc : j < 64 := by
              rcases Nat.lt_or_ge j 64 with z9 | z9
              · exact z9
              · exact absurd (show _ ≤ nI j from (nI_le (a := 64) (b := j) z9 (by omega))) c_118
            refine lv_iload_n hx hb dX8_count_121 rfl (lv_at hl 1 rfl) ?_
            refine lv_aload_n hx hb dX8_count_122 rfl (lv_at hl 2 rfl) ?_
            refine va_get (ci := 8) (C := RX8) (T := TX8) (N := 26) hx hb hts hinX8 hown hE.1 hP 0 rfl rfl 0 (by decide) (hts _ kFl_X8_7) (fun _ h9 => h9) rfl dX8_count_123 ?_
            refine lv_iload_n hx hb dX8_count_126 rfl (lv_at hl 0 rfl) ?_
            refine ri_ald (j := j) hx hb hE hP 1 rfl (nI_clamp (by omega)) (vp_in_nI (by omega) (by omega)) dX8_count_127 ?_
            refine lv_iconst (v := 2) hx hb dX8_count_128 (by decide) ?_
            refine lv_icmp_ne (tgt := 136) hx hb dX8_count_129 (by decide) (fun c_129 => ?_) (fun c_129 => ?_)
            · skip
              refine lv_iconst (v := 0) hx hb dX8_count_136 (by decide) ?_
              refine lv_iadd hx hb dX8_count_137 ?_
              refine lv_istore_n (lv' := [(2, .int ((nI (cntI kf 2 j)) + 0)), (3, .int (nI j)), (0, .ref h0), (1, .int w)]) hx hb dX8_count_138 rfl hl (by decide) rfl (fun ls hl => ?_)
              refine lv_iinc (v := nI (j + 1)) (lv' := [(3, .int (nI (j + 1))), (2, .int ((nI (cntI kf 2 j)) + 0)), (0, .ref h0), (1, .int w)]) hx hb dX8_count_139 hl (k := 1) rfl (nI_1 _) (by decide) rfl (fun ls hl => ?_)
              refine lv_goto (tgt := 115) hx hb dX8_count_142 (by decide) ?_
              have q9_9 : ((nI (cntI kf 2 j)) + 0) = (nI (cntI kf 2 (j + 1))) := (by simp [cntB, cntI, c_129, nI_p1])
              exact ih_115 (j + 1) (by omega) (by omega) ls (lv_cast (lv_sub hl [0, 1, 2, 3] rfl) (lcons rfl (lcons (congrArg (fun z => (2, Value.int z)) q9_9) (lcons rfl (lcons rfl rfl)))))
            · skip
              refine lv_iconst (v := 1) hx hb dX8_count_132 (by decide) ?_
              refine lv_goto (tgt := 137) hx hb dX8_count_133 (by decide) ?_
              refine lv_iadd hx hb dX8_count_137 ?_
              refine lv_istore_n (lv' := [(2, .int ((nI (cntI kf 2 j)) + 1)), (3, .int (nI j)), (0, .ref h0), (1, .int w)]) hx hb dX8_count_138 rfl hl (by decide) rfl (fun ls hl => ?_)
              refine lv_iinc (v := nI (j + 1)) (lv' := [(3, .int (nI (j + 1))), (2, .int ((nI (cntI kf 2 j)) + 1)), (0, .ref h0), (1, .int w)]) hx hb dX8_count_139 hl (k := 1) rfl (nI_1 _) (by decide) rfl (fun ls hl => ?_)
              refine lv_goto (tgt := 115) hx hb dX8_count_142 (by decide) ?_
              have q9_10 : ((nI (cntI kf 2 j)) + 1) = (nI (cntI kf 2 (j + 1))) := (by simp [cntB, cntI, c_129, nI_p1])
              exact ih_115 (j + 1) (by omega) (by omega) ls (lv_cast (lv_sub hl [0, 1, 2, 3] rfl) (lcons rfl (lcons (congrArg (fun z => (2, Value.int z)) q9_10) (lcons rfl (lcons rfl rfl)))))
      have q9_11 : 0 = (nI 0) := rfl
      have q9_12 : 0 = (nI (cntI kf 2 0)) := rfl
      exact J_115 65 0 (by omega) (by omega) ls (lv_cast (lv_sub hl [0, 1, 2, 3] rfl) (lcons (congrArg (fun z => (3, Value.int z)) q9_11) (lcons (congrArg (fun z => (2, Value.int z)) q9_12) (lcons rfl (lcons rfl rfl)))))
