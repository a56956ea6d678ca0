/-! ===== the law's loop ===== -/
theorem lw_go {i L : Nat} (hi : i ≤ L) (hL : L ≤ 2560) (h : ¬ (Int32.ofNat L - 5 < nI i)) : i + 5 ≤ L := by
  rw [show Int32.ofNat L = nI L from rfl, Int32.lt_iff_toInt_lt, Int32.toInt_sub, nI_toInt (show L < 2 ^ 31 by omega), nI_toInt (show i < 2 ^ 31 by omega), show (5 : Int32).toInt = 5 by decide, bm32 (by omega) (by omega)] at h
  omega
set_option maxHeartbeats 4000000 in
set_option maxRecDepth 100000 in
theorem lw_loop {pg : Program} {ln : Launch} {ev : Env} {s : State} {mi : MethodId} {below : List Frame} {meth : Method} {cd : Code} {G : gT} {A : Nat → Prop} {b L : Nat} {xs : Nat → Int32} {h0 pl dk hr_ ry bd of_ fd ak ag ax ay az ab ap agg al as_ ah aw au aw_ ac ago apr m0 mk mg mhb mdn mda mkp mbr msu msg mlo moa mog mop mra : Nat} (C0 : lw_At pg s mi meth cd b L xs) (hA : ∀ q : Nat, s.heap.size ≤ q → A q) (hbA : ¬ A b) (hE : EK G s) (hT : ST G A s s.heap) (hAb : ∀ q : Nat, A q → s.heap.size ≤ q) (hL : L ≤ 2560) : ∀ n i : Nat, i ≤ L → L + 1 ≤ i + n → lwL pg ln ev s mi below meth cd G A b h0 pl dk hr_ ry bd of_ fd ak ag ax ay az ab ap agg al as_ ah aw au aw_ ac ago apr m0 mk mg mhb mdn mda mkp mbr msu msg mlo moa mog mop mra 18 i := by
  obtain ⟨hx, hb, hr, hml, hown0, hts0, hX, hbl, hlocks, hgv⟩ := id C0
  intro n
  induction n with
  | zero =>
    intro i h1 h2
    exact absurd h2 (by omega)
  | succ n ih =>
    intro i hi hin
    intro kf gf bl bf nd kn no da xf yf zf lo brD sgD br sg pf mo ne gl ca cf og pr dn sf hf wf uf lf ch co en rs rw_ ra bc bo be hI H locs hP hD hS ls hl
    refine lv_iload_n hx hb dL_law_18 rfl (lv_at hl 3 rfl) ?_
    refine lv_aload_n hx hb dL_law_19 rfl (lv_at hl 0 rfl) ?_
    refine va_slen hx hb hX hbl hbA hS dL_law_20 ?_
    refine lv_iconst (v := 5) hx hb dL_law_21 (by decide) ?_
    refine lv_isub hx hb dL_law_22 ?_
    refine lv_icmp_gt (tgt := 877) hx hb dL_law_23 (by decide) (fun c_23 => ?_) (fun c_23 => ?_)
    · refine lv_iconst (v := 1) hx hb dL_law_877 (by decide) ?_
      refine va_forget (fun q hq => hAb _ (hS.2.2 q hq)) ?_
      exact lw_ret hx hb hr hlocks dL_law_878
    · have hlt : i + 5 ≤ L := lw_go hi hL c_23
      have K : lwL pg ln ev s mi below meth cd G A b h0 pl dk hr_ ry bd of_ fd ak ag ax ay az ab ap agg al as_ ah aw au aw_ ac ago apr m0 mk mg mhb mdn mda mkp mbr msu msg mlo moa mog mop mra 871 i := by
        intro kf gf bl bf nd kn no da xf yf zf lo brD sgD br sg pf mo ne gl ca cf og pr dn sf hf wf uf lf ch co en rs rw_ ra bc bo be hI H locs hP hD hS ls hl
        refine lv_iinc (v := nI (i + 5)) (lv' := [(3, .int (nI (i + 5))), (0, .ref b), (1, .ref h0), (2, .ref m0)]) hx hb dL_law_871 hl (k := 3) rfl (nI_k i 5) (by decide) rfl (fun ls hl => ?_)
        refine lv_goto (tgt := 18) hx hb dL_law_874 (by decide) ?_
        exact ih (i + 5) (by omega) (by omega) kf gf bl bf nd kn no da xf yf zf lo brD sgD br sg pf mo ne gl ca cf og pr dn sf hf wf uf lf ch co en rs rw_ ra bc bo be hI H locs hP hD hS ls (lv_sub hl [1, 2, 3, 0] rfl)
      refine lv_aload_n hx hb dL_law_26 rfl (lv_at hl 0 rfl) ?_
      refine lv_iload_n hx hb dL_law_27 rfl (lv_at hl 3 rfl) ?_
      refine r_sld (j := i) hx hb hX hbl hbA hS rfl (by omega) (by omega) dL_law_28 ?_
      refine lv_bipush (v := 31) hx hb dL_law_29 (by decide) ?_
      refine lv_iand hx hb dL_law_31 ?_
      rcases tw_split 21 (by decide) (xs i &&& 31) with c_32 | ⟨kk_, hkk_, c_32⟩
      · refine lv_tableOut (tgt := 871) hx hb dL_law_32 c_32 (by decide) ?_
        exact K kf gf bl bf nd kn no da xf yf zf lo brD sgD br sg pf mo ne gl ca cf og pr dn sf hf wf uf lf ch co en rs rw_ ra bc bo be hI H locs hP hD hS ls hl
      · rcases (show kk_ = 0 ∨ kk_ = 1 ∨ kk_ = 2 ∨ kk_ = 3 ∨ kk_ = 4 ∨ kk_ = 5 ∨ kk_ = 6 ∨ kk_ = 7 ∨ kk_ = 8 ∨ kk_ = 9 ∨ kk_ = 10 ∨ kk_ = 11 ∨ kk_ = 12 ∨ kk_ = 13 ∨ kk_ = 14 ∨ kk_ = 15 ∨ kk_ = 16 ∨ kk_ = 17 ∨ kk_ = 18 ∨ kk_ = 19 ∨ kk_ = 20 by omega) with rfl | rfl | rfl | rfl | rfl | rfl | rfl | rfl | rfl | rfl | rfl | rfl | rfl | rfl | rfl | rfl | rfl | rfl | rfl | rfl | rfl
        · have c_32i : (xs i &&& 31).toInt = 0 := by rw [c_32]; decide
          refine lv_tableIn (off := 100) (tgt := 132) hx hb dL_law_32 (by rw [c_32i]; decide) (by rw [c_32i]; decide) (by rw [c_32i]; decide) (by decide) ?_
          exact lc_cell C0 hA hbA hE hT hlt hL K kf gf bl bf nd kn no da xf yf zf lo brD sgD br sg pf mo ne gl ca cf og pr dn sf hf wf uf lf ch co en rs rw_ ra bc bo be hI H locs hP hD hS ls hl
        · have c_32i : (xs i &&& 31).toInt = 1 := by rw [c_32]; decide
          refine lv_tableIn (off := 143) (tgt := 175) hx hb dL_law_32 (by rw [c_32i]; decide) (by rw [c_32i]; decide) (by rw [c_32i]; decide) (by decide) ?_
          exact lc_window C0 hA hbA hE hT hlt hL K kf gf bl bf nd kn no da xf yf zf lo brD sgD br sg pf mo ne gl ca cf og pr dn sf hf wf uf lf ch co en rs rw_ ra bc bo be hI H locs hP hD hS ls hl
        · have c_32i : (xs i &&& 31).toInt = 2 := by rw [c_32]; decide
          refine lv_tableIn (off := 212) (tgt := 244) hx hb dL_law_32 (by rw [c_32i]; decide) (by rw [c_32i]; decide) (by rw [c_32i]; decide) (by decide) ?_
          exact lc_at C0 hA hbA hE hT hlt hL K kf gf bl bf nd kn no da xf yf zf lo brD sgD br sg pf mo ne gl ca cf og pr dn sf hf wf uf lf ch co en rs rw_ ra bc bo be hI H locs hP hD hS ls hl
        · have c_32i : (xs i &&& 31).toInt = 3 := by rw [c_32]; decide
          refine lv_tableIn (off := 255) (tgt := 287) hx hb dL_law_32 (by rw [c_32i]; decide) (by rw [c_32i]; decide) (by rw [c_32i]; decide) (by decide) ?_
          exact lc_desk C0 hA hbA hE hT hlt hL K kf gf bl bf nd kn no da xf yf zf lo brD sgD br sg pf mo ne gl ca cf og pr dn sf hf wf uf lf ch co en rs rw_ ra bc bo be hI H locs hP hD hS ls hl
        · have c_32i : (xs i &&& 31).toInt = 4 := by rw [c_32]; decide
          refine lv_tableIn (off := 288) (tgt := 320) hx hb dL_law_32 (by rw [c_32i]; decide) (by rw [c_32i]; decide) (by rw [c_32i]; decide) (by decide) ?_
          exact lc_move C0 hA hbA hE hT hlt hL K kf gf bl bf nd kn no da xf yf zf lo brD sgD br sg pf mo ne gl ca cf og pr dn sf hf wf uf lf ch co en rs rw_ ra bc bo be hI H locs hP hD hS ls hl
        · have c_32i : (xs i &&& 31).toInt = 5 := by rw [c_32]; decide
          refine lv_tableIn (off := 331) (tgt := 363) hx hb dL_law_32 (by rw [c_32i]; decide) (by rw [c_32i]; decide) (by rw [c_32i]; decide) (by decide) ?_
          exact lc_ray C0 hA hbA hE hT hlt hL K kf gf bl bf nd kn no da xf yf zf lo brD sgD br sg pf mo ne gl ca cf og pr dn sf hf wf uf lf ch co en rs rw_ ra bc bo be hI H locs hP hD hS ls hl
        · have c_32i : (xs i &&& 31).toInt = 6 := by rw [c_32]; decide
          refine lv_tableIn (off := 364) (tgt := 396) hx hb dL_law_32 (by rw [c_32i]; decide) (by rw [c_32i]; decide) (by rw [c_32i]; decide) (by decide) ?_
          exact lc_sky C0 hA hbA hE hT hlt hL K kf gf bl bf nd kn no da xf yf zf lo brD sgD br sg pf mo ne gl ca cf og pr dn sf hf wf uf lf ch co en rs rw_ ra bc bo be hI H locs hP hD hS ls hl
        · have c_32i : (xs i &&& 31).toInt = 7 := by rw [c_32]; decide
          refine lv_tableIn (off := 387) (tgt := 419) hx hb dL_law_32 (by rw [c_32i]; decide) (by rw [c_32i]; decide) (by rw [c_32i]; decide) (by decide) ?_
          exact lc_bright C0 hA hbA hE hT hlt hL K kf gf bl bf nd kn no da xf yf zf lo brD sgD br sg pf mo ne gl ca cf og pr dn sf hf wf uf lf ch co en rs rw_ ra bc bo be hI H locs hP hD hS ls hl
        · have c_32i : (xs i &&& 31).toInt = 8 := by rw [c_32]; decide
          refine lv_tableIn (off := 420) (tgt := 452) hx hb dL_law_32 (by rw [c_32i]; decide) (by rw [c_32i]; decide) (by rw [c_32i]; decide) (by decide) ?_
          exact lc_sun C0 hA hbA hE hT hlt hL K kf gf bl bf nd kn no da xf yf zf lo brD sgD br sg pf mo ne gl ca cf og pr dn sf hf wf uf lf ch co en rs rw_ ra bc bo be hI H locs hP hD hS ls hl
        · have c_32i : (xs i &&& 31).toInt = 9 := by rw [c_32]; decide
          refine lv_tableIn (off := 463) (tgt := 495) hx hb dL_law_32 (by rw [c_32i]; decide) (by rw [c_32i]; decide) (by rw [c_32i]; decide) (by decide) ?_
          exact lc_lose C0 hA hbA hE hT hlt hL K kf gf bl bf nd kn no da xf yf zf lo brD sgD br sg pf mo ne gl ca cf og pr dn sf hf wf uf lf ch co en rs rw_ ra bc bo be hI H locs hP hD hS ls hl
        · have c_32i : (xs i &&& 31).toInt = 10 := by rw [c_32]; decide
          refine lv_tableIn (off := 486) (tgt := 518) hx hb dL_law_32 (by rw [c_32i]; decide) (by rw [c_32i]; decide) (by rw [c_32i]; decide) (by decide) ?_
          exact lc_set C0 hA hbA hE hT hlt hL K kf gf bl bf nd kn no da xf yf zf lo brD sgD br sg pf mo ne gl ca cf og pr dn sf hf wf uf lf ch co en rs rw_ ra bc bo be hI H locs hP hD hS ls hl
        · have c_32i : (xs i &&& 31).toInt = 11 := by rw [c_32]; decide
          refine lv_tableIn (off := 519) (tgt := 551) hx hb dL_law_32 (by rw [c_32i]; decide) (by rw [c_32i]; decide) (by rw [c_32i]; decide) (by decide) ?_
          exact lc_law C0 hA hbA hE hT hlt hL K kf gf bl bf nd kn no da xf yf zf lo brD sgD br sg pf mo ne gl ca cf og pr dn sf hf wf uf lf ch co en rs rw_ ra bc bo be hI H locs hP hD hS ls hl
        · have c_32i : (xs i &&& 31).toInt = 12 := by rw [c_32]; decide
          refine lv_tableIn (off := 552) (tgt := 584) hx hb dL_law_32 (by rw [c_32i]; decide) (by rw [c_32i]; decide) (by rw [c_32i]; decide) (by decide) ?_
          exact lc_down C0 hA hbA hE hT hlt hL K kf gf bl bf nd kn no da xf yf zf lo brD sgD br sg pf mo ne gl ca cf og pr dn sf hf wf uf lf ch co en rs rw_ ra bc bo be hI H locs hP hD hS ls hl
        · have c_32i : (xs i &&& 31).toInt = 13 := by rw [c_32]; decide
          refine lv_tableIn (off := 595) (tgt := 627) hx hb dL_law_32 (by rw [c_32i]; decide) (by rw [c_32i]; decide) (by rw [c_32i]; decide) (by decide) ?_
          exact lc_light C0 hA hbA hE hT hlt hL K kf gf bl bf nd kn no da xf yf zf lo brD sgD br sg pf mo ne gl ca cf og pr dn sf hf wf uf lf ch co en rs rw_ ra bc bo be hI H locs hP hD hS ls hl
        · have c_32i : (xs i &&& 31).toInt = 14 := by rw [c_32]; decide
          refine lv_tableIn (off := 638) (tgt := 670) hx hb dL_law_32 (by rw [c_32i]; decide) (by rw [c_32i]; decide) (by rw [c_32i]; decide) (by decide) ?_
          exact lc_enough C0 hA hbA hE hT hlt hL K kf gf bl bf nd kn no da xf yf zf lo brD sgD br sg pf mo ne gl ca cf og pr dn sf hf wf uf lf ch co en rs rw_ ra bc bo be hI H locs hP hD hS ls hl
        · have c_32i : (xs i &&& 31).toInt = 15 := by rw [c_32]; decide
          refine lv_tableIn (off := 671) (tgt := 703) hx hb dL_law_32 (by rw [c_32i]; decide) (by rw [c_32i]; decide) (by rw [c_32i]; decide) (by decide) ?_
          exact lc_offer C0 hA hbA hE hT hlt hL K kf gf bl bf nd kn no da xf yf zf lo brD sgD br sg pf mo ne gl ca cf og pr dn sf hf wf uf lf ch co en rs rw_ ra bc bo be hI H locs hP hD hS ls hl
        · have c_32i : (xs i &&& 31).toInt = 16 := by rw [c_32]; decide
          refine lv_tableIn (off := 724) (tgt := 756) hx hb dL_law_32 (by rw [c_32i]; decide) (by rw [c_32i]; decide) (by rw [c_32i]; decide) (by decide) ?_
          exact lc_best C0 hA hbA hE hT hlt hL K kf gf bl bf nd kn no da xf yf zf lo brD sgD br sg pf mo ne gl ca cf og pr dn sf hf wf uf lf ch co en rs rw_ ra bc bo be hI H locs hP hD hS ls hl
        · have c_32i : (xs i &&& 31).toInt = 17 := by rw [c_32]; decide
          refine lv_tableIn (off := 757) (tgt := 789) hx hb dL_law_32 (by rw [c_32i]; decide) (by rw [c_32i]; decide) (by rw [c_32i]; decide) (by decide) ?_
          exact lc_make C0 hA hbA hE hT hlt hL K kf gf bl bf nd kn no da xf yf zf lo brD sgD br sg pf mo ne gl ca cf og pr dn sf hf wf uf lf ch co en rs rw_ ra bc bo be hI H locs hP hD hS ls hl
        · have c_32i : (xs i &&& 31).toInt = 18 := by rw [c_32]; decide
          refine lv_tableIn (off := 780) (tgt := 812) hx hb dL_law_32 (by rw [c_32i]; decide) (by rw [c_32i]; decide) (by rw [c_32i]; decide) (by decide) ?_
          exact lc_keep C0 hA hbA hE hT hlt hL K kf gf bl bf nd kn no da xf yf zf lo brD sgD br sg pf mo ne gl ca cf og pr dn sf hf wf uf lf ch co en rs rw_ ra bc bo be hI H locs hP hD hS ls hl
        · have c_32i : (xs i &&& 31).toInt = 19 := by rw [c_32]; decide
          refine lv_tableIn (off := 793) (tgt := 825) hx hb dL_law_32 (by rw [c_32i]; decide) (by rw [c_32i]; decide) (by rw [c_32i]; decide) (by decide) ?_
          exact lc_loss C0 hA hbA hE hT hlt hL K kf gf bl bf nd kn no da xf yf zf lo brD sgD br sg pf mo ne gl ca cf og pr dn sf hf wf uf lf ch co en rs rw_ ra bc bo be hI H locs hP hD hS ls hl
        · have c_32i : (xs i &&& 31).toInt = 20 := by rw [c_32]; decide
          refine lv_tableIn (off := 816) (tgt := 848) hx hb dL_law_32 (by rw [c_32i]; decide) (by rw [c_32i]; decide) (by rw [c_32i]; decide) (by decide) ?_
          exact lc_count C0 hA hbA hE hT hlt hL K kf gf bl bf nd kn no da xf yf zf lo brD sgD br sg pf mo ne gl ca cf og pr dn sf hf wf uf lf ch co en rs rw_ ra bc bo be hI H locs hP hD hS ls hl
