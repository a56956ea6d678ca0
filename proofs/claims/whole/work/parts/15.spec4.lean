theorem tS_at {kf gf xf yf f : Nat → Int32} {n d p : Nat} (hd : d < n) (hp : p < 16) : tS kf gf xf yf (n * 16) f (d * 16 + p) = (rayT kf gf (xf d) (yf d) p).1 := by
  obtain ⟨a, b⟩ := dm16 (i := d) hp
  simp only [tS, a, b]
  rw [if_pos (by omega)]
theorem tH_at {kf gf xf yf : Nat → Int32} {f : Nat → Int64} {n d p : Nat} (hd : d < n) (hp : p < 16) : tH kf gf xf yf (n * 16) f (d * 16 + p) = (rayT kf gf (xf d) (yf d) p).2.1 := by
  obtain ⟨a, b⟩ := dm16 (i := d) hp
  simp only [tH, a, b]
  rw [if_pos (by omega)]
theorem tW_at {kf gf xf yf : Nat → Int32} {f : Nat → Int64} {n d p : Nat} (hd : d < n) (hp : p < 16) : tW kf gf xf yf (n * 16) f (d * 16 + p) = (rayT kf gf (xf d) (yf d) p).2.2 := by
  obtain ⟨a, b⟩ := dm16 (i := d) hp
  simp only [tW, a, b]
  rw [if_pos (by omega)]
theorem tU_at {kf gf xf yf : Nat → Int32} {f : Nat → Int64} {n d : Nat} (hd : d < n) : tU kf gf xf yf n f d = sumT kf gf (xf d) (yf d) := by
  simp only [tU]
  rw [if_pos hd]
def z3 : Nat → Int32 := fun _ => 0
def z6 : Nat → Int64 := fun _ => 0
theorem wwL_c {h1 w1 h2 w2 : Nat → Int64} {le : Int32} {p : Nat} {sg : Int32} : ∀ n, (∀ d, d < n → h1 (d * 16 + p) = h2 (d * 16 + p) ∧ w1 (d * 16 + p) = w2 (d * 16 + p)) → wwL h1 w1 le p sg n = wwL h2 w2 le p sg n
  | 0, _ => rfl
  | n + 1, h => by
    simp only [wwL]
    rw [wwL_c n (fun d hd => h d (by omega)), (h n (by omega)).1, (h n (by omega)).2]
theorem loN_c {lo : Nat → Bool} {sg pf : Nat → Int32} {h1 w1 h2 w2 : Nat → Int64} {gl ca : Int32} {nd : Nat} {al : Int64} (hpf : ∀ h, h < 12 → vp_in (pf h) 16) (he : ∀ d p, d < nd → p < 16 → h1 (d * 16 + p) = h2 (d * 16 + p) ∧ w1 (d * 16 + p) = w2 (d * 16 + p)) : ∀ n, n ≤ 12 → loN lo sg pf h1 w1 gl ca nd al n = loN lo sg pf h2 w2 gl ca nd al n
  | 0, _ => rfl
  | n + 1, hn => by
    have hp := (nI_back (hpf n (by omega)) (by omega)).2
    have e1 : ∀ le, wwL h1 w1 le (pf n).toNatClampNeg (sg n) nd = wwL h2 w2 le (pf n).toNatClampNeg (sg n) nd := fun le => wwL_c nd (fun d hd => he d _ hd hp)
    simp only [loN, nxV]
    rw [loN_c hpf he n (by omega), e1, e1]
def cLo (kf gf : Nat → Int32) (bl : Int64) (xf yf : Nat → Int32) (nd : Nat) (lo : Nat → Bool) (sg pf : Nat → Int32) (gl ca : Int32) (h : Nat) : Int64 := loN lo sg pf (tH kf gf xf yf (nd * 16) z6) (tW kf gf xf yf (nd * 16) z6) gl ca nd bl (h + 1)
theorem lo_c {kf gf xf yf : Nat → Int32} {bl : Int64} {nd : Nat} {lo : Nat → Bool} {sg pf : Nat → Int32} {gl ca : Int32} (hf wf lf : Nat → Int64) (hpf : ∀ h, h < 12 → vp_in (pf h) 16) {h : Nat} (hh : h < 12) :
    loA lo sg pf (tH kf gf xf yf (nd * 16) hf) (tW kf gf xf yf (nd * 16) wf) gl ca nd bl 12 lf h = cLo kf gf bl xf yf nd lo sg pf gl ca h := by
  simp only [loA, if_pos hh, cLo]
  exact loN_c hpf (fun d p hd hp => ⟨by rw [tH_at hd hp, tH_at hd hp], by rw [tW_at hd hp, tW_at hd hp]⟩) _ (by omega)
/-- a ray's share as the class has it in an hour with the blinds lw down -/
def cSh (kf gf xf yf : Nat → Int32) (lw : Int64) (d p : Nat) : Int64 :=
  if ((rayT kf gf (xf d) (yf d) p).2.2 &&& lw) = 0 then (rayT kf gf (xf d) (yf d) p).2.1 else unGo gf lw (stY p * 8 + stX p) ((rayT kf gf (xf d) (yf d) p).1.toNatClampNeg - 1) (yf d * 8 + xf d) (rayT kf gf (xf d) (yf d) p).2.1
def cSu (kf gf xf yf : Nat → Int32) (lw : Int64) (d : Nat) : Int64 := if lw = 0 then sumT kf gf (xf d) (yf d) else sumL (fun p => cSh kf gf xf yf lw d p) 16
theorem sumL_c {f g : Nat → Int64} : ∀ n, (∀ k, k < n → f k = g k) → sumL f n = sumL g n
  | 0, _ => rfl
  | n + 1, h => by simp only [sumL]; rw [sumL_c n (fun k hk => h k (by omega)), h n (by omega)]
theorem sh_c {kf gf xf yf : Nat → Int32} (sf : Nat → Int32) (hf wf : Nat → Int64) {nd d p : Nat} {lw : Int64} (hd : d < nd) (hp : p < 16) :
    suV gf xf yf (tS kf gf xf yf (nd * 16) sf) (tH kf gf xf yf (nd * 16) hf) (tW kf gf xf yf (nd * 16) wf) lw d p = cSh kf gf xf yf lw d p := by
  simp only [suV, cSh, tS_at hd hp, tH_at hd hp, tW_at hd hp]
theorem su_c {kf gf xf yf : Nat → Int32} (sf : Nat → Int32) (hf wf uf : Nat → Int64) {nd d : Nat} {lw : Int64} (hd : d < nd) :
    sumV gf xf yf (tS kf gf xf yf (nd * 16) sf) (tH kf gf xf yf (nd * 16) hf) (tW kf gf xf yf (nd * 16) wf) (tU kf gf xf yf nd uf) lw d = cSu kf gf xf yf lw d := by
  simp only [sumV, cSu, tU_at hd]
  rw [sumL_c 16 (fun k hk => sh_c sf hf wf hd hk)]
/-- light of a desk in an hour, as the class has it -/
def cV (kf gf : Nat → Int32) (bl : Int64) (xf yf : Nat → Int32) (nd : Nat) (lo : Nat → Bool) (br sg pf : Nat → Int32) (mo gl ca : Int32) (e : Int32) (d h : Nat) : Int32 :=
  ltV lo br sg pf mo (fun p => cSh kf gf xf yf (cLo kf gf bl xf yf nd lo sg pf gl ca h) d p) (cSu kf gf xf yf (cLo kf gf bl xf yf nd lo sg pf gl ca h) d) h e
theorem v_c {kf gf xf yf : Nat → Int32} {bl : Int64} {nd : Nat} {lo : Nat → Bool} {br sg pf : Nat → Int32} {mo gl ca e : Int32} (sf : Nat → Int32) (hf wf uf lf : Nat → Int64) (hpf : ∀ h, h < 12 → vp_in (pf h) 16) {d h : Nat} (hd : d < nd) (hh : h < 12) :
    dlV lo br sg pf mo gf xf yf (tS kf gf xf yf (nd * 16) sf) (tH kf gf xf yf (nd * 16) hf) (tW kf gf xf yf (nd * 16) wf) (tU kf gf xf yf nd uf) (loA lo sg pf (tH kf gf xf yf (nd * 16) hf) (tW kf gf xf yf (nd * 16) wf) gl ca nd bl 12 lf) e d h = cV kf gf bl xf yf nd lo br sg pf mo gl ca e d h := by
  have hp := (nI_back (hpf h hh) (by omega)).2
  simp only [dlV, cV, ltV, lo_c hf wf lf hpf hh, su_c sf hf wf uf hd, sh_c sf hf wf hd hp]
theorem enH_c {V1 V2 : Nat → Nat → Int32} {ne : Int32} {d : Nat} : ∀ n, (∀ h, h < n → V1 d h = V2 d h) → enH V1 ne d n = enH V2 ne d n
  | 0, _ => rfl
  | n + 1, h => by simp only [enH]; rw [enH_c n (fun k hk => h k (by omega)), h n (by omega)]
theorem enD_c {V1 V2 : Nat → Nat → Int32} {ne : Int32} {d0 : Nat} : ∀ n, (∀ d h, d0 ≤ d → d < d0 + n → h < 12 → V1 d h = V2 d h) → enD V1 ne d0 n = enD V2 ne d0 n
  | 0, _ => rfl
  | n + 1, h => by
    simp only [enD]
    rw [enD_c n (fun d k h1 h2 h3 => h d k h1 (by omega) h3), enH_c 12 (fun k hk => h _ k (by omega) (by omega) hk)]
theorem has_in {nd : Nat} {d : Int32} (h : hasB (nI nd) d = true) (hn : nd ≤ 4) : vp_in d nd := by
  simp only [hasB, Bool.and_eq_true, Bool.not_eq_true', decide_eq_false_iff_not] at h
  rw [vp_in_iff]
  have a := i32_of h.1
  have b := i32_lt h.2
  rw [nI_toInt (by omega)] at b
  exact ⟨a, b⟩
theorem vp_w {x : Int32} {a b : Nat} (h : vp_in x a) (hab : a ≤ b) : vp_in x b := by
  rw [vp_in_iff] at h ⊢
  omega
theorem hour_in {h : Int32} (q : hourB h = true) : vp_in h 12 := by
  simp only [hourB, inB, Bool.and_eq_true, Bool.not_eq_true', decide_eq_false_iff_not] at q
  rw [vp_in_iff]
  have a := i32_of q.1
  have b : h.toInt ≤ (11 : Int32).toInt := by have := q.2; rw [Int32.lt_iff_toInt_lt] at this; omega
  have e : (11 : Int32).toInt = 11 := by decide
  omega
theorem patch_in {h : Int32} (q : patchB h = true) : vp_in h 16 := by
  simp only [patchB, inB, Bool.and_eq_true, Bool.not_eq_true', decide_eq_false_iff_not] at q
  rw [vp_in_iff]
  have a := i32_of q.1
  have b : h.toInt ≤ (15 : Int32).toInt := by have := q.2; rw [Int32.lt_iff_toInt_lt] at this; omega
  have e : (15 : Int32).toInt = 15 := by decide
  omega
/-! ===== the plan's and the offers' order ===== -/
def gOK (g : Int32) : Prop := ∃ n : Nat, 1 ≤ n ∧ n ≤ 8 ∧ g = nI n
def plI (kf gf : Nat → Int32) (bl : Int64) : Prop := ∀ c, c < 64 → ((kf c = 0 ∨ kf c = 1) ∧ gf c = 0 ∧ hbB bl (nI c) = false) ∨ (kf c = 2 ∧ gOK (gf c))
def ofI (cf og : Nat → Int32) (no : Nat) : Prop := ∀ q, q < no → vp_in (cf q) 64 ∧ gOK (og q)
theorem gOK_pos {g : Int32} (h : gOK g) : ¬ g ≤ 0 := by
  obtain ⟨n, h1, h2, rfl⟩ := h
  exact nI_nle (by omega) (by omega)
theorem plI_ok {kf gf : Nat → Int32} {bl : Int64} (h : plI kf gf bl) : plOK kf gf := by
  intro c hc
  rcases h c hc with ⟨h1, h2, -⟩ | ⟨h1, h2⟩
  · rw [h2]
    refine ⟨fun _ => ?_, fun _ => by decide⟩
    rcases h1 with q | q <;> rw [q] <;> decide
  · exact ⟨fun q => absurd q (gOK_pos h2), fun q => absurd h1 q⟩
theorem bit_i : ∀ k, k < 64 → ((nI k).toInt64.toUInt64 &&& Int64.toUInt64 63).toNat = k := by decide +kernel
theorem one_shl : ∀ k, k < 64 → ((1 : Int64) <<< ((nI k).toInt64 &&& 63)).toBitVec = BitVec.twoPow 64 k := by decide +kernel
theorem bv_bit (w : Int64) {k : Nat} (hk : k < 64) : hbB w (nI k) = w.toBitVec.getLsbD k := by
  have hs := bit_i k hk
  unfold hbB
  generalize ((nI k).toInt64.toUInt64 &&& Int64.toUInt64 63) = s at hs
  have e : (w.toUInt64 >>> s).toInt64.toBitVec = w.toBitVec >>> k := by
    apply BitVec.eq_of_toNat_eq
    show (w.toUInt64 >>> s).toNat = _
    rw [UInt64.toNat_shiftRight, hs, Nat.mod_eq_of_lt hk, BitVec.toNat_ushiftRight]
    rfl
  rw [Bool.eq_iff_iff, decide_eq_true_iff, ← Int64.toBitVec_inj, Int64.toBitVec_and, e]
  show w.toBitVec >>> k &&& 1#64 = 1#64 ↔ _
  constructor
  · intro h
    have t := congrArg (fun x => x.getLsbD 0) h
    simpa using t
  · intro h
    apply BitVec.eq_of_getLsbD_eq
    intro i hi
    cases i with
    | zero => simp [h]
    | succ i => simp
theorem bv_or (a b : Int64) {k : Nat} (hk : k < 64) : hbB (a ||| b) (nI k) = (hbB a (nI k) || hbB b (nI k)) := by
  rw [bv_bit _ hk, bv_bit _ hk, bv_bit _ hk, Int64.toBitVec_or, BitVec.getLsbD_or]
theorem bv_and (a b : Int64) {k : Nat} (hk : k < 64) : hbB (a &&& b) (nI k) = (hbB a (nI k) && hbB b (nI k)) := by
  rw [bv_bit _ hk, bv_bit _ hk, bv_bit _ hk, Int64.toBitVec_and, BitVec.getLsbD_and]
theorem bv_not (a : Int64) {k : Nat} (hk : k < 64) : hbB (a ^^^ (-1)) (nI k) = !hbB a (nI k) := by
  have ha : (-1 : Int64).toBitVec = BitVec.allOnes 64 := by decide
  rw [bv_bit _ hk, bv_bit _ hk, Int64.toBitVec_xor, ha, BitVec.getLsbD_xor, BitVec.getLsbD_allOnes]
  simp [hk]
theorem bv_one {c k : Nat} (hc : c < 64) (hk : k < 64) : hbB ((1 : Int64) <<< ((nI c).toInt64 &&& 63)) (nI k) = decide (k = c) := by
  rw [bv_bit _ hk, one_shl c hc, BitVec.getLsbD_twoPow]
  simp [hc, eq_comm]
theorem bv_0 {k : Nat} (hk : k < 64) : hbB 0 (nI k) = false := by
  rw [bv_bit _ hk]
  show (0#64).getLsbD k = false
  simp
theorem bv_ext {a b : Int64} (h : ∀ k, k < 64 → hbB a (nI k) = hbB b (nI k)) : a = b := by
  rw [← Int64.toBitVec_inj]
  apply BitVec.eq_of_getLsbD_eq
  intro i hi
  have := h i hi
  rwa [bv_bit _ hi, bv_bit _ hi] at this
theorem bl_put (bl : Int64) {c k : Nat} (b : Bool) (hc : c < 64) (hk : k < 64) : hbB (blPut bl (nI c) b) (nI k) = if k = c then b else hbB bl (nI k) := by
  cases b with
  | true =>
    simp only [blPut, if_true]
    rw [bv_or _ _ hk, bv_one hc hk]
    by_cases q : k = c <;> simp [q]
  | false =>
    simp only [blPut, Bool.false_eq_true, if_false]
    rw [bv_and _ _ hk, bv_not _ hk, bv_one hc hk]
    by_cases q : k = c <;> simp [q]
theorem bl_clr {bl : Int64} {c : Nat} (hc : c < 64) (h : hbB bl (nI c) = false) : blPut bl (nI c) false = bl := by
  apply bv_ext
  intro k hk
  rw [bl_put _ _ hc hk]
  by_cases q : k = c
  · rw [if_pos q, q, h]
  · rw [if_neg q]
/-! what opening offers does -/
theorem op_in {cf : Nat → Int32} {ch : Nat} {v f : Nat → Int32} : ∀ n c, (opF cf ch v f n c = f c ∧ ∀ q, q < n → ch.testBit q = true → (cf q).toNatClampNeg ≠ c) ∨ ∃ q, q < n ∧ ch.testBit q = true ∧ (cf q).toNatClampNeg = c ∧ opF cf ch v f n c = v q := by
  intro n
  induction n with
  | zero => intro c; exact Or.inl ⟨rfl, fun q h => absurd h (Nat.not_lt_zero q)⟩
  | succ n ih =>
    intro c
    by_cases hb : ch.testBit n = true
    · by_cases e : (cf n).toNatClampNeg = c
      · refine Or.inr ⟨n, by omega, hb, e, ?_⟩
        rw [opF, if_pos hb, ← e, pk_us]
      · have e1 : opF cf ch v f (n + 1) c = opF cf ch v f n c := by rw [opF, if_pos hb, pk_un (Ne.symm e)]
        rcases ih c with ⟨h1, h2⟩ | ⟨q, h1, h2, h3, h4⟩
        · refine Or.inl ⟨e1.trans h1, fun q hq hbq => ?_⟩
          by_cases z : q = n
          · rw [z]; exact e
          · exact h2 q (by omega) hbq
        · exact Or.inr ⟨q, by omega, h2, h3, e1.trans h4⟩
    · have e1 : opF cf ch v f (n + 1) c = opF cf ch v f n c := by rw [opF, if_neg hb]
      rcases ih c with ⟨h1, h2⟩ | ⟨q, h1, h2, h3, h4⟩
      · refine Or.inl ⟨e1.trans h1, fun q hq hbq => ?_⟩
        by_cases z : q = n
        · rw [z] at hbq; exact absurd hbq hb
        · exact h2 q (by omega) hbq
      · exact Or.inr ⟨q, by omega, h2, h3, e1.trans h4⟩
theorem icB_w {kf cf : Nat → Int32} {ch : Nat} : ∀ n, icB kf cf ch n = true → ∀ q, q < n → ch.testBit q = true → kf (cf q).toNatClampNeg = 1 := by
  intro n
  induction n with
  | zero => intro _ q hq; exact absurd hq (Nat.not_lt_zero q)
  | succ n ih =>
    intro h q hq hb
    simp only [icB, Bool.and_eq_true] at h
    by_cases z : q = n
    · subst z
      have := h.2
      rw [if_pos hb] at this
      simp only [Bool.and_eq_true, decide_eq_true_eq] at this
      exact this.1
    · exact ih h.1 q (by omega) hb
theorem op_k {kf cf : Nat → Int32} {ch no : Nat} (h : icB kf cf ch no = true) : opF cf ch (fun _ => 1) (opF cf ch (fun _ => 2) kf no) no = kf := by
  funext c
  rcases op_in (cf := cf) (ch := ch) (v := fun _ => 1) (f := opF cf ch (fun _ => 2) kf no) no c with ⟨h1, h2⟩ | ⟨q, h1, h2, h3, h4⟩
  · rw [h1]
    rcases op_in (cf := cf) (ch := ch) (v := fun _ => 2) (f := kf) no c with ⟨g1, -⟩ | ⟨q, g1, g2, g3, -⟩
    · exact g1
    · exact absurd g3 (h2 q g1 g2)
  · rw [h4, ← h3, icB_w no h q h1 h2]
theorem op_g {kf gf cf og : Nat → Int32} {bl : Int64} {ch no : Nat} (hpl : plI kf gf bl) (hof : ofI cf og no) (h : icB kf cf ch no = true) : opF cf ch (fun _ => 0) (opF cf ch og gf no) no = gf := by
  funext c
  rcases op_in (cf := cf) (ch := ch) (v := fun _ => 0) (f := opF cf ch og gf no) no c with ⟨h1, h2⟩ | ⟨q, h1, h2, h3, h4⟩
  · rw [h1]
    rcases op_in (cf := cf) (ch := ch) (v := og) (f := gf) no c with ⟨g1, -⟩ | ⟨q, g1, g2, g3, -⟩
    · exact g1
    · exact absurd g3 (h2 q g1 g2)
  · rw [h4]
    have hk := icB_w no h q h1 h2
    rw [h3] at hk
    have hc : c < 64 := by rw [← h3]; exact (nI_back (hof q h1).1 (by omega)).2
    rcases hpl c hc with ⟨-, g2, -⟩ | ⟨g1, -⟩
    · exact g2.symm
    · rw [hk] at g1; exact absurd g1 (by decide)
theorem op_b1 {kf gf cf og : Nat → Int32} {bl : Int64} {ch no : Nat} (hpl : plI kf gf bl) (hof : ofI cf og no) (h : icB kf cf ch no = true) : ∀ n, n ≤ no → opB cf ch bl n = bl := by
  intro n
  induction n with
  | zero => intro _; rfl
  | succ n ih =>
    intro hn
    rw [opB, ih (by omega)]
    split
    · rename_i hb
      have hk := icB_w no h n (by omega) hb
      obtain ⟨e, hc⟩ := nI_back (hof n (by omega)).1 (by omega)
      rw [e]
      refine bl_clr hc ?_
      rcases hpl _ hc with ⟨-, -, g3⟩ | ⟨g1, -⟩
      · exact g3
      · rw [hk] at g1; exact absurd g1 (by decide)
    · rfl
theorem op_b {kf gf cf og : Nat → Int32} {bl : Int64} {ch no : Nat} (hpl : plI kf gf bl) (hof : ofI cf og no) (h : icB kf cf ch no = true) : opB cf ch (opB cf ch bl no) no = bl := by
  rw [op_b1 hpl hof h no (Nat.le_refl _), op_b1 hpl hof h no (Nat.le_refl _)]
theorem opB_bit {cf og : Nat → Int32} {bl : Int64} {ch no : Nat} (hof : ofI cf og no) : ∀ n, n ≤ no → ∀ k, k < 64 → hbB bl (nI k) = false → hbB (opB cf ch bl n) (nI k) = false := by
  intro n
  induction n with
  | zero => intro _ k hk h; exact h
  | succ n ih =>
    intro hn k hk h
    rw [opB]
    split
    · obtain ⟨e, hc⟩ := nI_back (hof n (by omega)).1 (by omega)
      rw [e, bl_put _ _ hc hk]
      split
      · rfl
      · exact ih (by omega) k hk h
    · exact ih (by omega) k hk h
theorem op_pl {kf gf cf og : Nat → Int32} {bl : Int64} {no : Nat} (hpl : plI kf gf bl) (hof : ofI cf og no) (ch : Nat) : ∀ n, n ≤ no → plI (opF cf ch (fun _ => 2) kf n) (opF cf ch og gf n) (opB cf ch bl n) := by
  intro n
  induction n with
  | zero => intro _; exact hpl
  | succ n ih =>
    intro hn c hc
    by_cases hb : ch.testBit n = true
    · obtain ⟨e, hcf⟩ := nI_back (hof n (by omega)).1 (by omega)
      simp only [opF, opB, if_pos hb]
      by_cases q : c = (cf n).toNatClampNeg
      · refine Or.inr ?_
        rw [q, pk_us, pk_us]
        exact ⟨rfl, (hof n (by omega)).2⟩
      · rw [pk_un q, pk_un q]
        rcases ih (by omega) c hc with ⟨h1, h2, h3⟩ | h
        · refine Or.inl ⟨h1, h2, ?_⟩
          rw [e, bl_put _ _ hcf hc, if_neg q]
          exact h3
        · exact Or.inr h
    · simp only [opF, opB, if_neg hb]
      exact ih (by omega) c hc
/-! ===== the search ===== -/
def enS (kf gf : Nat → Int32) (bl : Int64) (xf yf : Nat → Int32) (nd : Nat) (lo : Nat → Bool) (br sg pf : Nat → Int32) (mo ne gl ca : Int32) (cf og : Nat → Int32) (no ch : Nat) : Nat :=
  enD (cV (opF cf ch (fun _ => 2) kf no) (opF cf ch og gf no) (opB cf ch bl no) xf yf nd lo br sg pf mo gl ca 0) ne 0 nd
def fdS (EN : Nat → Nat) (pr cf kf : Nat → Int32) (no : Nat) (bud : Int32) : Nat → Int32 × Int32 × Int32
  | 0 => (0, 0, -1)
  | c + 1 => if !decide (bud < coL pr c no) && icB kf cf c no then (if wgB (fdS EN pr cf kf no bud c).2.2 (fdS EN pr cf kf no bud c).2.1 (coL pr c no) (nI (EN c)) then (nI c, coL pr c no, nI (EN c)) else fdS EN pr cf kf no bud c) else fdS EN pr cf kf no bud c
theorem en_c {kf gf xf yf : Nat → Int32} {bl : Int64} {nd : Nat} {lo : Nat → Bool} {br sg pf : Nat → Int32} {mo ne gl ca e : Int32} (sf : Nat → Int32) (hf wf uf lf : Nat → Int64) (hpf : ∀ h, h < 12 → vp_in (pf h) 16) {d0 n : Nat} (hn : d0 + n ≤ nd) :
    enD (dlV lo br sg pf mo gf xf yf (tS kf gf xf yf (nd * 16) sf) (tH kf gf xf yf (nd * 16) hf) (tW kf gf xf yf (nd * 16) wf) (tU kf gf xf yf nd uf) (loA lo sg pf (tH kf gf xf yf (nd * 16) hf) (tW kf gf xf yf (nd * 16) wf) gl ca nd bl 12 lf) e) ne d0 n = enD (cV kf gf bl xf yf nd lo br sg pf mo gl ca e) ne d0 n :=
  enD_c n (fun d h h1 h2 h3 => v_c sf hf wf uf lf hpf (by omega) h3)
theorem shl_no : ∀ n, n ≤ 5 → (1 : Int32) <<< (nI n &&& 31) = nI (2 ^ n) := by decide +kernel
theorem pow_no : ∀ n, n ≤ 5 → 2 ^ n ≤ 32 := by decide
