theorem bitm_t {ch j : Nat} (hch : ch < 32) (hj : j < 5) (c : (((nI ch) >>> (nI j &&& 31)) &&& 1) = 1) : ch.testBit j = true := by
  rw [bit_m ch hch j hj] at c
  cases h : ch.testBit j with
  | true => rfl
  | false => rw [h] at c; exact absurd c (by decide)
theorem bitm_f {ch j : Nat} (hch : ch < 32) (hj : j < 5) (c : ¬ (((nI ch) >>> (nI j &&& 31)) &&& 1) = 1) : ch.testBit j = false := by
  rw [bit_m ch hch j hj] at c
  cases h : ch.testBit j with
  | false => rfl
  | true => rw [h] at c; exact absurd rfl c
def dupM (cf : Nat → Int32) (ch k : Nat) : Nat → Bool
  | 0 => true
  | n + 1 => dupM cf ch k n && !(ch.testBit n && decide (cf n = cf k))
theorem dupM_dn {cf : Nat → Int32} {ch k j : Nat} (h : dupM cf ch k (j + 1) = false) : ∀ n, j + 1 ≤ n → dupM cf ch k n = false := by
  intro n
  induction n with
  | zero => intro h2; omega
  | succ n ih =>
    intro h2
    by_cases q : j + 1 = n + 1
    · rw [← q]; exact h
    · rw [dupM, ih (by omega), Bool.false_and]
def icM (kf cf : Nat → Int32) (ch : Nat) : Nat → Bool
  | 0 => true
  | n + 1 => icM kf cf ch n && (if ch.testBit n then decide (kf (cf n).toNatClampNeg = 1) && dupM cf ch n n else true)
theorem icM_dn {kf cf : Nat → Int32} {ch j : Nat} (h : icM kf cf ch (j + 1) = false) : ∀ n, j + 1 ≤ n → icM kf cf ch n = false := by
  intro n
  induction n with
  | zero => intro h2; omega
  | succ n ih =>
    intro h2
    by_cases q : j + 1 = n + 1
    · rw [← q]; exact h
    · rw [icM, ih (by omega), Bool.false_and]
theorem icM_w {kf cf : Nat → Int32} {ch : Nat} : ∀ n, icM kf cf ch n = true → ∀ q, q < n → ch.testBit q = true → kf (cf q).toNatClampNeg = 1 := by
  intro n
  induction n with
  | zero => intro _ q hq; exact absurd hq (Nat.not_lt_zero q)
  | succ n ih =>
    intro h q hq hb
    simp only [icM, Bool.and_eq_true] at h
    by_cases z : q = n
    · subst z
      have := h.2
      rw [if_pos hb] at this
      simp only [Bool.and_eq_true, decide_eq_true_eq] at this
      exact this.1
    · exact ih h.1 q (by omega) hb
def csM (pr kf cf : Nat → Int32) (ch no : Nat) : Int32 := if icM kf cf ch no then coL pr ch no else -1
theorem csM_t {pr kf cf : Nat → Int32} {ch no : Nat} (h : ¬ csM pr kf cf ch no = -1) : icM kf cf ch no = true := by
  unfold csM at h
  split at h
  · assumption
  · exact absurd rfl h
theorem op_kM {kf cf : Nat → Int32} {ch no : Nat} (h : icM kf cf ch no = true) : opF cf ch (fun _ => 1) (opF cf ch (fun _ => 2) kf no) no = kf := by
  funext c
  rcases op_in (cf := cf) (ch := ch) (v := fun _ => 1) (f := opF cf ch (fun _ => 2) kf no) no c with ⟨h1, h2⟩ | ⟨q, h1, h2, h3, h4⟩
  · rw [h1]
    rcases op_in (cf := cf) (ch := ch) (v := fun _ => 2) (f := kf) no c with ⟨g1, -⟩ | ⟨q, g1, g2, g3, -⟩
    · exact g1
    · exact absurd g3 (h2 q g1 g2)
  · rw [h4, ← h3, icM_w no h q h1 h2]
theorem op_gM {kf gf cf og : Nat → Int32} {bl : Int64} {ch no : Nat} (hpl : plI kf gf bl) (hof : ofI cf og no) (h : icM kf cf ch no = true) : opF cf ch (fun _ => 0) (opF cf ch og gf no) no = gf := by
  funext c
  rcases op_in (cf := cf) (ch := ch) (v := fun _ => 0) (f := opF cf ch og gf no) no c with ⟨h1, h2⟩ | ⟨q, h1, h2, h3, h4⟩
  · rw [h1]
    rcases op_in (cf := cf) (ch := ch) (v := og) (f := gf) no c with ⟨g1, -⟩ | ⟨q, g1, g2, g3, -⟩
    · exact g1
    · exact absurd g3 (h2 q g1 g2)
  · rw [h4]
    have hk := icM_w no h q h1 h2
    rw [h3] at hk
    have hc : c < 64 := by rw [← h3]; exact (nI_back (hof q h1).1 (by omega)).2
    rcases hpl c hc with ⟨-, g2, -⟩ | ⟨g1, -⟩
    · exact g2.symm
    · rw [hk] at g1; exact absurd g1 (by decide)
def mnS (kf gf xf yf : Nat → Int32) (nd : Nat) (hb lo : Nat → Bool) (br sg pf : Nat → Int32) (mo ne gl ca : Int32) (cf og : Nat → Int32) (no ch : Nat) : Nat :=
  mhT (mV (opF cf ch (fun _ => 2) kf no) (opF cf ch og gf no) xf yf nd hb lo br sg pf mo gl ca 0) ne 0 nd 12
def fdM (EN : Nat → Nat) (pr cf kf : Nat → Int32) (no : Nat) (bud b0 o0 : Int32) : Nat → Int32 × Int32 × Int32
  | 0 => (b0, o0, -1)
  | c + 1 => if !decide (csM pr kf cf c no = -1) && !decide (bud < csM pr kf cf c no) then (if wgB (fdM EN pr cf kf no bud b0 o0 c).2.2 (fdM EN pr cf kf no bud b0 o0 c).2.1 (csM pr kf cf c no) (nI (EN c)) then (nI c, csM pr kf cf c no, nI (EN c)) else fdM EN pr cf kf no bud b0 o0 c) else fdM EN pr cf kf no bud b0 o0 c
theorem fm_st {EN : Nat → Nat} {pr cf kf : Nat → Int32} {no : Nat} {bud b0 o0 : Int32} {c : Nat} (h : csM pr kf cf c no = -1 ∨ bud < csM pr kf cf c no) : fdM EN pr cf kf no bud b0 o0 (c + 1) = fdM EN pr cf kf no bud b0 o0 c := by
  rw [fdM, if_neg]
  rcases h with h | h <;> simp [h]
theorem fm_t {EN : Nat → Nat} {pr cf kf : Nat → Int32} {no : Nat} {bud b0 o0 : Int32} {c : Nat} (h : ¬ csM pr kf cf c no = -1) (h2 : ¬ bud < csM pr kf cf c no) (hw : wgB (fdM EN pr cf kf no bud b0 o0 c).2.2 (fdM EN pr cf kf no bud b0 o0 c).2.1 (csM pr kf cf c no) (nI (EN c)) = true) : fdM EN pr cf kf no bud b0 o0 (c + 1) = (nI c, csM pr kf cf c no, nI (EN c)) := by
  rw [fdM, if_pos (by simp [h, h2]), if_pos hw]
theorem fm_f {EN : Nat → Nat} {pr cf kf : Nat → Int32} {no : Nat} {bud b0 o0 : Int32} {c : Nat} (h : ¬ csM pr kf cf c no = -1) (h2 : ¬ bud < csM pr kf cf c no) (hw : wgB (fdM EN pr cf kf no bud b0 o0 c).2.2 (fdM EN pr cf kf no bud b0 o0 c).2.1 (csM pr kf cf c no) (nI (EN c)) = false) : fdM EN pr cf kf no bud b0 o0 (c + 1) = fdM EN pr cf kf no bud b0 o0 c := by
  rw [fdM, if_pos (by simp [h, h2]), if_neg (by rw [hw]; decide)]
