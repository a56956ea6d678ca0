theorem bit_h : ∀ ch, ch < 32 → ∀ j, j < 5 → hbB (nI ch).toInt64 (nI j) = ch.testBit j := by decide +kernel
theorem bit_m : ∀ ch, ch < 32 → ∀ j, j < 5 → (((nI ch) >>> (nI j &&& 31)) &&& 1) = b2i (ch.testBit j) := by decide +kernel
def coL (pr : Nat → Int32) (ch : Nat) : Nat → Int32
  | 0 => 0
  | n + 1 => if ch.testBit n then coL pr ch n + pr n else coL pr ch n
def icT (cf : Nat → Int32) (ch : Nat) : Nat → Int64
  | 0 => 0
  | n + 1 => if ch.testBit n then icT cf ch n ||| (1 <<< ((cf n).toInt64 &&& 63)) else icT cf ch n
def icB (kf cf : Nat → Int32) (ch : Nat) : Nat → Bool
  | 0 => true
  | n + 1 => icB kf cf ch n && (if ch.testBit n then decide (kf (cf n).toNatClampNeg = 1) && !hbB (icT cf ch n) (cf n) else true)
theorem icB_dn {kf cf : Nat → Int32} {ch j : Nat} (h : icB kf cf ch (j + 1) = false) : ∀ n, j + 1 ≤ n → icB kf cf ch n = false := by
  intro n
  induction n with
  | zero => intro h2; omega
  | succ n ih =>
    intro h2
    by_cases q : j + 1 = n + 1
    · rw [← q]; exact h
    · rw [icB, ih (by omega), Bool.false_and]
def opF (cf : Nat → Int32) (ch : Nat) (v : Nat → Int32) (f : Nat → Int32) : Nat → Nat → Int32
  | 0 => f
  | n + 1 => if ch.testBit n then upd (opF cf ch v f n) (cf n).toNatClampNeg (v n) else opF cf ch v f n
def opB (cf : Nat → Int32) (ch : Nat) (bl : Int64) : Nat → Int64
  | 0 => bl
  | n + 1 => if ch.testBit n then blPut (opB cf ch bl n) (cf n) false else opB cf ch bl n
def ltV (lo : Nat → Bool) (br sg pf : Nat → Int32) (mo : Int32) (sV : Nat → Int64) (sS : Int64) (h : Nat) (e : Int32) : Int32 :=
  if lo h && decide (e = 0) then 0 else (((if lo h then mo else br h).toInt64 * sS + (if sunB lo sg h then (sg h).toInt64 * 16 * sV (pf h).toNatClampNeg else 0)) / 33554432).toInt32
def dlV (lo : Nat → Bool) (br sg pf : Nat → Int32) (mo : Int32) (gf xf yf sf : Nat → Int32) (hf wf uf lf : Nat → Int64) (e : Int32) (d h : Nat) : Int32 :=
  ltV lo br sg pf mo (fun p => suV gf xf yf sf hf wf (lf h) d p) (sumV gf xf yf sf hf wf uf (lf h) d) h e
def enH (V : Nat → Nat → Int32) (ne : Int32) (d : Nat) : Nat → Nat
  | 0 => 0
  | h + 1 => enH V ne d h + (if V d h < ne then 0 else 1)
def enD (V : Nat → Nat → Int32) (ne : Int32) (d0 : Nat) : Nat → Nat
  | 0 => 0
  | k + 1 => enD V ne d0 k + enH V ne (d0 + k) 12
theorem lt_p1 {lo : Nat → Bool} {br sg pf : Nat → Int32} {mo : Int32} {sV : Nat → Int64} {sS : Int64} {h : Nat} {e : Int32} (c1 : lo h = true) (c2 : e = 0) : (0 : Int32) = ltV lo br sg pf mo sV sS h e := by simp [ltV, c1, c2]
theorem lt_p2 {lo : Nat → Bool} {br sg pf : Nat → Int32} {mo : Int32} {sV : Nat → Int64} {sS : Int64} {h : Nat} {e : Int32} (c1 : lo h = true) (c2 : ¬ e = 0) : (mo.toInt64 * sS / 33554432).toInt32 = ltV lo br sg pf mo sV sS h e := by simp [ltV, c1, c2, sunB]
theorem lt_p3 {lo : Nat → Bool} {br sg pf : Nat → Int32} {mo : Int32} {sV : Nat → Int64} {sS : Int64} {h : Nat} {e : Int32} (c1 : lo h = false) (c2 : sunB lo sg h = false) : ((br h).toInt64 * sS / 33554432).toInt32 = ltV lo br sg pf mo sV sS h e := by simp [ltV, c1, c2]
theorem lt_p4 {lo : Nat → Bool} {br sg pf : Nat → Int32} {mo : Int32} {sV : Nat → Int64} {sS : Int64} {h : Nat} {e : Int32} (c1 : lo h = false) (c2 : sunB lo sg h = true) : (((br h).toInt64 * sS + (sg h).toInt64 * 16 * sV (pf h).toNatClampNeg) / 33554432).toInt32 = ltV lo br sg pf mo sV sS h e := by simp [ltV, c1, c2]
/-- the share rows' steps are small -/
def st8 (sf : Nat → Int32) (n : Nat) : Prop := ∀ q, q < n * 16 → (sf q).toInt ≤ 8
theorem rayR_len {kf : Nat → Int32} {dx dy : Int32} : ∀ (n : Nat) (x y : Int32) (k : Nat) (t : List Int32), rayR kf dx dy n x y = some (k, t) → k ≤ n ∧ t.length ≤ k := by
  intro n
  induction n with
  | zero =>
    intro x y k t h
    simp only [rayR] at h
    split at h
    · cases h
    · cases h; exact ⟨Nat.le_refl _, Nat.le_refl _⟩
  | succ n ih =>
    intro x y k t h
    simp only [rayR] at h
    split at h
    · split at h
      · cases h
      · split at h
        · cases h
        · rename_i k1 t1 e1
          have := ih _ _ _ _ e1
          cases h
          refine ⟨by omega, ?_⟩
          split
          · simp only [List.length_cons]; omega
          · omega
    · cases h; exact ⟨Nat.zero_le _, Nat.le_refl _⟩
theorem rayT_8 (kf gf : Nat → Int32) (x y : Int32) (p : Nat) : (rayT kf gf x y p).1.toInt ≤ 8 := by
  unfold rayT trFin
  split
  · decide
  · rename_i k t e
    have := (rayR_len _ _ _ _ _ e).1
    show (nI (0 + k)).toInt ≤ 8
    rw [nI_toInt (by omega)]
    omega
theorem st8_tS (kf gf xf yf sf : Nat → Int32) (n : Nat) : st8 (tS kf gf xf yf (n * 16) sf) n := by
  intro q hq
  simp only [tS, if_pos hq]
  exact rayT_8 _ _ _ _ _
theorem nI_p1 (a : Nat) : nI a + 1 = nI (a + 1) := nI_1 a
