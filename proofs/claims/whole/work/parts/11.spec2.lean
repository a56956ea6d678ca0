theorem rn_eq (a b : Nat) : nI a * 16 + nI b = nI (a * 16 + b) := by
  rw [show (16 : Int32) = nI 16 from rfl, pk_mul, nI_add]
def tS (kf gf xf yf : Nat → Int32) (m : Nat) (f : Nat → Int32) : Nat → Int32 := fun q => if q < m then (rayT kf gf (xf (q / 16)) (yf (q / 16)) (q % 16)).1 else f q
def tH (kf gf xf yf : Nat → Int32) (m : Nat) (f : Nat → Int64) : Nat → Int64 := fun q => if q < m then (rayT kf gf (xf (q / 16)) (yf (q / 16)) (q % 16)).2.1 else f q
def tW (kf gf xf yf : Nat → Int32) (m : Nat) (f : Nat → Int64) : Nat → Int64 := fun q => if q < m then (rayT kf gf (xf (q / 16)) (yf (q / 16)) (q % 16)).2.2 else f q
def tU (kf gf xf yf : Nat → Int32) (m : Nat) (f : Nat → Int64) : Nat → Int64 := fun d => if d < m then sumT kf gf (xf d) (yf d) else f d
theorem tS_0 (kf gf xf yf f : Nat → Int32) : f = tS kf gf xf yf (0 * 16) f := by funext q; simp [tS]
theorem tH_0 (kf gf xf yf : Nat → Int32) (f : Nat → Int64) : f = tH kf gf xf yf (0 * 16) f := by funext q; simp [tH]
theorem tW_0 (kf gf xf yf : Nat → Int32) (f : Nat → Int64) : f = tW kf gf xf yf (0 * 16) f := by funext q; simp [tW]
theorem tU_0 (kf gf xf yf : Nat → Int32) (f : Nat → Int64) : f = tU kf gf xf yf 0 f := by funext q; simp [tU]
theorem dm16 {i j : Nat} (hj : j < 16) : (i * 16 + j) / 16 = i ∧ (i * 16 + j) % 16 = j := by omega
theorem tS_s {kf gf xf yf f : Nat → Int32} {i j : Nat} (hj : j < 16) : upd (tS kf gf xf yf (i * 16 + j) f) (i * 16 + j) (rayT kf gf (xf i) (yf i) j).1 = tS kf gf xf yf (i * 16 + (j + 1)) f := by
  funext q
  by_cases h : q = i * 16 + j
  · subst h
    obtain ⟨a, b⟩ := dm16 (i := i) hj
    rw [pk_us]
    simp only [tS, a, b]
    rw [if_pos (by omega)]
  · rw [pk_un h]
    simp only [tS]
    by_cases h2 : q < i * 16 + j
    · rw [if_pos h2, if_pos (by omega)]
    · rw [if_neg h2, if_neg (by omega)]
theorem tH_s {kf gf xf yf : Nat → Int32} {f : Nat → Int64} {i j : Nat} (hj : j < 16) : vp_updL (tH kf gf xf yf (i * 16 + j) f) (i * 16 + j) (rayT kf gf (xf i) (yf i) j).2.1 = tH kf gf xf yf (i * 16 + (j + 1)) f := by
  funext q
  by_cases h : q = i * 16 + j
  · subst h
    obtain ⟨a, b⟩ := dm16 (i := i) hj
    rw [pk_uLs]
    simp only [tH, a, b]
    rw [if_pos (by omega)]
  · rw [pk_uLn h]
    simp only [tH]
    by_cases h2 : q < i * 16 + j
    · rw [if_pos h2, if_pos (by omega)]
    · rw [if_neg h2, if_neg (by omega)]
theorem tW_s {kf gf xf yf : Nat → Int32} {f : Nat → Int64} {i j : Nat} (hj : j < 16) : vp_updL (tW kf gf xf yf (i * 16 + j) f) (i * 16 + j) (rayT kf gf (xf i) (yf i) j).2.2 = tW kf gf xf yf (i * 16 + (j + 1)) f := by
  funext q
  by_cases h : q = i * 16 + j
  · subst h
    obtain ⟨a, b⟩ := dm16 (i := i) hj
    rw [pk_uLs]
    simp only [tW, a, b]
    rw [if_pos (by omega)]
  · rw [pk_uLn h]
    simp only [tW]
    by_cases h2 : q < i * 16 + j
    · rw [if_pos h2, if_pos (by omega)]
    · rw [if_neg h2, if_neg (by omega)]
theorem tU_s {kf gf xf yf : Nat → Int32} {f : Nat → Int64} {i : Nat} : vp_updL (tU kf gf xf yf i f) i (sumL (fun p => (rayT kf gf (xf i) (yf i) p).2.1) 16) = tU kf gf xf yf (i + 1) f := by
  funext q
  by_cases h : q = i
  · subst h
    rw [pk_uLs]
    simp only [tU]
    rw [if_pos (by omega)]
    rfl
  · rw [pk_uLn h]
    simp only [tU]
    by_cases h2 : q < i
    · rw [if_pos h2, if_pos (by omega)]
    · rw [if_neg h2, if_neg (by omega)]
theorem vp_in64 {c : Int32} (h0 : ¬ c < 0) (h1 : ¬ 64 ≤ c) : vp_in c 64 := by
  rw [vp_in_iff]
  have a := i32_of h0
  have b := i32_lt h1
  have e : (64 : Int32).toInt = 64 := by decide
  omega
theorem i64_ne {g : Int32} (h : ¬ g ≤ 0) : ¬ g.toInt64 = 0 := by
  intro q
  have q2 : g.toInt64.toInt = (0 : Int64).toInt := by rw [q]
  rw [Int32.toInt_toInt64] at q2
  rw [Int32.le_iff_toInt_le] at h
  have e0 : (0 : Int32).toInt = 0 := by decide
  have e1 : (0 : Int64).toInt = 0 := by decide
  omega
/-! a ray's share with some blinds down, as the class works it out -/
def unB (gf : Nat → Int32) (lw : Int64) (c : Int32) : Bool := !decide (c < 0) && !decide (64 ≤ c) && !decide (gf c.toNatClampNeg ≤ 0) && hbB lw c
def unStep (gf : Nat → Int32) (lw : Int64) (s : Int64) (c : Int32) : Int64 := if unB gf lw c then s / (gf c.toNatClampNeg).toInt64 else s
def unGo (gf : Nat → Int32) (lw : Int64) (sd : Int32) : Nat → Int32 → Int64 → Int64
  | 0, _, s => s
  | n + 1, c, s => unGo gf lw sd n (c + sd) (unStep gf lw s (c + sd))
def suV (gf xf yf sf : Nat → Int32) (hf wf : Nat → Int64) (lw : Int64) (d p : Nat) : Int64 :=
  if (wf (d * 16 + p) &&& lw) = 0 then hf (d * 16 + p) else unGo gf lw (stY p * 8 + stX p) ((sf (d * 16 + p)).toNatClampNeg - 1) (yf d * 8 + xf d) (hf (d * 16 + p))
theorem un_exit {S : Int32} {j K : Nat} (h8 : S.toInt ≤ 8) (hK : S.toNatClampNeg - 1 = K) (hj : j ≤ K) (c : S ≤ nI (j + 1)) : j = K := by
  have e : S.toNatClampNeg = S.toInt.toNat := rfl
  rw [Int32.le_iff_toInt_le, nI_toInt (by omega)] at c
  omega
theorem un_go {S : Int32} {j K : Nat} (h8 : S.toInt ≤ 8) (hK : S.toNatClampNeg - 1 = K) (hj : j ≤ K) (c : ¬ S ≤ nI (j + 1)) : j < K := by
  have e : S.toNatClampNeg = S.toInt.toNat := rfl
  rw [Int32.le_iff_toInt_le, nI_toInt (by omega)] at c
  omega
theorem un_K {S : Int32} (h8 : S.toInt ≤ 8) : S.toNatClampNeg - 1 ≤ 7 := by
  have e : S.toNatClampNeg = S.toInt.toNat := rfl
  omega
theorem un_s {gf : Nat → Int32} {lw : Int64} {sd c : Int32} {s : Int64} {j K : Nat} (hj : j < K) : unGo gf lw sd (K - j) c s = unGo gf lw sd (K - (j + 1)) (c + sd) (unStep gf lw s (c + sd)) := by
  obtain ⟨n, hn⟩ : ∃ n, K - j = n + 1 := ⟨K - j - 1, by omega⟩
  rw [hn, show K - (j + 1) = n by omega]
  rfl
def sumV (gf xf yf sf : Nat → Int32) (hf wf uf : Nat → Int64) (lw : Int64) (d : Nat) : Int64 := if lw = 0 then uf d else sumL (fun p => suV gf xf yf sf hf wf lw d p) 16
def wwL (hf wf : Nat → Int64) (le : Int32) (p : Nat) (sg : Int32) : Nat → Int64
  | 0 => 0
  | n + 1 => if sg.toInt64 * hf (n * 16 + p) < le.toInt64 * 2097152 then wwL hf wf le p sg n else wwL hf wf le p sg n ||| wf (n * 16 + p)
def nxV (hf wf : Nat → Int64) (gl ca : Int32) (p : Nat) (sg : Int32) (nd : Nat) (now : Int64) : Int64 := ((now ^^^ (-1)) &&& wwL hf wf gl p sg nd) ||| (now &&& wwL hf wf ca p sg nd)
/-- which blinds are down in front of hour h, all of them bits of 'al' -/
def loN (lo : Nat → Bool) (sg pf : Nat → Int32) (hf wf : Nat → Int64) (gl ca : Int32) (nd : Nat) (al : Int64) : Nat → Int64
  | 0 => 0
  | h + 1 => if lo h then loN lo sg pf hf wf gl ca nd al h else if sunB lo sg h then nxV hf wf gl ca (pf h).toNatClampNeg (sg h) nd (loN lo sg pf hf wf gl ca nd al h) &&& al else 0
def loA (lo : Nat → Bool) (sg pf : Nat → Int32) (hf wf : Nat → Int64) (gl ca : Int32) (nd : Nat) (al : Int64) (m : Nat) (f : Nat → Int64) : Nat → Int64 := fun h => if h < m then loN lo sg pf hf wf gl ca nd al (h + 1) else f h
theorem loA_0 (lo : Nat → Bool) (sg pf : Nat → Int32) (hf wf : Nat → Int64) (gl ca : Int32) (nd : Nat) (al : Int64) (f : Nat → Int64) : f = loA lo sg pf hf wf gl ca nd al 0 f := by funext q; simp [loA]
theorem loA_s {lo : Nat → Bool} {sg pf : Nat → Int32} {hf wf : Nat → Int64} {gl ca : Int32} {nd : Nat} {al : Int64} {f : Nat → Int64} {j : Nat} {v : Int64} (hv : v = loN lo sg pf hf wf gl ca nd al (j + 1)) : vp_updL (loA lo sg pf hf wf gl ca nd al j f) j v = loA lo sg pf hf wf gl ca nd al (j + 1) f := by
  subst hv
  funext q
  by_cases h : q = j
  · subst h
    rw [pk_uLs]
    simp only [loA]
    rw [if_pos (by omega)]
  · rw [pk_uLn h]
    simp only [loA]
    by_cases h2 : q < j
    · rw [if_pos h2, if_pos (by omega)]
    · rw [if_neg h2, if_neg (by omega)]
theorem nI_back {x : Int32} {n : Nat} (h : vp_in x n) (hn : n < 2 ^ 31) : x = nI x.toNatClampNeg ∧ x.toNatClampNeg < n := by
  obtain ⟨j, hj, rfl⟩ := vp_in_of h hn
  rw [nI_clamp (by omega)]
  exact ⟨rfl, hj⟩
