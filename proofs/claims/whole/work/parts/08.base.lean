/-! ===== the environment that every contract carries ===== -/
abbrev gT : Type := va_G × (ClassId × ClassId × ClassId) × (Nat × Nat)
abbrev tyG (G : gT) : List (ClassId × FieldType) := [(G.2.1.1, .int), (G.2.1.2.1, .long), (G.2.1.2.2, .boolean)]
def b2i (b : Bool) : Int32 := if b then 1 else 0
def bu (f : Nat → Bool) (i : Nat) (b : Bool) : Nat → Bool := fun j => if j = i then b else f j
theorem b2i_z {b : Bool} (h : b2i b = 0) : b = false := by cases b <;> revert h <;> decide
theorem b2i_n {b : Bool} (h : ¬ b2i b = 0) : b = true := by cases b <;> revert h <;> decide
theorem b2i_t {b : Bool} (h : b = true) : b2i b = 1 := by subst h; rfl
theorem b2i_f {b : Bool} (h : b = false) : b2i b = 0 := by subst h; rfl
theorem b2i_nar (b : Bool) : narrow .boolean (.int (b2i b)) = .int (b2i b) := by cases b <;> rfl
theorem b2i_vnar (b : Bool) : vp_nar .boolean (b2i b) = b2i b := by cases b <;> rfl
abbrev eI (G : gT) (a n : Nat) (f : Nat → Int32) : Nat × va_E := (a, .inl (G.2.1.1, n, .inl f))
abbrev eJ (G : gT) (a n : Nat) (f : Nat → Int64) : Nat × va_E := (a, .inl (G.2.1.2.1, n, .inr (.inl f)))
abbrev eZ (G : gT) (a n : Nat) (f : Nat → Bool) : Nat × va_E := (a, .inl (G.2.1.2.2, n, .inl (fun j => b2i (f j))))
def stX (j : Nat) : Int32 := ([1, 2, 1, 1, 0, -1, -1, -2, -1, -2, -1, -1, 0, 1, 1, 2] : List Int32).getD j 0
def stY (j : Nat) : Int32 := ([0, 1, 1, 2, 1, 2, 1, 1, 0, -1, -1, -2, -1, -2, -1, -1] : List Int32).getD j 0
def EK (G : gT) (U : State) : Prop := va_K G.1 vwCl (tyG G) U ∧ NW U
theorem EK.warm {G : gT} {s U : State} (hW : s.WarmedH U.vm) (h : EK G s) : EK G U := ⟨va_K.moved hW.alike h.1, h.2.warm hW⟩
theorem EK.call {G : gT} {U : State} {g : JFrame} {mk : MethodId} {a : Array Value} (h : EK G U) : EK G (U.calling g mk a) := ⟨va_K.moved (u := U) (U := U.calling g mk a) (Vm.Alike.refl U.vm) h.1, NW.same (s := U) (U := U.calling g mk a) rfl h.2⟩
def ST (G : gT) (A : Nat → Prop) (U : State) (H : Heap) : Prop := va_Z "DayLight" "STEP_X" "[I" (.ref G.2.2.1) A U H ∧ va_Z "DayLight" "STEP_Y" "[I" (.ref G.2.2.2) A U H ∧ va_T .int G.2.2.1 16 (fun j => .int (stX j)) A U H ∧ va_T .int G.2.2.2 16 (fun j => .int (stY j)) A U H
theorem ST.moved {G : gT} {A : Nat → Prop} {u U : State} {H : Heap} (hvm : u.vm.Alike U.vm) (h : ST G A u H) : ST G A U H := ⟨h.1.moved hvm, h.2.1.moved hvm, h.2.2.1.moved hvm, h.2.2.2.moved hvm⟩
theorem ST.kept {G : gT} {A : Nat → Prop} {U : State} {H H1 : Heap} (h : ST G A U H) (hq : ∀ a : Nat, a < H.size → ¬ A a → H1[a]? = H[a]?) : ST G A U H1 := ⟨h.1.kept hq, h.2.1.kept hq, h.2.2.1.kept hq, h.2.2.2.kept hq⟩
theorem ST.narrow {G : gT} {A B : Nat → Prop} {U : State} {H : Heap} (h : ST G A U H) (hq : ∀ q, B q → A q) : ST G B U H := ⟨h.1.narrow hq, h.2.1.narrow hq, h.2.2.1.narrow hq, h.2.2.2.narrow hq⟩
theorem ST.call {G : gT} {A : Nat → Prop} {U : State} {H : Heap} {g : JFrame} {mk : MethodId} {a : Array Value} (h : ST G A U H) : ST G A (U.calling g mk a) H := h.moved (u := U) (U := U.calling g mk a) (Vm.Alike.refl U.vm)
/-- what a method that writes nothing asks -/
def roB (G : gT) (ws : va_W) (U : State) : Prop := va_P G.1 vwCl ws U.heap ∧ EK G U ∧ ST G (fun _ => False) U U.heap
/-- what a method that writes asks, and what it leaves -/
def rwB (G : gT) (ws : va_W) (sz : Nat) (U : State) : Prop := U.heap.size = sz ∧ va_P G.1 vwCl ws U.heap ∧ EK G U ∧ va_D (fun _ => True) ws ∧ ST G (va_A ws sz) U U.heap
def wdB (G : gT) (A : Nat → Prop) (ws : va_W) (t : State) : Prop := va_P G.1 vwCl ws t.heap ∧ va_D A ws
theorem pu_blind {av : List Value} : FrameBlind (va_Pc av (fun _ => True)) := fun _ _ _ _ h => h
theorem ro_blind {G : gT} {ws : va_W} {av : List Value} : FrameBlind (va_Pc av (roB G ws)) := fun _ _ _ _ h => ⟨h.1, h.2.1, h.2.2.1.call, h.2.2.2.call⟩
theorem rw_blind {G : gT} {ws : va_W} {sz : Nat} {av : List Value} : FrameBlind (va_Pc av (rwB G ws sz)) := fun _ _ _ _ h => ⟨h.1, h.2.1, h.2.2.1, h.2.2.2.1.call, h.2.2.2.2.1, h.2.2.2.2.2.call⟩
theorem pu_pre {av : List Value} {s : State} {H : Heap} : ∀ U : State, U.heap = H → s.WarmedH U.vm → va_Pc av (fun _ => True) av.toArray U := fun _ _ _ => ⟨rfl, trivial⟩
theorem ro_pre {G : gT} {wc : va_W} {av : List Value} {A : Nat → Prop} {s : State} {H : Heap} {locs : List Loc} (hP : va_P G.1 vwCl wc H) (hS : va_S A s.heap H locs) (hE : EK G s) (hT : ST G A s s.heap) : ∀ U : State, U.heap = H → s.WarmedH U.vm → va_Pc av (roB G wc) av.toArray U :=
  fun U hU hW => ⟨rfl, by rw [hU]; exact hP, hE.warm hW, by rw [hU]; exact ((hT.kept hS.2.1).narrow (fun _ h => h.elim)).moved hW.alike⟩
theorem rw_pre {G : gT} {wc : va_W} {av : List Value} {A : Nat → Prop} {s : State} {H : Heap} {locs : List Loc} (hP : va_P G.1 vwCl wc H) (hD : va_D A wc) (hF : ∀ q, va_A wc H.size q → A q) (hS : va_S A s.heap H locs) (hE : EK G s) (hT : ST G A s s.heap) : ∀ U : State, U.heap = H → s.WarmedH U.vm → va_Pc av (rwB G wc H.size) av.toArray U :=
  fun U hU hW => ⟨rfl, by rw [hU], by rw [hU]; exact hP, hE.warm hW, hD.weaken (fun _ _ _ _ => trivial), by rw [hU]; exact ((hT.kept hS.2.1).narrow hF).moved hW.alike⟩
section CAW
variable {p : Program} {l : Launch} {e : Env} {R : Room} {s : State} {m : MethodId} {args : Array Value} {below : List Frame} {meth : Method} {c : Code} {H : Heap} {locs : List Loc} {cells slots : Nat} {Q : State → Prop} {pc : Nat} {ls : Array Slot} {rest st0 : List Value} {a : Array Value} {G : gT} {A : Nat → Prop} {H0 : Heap}
theorem ca_Si {val : Int32} (hr : va_Run p l e R s m args below meth c H locs cells slots 0 0 (F0 m pc ls st0) rest (vp_Si (fun r => r = val) a) (fun _ => False)) (kk : W p l e R s m args below meth c H locs cells slots Q (F0 m (pc + 3) ls (.int val :: rest))) : W p l e R s m args below meth c H locs cells slots Q (F0 m pc ls st0) :=
  vp_callSi hr.run (fun _ h => h ▸ kk)
theorem ca_Sl {val : Int64} (hr : va_Run p l e R s m args below meth c H locs cells slots 0 0 (F0 m pc ls st0) rest (vp_Sl (fun r => r = val) a) (fun _ => False)) (kk : W p l e R s m args below meth c H locs cells slots Q (F0 m (pc + 3) ls (.long val :: rest))) : W p l e R s m args below meth c H locs cells slots Q (F0 m pc ls st0) :=
  vp_callSl hr.run (fun _ h => h ▸ kk)
theorem ca_Qi {S : Type} {post : Int32 → S → Prop} {w1 : S → va_W} {ws wc wr : va_W} (hr : va_Run p l e R s m args below meth c H locs cells slots 0 0 (F0 m pc ls st0) rest (va_Qi post (fun u => wdB G (va_A wc H.size) (w1 u)) (va_A wc H.size) a) (va_A wc H.size)) (hP : va_P G.1 vwCl ws H) (hD : va_D A ws) (hS : va_S A H0 H locs) (hA : ∀ q, H0.size ≤ q → A q) (isC isR : List Nat) (hC : isC.map (fun i => ws[i]?) = wc.map some) (hR : isR.map (fun i => ws[i]?) = wr.map some) (hn : va_nd isR = true) (hdis : ∀ i ∈ isR, i ∉ isC)
    (kk : ∀ (r : Int32) (u : S) (H1 : Heap) (locs1 : List Loc), post r u → va_P G.1 vwCl (wr ++ w1 u) H1 → va_D A (wr ++ w1 u) → va_S A H0 H1 locs1 → W p l e R s m args below meth c H1 locs1 cells slots Q (F0 m (pc + 3) ls (.int r :: rest))) : W p l e R s m args below meth c H locs cells slots Q (F0 m pc ls st0) := by
  have hF := va_free hD hS hA isC hC
  refine va_calli hr hS (fun q _ h => hF q h) hF (fun r u t H1 locs1 ht hvm hp hB hz hk hS1 => ?_)
  obtain ⟨hP1, hD1⟩ := hB
  rw [ht] at hP1
  obtain ⟨hP2, hD2⟩ := va_join hP hD isC isR hC hR hn hdis hk hF hP1 hD1
  exact kk r u H1 locs1 hp hP2 hD2 hS1
theorem ca_Ql {S : Type} {post : Int64 → S → Prop} {w1 : S → va_W} {ws wc wr : va_W} (hr : va_Run p l e R s m args below meth c H locs cells slots 0 0 (F0 m pc ls st0) rest (va_Ql post (fun u => wdB G (va_A wc H.size) (w1 u)) (va_A wc H.size) a) (va_A wc H.size)) (hP : va_P G.1 vwCl ws H) (hD : va_D A ws) (hS : va_S A H0 H locs) (hA : ∀ q, H0.size ≤ q → A q) (isC isR : List Nat) (hC : isC.map (fun i => ws[i]?) = wc.map some) (hR : isR.map (fun i => ws[i]?) = wr.map some) (hn : va_nd isR = true) (hdis : ∀ i ∈ isR, i ∉ isC)
    (kk : ∀ (r : Int64) (u : S) (H1 : Heap) (locs1 : List Loc), post r u → va_P G.1 vwCl (wr ++ w1 u) H1 → va_D A (wr ++ w1 u) → va_S A H0 H1 locs1 → W p l e R s m args below meth c H1 locs1 cells slots Q (F0 m (pc + 3) ls (.long r :: rest))) : W p l e R s m args below meth c H locs cells slots Q (F0 m pc ls st0) := by
  have hF := va_free hD hS hA isC hC
  refine va_calll hr hS (fun q _ h => hF q h) hF (fun r u t H1 locs1 ht hvm hp hB hz hk hS1 => ?_)
  obtain ⟨hP1, hD1⟩ := hB
  rw [ht] at hP1
  obtain ⟨hP2, hD2⟩ := va_join hP hD isC isR hC hR hn hdis hk hF hP1 hD1
  exact kk r u H1 locs1 hp hP2 hD2 hS1
theorem ca_Qv {S : Type} {post : S → Prop} {w1 : S → va_W} {ws wc wr : va_W} {mc ms : Nat} (hr : va_Run p l e R s m args below meth c H locs cells slots mc ms (F0 m pc ls st0) rest (va_Qv post (fun u => wdB G (va_A wc H.size) (w1 u)) (va_A wc H.size) a) (va_A wc H.size)) (hP : va_P G.1 vwCl ws H) (hD : va_D A ws) (hS : va_S A H0 H locs) (hA : ∀ q, H0.size ≤ q → A q) (isC isR : List Nat) (hC : isC.map (fun i => ws[i]?) = wc.map some) (hR : isR.map (fun i => ws[i]?) = wr.map some) (hn : va_nd isR = true) (hdis : ∀ i ∈ isR, i ∉ isC)
    (kk : ∀ (u : S) (H1 : Heap) (locs1 : List Loc), post u → va_P G.1 vwCl (wr ++ w1 u) H1 → va_D A (wr ++ w1 u) → va_S A H0 H1 locs1 → W p l e R s m args below meth c H1 locs1 (cells + mc) (slots + ms) Q (F0 m (pc + 3) ls rest)) : W p l e R s m args below meth c H locs cells slots Q (F0 m pc ls st0) := by
  have hF := va_free hD hS hA isC hC
  refine va_callv hr hS (fun q _ h => hF q h) hF (fun u t H1 locs1 ht hvm hp hB hz hk hS1 => ?_)
  obtain ⟨hP1, hD1⟩ := hB
  rw [ht] at hP1
  obtain ⟨hP2, hD2⟩ := va_join hP hD isC isR hC hR hn hdis hk hF hP1 hD1
  exact kk u H1 locs1 hp hP2 hD2 hS1
variable {cc : ByteArray} {ws : va_W} {ad n : Nat}
theorem ri_ald (hx : p.tables.exec = Jvm.exec) (hb : c.code = cc) (hE : EK G s) (hP : va_P G.1 vwCl ws H) (q0 : Nat) {f : Nat → Int32} (ha : ws[q0]? = some (eI G ad n f)) {i : Int32} {j : Nat} (hi : i.toNatClampNeg = j) (hin : vp_in i n) (hdg : decode cc pc = .ok (.iaload, 1)) (kk : W p l e R s m args below meth c H locs cells slots Q (F0 m (pc + 1) ls (.int (f j) :: rest))) : W p l e R s m args below meth c H locs cells slots Q (F0 m pc ls (.int i :: .ref ad :: rest)) := by
  subst hi
  exact va_iald hx hb hE.1 hP q0 0 ha rfl hin hdg kk
theorem rj_ald (hx : p.tables.exec = Jvm.exec) (hb : c.code = cc) (hE : EK G s) (hP : va_P G.1 vwCl ws H) (q0 : Nat) {f : Nat → Int64} (ha : ws[q0]? = some (eJ G ad n f)) {i : Int32} {j : Nat} (hi : i.toNatClampNeg = j) (hin : vp_in i n) (hdg : decode cc pc = .ok (.laload, 1)) (kk : W p l e R s m args below meth c H locs cells slots Q (F0 m (pc + 1) ls (.long (f j) :: rest))) : W p l e R s m args below meth c H locs cells slots Q (F0 m pc ls (.int i :: .ref ad :: rest)) := by
  subst hi
  exact va_lald hx hb hE.1 hP q0 1 ha rfl hin hdg kk
theorem rz_ald (hx : p.tables.exec = Jvm.exec) (hb : c.code = cc) (hE : EK G s) (hP : va_P G.1 vwCl ws H) (q0 : Nat) {f : Nat → Bool} (ha : ws[q0]? = some (eZ G ad n f)) {i : Int32} {j : Nat} (hi : i.toNatClampNeg = j) (hin : vp_in i n) (hdg : decode cc pc = .ok (.baload, 1)) (kk : W p l e R s m args below meth c H locs cells slots Q (F0 m (pc + 1) ls (.int (b2i (f j)) :: rest))) : W p l e R s m args below meth c H locs cells slots Q (F0 m pc ls (.int i :: .ref ad :: rest)) := by
  subst hi
  exact va_zald hx hb hE.1 hP q0 2 ha rfl hin hdg kk
theorem ri_ast (hx : p.tables.exec = Jvm.exec) (hb : c.code = cc) (hE : EK G s) (hP : va_P G.1 vwCl ws H) (hD : va_D A ws) (hS : va_S A H0 H locs) (q0 : Nat) {f : Nat → Int32} (ha : ws[q0]? = some (eI G ad n f)) {i x : Int32} {j : Nat} (hi : i.toNatClampNeg = j) (hin : vp_in i n) (hdg : decode cc pc = .ok (.iastore, 1)) (kk : ∀ (H1 : Heap) (locs1 : List Loc), va_P G.1 vwCl (ws.set q0 (eI G ad n (upd f j x))) H1 → va_D A (ws.set q0 (eI G ad n (upd f j x))) → va_S A H0 H1 locs1 → W p l e R s m args below meth c H1 locs1 cells slots Q (F0 m (pc + 1) ls rest)) : W p l e R s m args below meth c H locs cells slots Q (F0 m pc ls (.int x :: .int i :: .ref ad :: rest)) := by
  subst hi
  exact va_iast hx hb hE.1 hP hD hS q0 0 ha rfl hin hdg kk
theorem rj_ast (hx : p.tables.exec = Jvm.exec) (hb : c.code = cc) (hE : EK G s) (hP : va_P G.1 vwCl ws H) (hD : va_D A ws) (hS : va_S A H0 H locs) (q0 : Nat) {f : Nat → Int64} (ha : ws[q0]? = some (eJ G ad n f)) {i : Int32} {x : Int64} {j : Nat} (hi : i.toNatClampNeg = j) (hin : vp_in i n) (hdg : decode cc pc = .ok (.lastore, 1)) (kk : ∀ (H1 : Heap) (locs1 : List Loc), va_P G.1 vwCl (ws.set q0 (eJ G ad n (vp_updL f j x))) H1 → va_D A (ws.set q0 (eJ G ad n (vp_updL f j x))) → va_S A H0 H1 locs1 → W p l e R s m args below meth c H1 locs1 cells slots Q (F0 m (pc + 1) ls rest)) : W p l e R s m args below meth c H locs cells slots Q (F0 m pc ls (.long x :: .int i :: .ref ad :: rest)) := by
  subst hi
  exact va_last hx hb hE.1 hP hD hS q0 1 ha rfl hin hdg kk
theorem upd_b2i (f : Nat → Bool) (j : Nat) (b : Bool) : upd (fun k => b2i (f k)) j (b2i b) = fun k => b2i (bu f j b k) := by
  funext k
  by_cases h : k = j
  · subst h; simp [upd, bu]
  · simp [upd, bu, h]
theorem rz_ast (hx : p.tables.exec = Jvm.exec) (hb : c.code = cc) (hE : EK G s) (hP : va_P G.1 vwCl ws H) (hD : va_D A ws) (hS : va_S A H0 H locs) (q0 : Nat) {f : Nat → Bool} (ha : ws[q0]? = some (eZ G ad n f)) {i x : Int32} {j : Nat} (hi : i.toNatClampNeg = j) {b : Bool} (hxb : x = b2i b) (hin : vp_in i n) (hdg : decode cc pc = .ok (.bastore, 1)) (kk : ∀ (H1 : Heap) (locs1 : List Loc), va_P G.1 vwCl (ws.set q0 (eZ G ad n (bu f j b))) H1 → va_D A (ws.set q0 (eZ G ad n (bu f j b))) → va_S A H0 H1 locs1 → W p l e R s m args below meth c H1 locs1 cells slots Q (F0 m (pc + 1) ls rest)) : W p l e R s m args below meth c H locs cells slots Q (F0 m pc ls (.int x :: .int i :: .ref ad :: rest)) := by
  subst hi
  subst hxb
  refine va_zast hx hb hE.1 hP hD hS q0 2 ha rfl hin hdg (fun H1 locs1 h1 h2 h3 => kk H1 locs1 ?_ ?_ h3)
  · rw [b2i_vnar, upd_b2i] at h1; exact h1
  · rw [b2i_vnar, upd_b2i] at h2; exact h2
theorem r_newa (hx : p.tables.exec = Jvm.exec) (hb : c.code = cc) {atype : ArrayType} (harr : (Cond.arrayClass (newarray.typeOf atype)).before args s = true) {ty : FieldType} (hty : newarray.typeOf atype = ty) (t0 : Nat) {cA : ClassId} (ht : (tyG G)[t0]? = some (cA, ty)) (hob : ∀ C : String, ty ≠ .object C) (hE : EK G s) (hP : va_P G.1 vwCl ws H) (hD : va_D A ws) (hS : va_S A H0 H locs) (hA : ∀ q, H0.size ≤ q → A q) {k : Int32} {N' : Nat} {a0 : vp_A} (ha : ∀ cA : ClassId, vp_cell cA a0 = arrV cA N' (fun _ => defaultValue ty)) (hn : ¬ k < 0) (hN : k.toNatClampNeg = N') (hbytes : N' * componentBytes ty ≤ 536870912) (hcells : cells + 1 ≤ R.cells) (hslots : slots + N' ≤ R.slots) (hdg : decode cc pc = .ok (.newarray atype, 2))
    (kk : ∀ (q : Nat) (H1 : Heap), va_P G.1 vwCl (ws ++ [(q, .inl (cA, a0))]) H1 → va_D A (ws ++ [(q, .inl (cA, a0))]) → va_S A H0 H1 locs → W p l e R s m args below meth c H1 locs (cells + 1) (slots + N') Q (F0 m (pc + 2) ls (.ref q :: rest))) : W p l e R s m args below meth c H locs cells slots Q (F0 m pc ls (.int k :: rest)) := by
  refine va_newa hx hb harr hty hE.1 hP hD hS hA ha hn hN hbytes hcells hslots hdg (fun q cB H1 hK h1 h2 h3 => ?_)
  have e1 := (hE.1.2 t0 _ ht).2
  have e2 := (hK.2 3 (cB, ty) rfl).2
  have e : cB = cA := by
    cases ty with
    | object C => exact absurd rfl (hob C)
    | _ => exact Option.some.inj (e2.symm.trans e1)
  subst e
  exact kk q H1 h1 h2 h3
end CAW
theorem lcons {α : Type} {a b : α} {l l' : List α} (h : a = b) (hl : l = l') : a :: l = b :: l' := by rw [h, hl]
theorem lv_cast {ls : Array Slot} {n : Nat} {l l' : List (Nat × Value)} (h : lv_has ls n l) (e : l = l') : lv_has ls n l' := e ▸ h
theorem va_castP {D : va_G} {cl : List vw_C} {ws ws' : va_W} {H : Heap} (h : va_P D cl ws H) (e : ws = ws') : va_P D cl ws' H := e ▸ h
theorem va_castD {A : Nat → Prop} {ws ws' : va_W} (h : va_D A ws) (e : ws = ws') : va_D A ws' := e ▸ h
