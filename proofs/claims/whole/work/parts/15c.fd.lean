theorem fd_go {EN : Nat → Nat} {pr cf kf : Nat → Int32} {no : Nat} {bud : Int32} {c : Nat} (h : ¬ bud < coL pr c no) (h2 : icB kf cf c no = true) : fdS EN pr cf kf no bud (c + 1) = if wgB (fdS EN pr cf kf no bud c).2.2 (fdS EN pr cf kf no bud c).2.1 (coL pr c no) (nI (EN c)) then (nI c, coL pr c no, nI (EN c)) else fdS EN pr cf kf no bud c := by
  rw [fdS, if_pos (by simp [h, h2])]
theorem fd_st {EN : Nat → Nat} {pr cf kf : Nat → Int32} {no : Nat} {bud : Int32} {c : Nat} (h : bud < coL pr c no ∨ icB kf cf c no = false) : fdS EN pr cf kf no bud (c + 1) = fdS EN pr cf kf no bud c := by
  rw [fdS, if_neg]
  rcases h with h | h <;> simp [h]
theorem ite_p {α β : Type} (c : Bool) (a b : α) (f : α → β) : (if c then f a else f b) = f (if c then a else b) := by cases c <;> rfl
theorem fd_1 {EN : Nat → Nat} {pr cf kf : Nat → Int32} {no : Nat} {bud : Int32} {c : Nat} (h : ¬ bud < coL pr c no) (h2 : icB kf cf c no = true) : (if wgB (fdS EN pr cf kf no bud c).2.2 (fdS EN pr cf kf no bud c).2.1 (coL pr c no) (nI (EN c)) then nI c else (fdS EN pr cf kf no bud c).1) = (fdS EN pr cf kf no bud (c + 1)).1 := by
  rw [fd_go h h2]; exact ite_p _ (nI c, coL pr c no, nI (EN c)) (fdS EN pr cf kf no bud c) (fun z => z.1)
theorem fd_2 {EN : Nat → Nat} {pr cf kf : Nat → Int32} {no : Nat} {bud : Int32} {c : Nat} (h : ¬ bud < coL pr c no) (h2 : icB kf cf c no = true) : (if wgB (fdS EN pr cf kf no bud c).2.2 (fdS EN pr cf kf no bud c).2.1 (coL pr c no) (nI (EN c)) then coL pr c no else (fdS EN pr cf kf no bud c).2.1) = (fdS EN pr cf kf no bud (c + 1)).2.1 := by
  rw [fd_go h h2]; exact ite_p _ (nI c, coL pr c no, nI (EN c)) (fdS EN pr cf kf no bud c) (fun z => z.2.1)
theorem fd_3 {EN : Nat → Nat} {pr cf kf : Nat → Int32} {no : Nat} {bud : Int32} {c : Nat} (h : ¬ bud < coL pr c no) (h2 : icB kf cf c no = true) : (if wgB (fdS EN pr cf kf no bud c).2.2 (fdS EN pr cf kf no bud c).2.1 (coL pr c no) (nI (EN c)) then nI (EN c) else (fdS EN pr cf kf no bud c).2.2) = (fdS EN pr cf kf no bud (c + 1)).2.2 := by
  rw [fd_go h h2]; exact ite_p _ (nI c, coL pr c no, nI (EN c)) (fdS EN pr cf kf no bud c) (fun z => z.2.2)
