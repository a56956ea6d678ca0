theorem wk_w {kf : Nat → Int32} {dx dy x0 y0 x y : Int32} {j : Nat} {tp : List Int32} (h : wkI kf dx dy x0 y0 true x y j tp) (hj : j < 8) (c : cellB x y = true) (h1 : sdB kf x y dx dy = false) (h2 : wallB kf (x + dx) (y + dy) = false) (c2 : cellB (x + dx) (y + dy) = true) (hk : kf (cn (x + dx) (y + dy)) = 2) : wkI kf dx dy x0 y0 true (x + dx) (y + dy) (j + 1) (tp ++ [(y + dy) * 8 + (x + dx)]) := by
  have := wk_s h hj c (by rw [shut_sd, h1, h2]; rfl)
  rw [show winB kf (x + dx) (y + dy) = true from by simp [winB, c2, hk], if_pos rfl] at this
  exact this
theorem wk_f {kf : Nat → Int32} {dx dy x0 y0 x y : Int32} {j : Nat} {tp : List Int32} (h : wkI kf dx dy x0 y0 true x y j tp) (hj : j < 8) (c : cellB x y = true) (h1 : sdB kf x y dx dy = false) (h2 : wallB kf (x + dx) (y + dy) = false) (hw : winB kf (x + dx) (y + dy) = false) : wkI kf dx dy x0 y0 true (x + dx) (y + dy) (j + 1) tp := by
  have := wk_s h hj c (by rw [shut_sd, h1, h2]; rfl)
  rw [hw, if_neg (by decide), List.append_nil] at this
  exact this
theorem wk_x {kf : Nat → Int32} {dx dy x0 y0 x y : Int32} {j : Nat} {tp : List Int32} (h : wkI kf dx dy x0 y0 true x y j tp) (c : cellB x y = true) (h1 : sdB kf x y dx dy = true ∨ wallB kf (x + dx) (y + dy) = true) {x2 y2 : Int32} {j2 : Nat} {t2 : List Int32} : wkI kf dx dy x0 y0 false x2 y2 j2 t2 :=
  wk_no h c (by rw [shut_sd]; rcases h1 with h1 | h1 <;> rw [h1] <;> simp)
theorem win_k {kf : Nat → Int32} {x y : Int32} (h : ¬ kf (cn x y) = 2) : winB kf x y = false := by simp [winB, h]
theorem len_s {tp : List Int32} {j : Nat} {c : Int32} (h : tp.length ≤ j) : (tp ++ [c]).length ≤ j + 1 := by rw [List.length_append, List.length_singleton]; omega
theorem shV_n {kf gf : Nat → Int32} {D : Nat → Bool} {x y : Int32} {p : Nat} (h : (rayR kf (stX p) (stY p) 8 x y).isSome = false) : (0 : Int64) = shV kf gf D x y p := by
  unfold shV
  cases e : rayR kf (stX p) (stY p) 8 x y with
  | none => rfl
  | some q => rw [e] at h; cases h
theorem hasW_n {o : Option (Nat × List Int32)} (h : o.isSome = false) (c : Int32) : hasW o c = false := by
  cases o with
  | none => rfl
  | some q => cases h
