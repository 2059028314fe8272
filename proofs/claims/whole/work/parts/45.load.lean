/-! part 45: load -/
theorem b2_b2 {α1 α2 β1 β2 γ : Type} (A : Option (α1 × α2)) (f : α1 → α2 → Option (β1 × β2)) (g : β1 → β2 → Option γ) : b2 (b2 A f) g = b2 A (fun x y => b2 (f x y) g) := by
  cases A with
  | none => rfl
  | some z => rfl
theorem start7 {σ : Nat → Nat → Int32} {S q6 : Nat} (h6 : σ 171 6 = nI q6) (L Y : Nat → Int32) : wr (wr (wr (wr (wr σ 171 4 (nI S)) 171 3 0) 171 5 0) 174 0 0) 174 1 0 = cM σ S 0 0 q6 0 L Y := by
  funext a
  by_cases h1 : a = 171
  · subst h1
    rw [wr_ne (by decide), wr_ne (by decide), wr_eq, wr_eq, wr_eq]
    funext i
    unfold upd cM
    rw [if_pos rfl]
    by_cases e5 : i = 5
    · subst e5; rfl
    by_cases e3 : i = 3
    · subst e3; rfl
    by_cases e4 : i = 4
    · subst e4; rfl
    by_cases e6 : i = 6
    · subst e6; exact h6
    rw [if_neg e5, if_neg e3, if_neg e4, if_neg e3, if_neg e4, if_neg e5, if_neg e6]
  by_cases h2 : a = 174
  · subst h2
    rw [wr_eq, wr_eq, wr_ne (by decide), wr_ne (by decide), wr_ne (by decide)]
    funext i
    unfold upd cM
    by_cases e1 : i = 1
    · subst e1; rfl
    by_cases e0 : i = 0
    · subst e0; rfl
    rw [if_neg e1, if_neg e0, if_neg (by decide), if_pos rfl, if_neg e0, if_neg e1]
  rw [wr_ne h2, wr_ne h2, wr_ne h1, wr_ne h1, wr_ne h1]
  unfold cM
  rw [if_neg h1, if_neg h2]
  by_cases h3 : a = 176
  · subst h3; rfl
  rw [if_neg h3]
  by_cases h4 : a = 178
  · subst h4; rfl
  rw [if_neg h4]
theorem start8 (τ : Nat → Nat → Int32) (L Y : Nat → Int32) : wr (wr τ 183 9 0) 183 10 0 = mM τ 0 0 L Y := by
  funext a
  by_cases h1 : a = 183
  · subst h1
    rw [wr_eq, wr_eq]
    funext i
    unfold upd mM
    by_cases e1 : i = 10
    · subst e1; rfl
    by_cases e0 : i = 9
    · subst e0; rfl
    rw [if_neg e1, if_neg e0, if_pos rfl, if_neg e1, if_neg e0]
  rw [wr_ne h1, wr_ne h1]
  unfold mM
  rw [if_neg h1]
  by_cases h3 : a = 188
  · subst h3; rfl
  rw [if_neg h3]
  by_cases h4 : a = 189
  · subst h4; rfl
  rw [if_neg h4]
theorem chain7 {σ : Nat → Nat → Int32} {S q6 : Nat} (h6 : σ 171 6 = nI q6) (L Y : Nat → Int32) : f_X1_readChain (nI S) σ = bi (lp b_X1_readChain_24 FU (0, cM σ S 0 0 q6 0 L Y)) finC := by
  rw [f_X1_readChain, vl_eq, vl_eq, vl_eq, f_X0_removeBars, vl_eq, vl_eq, bi_some, start7 h6 L Y]
  rfl
