/-! part 43: states, and what an action is -/
/-- the state's numbers: v, shafts, ends, bars, the present bar, rows -/
abbrev QX : Type := (Nat → Int32) × Nat × Nat × Nat × Nat × Nat
def RQ (k : Nat) (σ : Nat → Nat → Int32) (x : QX) : Prop := RS σ 1 x.1 k x.2.1 x.2.2.1 x.2.2.2.1 x.2.2.2.2.1 x.2.2.2.2.2
def FQ (x : QX) : Prop := FW x.1 x.2.2.1 x.2.2.2.2.2
def HI (σ : Nat → Nat → Int32) : Prop := ∃ nx kp, nx < 5 ∧ kp ≤ 5 ∧ σ 29 1 = nI nx ∧ σ 29 2 = nI kp
def ST (k : Nat) (σ : Nat → Nat → Int32) (x : QX) : Prop := RQ k σ x ∧ FQ x ∧ HI σ ∧ σ 171 2 = 0
/-- the latest state kept in τ is σ's -/
def LT (τ σ : Nat → Nat → Int32) : Prop := ∃ nx kp, nx < 5 ∧ 1 ≤ kp ∧ kp ≤ 5 ∧ τ 29 1 = nI nx ∧ τ 29 2 = nI kp ∧ ∀ j i, lvp j i → τ (31 + 28 * ((nx + 4) % 5) + j) i = σ (1 + j) i
def AC (f : (Nat → Nat → Int32) → Option (Int32 × (Nat → Nat → Int32))) (k : Nat) (x : QX) (r : Int32) (x' : QX) : Prop := ∀ σ, ST k σ x → ∃ τ, f σ = some (r, τ) ∧ ST (k + 1) τ x' ∧ (0 ≤ r → LT τ σ)
def OK (f : (Nat → Nat → Int32) → Option (Int32 × (Nat → Nat → Int32))) (k : Nat) (x : QX) : Prop := ∃ r x', (r < 0 → x' = x) ∧ AC f k x r x'
def yQ (x : QX) : Int32 := yT x.1 x.2.2.1 x.2.2.2.2.2
def OKY (f : (Nat → Nat → Int32) → Option (Int32 × (Nat → Nat → Int32))) (k : Nat) (x : QX) : Prop := ∃ r x', (r < 0 → x' = x) ∧ AC f k x r x' ∧ yQ x' = yQ x
theorem OKY.ok {f : (Nat → Nat → Int32) → Option (Int32 × (Nat → Nat → Int32))} {k : Nat} {x : QX} (h : OKY f k x) : OK f k x := by
  obtain ⟨r, x', h1, h2, -⟩ := h
  exact ⟨r, x', h1, h2⟩
theorem RQ_up {k k' : Nat} {σ : Nat → Nat → Int32} {x : QX} (hk : k ≤ k') (h : RQ k σ x) : RQ k' σ x := RS_frame hk (fun _ _ _ => rfl) h
theorem ST_step {k : Nat} {σ : Nat → Nat → Int32} {x : QX} (h : ST k σ x) : ST (k + 1) σ x := ⟨RQ_up (Nat.le_succ k) h.1, h.2⟩
theorem ST_frame {k : Nat} {σ σ' : Nat → Nat → Int32} {x : QX} (e1 : ∀ a, a < 171 → σ' a = σ a) (e2 : σ' 171 2 = σ 171 2) (h : ST k σ x) : ST k σ' x := by
  obtain ⟨h1, h2, ⟨nx, kp, g1, g2, g3, g4⟩, h4⟩ := h
  exact ⟨RS_frame (Nat.le_refl k) (fun a _ q => e1 a (by omega)) h1, h2, ⟨nx, kp, g1, g2, by rw [e1 29 (by decide)]; exact g3, by rw [e1 29 (by decide)]; exact g4⟩, by rw [e2]; exact h4⟩
theorem keep_st {σ : Nat → Nat → Int32} (h : HI σ) : ∃ σ1, f_X3_keep σ = some σ1 ∧ (∀ a, a < 29 → σ1 a = σ a) ∧ (∀ a, 171 ≤ a → σ1 a = σ a) ∧ ∀ τ : Nat → Nat → Int32, (∀ a, 29 ≤ a → τ a = σ1 a) → HI τ ∧ LT τ σ := by
  obtain ⟨nx, kp, hn, hk, h1, h2⟩ := h
  obtain ⟨σ1, e1, e2, e3, e4, e5⟩ := keep_spec hn hk h1 h2
  obtain ⟨nx', hx1, hx2⟩ : ∃ y, y = (if nx = 4 then 0 else nx + 1) ∧ ((nx = 4 ∧ y = 0) ∨ (nx < 4 ∧ y = nx + 1)) := ⟨_, rfl, by split <;> omega⟩
  obtain ⟨kp', hy1, hy2⟩ : ∃ y, y = (if kp = 5 then 5 else kp + 1) ∧ ((kp = 5 ∧ y = 5) ∨ (kp < 5 ∧ y = kp + 1)) := ⟨_, rfl, by split <;> omega⟩
  rw [← hx1] at e4
  rw [← hy1] at e5
  have ea : (nx' + 4) % 5 = nx := by omega
  refine ⟨σ1, e1, fun a ha => e2 a (by omega) (by omega), fun a ha => e2 a (by omega) (by omega), fun τ ht => ⟨⟨nx', kp', by omega, by omega, by rw [ht 29 (by decide)]; exact e4, by rw [ht 29 (by decide)]; exact e5⟩, ⟨nx', kp', by omega, by omega, by omega, by rw [ht 29 (by decide)]; exact e4, by rw [ht 29 (by decide)]; exact e5, fun j i hj => ?_⟩⟩⟩
  rw [ea, ht _ (by omega)]
  exact e3 j i hj
theorem AC_no {f : (Nat → Nat → Int32) → Option (Int32 × (Nat → Nat → Int32))} {k : Nat} {x : QX} {r : Int32} (hr : r < 0) (H : ∀ σ, ST k σ x → f σ = some (r, σ)) : OKY f k x :=
  ⟨r, x, fun _ => rfl, fun σ h => ⟨σ, H σ h, ST_step h, fun q => absurd hr (Int32.not_lt.mpr q)⟩, rfl⟩
theorem AC_yes {f : (Nat → Nat → Int32) → Option (Int32 × (Nat → Nat → Int32))} {k : Nat} {x x' : QX} {r : Int32} (hr : ¬ r < 0) (hw : FQ x') (H : ∀ σ σ1, ST k σ x → f_X3_keep σ = some σ1 → (∀ a, a < 29 → σ1 a = σ a) → ∃ τ, f σ = some (r, τ) ∧ (∀ a, 29 ≤ a → τ a = σ1 a) ∧ RQ (k + 1) τ x') : (r < 0 → x' = x) ∧ AC f k x r x' := by
  refine ⟨fun q => absurd q hr, fun σ h => ?_⟩
  obtain ⟨σ1, e1, e2, e3, e4⟩ := keep_st h.2.2.1
  obtain ⟨τ, g1, g2, g3⟩ := H σ σ1 h e1 e2
  obtain ⟨i1, i2⟩ := e4 τ g2
  exact ⟨τ, g1, ⟨g3, hw, i1, by rw [g2 171 (by decide), e3 171 (by decide)]; exact h.2.2.2⟩, fun _ => i2⟩
theorem AC_ok {f : (Nat → Nat → Int32) → Option (Int32 × (Nat → Nat → Int32))} {k : Nat} {x x' : QX} {r : Int32} (h : (r < 0 → x' = x) ∧ AC f k x r x') : OK f k x := ⟨r, x', h⟩
theorem FW_c {v v' : Nat → Int32} {W N : Nat} (e : ∀ r, r + 1 < N → v' (139 + 5 * r) = v (139 + 5 * r)) (h : FW v W N) : FW v' W N := fun r hr => by rw [e r hr]; exact h r hr
/-- the undoing -/
theorem undo_at {k k' : Nat} {τ σ : Nat → Nat → Int32} {x : QX} (h : LT τ σ) (hT : τ 171 2 = 0) (hR : RQ k σ x) (hw : FQ x) (hk : k ≤ k') : ∃ r τ', f_X7_undo τ = some (r, τ') ∧ ¬ r < 0 ∧ ST k' τ' x := by
  obtain ⟨nx, kp, hn, hk1, hk5, h1, h2, h3⟩ := h
  obtain ⟨m, rfl⟩ : ∃ m, kp = m + 1 := ⟨kp - 1, by omega⟩
  obtain ⟨np, hnp⟩ : ∃ np, np = (nx + 4) % 5 := ⟨_, rfl⟩
  rw [← hnp] at h3
  have hv : (if nI nx ≤ 0 then (4 : Int32) else nI nx - 1) = nI np := by
    rcases Nat.eq_zero_or_pos nx with a | a
    · have b : np = 4 := by omega
      rw [a, b]; rfl
    · rw [if_neg (show ¬ nI nx ≤ 0 from nI_nle a (by omega)), show nI nx - 1 = nI (nx - 1) from nI_sub (b := 1) (by omega)]
      congr 1; omega
  obtain ⟨σ1, e1, e2, e3⟩ := st_copy (o := 1) (o2 := 31 + 28 * np) τ (by omega)
  have c29 : σ1 29 = τ 29 := e2 29 (by omega)
  refine ⟨nI m, wr (wr σ1 29 1 (nI np)) 29 2 (nI m), ?_, nI_pos (by omega), ?_, hw, ⟨np, m, by omega, by omega, ?_, ?_⟩, ?_⟩
  · rw [f_X7_undo, h2, if_neg (nI_ne0 (by omega) (by omega)), f_X3_restoreInto, h1, hv, vl_eq, ix_nI (by omega) (by decide), h2, if_neg (show ¬ nI (m + 1) ≤ 0 from nI_nle (by omega) (by omega)), nI_clamp (by omega), e1, bi_some, vl_eq, wr_atne (by decide), c29, h2, show nI (m + 1) - 1 = nI m from nI_sub (b := 1) (by omega), vl_eq, bi_some, wr_at]
  · refine RS_cong (fun j i hj => ?_) (fun _ _ => rfl) hk hR
    rw [wr_ne (by unfold lvp at hj; omega), wr_ne (by unfold lvp at hj; omega), e3 j i hj]
    exact h3 j i hj
  · rw [wr_atne (by decide), wr_at]
  · rw [wr_at]
  · rw [wr_ne (by decide), wr_ne (by decide), e2 171 (by omega)]
    exact hT
