/-! part 47: the law's own helpers -/
def lwv (a n : Int32) : Int32 := (a &&& 2147483647) - (a &&& 2147483647) / n * n
theorem low_at (a n : Int32) (h : ¬ n = 0) (σ : Nat → Nat → Int32) : f_L_low a n σ = some (lwv a n) := by
  rw [f_L_low, nz_ok h]
  rfl
theorem low_rng (a : Int32) {n : Nat} (h0 : 0 < n) (hn : n < 2 ^ 31) (σ : Nat → Nat → Int32) : ∃ x, x < n ∧ f_L_low a (nI n) σ = some (nI x) := by
  obtain ⟨m, hm, rfl⟩ := x_nI a
  have e : nI m &&& 2147483647 = nI (m % 2 ^ 31) := by
    rw [show (2147483647 : Int32) = nI (2 ^ 31 - 1) by decide +kernel, nI_and, Nat.and_two_pow_sub_one_eq_mod]
  refine ⟨m % 2 ^ 31 % n, Nat.mod_lt _ h0, ?_⟩
  rw [low_at _ _ (nI_ne0 h0 hn)]
  unfold lwv
  rw [e, nI_rem (Nat.mod_lt _ (by decide)) hn]
theorem b2_id {α β : Type} (a : Option (α × β)) : (b2 a fun x y => some (x, y)) = a := by
  cases a <;> rfl
theorem cell_ex {xs : Nat → Int32} {L j : Nat} (hL : L ≤ 260) (hj : j < 2 ^ 31) : ∃ z, f_L_cell xs L (nI j) = some z := by
  rw [f_L_cell]
  by_cases q : Int32.ofNat L ≤ nI j
  · rw [if_pos q]
    exact ⟨_, rfl⟩
  · have hjL : j < L := by
      refine Classical.byContradiction fun z => q ?_
      exact nI_le (a := L) (b := j) (by omega) hj
    rw [if_neg q, ix_nI hjL (by omega)]
    exact ⟨_, rfl⟩
theorem ST_mono {k k' : Nat} {σ : Nat → Nat → Int32} {x : QX} (hk : k ≤ k') (h : ST k σ x) : ST k' σ x := ⟨RQ_up hk h.1, h.2⟩
theorem OK.oa {f : (Nat → Nat → Int32) → Option (Int32 × (Nat → Nat → Int32))} {k : Nat} {x : QX} {C : Prop} (h : OK f k x) (hC : ¬ C) : ∃ r x', (r < 0 → x' = x) ∧ AC f k x r x' ∧ (C → yQ x' = yQ x) := by
  obtain ⟨r, x', h1, h2⟩ := h
  exact ⟨r, x', h1, h2, fun c => absurd c hC⟩
theorem OKY.oa {f : (Nat → Nat → Int32) → Option (Int32 × (Nat → Nat → Int32))} {k : Nat} {x : QX} {C : Prop} (h : OKY f k x) : ∃ r x', (r < 0 → x' = x) ∧ AC f k x r x' ∧ (C → yQ x' = yQ x) := by
  obtain ⟨r, x', h1, h2, h3⟩ := h
  exact ⟨r, x', h1, h2, fun _ => h3⟩
theorem act_ok (y : Int32) {k : Nat} {σ0 : Nat → Nat → Int32} {x : QX} (hk : k < 512) (h0 : ST k σ0 x) : ∃ r x', (r < 0 → x' = x) ∧ AC (f_L_act y) k x r x' ∧ ((11 < (y &&& 15) ∨ (y &&& 15) = 9 ∨ (y &&& 15) = 10) → yQ x' = yQ x) := by
  obtain ⟨v, S, W, B, P, N⟩ := x
  by_cases q0 : (y &&& 15) = 0
  · have e : f_L_act y = f_X7_setEnd (lwv (y >>> (4 &&& 31)) 9) (lwv (y >>> (7 &&& 31)) 5) (lwv (y >>> (3 &&& 31)) 11) := funext fun σ => by rw [f_L_act, vl_eq, if_pos q0, low_at _ _ (by decide), bi_some, low_at _ _ (by decide), bi_some, low_at _ _ (by decide), bi_some, b2_id]
    rw [e]
    exact (o_end _ _ _ h0).oa (by rw [q0]; decide)
  by_cases q1 : (y &&& 15) = 1
  · have e : f_L_act y = f_X7_setFault (lwv (y >>> (4 &&& 31)) 5) (lwv (y >>> (7 &&& 31)) 4) := funext fun σ => by rw [f_L_act, vl_eq, if_neg q0, if_pos q1, low_at _ _ (by decide), bi_some, low_at _ _ (by decide), bi_some, b2_id]
    rw [e]
    exact (o_fault _ _ h0).oa (by rw [q1]; decide)
  by_cases q2 : (y &&& 15) = 2
  · have e : f_L_act y = f_X7_addBar (lwv (y >>> (4 &&& 31)) 17) (lwv (y >>> (8 &&& 31)) 4) := funext fun σ => by rw [f_L_act, vl_eq, if_neg q0, if_neg q1, if_pos q2, low_at _ _ (by decide), bi_some, low_at _ _ (by decide), bi_some, b2_id]
    rw [e]
    exact (o_add _ _ h0).oa (by rw [q2]; decide)
  by_cases q3 : (y &&& 15) = 3
  · have e : f_L_act y = f_X7_addBar (lwv (y >>> (4 &&& 31)) 17) (lwv (y >>> (8 &&& 31)) 4) := funext fun σ => by rw [f_L_act, vl_eq, if_neg q0, if_neg q1, if_neg q2, if_pos q3, low_at _ _ (by decide), bi_some, low_at _ _ (by decide), bi_some, b2_id]
    rw [e]
    exact (o_add _ _ h0).oa (by rw [q3]; decide)
  by_cases q4 : (y &&& 15) = 4
  · have e : f_L_act y = f_X7_addBar (lwv (y >>> (4 &&& 31)) 17) (lwv (y >>> (8 &&& 31)) 4) := funext fun σ => by rw [f_L_act, vl_eq, if_neg q0, if_neg q1, if_neg q2, if_neg q3, if_pos q4, low_at _ _ (by decide), bi_some, low_at _ _ (by decide), bi_some, b2_id]
    rw [e]
    exact (o_add _ _ h0).oa (by rw [q4]; decide)
  by_cases q5 : (y &&& 15) = 5
  · have e : f_L_act y = f_X7_setBar (lwv (y >>> (4 &&& 31)) 4) (lwv (y >>> (6 &&& 31)) 16) (lwv (y >>> (3 &&& 31)) 4) := funext fun σ => by rw [f_L_act, vl_eq, if_neg q0, if_neg q1, if_neg q2, if_neg q3, if_neg q4, if_pos q5, low_at _ _ (by decide), bi_some, low_at _ _ (by decide), bi_some, low_at _ _ (by decide), bi_some, b2_id]
    rw [e]
    exact (o_bar _ _ _ h0).oa (by rw [q5]; decide)
  by_cases q6 : (y &&& 15) = 6
  · have e : f_L_act y = f_X7_setDirection (lwv (y >>> (4 &&& 31)) 3) := funext fun σ => by rw [f_L_act, vl_eq, if_neg q0, if_neg q1, if_neg q2, if_neg q3, if_neg q4, if_neg q5, if_pos q6, low_at _ _ (by decide), bi_some, b2_id]
    rw [e]
    exact (o_dir _ h0).oa (by rw [q6]; decide)
  by_cases q7 : (y &&& 15) = 7
  · have e : f_L_act y = f_X7_turnTo (lwv (y >>> (4 &&& 31)) 5) := funext fun σ => by rw [f_L_act, vl_eq, if_neg q0, if_neg q1, if_neg q2, if_neg q3, if_neg q4, if_neg q5, if_neg q6, if_pos q7, low_at _ _ (by decide), bi_some, b2_id]
    rw [e]
    exact (o_turn _ h0).oa (by rw [q7]; decide)
  by_cases q8 : (y &&& 15) = 8
  · have e : f_L_act y = f_X7_wind (lwv (y >>> (4 &&& 31)) 5) (lwv (y >>> (5 &&& 31)) 100) := funext fun σ => by rw [f_L_act, vl_eq, if_neg q0, if_neg q1, if_neg q2, if_neg q3, if_neg q4, if_neg q5, if_neg q6, if_neg q7, if_pos q8, low_at _ _ (by decide), bi_some, low_at _ _ (by decide), bi_some, b2_id]
    rw [e]
    exact (o_wind _ _ hk h0).oa (by rw [q8]; decide)
  by_cases q9 : (y &&& 15) = 9
  · have e : f_L_act y = f_X7_takeOut ((1 : Int32) + (lwv (y >>> (4 &&& 31)) 3)) := funext fun σ => by rw [f_L_act, vl_eq, if_neg q0, if_neg q1, if_neg q2, if_neg q3, if_neg q4, if_neg q5, if_neg q6, if_neg q7, if_neg q8, if_pos q9, low_at _ _ (by decide), bi_some, b2_id]
    rw [e]
    exact (o_take _ hk h0).oa
  by_cases q10 : (y &&& 15) = 10
  · have e : f_L_act y = f_X7_takeOut ((1 : Int32) + (lwv (y >>> (4 &&& 31)) 3)) := funext fun σ => by rw [f_L_act, vl_eq, if_neg q0, if_neg q1, if_neg q2, if_neg q3, if_neg q4, if_neg q5, if_neg q6, if_neg q7, if_neg q8, if_neg q9, if_pos q10, low_at _ _ (by decide), bi_some, b2_id]
    rw [e]
    exact (o_take _ hk h0).oa
  by_cases q11 : (y &&& 15) = 11
  · by_cases p0 : (y >>> (4 &&& 31)) - (y >>> (4 &&& 31)) / 4 * 4 = 0
    · have e : f_L_act y = f_X7_cutOff := funext fun σ => by rw [f_L_act, vl_eq, if_neg q0, if_neg q1, if_neg q2, if_neg q3, if_neg q4, if_neg q5, if_neg q6, if_neg q7, if_neg q8, if_neg q9, if_neg q10, if_pos q11, nz_ok (by decide), if_pos p0, b2_id]
      rw [e]
      exact (o_cut h0).oa (by rw [q11]; decide)
    by_cases p1 : (y >>> (4 &&& 31)) - (y >>> (4 &&& 31)) / 4 * 4 = 1
    · have e : f_L_act y = f_X7_setLoom ((2 : Int32) + (lwv (y >>> (6 &&& 31)) 4)) ((4 : Int32) + (lwv (y >>> (8 &&& 31)) 8)) := funext fun σ => by rw [f_L_act, vl_eq, if_neg q0, if_neg q1, if_neg q2, if_neg q3, if_neg q4, if_neg q5, if_neg q6, if_neg q7, if_neg q8, if_neg q9, if_neg q10, if_pos q11, nz_ok (by decide), if_neg p0, nz_ok (by decide), if_pos p1, low_at _ _ (by decide), bi_some, low_at _ _ (by decide), bi_some, b2_id]
      rw [e]
      exact (o_loom _ _ h0).oa (by rw [q11]; decide)
    · have e : f_L_act y = f_X7_weave 2 := funext fun σ => by rw [f_L_act, vl_eq, if_neg q0, if_neg q1, if_neg q2, if_neg q3, if_neg q4, if_neg q5, if_neg q6, if_neg q7, if_neg q8, if_neg q9, if_neg q10, if_pos q11, nz_ok (by decide), if_neg p0, nz_ok (by decide), if_neg p1, b2_id]
      rw [e]
      exact (o_weave _ hk h0).oa
  · have e : f_L_act y = f_X7_weave ((1 : Int32) + (lwv (y >>> (4 &&& 31)) 6)) := funext fun σ => by rw [f_L_act, vl_eq, if_neg q0, if_neg q1, if_neg q2, if_neg q3, if_neg q4, if_neg q5, if_neg q6, if_neg q7, if_neg q8, if_neg q9, if_neg q10, if_neg q11, low_at _ _ (by decide), bi_some, b2_id]
    rw [e]
    exact (o_weave _ hk h0).oa
/-- reading an empty text -/
theorem pbs_at {σ : Nat → Nat → Int32} (h : σ 171 2 = 0) : f_X1_placeBehindSpaces 0 σ = some 0 := by
  have e : lp (b_X1_placeBehindSpaces_2 σ) FU 0 = some 0 := lp_run (fun _ => (0 : Int32)) 0 (by decide) (fun i hi => absurd hi (Nat.not_lt_zero _)) (by
    show b_X1_placeBehindSpaces_2 σ 0 = _
    rw [b_X1_placeBehindSpaces_2, h, if_pos (by decide)]) rfl
  rw [f_X1_placeBehindSpaces, e, bi_some]
theorem char_at {σ : Nat → Nat → Int32} (h : σ 171 2 = 0) : f_X1_characterAt 0 σ = some (-1) := by
  rw [f_X1_characterAt, h, if_pos (by decide)]
theorem peek_at {σ : Nat → Nat → Int32} (h : σ 171 2 = 0) (h3 : σ 171 3 = 0) : f_X1_peek σ = some (-1, wr σ 171 3 0) := by
  rw [f_X1_peek, h3, pbs_at h, bi_some, vl_eq, wr_at, char_at (by rw [wr_atne (by decide)]; exact h), bi_some]
theorem ahead_at {σ : Nat → Nat → Int32} (h : σ 171 2 = 0) (h3 : σ 171 3 = 0) : f_X1_isNumberAhead σ = some (0, wr σ 171 3 0) := by
  rw [f_X1_isNumberAhead, peek_at h h3, b2_some, f_X1_isDigit, btw_no (Or.inl (by decide)), bi_some, bi_some, if_pos rfl]
theorem open_at {σ : Nat → Nat → Int32} (h : σ 171 2 = 0) (h3 : σ 171 3 = 0) (h5 : σ 171 5 = 0) : f_X1_openBrackets σ = some (1, wr σ 171 3 0) := by
  rw [f_X1_openBrackets, if_pos h5, ahead_at h h3, b2_some, if_pos rfl]
theorem bar_at {σ : Nat → Nat → Int32} (h : σ 171 2 = 0) (h3 : σ 171 3 = 0) (h0 : σ 174 0 = 0) : f_X1_readBar σ = some (0, wr (wr σ 171 3 0) 171 3 0) := by
  rw [f_X1_readBar, peek_at h h3, b2_some, if_neg (show ¬ (-1 : Int32) = 45 by decide), vl_eq, f_X0_isFull, wr_ne (by decide), h0, if_pos (by decide), bi_some, if_pos rfl, jn_eq, if_pos rfl, peek_at (by rw [wr_atne (by decide)]; exact h) (wr_at _ _ _ _), b2_some, f_X1_isShaft, btw_no (Or.inl (by decide)), bi_some, bi_some, if_pos rfl]
theorem load_at {σ : Nat → Nat → Int32} (h : σ 171 2 = 0) : ∃ τ, f_X7_load σ = some (-10, τ) ∧ (∀ a, a < 171 → τ a = σ a) ∧ τ 171 2 = σ 171 2 := by
  obtain ⟨t0, ht⟩ : ∃ t0, t0 = wr (wr (wr (wr (wr σ 171 4 (σ 2 0)) 171 3 0) 171 5 0) 174 0 0) 174 1 0 := ⟨_, rfl⟩
  have t2 : t0 171 2 = 0 := by
    rw [ht, wr_ne (by decide), wr_ne (by decide), wr_atne (by decide), wr_atne (by decide), wr_atne (by decide)]
    exact h
  have t3 : t0 171 3 = 0 := by
    rw [ht, wr_ne (by decide), wr_ne (by decide), wr_atne (by decide), wr_at]
  have t5 : t0 171 5 = 0 := by
    rw [ht, wr_ne (by decide), wr_ne (by decide), wr_at]
  have t4 : t0 174 0 = 0 := by
    rw [ht, wr_atne (by decide), wr_at]
  have hl : lp (b_X1_readChain_24) FU (0, t0) = some (.inl (0, wr (wr (wr t0 171 3 0) 171 3 0) 171 3 0)) := lp_run (fun _ => ((0 : Int32), t0)) 0 (by decide) (fun i hi => absurd hi (Nat.not_lt_zero _)) (by
    show b_X1_readChain_24 (0, t0) = _
    rw [b_X1_readChain_24, if_neg (by decide), open_at t2 t3 t5, b2_some, if_neg n10, bar_at (by rw [wr_atne (by decide)]; exact t2) (wr_at _ _ _ _) (by rw [wr_ne (by decide)]; exact t4), b2_some, if_pos rfl]) rfl
  refine ⟨wr (wr (wr t0 171 3 0) 171 3 0) 171 3 0, ?_, fun a ha => ?_, ?_⟩
  · rw [f_X7_load, f_X1_readChain, vl_eq, vl_eq, vl_eq, f_X0_removeBars, vl_eq, vl_eq, bi_some, ← ht, hl, bi_some, sm_inl, b2_some, if_pos rfl, wr_at]
    rfl
  · rw [wr_ne (by omega), wr_ne (by omega), wr_ne (by omega), ht, wr_ne (by omega), wr_ne (by omega), wr_ne (by omega), wr_ne (by omega), wr_ne (by omega)]
  · rw [wr_atne (by decide), wr_atne (by decide), wr_atne (by decide), t2, h]
