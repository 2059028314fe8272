/-! part 48: a round of the law -/
theorem dg_ex (x : QX) : ∃ d, ∀ σ k, RQ k σ x → f_L_digest σ = some d := digest_ex
theorem yn_at {k : Nat} {σ : Nat → Nat → Int32} {x : QX} (h : RQ k σ x) : f_L_yarn σ = some (yQ x) := yarn_at h
theorem rt_at {k : Nat} {σ : Nat → Nat → Int32} {x : QX} (h : ST k σ x) : f_L_isRight σ = some 1 := right_at h.1 h.2.1
theorem cmp0 (d : Int64) : lg_cmp d d = 0 := (lg_cmp_eq d d).mpr rfl
theorem j_err {γ : Type} {σ1 : Nat → Nat → Int32} {k : Nat} {x x1 : QX} {r : Int32} {d0 : Int64} (hd : ∀ σ k, RQ k σ x → f_L_digest σ = some d0) (h : RQ k σ1 x1) (hr : r < 0 → x1 = x) (K : Option γ) : jn (fun k_126 : Option γ => if 0 ≤ r then (k_126) else (bi (f_L_digest σ1) fun q_210 => if (lg_cmp q_210 d0) = 0 then (k_126) else (none))) K = K := by
  rw [jn_eq]
  by_cases q : 0 ≤ r
  · rw [if_pos q]
  · have e := hr (Int32.not_le.mp q)
    subst e
    rw [if_neg q, hd σ1 k h, bi_some, if_pos (cmp0 d0)]
theorem j_yarn {γ : Type} {σ1 : Nat → Nat → Int32} {k : Nat} {x1 : QX} {y s0 : Int32} (h : RQ k σ1 x1) (hy : (11 < (y &&& 15) ∨ (y &&& 15) = 9 ∨ (y &&& 15) = 10) → yQ x1 = s0) (K : Option γ) : jn (fun k_139 : Option γ => jn (fun k_202 : Option γ => if 11 < (y &&& 15) then (k_202) else (if (y &&& 15) = 9 then (k_202) else (if (y &&& 15) = 10 then (k_202) else (k_139)))) (bi (f_L_yarn σ1) fun r_204 => if r_204 = s0 then (k_139) else (none))) K = K := by
  rw [jn_eq, jn_eq, yn_at h, bi_some]
  by_cases q1 : 11 < (y &&& 15)
  · rw [if_pos q1, if_pos (hy (Or.inl q1))]
  rw [if_neg q1]
  by_cases q2 : (y &&& 15) = 9
  · rw [if_pos q2, if_pos (hy (Or.inr (Or.inl q2)))]
  rw [if_neg q2]
  by_cases q3 : (y &&& 15) = 10
  · rw [if_pos q3, if_pos (hy (Or.inr (Or.inr q3)))]
  rw [if_neg q3]
theorem j_undo {σ σ1 : Nat → Nat → Int32} {k : Nat} {x x1 : QX} {r y t3 : Int32} {d0 : Int64} (hd : ∀ σ k, RQ k σ x → f_L_digest σ = some d0) (h : ST k σ x) (h1 : ST (k + 1) σ1 x1) (ha : AC (f_L_act y) k x r x1) (hl : 0 ≤ r → LT σ1 σ) : ∃ σ2, ST (k + 1) σ2 x1 ∧ ∀ {γ : Type} (K : (Nat → Nat → Int32) → Option γ), jn (fun k_155 : (Nat → Nat → Int32) → Option γ => if r < 0 then (k_155 σ1) else (if t3 = 1 then (bi (f_L_digest σ1) fun q_186 => b2 (f_X7_undo σ1) fun r_187 σ_188 => if r_187 < 0 then (none) else (bi (f_L_digest σ_188) fun q_189 => if (lg_cmp q_189 d0) = 0 then (b2 (f_L_act y σ_188) fun r_190 σ_191 => if r_190 = r then (bi (f_L_digest σ_191) fun q_192 => if (lg_cmp q_192 q_186) = 0 then (k_155 σ_191) else (none)) else (none)) else (none))) else (k_155 σ1))) K = K σ2 := by
  by_cases q1 : r < 0
  · exact ⟨σ1, h1, fun K => by rw [jn_eq, if_pos q1]⟩
  by_cases q2 : t3 = 1
  · obtain ⟨d1, hd1⟩ := dg_ex x1
    obtain ⟨ru, τ, u1, u2, u3⟩ := undo_at (k := k) (k' := k) (hl (Int32.not_lt.mp q1)) h1.2.2.2 h.1 h.2.1 (Nat.le_refl k)
    obtain ⟨σ2, a1, a2, -⟩ := ha τ u3
    exact ⟨σ2, a2, fun K => by rw [jn_eq, if_neg q1, if_pos q2, hd1 σ1 _ h1.1, bi_some, u1, b2_some, if_neg u2, hd τ _ u3.1, bi_some, if_pos (cmp0 d0), a1, b2_some, if_pos rfl, hd1 σ2 _ a2.1, bi_some, if_pos (cmp0 d1)]⟩
  · exact ⟨σ1, h1, fun K => by rw [jn_eq, if_neg q1, if_neg q2]⟩
theorem law_step {xs : Nat → Int32} {L : Nat} (hL : L ≤ 260) {t : Nat} (ht : t < 16) {σ : Nat → Nat → Int32} {x : QX} (h : ST (3 + 4 * t) σ x) : ∃ σ' x', b_L_law_72 xs L (nI t, σ) = some (.inl (nI (t + 1), σ')) ∧ ST (3 + 4 * (t + 1)) σ' x' := by
  obtain ⟨y, hy⟩ := cell_ex (xs := xs) (j := 3 + t) hL (by omega)
  obtain ⟨r, x1, a1, a2, a3⟩ := act_ok y (k := 3 + 4 * t) (by omega) h
  obtain ⟨σ1, b1, b2, b3⟩ := a2 σ h
  obtain ⟨d0, hd0⟩ := dg_ex x
  obtain ⟨σ2, c1, c2⟩ := j_undo (t3 := nI t &&& 3) hd0 h b2 a2 b3
  rw [b_L_law_72, if_neg (show ¬ (16 : Int32) ≤ nI t from nI_ge (b := 16) ht (by decide)), show (3 : Int32) + nI t = nI (3 + t) from nI_add 3 t, hy, bi_some, hd0 σ _ h.1, bi_some, yn_at h.1, bi_some, b1, b2_some, j_err hd0 b2.1 a1, rt_at b2, bi_some, if_neg n10, j_yarn b2.1 a3, c2, nz_ok (by decide)]
  have fin : ∀ σ', ST (3 + 4 * t + 1) σ' x1 → ∃ σ'' x', some (Sum.inl (nI (t + 1), σ') : (Int32 × (Nat → Nat → Int32)) ⊕ (Nat → Nat → Int32)) = some (.inl (nI (t + 1), σ'')) ∧ ST (3 + 4 * (t + 1)) σ'' x' := fun σ' h' => ⟨σ', x1, rfl, ST_mono (by omega) h'⟩
  by_cases q1 : nI t - nI t / 4 * 4 = 2
  · obtain ⟨d1, hd1⟩ := dg_ex x1
    obtain ⟨v, S, W, B, P, N⟩ := x1
    have hR : RS σ2 1 v (3 + 4 * t + 1) S W B P N := c1.1
    have hB := hR.1.2.2.2.2.1
    have hN := hR.1.2.2.2.2.2.2
    rw [if_pos q1, cnt6 hR, bi_some]
    by_cases q2 : standV v W N = 0
    · rw [if_pos q2, cnt2 hR, bi_some]
      by_cases q3 : B = 0
      · rw [if_pos ((nI0_le (by omega)).mpr q3), vl_eq, nI_1]
        exact fin σ2 c1
      · rw [if_neg (fun z => q3 ((nI0_le (by omega)).mp z)), cnt5 hR, bi_some]
        by_cases q4 : N < 50
        · obtain ⟨z, hz, ez⟩ := low_rng (y >>> (6 &&& 31)) (n := 8) (by decide) (by decide) σ2
          obtain ⟨c, x3, s1, s2, s3, w1, w0, w2, w3, w4, w5, w6, w7⟩ := wtw (t := 1 + z) (by omega) (by omega) (by omega) c1 (by omega) q2 q4
          obtain ⟨d3, hd3⟩ := dg_ex x3
          rw [if_neg (show ¬ (50 : Int32) ≤ nI N from nI_ge (b := 50) q4 (by decide)), hd1 σ2 _ c1.1, bi_some, bi_some, show f_L_low (y >>> (6 &&& 31)) 8 σ2 = _ from ez, bi_some, show (1 : Int32) + nI z = nI (1 + z) from nI_add 1 z, w2, b2_some, hd3 s1 _ w3.1, bi_some, if_neg (show ¬ nI c < (1 : Int32) from nI_nlt (b := 1) w1 w0), w4, b2_some, if_pos rfl, hd1 s2 _ w5.1, bi_some, if_pos (cmp0 d1), w6, b2_some, if_pos rfl, hd3 s3 _ w7.1, bi_some, if_pos (cmp0 d3), vl_eq, nI_1]
          exact ⟨s3, x3, rfl, ST_mono (by omega) w7⟩
        · rw [if_pos (show (50 : Int32) ≤ nI N from nI_le (a := 50) (by omega) (by omega)), vl_eq, nI_1]
          exact fin σ2 c1
    · rw [if_neg q2, vl_eq, nI_1]
      exact fin σ2 c1
  · rw [if_neg q1, vl_eq, nI_1]
    exact fin σ2 c1
/-- a loop whose states are told by a property -/
theorem lp_inv {α β : Type} {f : Int32 × α → Option ((Int32 × α) ⊕ β)} {n : Nat} {p : Nat → α → Prop} {g : α → β} (hs : ∀ i, i < n → ∀ s, p i s → ∃ s', f (nI i, s) = some (.inl (nI (i + 1), s')) ∧ p (i + 1) s') (he : ∀ s, p n s → f (nI n, s) = some (.inr (g s))) : ∀ m i F s, i + m = n → m < F → p i s → ∃ s', lp f F (nI i, s) = some (g s') ∧ p n s' := by
  intro m
  induction m with
  | zero =>
    intro i F s hi hF h
    obtain ⟨G, rfl⟩ : ∃ G, F = G + 1 := ⟨F - 1, by omega⟩
    have : i = n := by omega
    subst this
    exact ⟨s, by rw [lp_s, he s h, lkr], h⟩
  | succ m ih =>
    intro i F s hi hF h
    obtain ⟨G, rfl⟩ : ∃ G, F = G + 1 := ⟨F - 1, by omega⟩
    obtain ⟨s1, g1, g2⟩ := hs i (by omega) s h
    obtain ⟨s', g3, g4⟩ := ih (i + 1) G s1 (by omega) (by omega) g2
    exact ⟨s', by rw [lp_s, g1, lkl]; exact g3, g4⟩
theorem law_loop {xs : Nat → Int32} {L : Nat} (hL : L ≤ 260) {σ : Nat → Nat → Int32} {x : QX} (h : ST 3 σ x) : ∃ σ' x', lp (b_L_law_72 xs L) FU (0, σ) = some σ' ∧ ST 67 σ' x' := by
  obtain ⟨σ', e1, x', e2⟩ := lp_inv (f := b_L_law_72 xs L) (n := 16) (p := fun t s => ∃ x, ST (3 + 4 * t) s x) (g := fun s => s) (fun i hi s hp => by
    obtain ⟨x, hx⟩ := hp
    obtain ⟨s', x', g1, g2⟩ := law_step (xs := xs) hL hi hx
    exact ⟨s', g1, x', g2⟩) (fun s hp => by
    rw [b_L_law_72, if_pos (show (16 : Int32) ≤ nI 16 by decide)]) 16 0 FU σ rfl (by decide) ⟨x, h⟩
  exact ⟨σ', x', e1, e2⟩
