/-! part 49: the law ends with true -/
theorem wind_yes {σ0 : Nat → Nat → Int32} {v : Nat → Int32} {k S W B P N x y : Nat} (hk : k < 512) (h0 : ST k σ0 (v, S, W, B, P, N)) (hx : x < 10) (hy : y ≤ 9999) : (v (126 + x) < 0 → (upd v (126 + x) (nI y), S, W, B, P, N) = (v, S, W, B, P, N)) ∧ AC (f_X7_wind (nI x) (nI y)) k (v, S, W, B, P, N) (v (126 + x)) (upd v (126 + x) (nI y), S, W, B, P, N) := by
  have hR0 : RS σ0 1 v k S W B P N := h0.1
  obtain ⟨-, y0, y1, y2⟩ := hR0.2.2.2.2.2.2.1 x hx
  refine AC_yes (by rw [y2]; exact nI_pos (by omega)) (FW_u h0.2.1 (by omega)) (fun σ σ1 h e1 e2 => ?_)
  have hR : RS σ 1 v k S W B P N := h.1
  refine ⟨wr σ1 15 x (nI y), ?_, fun a ha => wr_ne (by omega), RS_yarn (b := 1) (RS_frame (by omega) (fun a _ q => e2 a (by omega)) hR) hx (by omega)⟩
  have hc : f_X7_isColor (nI x) σ = some 1 := by
    rw [f_X7_isColor, show f_X7_isBetween (nI x) 0 9 σ = some 1 from btw_in (lo := 0) (hi := 9) (by omega) (by omega) (by decide) σ, bi_some]
  rw [f_X7_wind, hc, bi_some, if_neg n10, show f_X7_isBetween (nI y) 0 9999 σ = some 1 from btw_in (lo := 0) (hi := 9999) (by omega) hy (by decide) σ, bi_some, if_neg n10, e1, bi_some, num_at (by omega) (by decide), bi_some, num_put (by omega) (by decide), bi_some, e2 15 (by decide), show σ 15 x = v (126 + x) from (hR.2.2.2.2.2.2.1 x hx).1]
/-- the last look -/
theorem law_end {k : Nat} {σ : Nat → Nat → Int32} {x : QX} (h : ST k σ x) : (bi (f_L_digest σ) fun q_215 => b2 (f_X7_setLoom 1 8 σ) fun r_216 σ_217 => if r_216 = (-1) then (b2 (f_X7_weave 0 σ_217) fun r_218 σ_219 => if r_218 = (-1) then (b2 (f_X7_takeOut 65 σ_219) fun r_220 σ_221 => if r_220 = (-1) then (bi (f_X7_bar 24 0 σ_221) fun r_222 => if r_222 = (-1) then (b2 (f_X7_setDirection 2 σ_221) fun r_223 σ_224 => if r_223 = (-1) then (bi (f_L_digest σ_224) fun q_225 => if (lg_cmp q_225 q_215) = 0 then (b2 (f_X7_load σ_224) fun r_226 σ_227 => if r_226 = (-10) then (bi (f_L_digest σ_227) fun q_228 => if (lg_cmp q_228 q_215) = 0 then (bi (f_X7_count 10 σ_227) fun r_229 => if r_229 = (-1) then (b2 (f_X7_append 0 σ_227) fun r_230 σ_231 => if r_230 = (-1) then (some ()) else (none)) else (none)) else (none)) else (none)) else (none)) else (none)) else (none)) else (none)) else (none)) else (none)) = some () := by
  obtain ⟨d, hd⟩ := dg_ex x
  obtain ⟨τ, l1, l2, l3⟩ := load_at h.2.2.2
  have hτ := ST_frame l2 l3 h
  have e1 : f_X7_setLoom 1 8 σ = some (-1, σ) := by
    rw [f_X7_setLoom, show f_X7_isBetween 1 2 8 σ = some 0 from btw_no (Or.inl (by decide)) σ, bi_some, if_pos rfl]
  have e2 : f_X7_weave 0 σ = some (-1, σ) := by
    rw [f_X7_weave, show f_X7_isBetween 0 1 64 σ = some 0 from btw_no (Or.inl (by decide)) σ, bi_some, if_pos rfl]
  have e3 : f_X7_takeOut 65 σ = some (-1, σ) := by
    rw [f_X7_takeOut, show f_X7_isBetween 65 1 64 σ = some 0 from btw_no (Or.inr (by decide)) σ, bi_some, if_pos rfl]
  have e4 : f_X7_bar 24 0 σ = some (-1) := by
    have hB : x.2.2.2.1 ≤ 24 := h.1.1.2.2.2.2.1
    have hlt : nI x.2.2.2.1 - 1 < (24 : Int32) := by
      rcases Nat.eq_zero_or_pos x.2.2.2.1 with e | e
      · rw [e]; decide
      · rw [show nI x.2.2.2.1 - 1 = nI (x.2.2.2.1 - 1) from nI_sub (b := 1) e]
        exact nI_lt (b := 24) (by omega) (by decide)
    rw [f_X7_bar, f_X0_hasBar, has_no (Or.inr hlt) (show σ 9 0 = nI x.2.2.2.1 from h.1.2.2.1.2.2.1), bi_some, bi_some, if_pos rfl]
  have e5 : f_X7_setDirection 2 σ = some (-1, σ) := by
    rw [f_X7_setDirection, show f_X7_isBetween 2 0 1 σ = some 0 from btw_no (Or.inr (by decide)) σ, bi_some, if_pos rfl]
  have e6 : f_X7_append 0 τ = some (-1, τ) := by
    rw [f_X7_append, show f_X7_isBetween 0 1 255 τ = some 0 from btw_no (Or.inl (by decide)) τ, bi_some, if_pos rfl]
  rw [hd σ _ h.1, bi_some, e1, b2_some, if_pos rfl, e2, b2_some, if_pos rfl, e3, b2_some, if_pos rfl, e4, bi_some, if_pos rfl, e5, b2_some, if_pos rfl, hd σ _ h.1, bi_some, if_pos (cmp0 d), l1, b2_some, if_pos rfl, hd τ _ hτ.1, bi_some, if_pos (cmp0 d), cnt10, bi_some, if_pos rfl, e6, b2_some, if_pos rfl]
theorem law_at {xs : Nat → Int32} {L : Nat} (hL : L ≤ 260) {σ : Nat → Nat → Int32} (h : ST 0 σ (bgF 4 8 (fun _ => 0), 4, 8, 0, 0, 0)) : f_L_law xs L σ = some () := by
  obtain ⟨y0, c0⟩ := cell_ex (xs := xs) (j := 0) hL (by decide)
  obtain ⟨y1, c1⟩ := cell_ex (xs := xs) (j := 1) hL (by decide)
  obtain ⟨y2, c2⟩ := cell_ex (xs := xs) (j := 2) hL (by decide)
  obtain ⟨z0, h0, a0⟩ := low_rng y0 (n := 15) (by decide) (by decide) σ
  obtain ⟨σ1, b1, b2, -⟩ := (add_yes (y := 1 + z0) (z := 0) h (by decide) (by omega) (by decide)).2 σ h
  obtain ⟨z1, h1, a1⟩ := low_rng y1 (n := 16) (by decide) (by decide) σ1
  obtain ⟨σ2, d1, d2, -⟩ := (add_yes (y := z1) (z := 1) b2 (by decide) (by omega) (by decide)).2 σ1 b2
  obtain ⟨z2, h2, a2⟩ := low_rng y2 (n := 80) (by decide) (by decide) σ2
  obtain ⟨σ3, g1, g2, -⟩ := (wind_yes (x := 1) (y := z2) (by decide) d2 (by decide) (by omega)).2 σ2 d2
  have h300 : addV (addV (bgF 4 8 (fun _ => 0)) 0 0 (1 + z0) 0) 0 1 z1 1 (126 + 1) = 300 := by
    unfold addV
    simp (disch := omega) only [upd_ne]
    unfold bgF
    rw [if_pos (by omega)]
  rw [h300] at g1
  obtain ⟨σ4, x4, i1, i2⟩ := law_loop (xs := xs) hL g2
  rw [f_L_law, show f_L_cell xs L 0 = _ from c0, bi_some, show f_L_low y0 15 σ = _ from a0, bi_some, show (1 : Int32) + nI z0 = nI (1 + z0) from nI_add 1 z0, show f_X7_addBar (nI (1 + z0)) 0 σ = some (0, σ1) from b1, b2_some, if_pos rfl, show f_L_cell xs L 1 = _ from c1, bi_some, show f_L_low y1 16 σ1 = _ from a1, bi_some, show f_X7_addBar (nI z1) 1 σ1 = some (1, σ2) from d1, b2_some, if_pos rfl, show f_L_cell xs L 2 = _ from c2, bi_some, show f_L_low y2 80 σ2 = _ from a2, bi_some, show f_X7_wind 1 (nI z2) σ2 = some (300, σ3) from g1, b2_some, if_pos rfl, i1, bi_some]
  exact law_end i2
theorem law_true (xs : Nat → Int32) (L : Nat) (hL : L ≤ 260) : ∃ s0 s1 s2 s3 s4 s5 : Nat → Nat → Int32, f_X5_reset 1 4 8 (fun _ _ => 0) = some s0 ∧ zx s0 29 = s0 ∧ f_X5_reset 31 4 8 s0 = some s1 ∧ zx s1 59 = s1 ∧ f_X5_reset 59 4 8 s1 = some s2 ∧ zx s2 87 = s2 ∧ f_X5_reset 87 4 8 s2 = some s3 ∧ zx s3 115 = s3 ∧ f_X5_reset 115 4 8 s3 = some s4 ∧ zx s4 143 = s4 ∧ f_X5_reset 143 4 8 s4 = some s5 ∧ zx s5 171 = s5 ∧ f_L_law xs L s5 = some () := by
  obtain ⟨s0, a0, b0, c0⟩ := reset_spec (o := 1) (S := 4) (W := 8) (fun _ _ => 0) (by decide) (by decide)
  obtain ⟨s1, a1, b1, -⟩ := reset_spec (o := 31) (S := 4) (W := 8) s0 (by decide) (by decide)
  obtain ⟨s2, a2, b2, -⟩ := reset_spec (o := 59) (S := 4) (W := 8) s1 (by decide) (by decide)
  obtain ⟨s3, a3, b3, -⟩ := reset_spec (o := 87) (S := 4) (W := 8) s2 (by decide) (by decide)
  obtain ⟨s4, a4, b4, -⟩ := reset_spec (o := 115) (S := 4) (W := 8) s3 (by decide) (by decide)
  obtain ⟨s5, a5, b5, -⟩ := reset_spec (o := 143) (S := 4) (W := 8) s4 (by decide) (by decide)
  have z0 : ∀ a, 29 ≤ a → s0 a = fun _ => 0 := fun a q => b0 a (by omega)
  have z1 : ∀ a, 59 ≤ a → s1 a = fun _ => 0 := fun a q => (b1 a (by omega)).trans (z0 a (by omega))
  have z2 : ∀ a, 87 ≤ a → s2 a = fun _ => 0 := fun a q => (b2 a (by omega)).trans (z1 a (by omega))
  have z3 : ∀ a, 115 ≤ a → s3 a = fun _ => 0 := fun a q => (b3 a (by omega)).trans (z2 a (by omega))
  have z4 : ∀ a, 143 ≤ a → s4 a = fun _ => 0 := fun a q => (b4 a (by omega)).trans (z3 a (by omega))
  have z5 : ∀ a, 171 ≤ a → s5 a = fun _ => 0 := fun a q => (b5 a (by omega)).trans (z4 a (by omega))
  have w : ∀ a, a < 31 → s5 a = s0 a := fun a q => by rw [b5 a (by omega), b4 a (by omega), b3 a (by omega), b2 a (by omega), b1 a (by omega)]
  refine ⟨s0, s1, s2, s3, s4, s5, a0, zx_id z0, a1, zx_id z1, a2, zx_id z2, a3, zx_id z3, a4, zx_id z4, a5, zx_id z5, law_at hL ⟨?_, fun r hr => absurd hr (Nat.not_lt_zero _), ⟨0, 0, by omega, by omega, ?_, ?_⟩, ?_⟩⟩
  · refine RS_fresh 0 (by omega) (by omega) (by omega) (by omega) ?_
    unfold fresh
    rw [w _ (by omega), w _ (by omega), w _ (by omega), w _ (by omega), w _ (by omega), w _ (by omega), w _ (by omega)]
    exact c0
  · rw [w 29 (by decide), z0 29 (by decide)]; rfl
  · rw [w 29 (by decide), z0 29 (by decide)]; rfl
  · rw [z5 171 (by decide)]
