/-! part 20: bars, text, yarn -/
theorem ur_ur (σ : Nat → Nat → Int32) (o : Nat) (f g : Nat → Int32) : ur (ur σ o f) o g = ur σ o g := by
  funext a
  by_cases h : a = o
  · subst h; rw [ur_at, ur_at]
  · rw [ur_ne h, ur_ne h, ur_ne h]
theorem make_spec {τ : Nat → Nat → Int32} {i : Nat} {x c : Int32} (hi : i < 24) : f_X8_makeBar (nI i) x c τ = some (ur τ 184 (upd (upd (τ 184) (78 + i) x) (102 + i) c)) := by
  rw [f_X8_makeBar, show (78 : Int32) + nI i = nI (78 + i) from nI_add 78 i, show (102 : Int32) + nI i = nI (102 + i) from nI_add 102 i, ix_nI (by omega) (by decide), vl_eq, ix_nI (by omega) (by decide), vl_eq, nI_clamp (by omega), nI_clamp (by omega), wr_row τ, wr_ur]
theorem op_4 (k : Nat) (σ : Nat → Nat → Int32) (a1 a2 a3 : Int32) (h : Rel k σ) (hk : k < 512) : ∃ r σ1 σ2, f_X7_setBar a1 a2 a3 σ = some (r, σ1) ∧ f_X8_setBar a1 a2 a3 σ1 = some (r, σ2) ∧ Rel (k + 1) σ2 := by
  obtain ⟨⟨S, W, B, P, N, hR⟩, -, -⟩ := id h
  have hS := hR.1.2.1
  have hB := hR.1.2.2.2.2.1
  have c1 : σ 2 0 = nI S := hR.2.2.1.1
  have c2 : σ 184 0 = nI S := hR.2.1.1
  have c3 : σ 9 0 = nI B := hR.2.2.1.2.2.1
  have c4 : σ 184 2 = nI B := hR.2.1.2.2.1
  rcases rngN a1 B (by omega) with q | ⟨x, hx, rfl, q1, q2⟩
  · refine ⟨-1, σ, wr σ 183 0 0, ?_, ?_, rel_thr h⟩
    · rw [f_X7_setBar, f_X0_hasBar, has_no q c3, bi_some, bi_some, if_pos rfl]
    · rw [f_X8_setBar, vl_eq, f_X8_isBar, in_eq, has_no q (by rw [wr_ne (by decide)]; exact c4), bi_some, bi_some, if_pos rfl]
  rcases rngL a2 hS with q | ⟨y, hy, rfl, q3, q4⟩
  · refine ⟨-1, σ, wr σ 183 0 0, ?_, ?_, rel_thr h⟩
    · rw [f_X7_setBar, f_X0_hasBar, has_yes q1 q2 c3, bi_some, bi_some, if_neg n10, f_X6_isLift, lift_no q c1, bi_some, bi_some, if_pos rfl]
    · rw [f_X8_setBar, vl_eq, f_X8_isBar, in_eq, has_yes q1 q2 (by rw [wr_ne (by decide)]; exact c4), bi_some, bi_some, if_neg n10, f_X8_isLift, in_eq, lift_no q (by rw [wr_ne (by decide)]; exact c2), bi_some, bi_some, if_pos rfl]
  rcases rng a3 0 9 (by decide) (by decide) with q | ⟨z, -, hz, rfl, q5, q6⟩
  · refine ⟨-1, σ, wr σ 183 0 0, ?_, ?_, rel_thr h⟩
    · rw [f_X7_setBar, f_X0_hasBar, has_yes q1 q2 c3, bi_some, bi_some, if_neg n10, f_X6_isLift, lift_yes q3 q4 c1, bi_some, bi_some, if_neg n10, color_no q, bi_some, if_pos rfl]
    · rw [f_X8_setBar, vl_eq, f_X8_isBar, in_eq, has_yes q1 q2 (by rw [wr_ne (by decide)]; exact c4), bi_some, bi_some, if_neg n10, f_X8_isLift, in_eq, lift_yes q3 q4 (by rw [wr_ne (by decide)]; exact c2), bi_some, bi_some, if_neg n10, color8_no q, bi_some, if_pos rfl]
  · obtain ⟨σ1, e1, e2, e3, e4⟩ := do_act h
    obtain ⟨σ2, f1, f2, f3, f4, f5, f6⟩ := e4 (wr (wr σ1 11 x (nI y)) 13 x (nI z)) (fun a ha => by rw [wr_ne (by omega), wr_ne (by omega)])
    refine ⟨10 * σ 11 x + σ 13 x, wr (wr σ1 11 x (nI y)) 13 x (nI z), ur σ2 184 (upd (upd (σ2 184) (78 + x) (nI y)) (102 + x) (nI z)), ?_, ?_, f6 _ ⟨S, W, B, P, N, ?_⟩⟩
    · rw [f_X7_setBar, f_X0_hasBar, has_yes q1 q2 c3, bi_some, bi_some, if_neg n10, f_X6_isLift, lift_yes q3 q4 c1, bi_some, bi_some, if_neg n10, color_yes q5 q6, bi_some, if_neg n10, e1, bi_some, num_at (by omega) (by decide), bi_some, num_at (by omega) (by decide), bi_some, vl_eq, num_put (by omega) (by decide), bi_some, num_put (by omega) (by decide), bi_some, e2 11 (by decide), e2 13 (by decide)]
    · have g4 : wr (wr (wr σ1 11 x (nI y)) 13 x (nI z)) 183 0 0 184 = σ 184 := by rw [wr_ne (by decide), wr_ne (by decide), wr_ne (by decide), e3 184 (by decide)]
      rw [f_X8_setBar, vl_eq, f_X8_isBar, in_eq, has_yes q1 q2 (by rw [g4]; exact c4), bi_some, bi_some, if_neg n10, f_X8_isLift, in_eq, lift_yes q3 q4 (by rw [g4]; exact c2), bi_some, bi_some, if_neg n10, color8_yes q5 q6, bi_some, if_neg n10, f1, bi_some, show (78 : Int32) + nI x = nI (78 + x) from nI_add 78 x, show (102 : Int32) + nI x = nI (102 + x) from nI_add 102 x, ix_nI (by omega) (by decide), ix_nI (by omega) (by decide), vl_eq, make_spec (by omega), bi_some, nI_clamp (by omega), nI_clamp (by omega), f2, show σ 11 x = σ 184 (78 + x) from (hR.2.2.2.2.2.1 x hx).1, show σ 13 x = σ 184 (102 + x) from (hR.2.2.2.2.2.1 x hx).2.1]
    · rw [f2]
      exact RS_bar (b := 1) (RS_frame (by omega) (fun a _ q => e2 a (by omega)) hR) hx hy (by omega)
theorem op_3 (k : Nat) (σ : Nat → Nat → Int32) (a1 a2 : Int32) (h : Rel k σ) (hk : k < 512) : ∃ r σ1 σ2, f_X7_addBar a1 a2 σ = some (r, σ1) ∧ f_X8_addBar a1 a2 σ1 = some (r, σ2) ∧ Rel (k + 1) σ2 := by
  obtain ⟨⟨S, W, B, P, N, hR⟩, -, -⟩ := id h
  have hS := hR.1.2.1
  have hB := hR.1.2.2.2.2.1
  have hP := hR.1.2.2.2.2.2.1
  have c1 : σ 2 0 = nI S := hR.2.2.1.1
  have c2 : σ 184 0 = nI S := hR.2.1.1
  have c3 : σ 9 0 = nI B := hR.2.2.1.2.2.1
  have c4 : σ 184 2 = nI B := hR.2.1.2.2.1
  have c5 : σ 184 3 = nI P := hR.2.1.2.2.2.1
  rcases rngL a1 hS with q | ⟨y, hy, rfl, q3, q4⟩
  · refine ⟨-1, σ, wr σ 183 0 0, ?_, ?_, rel_thr h⟩
    · rw [f_X7_addBar, f_X6_isLift, lift_no q c1, bi_some, bi_some, if_pos rfl]
    · rw [f_X8_addBar, vl_eq, f_X8_isLift, in_eq, lift_no q (by rw [wr_ne (by decide)]; exact c2), bi_some, bi_some, if_pos rfl]
  rcases rng a2 0 9 (by decide) (by decide) with q | ⟨z, -, hz, rfl, q5, q6⟩
  · refine ⟨-1, σ, wr σ 183 0 0, ?_, ?_, rel_thr h⟩
    · rw [f_X7_addBar, f_X6_isLift, lift_yes q3 q4 c1, bi_some, bi_some, if_neg n10, color_no q, bi_some, if_pos rfl]
    · rw [f_X8_addBar, vl_eq, f_X8_isLift, in_eq, lift_yes q3 q4 (by rw [wr_ne (by decide)]; exact c2), bi_some, bi_some, if_neg n10, color8_no q, bi_some, if_pos rfl]
  by_cases e : B = 24
  · refine ⟨-3, σ, wr σ 183 0 0, ?_, ?_, rel_thr h⟩
    · rw [f_X7_addBar, f_X6_isLift, lift_yes q3 q4 c1, bi_some, bi_some, if_neg n10, color_yes q5 q6, bi_some, if_neg n10, f_X0_isFull, c3, e, if_neg (by decide), bi_some, if_neg n10]
    · rw [f_X8_addBar, vl_eq, f_X8_isLift, in_eq, lift_yes q3 q4 (by rw [wr_ne (by decide)]; exact c2), bi_some, bi_some, if_neg n10, color8_yes q5 q6, bi_some, if_neg n10, if_pos (by rw [wr_ne (by decide), c4, e]; rfl)]
  · have hB2 : B < 24 := by omega
    have hlt : nI B < (24 : Int32) := nI_lt (b := 24) hB2 (by decide)
    obtain ⟨σ1, e1, e2, e3, e4⟩ := do_act h
    obtain ⟨σ2, f1, f2, f3, f4, f5, f6⟩ := e4 (wr (wr (wr σ1 11 B (nI y)) 13 B (nI z)) 9 0 (nI (B + 1))) (fun a ha => by rw [wr_ne (by omega), wr_ne (by omega), wr_ne (by omega)])
    refine ⟨nI B, wr (wr (wr σ1 11 B (nI y)) 13 B (nI z)) 9 0 (nI (B + 1)), ur σ2 184 (upd (upd (upd (upd (σ2 184) 3 (nI P)) (78 + B) (nI y)) (102 + B) (nI z)) 2 (nI (B + 1))), ?_, ?_, f6 _ ⟨S, W, B + 1, P, N, ?_⟩⟩
    · rw [f_X7_addBar, f_X6_isLift, lift_yes q3 q4 c1, bi_some, bi_some, if_neg n10, color_yes q5 q6, bi_some, if_neg n10, f_X0_isFull, c3, if_pos hlt, bi_some, if_pos rfl, e1, bi_some, f_X0_addLast, f_X0_isFull, e2 9 (by decide), c3, if_pos hlt, bi_some, if_pos rfl, num_put (by omega) (by decide), bi_some, wr_ne (by decide), e2 9 (by decide), c3, num_put (by omega) (by decide), bi_some, wr_ne (by decide), wr_ne (by decide), e2 9 (by decide), c3, vl_eq, bi_some, wr_at, nI_1, nI_pred]
    · have g4 : wr (wr (wr (wr σ1 11 B (nI y)) 13 B (nI z)) 9 0 (nI (B + 1))) 183 0 0 184 = σ 184 := by rw [wr_ne (by decide), wr_ne (by decide), wr_ne (by decide), wr_ne (by decide), e3 184 (by decide)]
      have hv : (if σ2 184 2 = 0 then (0 : Int32) else σ2 184 3) = nI P := by
        rw [f2, c4, c5]
        by_cases e0 : B = 0
        · have : P = 0 := by omega
          rw [e0, this]; rfl
        · rw [if_neg (nI_ne0 (by omega) (by omega))]
      rw [f_X8_addBar, vl_eq, f_X8_isLift, in_eq, lift_yes q3 q4 (by rw [g4]; exact c2), bi_some, bi_some, if_neg n10, color8_yes q5 q6, bi_some, if_neg n10, if_neg (show ¬ _ = (24 : Int32) from fun q => e (nI_inj (b := 24) (by omega) (by decide) (by rw [← c4, ← g4]; exact q))), f1, bi_some, hv, vl_eq, vl_eq, wr_row σ2, ur_at, upd_ne (by decide), f2, c4, make_spec hB2, bi_some, ur_at, ur_at, upd_ne (by omega), upd_ne (by omega), upd_ne (by decide), c4, vl_eq, nI_1, wr_ur, ur_ur, ur_at, upd_eq, nI_pred]
    · rw [f2]
      exact RS_add (b := 1) (RS_frame (by omega) (fun a _ q => e2 a (by omega)) hR) hB2 hy (by omega)
theorem op_18 (k : Nat) (σ : Nat → Nat → Int32) (a1 : Int32) (h : Rel k σ) (hk : k < 512) : ∃ r σ2, f_X7_yarn a1 σ = some r ∧ f_X8_yarn a1 σ = some (r, σ2) ∧ Rel (k + 1) σ2 := by
  obtain ⟨⟨S, W, B, P, N, hR⟩, -, -⟩ := id h
  rcases rng a1 0 9 (by decide) (by decide) with q | ⟨x, -, hx, rfl, q1, q2⟩
  · refine ⟨-1, wr σ 183 0 0, ?_, ?_, rel_thr h⟩
    · rw [f_X7_yarn, color_no q, bi_some, if_pos rfl]
    · rw [f_X8_yarn, vl_eq, color8_no q, bi_some, if_pos rfl]
  · refine ⟨σ 15 x, wr σ 183 0 0, ?_, ?_, rel_thr h⟩
    · rw [f_X7_yarn, color_yes q1 q2, bi_some, if_neg n10, num_at (by omega) (by decide), bi_some]
    · rw [f_X8_yarn, vl_eq, color8_yes q1 q2, bi_some, if_neg n10, show (126 : Int32) + nI x = nI (126 + x) from nI_add 126 x, ix_nI (by omega) (by decide), nI_clamp (by omega), wr_ne (by decide), show σ 15 x = σ 184 (126 + x) from (hR.2.2.2.2.2.2.1 x (by omega)).1]
/-- the text's numbers changed -/
theorem rel_text {k : Nat} {σ σ' : Nat → Nat → Int32} (h : Rel k σ) (e1 : ∀ a, a < 171 → σ' a = σ a) (e4 : σ' 183 4 = σ 183 4) (e6 : σ' 184 = σ 184) (e7 : σ' 186 = σ 186) (ht : TX σ') : Rel (k + 1) σ' := by
  obtain ⟨⟨S, W, B, P, N, h1⟩, h2, h3⟩ := h
  exact ⟨⟨S, W, B, P, N, by rw [e6]; exact RS_frame (by omega) (fun a _ h => e1 a (by omega)) h1⟩, HR_cong (by omega) (fun a _ h => e1 a h) e4 e7 h2, ht⟩
theorem op_9 (k : Nat) (σ : Nat → Nat → Int32) (h : Rel k σ) (hk : k < 512) : ∃ r σ1 σ2, f_X7_clearText  σ = some (r, σ1) ∧ f_X8_clearText  σ1 = some (r, σ2) ∧ Rel (k + 1) σ2 := by
  obtain ⟨-, -, l, h1, h2, h3, h4⟩ := id h
  refine ⟨nI l, wr σ 171 2 0, wr (wr (wr σ 171 2 0) 183 0 0) 183 6 0, ?_, ?_, rel_text h (fun a ha => by rw [wr_ne (by omega), wr_ne (by omega), wr_ne (by omega)]) (by rw [wr_atne (by decide), wr_atne (by decide), wr_ne (by decide)]) (by rw [wr_ne (by decide), wr_ne (by decide), wr_ne (by decide)]) (by rw [wr_ne (by decide), wr_ne (by decide), wr_ne (by decide)]) ⟨0, by omega, ?_, ?_, fun i hi => absurd hi (by omega)⟩⟩
  · rw [f_X7_clearText, vl_eq, vl_eq, h2]
  · rw [f_X8_clearText, vl_eq, vl_eq, vl_eq, wr_atne (by decide), wr_ne (by decide), h3]
  · rw [wr_ne (by decide), wr_ne (by decide), wr_at]; rfl
  · rw [wr_at]; rfl
theorem op_8 (k : Nat) (σ : Nat → Nat → Int32) (a1 : Int32) (h : Rel k σ) (hk : k < 512) : ∃ r σ1 σ2, f_X7_append a1 σ = some (r, σ1) ∧ f_X8_append a1 σ1 = some (r, σ2) ∧ Rel (k + 1) σ2 := by
  obtain ⟨-, -, l, h1, h2, h3, h4⟩ := id h
  rcases rng a1 1 255 (by decide) (by decide) with q | ⟨x, hx0, hx, rfl, q1, q2⟩
  · refine ⟨-1, σ, wr σ 183 0 0, ?_, ?_, rel_thr h⟩
    · rw [f_X7_append, show f_X7_isBetween a1 1 255 σ = some 0 from btw_no q σ, bi_some, if_pos rfl]
    · rw [f_X8_append, vl_eq, in_eq, show f_X7_isBetween a1 1 255 _ = some 0 from btw_no q _, bi_some, if_pos rfl]
  by_cases e : l = 120
  · refine ⟨-3, σ, wr σ 183 0 0, ?_, ?_, rel_thr h⟩
    · rw [f_X7_append, show f_X7_isBetween (nI x) 1 255 σ = some 1 from btw_yes q1 q2 σ, bi_some, if_neg n10, f_X1_isFull, h2, e, if_neg (by decide), bi_some, if_neg n10]
    · rw [f_X8_append, vl_eq, in_eq, show f_X7_isBetween (nI x) 1 255 _ = some 1 from btw_yes q1 q2 _, bi_some, if_neg n10, if_pos (by rw [wr_atne (by decide), h3, e]; rfl)]
  · have hl : l < 120 := by omega
    have hlt : nI l < (120 : Int32) := nI_lt (b := 120) hl (by decide)
    refine ⟨nI (l + 1), wr (wr σ 173 l (nI x)) 171 2 (nI (l + 1)), wr (wr (wr (wr (wr σ 173 l (nI x)) 171 2 (nI (l + 1))) 183 0 0) 187 l (nI x)) 183 6 (nI (l + 1)), ?_, ?_, rel_text h (fun a ha => by rw [wr_ne (by omega), wr_ne (by omega), wr_ne (by omega), wr_ne (by omega), wr_ne (by omega)]) (by rw [wr_atne (by decide), wr_ne (by decide), wr_atne (by decide), wr_ne (by decide), wr_ne (by decide)]) (by rw [wr_ne (by decide), wr_ne (by decide), wr_ne (by decide), wr_ne (by decide), wr_ne (by decide)]) (by rw [wr_ne (by decide), wr_ne (by decide), wr_ne (by decide), wr_ne (by decide), wr_ne (by decide)]) ⟨l + 1, by omega, ?_, ?_, fun i hi => ?_⟩⟩
    · rw [f_X7_append, show f_X7_isBetween (nI x) 1 255 σ = some 1 from btw_yes q1 q2 σ, bi_some, if_neg n10, f_X1_isFull, h2, if_pos hlt, bi_some, if_pos rfl, f_X1_addLast, f_X1_isFull, h2, if_pos hlt, bi_some, if_pos rfl, num_put hl (by decide), bi_some, wr_ne (by decide), h2, vl_eq, bi_some, nI_1, wr_at]
    · have g : wr (wr (wr σ 173 l (nI x)) 171 2 (nI (l + 1))) 183 0 0 183 6 = nI l := by rw [wr_atne (by decide), wr_ne (by decide), wr_ne (by decide), h3]
      rw [f_X8_append, vl_eq, in_eq, show f_X7_isBetween (nI x) 1 255 _ = some 1 from btw_yes q1 q2 _, bi_some, if_neg n10, if_neg (show ¬ _ = (120 : Int32) from fun q => e (nI_inj (b := 120) (by omega) (by decide) (by rw [← g]; exact q))), g, ix_nI hl (by decide), nI_clamp (by omega), vl_eq, vl_eq, wr_ne (a := 183) (o := 187) (by decide), g, nI_1, wr_at]
    · rw [wr_ne (by decide), wr_ne (by decide), wr_ne (by decide), wr_at]
    · rw [wr_at]
    · by_cases e2 : i = l
      · subst e2
        refine ⟨x, by omega, ?_, ?_⟩ <;> simp (disch := decide) only [wr_ne, wr_at]
      · obtain ⟨c, hc1, hc2, hc3⟩ := h4 i (by omega)
        refine ⟨c, hc1, ?_, ?_⟩
        · simp (disch := first | decide | assumption) only [wr_ne, wr_atne]; exact hc2
        · simp (disch := first | decide | assumption) only [wr_ne, wr_atne]; exact hc3
