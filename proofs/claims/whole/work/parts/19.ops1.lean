/-! part 19: the simple actions, and the text -/
theorem put_spec {τ σ2 : Nat → Nat → Int32} {q : Nat} {x : Int32} (hq : q < 456) (h : f_X8_act τ = some σ2) : f_X8_put (nI q) x τ = some (σ2 184 q, ur σ2 184 (upd (σ2 184) q x)) := by
  rw [f_X8_put, h, bi_some, ix_nI hq (by decide), nI_clamp (by omega), vl_eq, ix_nI hq (by decide), vl_eq]
  rfl
theorem color_no {a : Int32} (h : a < nI 0 ∨ nI 9 < a) (σ : Nat → Nat → Int32) : f_X7_isColor a σ = some 0 := by
  rw [f_X7_isColor, show f_X7_isBetween a 0 9 σ = some 0 from btw_no h σ, bi_some]
theorem color_yes {a : Int32} (h1 : ¬ a < nI 0) (h2 : ¬ nI 9 < a) (σ : Nat → Nat → Int32) : f_X7_isColor a σ = some 1 := by
  rw [f_X7_isColor, show f_X7_isBetween a 0 9 σ = some 1 from btw_yes h1 h2 σ, bi_some]
theorem color8_no {a : Int32} (h : a < nI 0 ∨ nI 9 < a) (σ : Nat → Nat → Int32) : f_X8_isColor a σ = some 0 := by
  rw [f_X8_isColor, in_eq, show f_X7_isBetween a 0 9 σ = some 0 from btw_no h σ, bi_some]
theorem color8_yes {a : Int32} (h1 : ¬ a < nI 0) (h2 : ¬ nI 9 < a) (σ : Nat → Nat → Int32) : f_X8_isColor a σ = some 1 := by
  rw [f_X8_isColor, in_eq, show f_X7_isBetween a 0 9 σ = some 1 from btw_yes h1 h2 σ, bi_some]
/-- a place of a list that is told by its count: o's number at place k, one below it -/
theorem has_no {a : Int32} {N : Nat} (h : a < 0 ∨ nI N - 1 < a) {x : Int32} (hx : x = nI N) (σ : Nat → Nat → Int32) : f_X7_isBetween a 0 (x - 1) σ = some 0 := by rw [hx]; exact btw_no h σ
theorem has_yes {a : Int32} {N : Nat} (h1 : ¬ a < 0) (h2 : ¬ nI N - 1 < a) {x : Int32} (hx : x = nI N) (σ : Nat → Nat → Int32) : f_X7_isBetween a 0 (x - 1) σ = some 1 := by rw [hx]; exact btw_yes h1 h2 σ
theorem lift_no {a : Int32} {S : Nat} (h : a < 0 ∨ ((1 : Int32) <<< (nI S &&& 31)) - 1 < a) {x : Int32} (hx : x = nI S) (σ : Nat → Nat → Int32) : f_X7_isBetween a 0 ((1 <<< (x &&& 31)) - 1) σ = some 0 := by rw [hx]; exact btw_no h σ
theorem lift_yes {a : Int32} {S : Nat} (h1 : ¬ a < 0) (h2 : ¬ ((1 : Int32) <<< (nI S &&& 31)) - 1 < a) {x : Int32} (hx : x = nI S) (σ : Nat → Nat → Int32) : f_X7_isBetween a 0 ((1 <<< (x &&& 31)) - 1) σ = some 1 := by rw [hx]; exact btw_yes h1 h2 σ
theorem n10 : ¬ (1 : Int32) = 0 := by decide
theorem op_5 (k : Nat) (σ : Nat → Nat → Int32) (a1 : Int32) (h : Rel k σ) (hk : k < 512) : ∃ r σ1 σ2, f_X7_setDirection a1 σ = some (r, σ1) ∧ f_X8_setDirection a1 σ1 = some (r, σ2) ∧ Rel (k + 1) σ2 := by
  rcases rng a1 0 1 (by decide) (by decide) with q | ⟨x, -, hx, rfl, q1, q2⟩
  · refine ⟨-1, σ, wr σ 183 0 0, ?_, ?_, rel_thr h⟩
    · rw [f_X7_setDirection, show f_X7_isBetween a1 0 1 σ = some 0 from btw_no q σ, bi_some, if_pos rfl]
    · rw [f_X8_setDirection, vl_eq, in_eq, show f_X7_isBetween a1 0 1 _ = some 0 from btw_no q _, bi_some, if_pos rfl]
  · obtain ⟨σ1, e1, e2, e3, e4⟩ := do_act h
    obtain ⟨⟨S, W, B, P, N, hR⟩, -, -⟩ := id h
    obtain ⟨σ2, f1, f2, f3, f4, f5, f6⟩ := e4 (wr σ1 9 2 (nI x)) (fun a ha => wr_ne (by omega))
    refine ⟨σ 9 2, wr σ1 9 2 (nI x), ur σ2 184 (upd (σ2 184) 4 (nI x)), ?_, ?_, f6 _ ⟨S, W, B, P, N, ?_⟩⟩
    · rw [f_X7_setDirection, show f_X7_isBetween (nI x) 0 1 σ = some 1 from btw_yes q1 q2 σ, bi_some, if_neg n10, e1, bi_some, vl_eq, vl_eq, e2 9 (by decide)]
    · rw [f_X8_setDirection, vl_eq, in_eq, show f_X7_isBetween (nI x) 0 1 _ = some 1 from btw_yes q1 q2 _, bi_some, if_neg n10, show f_X8_put 4 (nI x) _ = _ from put_spec (q := 4) (by decide) f1, b2_some, f2, show σ 9 2 = σ 184 4 from hR.2.2.1.2.2.2.2.2]
    · rw [f2]
      refine RS_dir (b := 1) (RS_frame (by omega) (fun a _ q => e2 a (by omega)) hR) ?_
      rcases (show x = 0 ∨ x = 1 by omega) with rfl | rfl
      · exact Or.inl rfl
      · exact Or.inr rfl
theorem op_6 (k : Nat) (σ : Nat → Nat → Int32) (a1 : Int32) (h : Rel k σ) (hk : k < 512) : ∃ r σ1 σ2, f_X7_turnTo a1 σ = some (r, σ1) ∧ f_X8_turnTo a1 σ1 = some (r, σ2) ∧ Rel (k + 1) σ2 := by
  obtain ⟨⟨S, W, B, P, N, hR⟩, -, -⟩ := id h
  have hB := hR.1.2.2.2.2.1
  have c1 : σ 9 0 = nI B := hR.2.2.1.2.2.1
  have c2 : σ 184 2 = nI B := hR.2.1.2.2.1
  rcases rngN a1 B (by omega) with q | ⟨x, hx, rfl, q1, q2⟩
  · refine ⟨-1, σ, wr σ 183 0 0, ?_, ?_, rel_thr h⟩
    · rw [f_X7_turnTo, f_X0_hasBar, has_no q c1, bi_some, bi_some, if_pos rfl]
    · rw [f_X8_turnTo, vl_eq, f_X8_isBar, in_eq, has_no q (by rw [wr_ne (by decide)]; exact c2), bi_some, bi_some, if_pos rfl]
  · obtain ⟨σ1, e1, e2, e3, e4⟩ := do_act h
    obtain ⟨σ2, f1, f2, f3, f4, f5, f6⟩ := e4 (wr σ1 9 1 (nI x)) (fun a ha => wr_ne (by omega))
    refine ⟨σ 9 1, wr σ1 9 1 (nI x), ur σ2 184 (upd (σ2 184) 3 (nI x)), ?_, ?_, f6 _ ⟨S, W, B, x, N, ?_⟩⟩
    · rw [f_X7_turnTo, f_X0_hasBar, has_yes q1 q2 c1, bi_some, bi_some, if_neg n10, e1, bi_some, vl_eq, vl_eq, e2 9 (by decide)]
    · rw [f_X8_turnTo, vl_eq, f_X8_isBar, in_eq, has_yes q1 q2 (by rw [wr_ne (by decide), wr_ne (by decide), e3 184 (by decide)]; exact c2), bi_some, bi_some, if_neg n10, show f_X8_put 3 (nI x) _ = _ from put_spec (q := 3) (by decide) f1, b2_some, f2, show σ 9 1 = σ 184 3 from hR.2.2.1.2.2.2.1.trans hR.2.1.2.2.2.1.symm]
    · rw [f2]
      exact RS_present (b := 1) (RS_frame (by omega) (fun a _ q => e2 a (by omega)) hR) hx
theorem op_7 (k : Nat) (σ : Nat → Nat → Int32) (a1 a2 : Int32) (h : Rel k σ) (hk : k < 512) : ∃ r σ1 σ2, f_X7_wind a1 a2 σ = some (r, σ1) ∧ f_X8_wind a1 a2 σ1 = some (r, σ2) ∧ Rel (k + 1) σ2 := by
  obtain ⟨⟨S, W, B, P, N, hR⟩, -, -⟩ := id h
  rcases rng a1 0 9 (by decide) (by decide) with q | ⟨x, -, hx, rfl, q1, q2⟩
  · refine ⟨-1, σ, wr σ 183 0 0, ?_, ?_, rel_thr h⟩
    · rw [f_X7_wind, color_no q, bi_some, if_pos rfl]
    · rw [f_X8_wind, vl_eq, color8_no q, bi_some, if_pos rfl]
  rcases rng a2 0 9999 (by decide) (by decide) with q | ⟨y, -, hy, rfl, q3, q4⟩
  · refine ⟨-1, σ, wr σ 183 0 0, ?_, ?_, rel_thr h⟩
    · rw [f_X7_wind, color_yes q1 q2, bi_some, if_neg n10, show f_X7_isBetween a2 0 9999 σ = some 0 from btw_no q σ, bi_some, if_pos rfl]
    · rw [f_X8_wind, vl_eq, color8_yes q1 q2, bi_some, if_neg n10, in_eq, show f_X7_isBetween a2 0 9999 _ = some 0 from btw_no q _, bi_some, if_pos rfl]
  · obtain ⟨σ1, e1, e2, e3, e4⟩ := do_act h
    obtain ⟨σ2, f1, f2, f3, f4, f5, f6⟩ := e4 (wr σ1 15 x (nI y)) (fun a ha => wr_ne (by omega))
    refine ⟨σ 15 x, wr σ1 15 x (nI y), ur σ2 184 (upd (σ2 184) (126 + x) (nI y)), ?_, ?_, f6 _ ⟨S, W, B, P, N, ?_⟩⟩
    · rw [f_X7_wind, color_yes q1 q2, bi_some, if_neg n10, show f_X7_isBetween (nI y) 0 9999 σ = some 1 from btw_yes q3 q4 σ, bi_some, if_neg n10, e1, bi_some, num_at (by omega) (by decide), bi_some, num_put (by omega) (by decide), bi_some, e2 15 (by decide)]
    · rw [f_X8_wind, vl_eq, color8_yes q1 q2, bi_some, if_neg n10, in_eq, show f_X7_isBetween (nI y) 0 9999 _ = some 1 from btw_yes q3 q4 _, bi_some, if_neg n10, show (126 : Int32) + nI x = nI (126 + x) from nI_add 126 x, put_spec (by omega) f1, b2_some, f2, show σ 15 x = σ 184 (126 + x) from (hR.2.2.2.2.2.2.1 x (by omega)).1]
    · rw [f2]
      exact RS_yarn (b := 1) (RS_frame (by omega) (fun a _ q => e2 a (by omega)) hR) (by omega) (by omega)
theorem op_2 (k : Nat) (σ : Nat → Nat → Int32) (a1 a2 : Int32) (h : Rel k σ) (hk : k < 512) : ∃ r σ1 σ2, f_X7_setFault a1 a2 σ = some (r, σ1) ∧ f_X8_setFault a1 a2 σ1 = some (r, σ2) ∧ Rel (k + 1) σ2 := by
  obtain ⟨⟨S, W, B, P, N, hR⟩, -, -⟩ := id h
  have hS := hR.1.2.1
  have c1 : σ 2 0 = nI S := hR.2.2.1.1
  have c2 : σ 184 0 = nI S := hR.2.1.1
  rcases rngN a1 S (by omega) with q | ⟨x, hx, rfl, q1, q2⟩
  · refine ⟨-1, σ, wr σ 183 0 0, ?_, ?_, rel_thr h⟩
    · rw [f_X7_setFault, f_X6_hasShaft, has_no q c1, bi_some, bi_some, if_pos rfl]
    · rw [f_X8_setFault, vl_eq, f_X8_isShaft, in_eq, has_no q (by rw [wr_ne (by decide)]; exact c2), bi_some, bi_some, if_pos rfl]
  rcases rng a2 0 2 (by decide) (by decide) with q | ⟨y, -, hy, rfl, q3, q4⟩
  · refine ⟨-1, σ, wr σ 183 0 0, ?_, ?_, rel_thr h⟩
    · rw [f_X7_setFault, f_X6_hasShaft, has_yes q1 q2 c1, bi_some, bi_some, if_neg n10, show f_X7_isBetween a2 0 2 σ = some 0 from btw_no q σ, bi_some, if_pos rfl]
    · rw [f_X8_setFault, vl_eq, f_X8_isShaft, in_eq, has_yes q1 q2 (by rw [wr_ne (by decide)]; exact c2), bi_some, bi_some, if_neg n10, in_eq, show f_X7_isBetween a2 0 2 _ = some 0 from btw_no q _, bi_some, if_pos rfl]
  · obtain ⟨σ1, e1, e2, e3, e4⟩ := do_act h
    obtain ⟨σ2, f1, f2, f3, f4, f5, f6⟩ := e4 (wr σ1 8 x (nI y)) (fun a ha => wr_ne (by omega))
    refine ⟨σ 8 x, wr σ1 8 x (nI y), ur σ2 184 (upd (σ2 184) (70 + x) (nI y)), ?_, ?_, f6 _ ⟨S, W, B, P, N, ?_⟩⟩
    · rw [f_X7_setFault, f_X6_hasShaft, has_yes q1 q2 c1, bi_some, bi_some, if_neg n10, show f_X7_isBetween (nI y) 0 2 σ = some 1 from btw_yes q3 q4 σ, bi_some, if_neg n10, e1, bi_some, num_at (by omega) (by decide), bi_some, num_put (by omega) (by decide), bi_some, e2 8 (by decide)]
    · rw [f_X8_setFault, vl_eq, f_X8_isShaft, in_eq, has_yes q1 q2 (by rw [wr_ne (by decide), wr_ne (by decide), e3 184 (by decide)]; exact c2), bi_some, bi_some, if_neg n10, in_eq, show f_X7_isBetween (nI y) 0 2 _ = some 1 from btw_yes q3 q4 _, bi_some, if_neg n10, show (70 : Int32) + nI x = nI (70 + x) from nI_add 70 x, put_spec (by omega) f1, b2_some, f2, show σ 8 x = σ 184 (70 + x) from (hR.2.2.2.2.1 x hx).1]
    · rw [f2]
      exact RS_fault (b := 1) (RS_frame (by omega) (fun a _ q => e2 a (by omega)) hR) hx (by omega)
theorem op_1 (k : Nat) (σ : Nat → Nat → Int32) (a1 a2 a3 : Int32) (h : Rel k σ) (hk : k < 512) : ∃ r σ1 σ2, f_X7_setEnd a1 a2 a3 σ = some (r, σ1) ∧ f_X8_setEnd a1 a2 a3 σ1 = some (r, σ2) ∧ Rel (k + 1) σ2 := by
  obtain ⟨⟨S, W, B, P, N, hR⟩, -, -⟩ := id h
  have hS := hR.1.2.1
  have hW := hR.1.2.2.2.1
  have c1 : σ 2 0 = nI S := hR.2.2.1.1
  have c2 : σ 184 0 = nI S := hR.2.1.1
  have c3 : σ 2 1 = nI W := hR.2.2.1.2.1
  have c4 : σ 184 1 = nI W := hR.2.1.2.1
  rcases rngN a1 W (by omega) with q | ⟨x, hx, rfl, q1, q2⟩
  · refine ⟨-1, σ, wr σ 183 0 0, ?_, ?_, rel_thr h⟩
    · rw [f_X7_setEnd, f_X6_hasEnd, has_no q c3, bi_some, bi_some, if_pos rfl]
    · rw [f_X8_setEnd, vl_eq, f_X8_isEnd, in_eq, has_no q (by rw [wr_ne (by decide)]; exact c4), bi_some, bi_some, if_pos rfl]
  rcases rngN a2 S (by omega) with q | ⟨y, hy, rfl, q3, q4⟩
  · refine ⟨-1, σ, wr σ 183 0 0, ?_, ?_, rel_thr h⟩
    · rw [f_X7_setEnd, f_X6_hasEnd, has_yes q1 q2 c3, bi_some, bi_some, if_neg n10, f_X6_hasShaft, has_no q c1, bi_some, bi_some, if_pos rfl]
    · rw [f_X8_setEnd, vl_eq, f_X8_isEnd, in_eq, has_yes q1 q2 (by rw [wr_ne (by decide)]; exact c4), bi_some, bi_some, if_neg n10, f_X8_isShaft, in_eq, has_no q (by rw [wr_ne (by decide)]; exact c2), bi_some, bi_some, if_pos rfl]
  rcases rng a3 0 9 (by decide) (by decide) with q | ⟨z, -, hz, rfl, q5, q6⟩
  · refine ⟨-1, σ, wr σ 183 0 0, ?_, ?_, rel_thr h⟩
    · rw [f_X7_setEnd, f_X6_hasEnd, has_yes q1 q2 c3, bi_some, bi_some, if_neg n10, f_X6_hasShaft, has_yes q3 q4 c1, bi_some, bi_some, if_neg n10, color_no q, bi_some, if_pos rfl]
    · rw [f_X8_setEnd, vl_eq, f_X8_isEnd, in_eq, has_yes q1 q2 (by rw [wr_ne (by decide)]; exact c4), bi_some, bi_some, if_neg n10, f_X8_isShaft, in_eq, has_yes q3 q4 (by rw [wr_ne (by decide)]; exact c2), bi_some, bi_some, if_neg n10, color8_no q, bi_some, if_pos rfl]
  · obtain ⟨σ1, e1, e2, e3, e4⟩ := do_act h
    obtain ⟨σ2, f1, f2, f3, f4, f5, f6⟩ := e4 (wr (wr σ1 4 x (nI y)) 6 x (nI z)) (fun a ha => by rw [wr_ne (by omega), wr_ne (by omega)])
    refine ⟨10 * σ 4 x + σ 6 x, wr (wr σ1 4 x (nI y)) 6 x (nI z), ur σ2 184 (upd (upd (σ2 184) (6 + x) (nI y)) (38 + x) (nI z)), ?_, ?_, f6 _ ⟨S, W, B, P, N, ?_⟩⟩
    · rw [f_X7_setEnd, f_X6_hasEnd, has_yes q1 q2 c3, bi_some, bi_some, if_neg n10, f_X6_hasShaft, has_yes q3 q4 c1, bi_some, bi_some, if_neg n10, color_yes q5 q6, bi_some, if_neg n10, e1, bi_some, num_at (by omega) (by decide), bi_some, num_at (by omega) (by decide), bi_some, vl_eq, num_put (by omega) (by decide), bi_some, num_put (by omega) (by decide), bi_some, e2 4 (by decide), e2 6 (by decide)]
    · have g4 : ∀ a, 171 ≤ a → wr (wr (wr σ1 4 x (nI y)) 6 x (nI z)) 183 0 0 a = if a = 183 then upd (σ 183) 0 0 else σ a := fun a ha => by
        by_cases e : a = 183
        · subst e; rw [if_pos rfl, wr_eq, wr_ne (by decide), wr_ne (by decide), e3 183 (by decide)]
        · rw [if_neg e, wr_ne e, wr_ne (by omega), wr_ne (by omega), e3 a ha]
      rw [f_X8_setEnd, vl_eq, f_X8_isEnd, in_eq, has_yes q1 q2 (by rw [g4 184 (by decide)]; exact c4), bi_some, bi_some, if_neg n10, f_X8_isShaft, in_eq, has_yes q3 q4 (by rw [g4 184 (by decide)]; exact c2), bi_some, bi_some, if_neg n10, color8_yes q5 q6, bi_some, if_neg n10, f1, bi_some, show (6 : Int32) + nI x = nI (6 + x) from nI_add 6 x, show (38 : Int32) + nI x = nI (38 + x) from nI_add 38 x, ix_nI (by omega) (by decide), ix_nI (by omega) (by decide), vl_eq, ix_nI (by omega) (by decide), vl_eq, ix_nI (by omega) (by decide), vl_eq, nI_clamp (by omega), nI_clamp (by omega), f2, show σ 4 x = σ 184 (6 + x) from (hR.2.2.2.1 x hx).1, show σ 6 x = σ 184 (38 + x) from (hR.2.2.2.1 x hx).2.1, wr_row σ2, wr_ur, f2]
    · rw [f2]
      exact RS_end (b := 1) (RS_frame (by omega) (fun a _ q => e2 a (by omega)) hR) hx hy (by omega)
