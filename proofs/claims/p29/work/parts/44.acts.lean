/-! part 44: the simple actions -/
section AT
variable {σ0 : Nat → Nat → Int32} {v : Nat → Int32} {k S W B P N : Nat}
theorem FW_u {q : Nat} {y : Int32} (h : FW v W N) (hq : q < 136) : FW (upd v q y) W N := FW_c (fun r _ => upd_ne (by omega) y) h
theorem o_dir (a1 : Int32) (h0 : ST k σ0 (v, S, W, B, P, N)) : OK (f_X7_setDirection a1) k (v, S, W, B, P, N) := by
  rcases rng a1 0 1 (by decide) (by decide) with q | ⟨x, -, hx, rfl, q1, q2⟩
  · exact (AC_no (r := -1) (by decide) (fun σ h => by rw [f_X7_setDirection, show f_X7_isBetween a1 0 1 σ = some 0 from btw_no q σ, bi_some, if_pos rfl])).ok
  · have hR : RS σ0 1 v k S W B P N := h0.1
    have h4 : v 4 = 0 ∨ v 4 = 1 := hR.2.1.2.2.2.2.2
    refine AC_ok (r := v 4) (x' := (upd v 4 (nI x), S, W, B, P, N)) (AC_yes (by rcases h4 with q | q <;> rw [q] <;> decide) (FW_u h0.2.1 (by decide)) (fun σ σ1 h e1 e2 => ?_))
    have hR : RS σ 1 v k S W B P N := h.1
    refine ⟨wr σ1 9 2 (nI x), ?_, fun a ha => wr_ne (by omega), ?_⟩
    · rw [f_X7_setDirection, show f_X7_isBetween (nI x) 0 1 σ = some 1 from btw_yes q1 q2 σ, bi_some, if_neg n10, e1, bi_some, vl_eq, vl_eq, e2 9 (by decide), show σ 9 2 = v 4 from hR.2.2.1.2.2.2.2.2]
    · refine RS_dir (b := 1) (RS_frame (by omega) (fun a _ q => e2 a (by omega)) hR) ?_
      rcases (show x = 0 ∨ x = 1 by omega) with rfl | rfl
      · exact Or.inl rfl
      · exact Or.inr rfl
theorem o_turn (a1 : Int32) (h0 : ST k σ0 (v, S, W, B, P, N)) : OK (f_X7_turnTo a1) k (v, S, W, B, P, N) := by
  have hR0 : RS σ0 1 v k S W B P N := h0.1
  have hB := hR0.1.2.2.2.2.1
  have hP := hR0.1.2.2.2.2.2.1
  rcases rngN a1 B (by omega) with q | ⟨x, hx, rfl, q1, q2⟩
  · exact (AC_no (r := -1) (by decide) (fun σ h => by rw [f_X7_turnTo, f_X0_hasBar, has_no q (show σ 9 0 = nI B from h.1.2.2.1.2.2.1), bi_some, bi_some, if_pos rfl])).ok
  · refine AC_ok (r := nI P) (x' := (upd v 3 (nI x), S, W, B, x, N)) (AC_yes (nI_pos (by omega)) (FW_u h0.2.1 (by decide)) (fun σ σ1 h e1 e2 => ?_))
    have hR : RS σ 1 v k S W B P N := h.1
    refine ⟨wr σ1 9 1 (nI x), ?_, fun a ha => wr_ne (by omega), RS_present (b := 1) (RS_frame (by omega) (fun a _ q => e2 a (by omega)) hR) hx⟩
    rw [f_X7_turnTo, f_X0_hasBar, has_yes q1 q2 (show σ 9 0 = nI B from hR.2.2.1.2.2.1), bi_some, bi_some, if_neg n10, e1, bi_some, vl_eq, vl_eq, e2 9 (by decide), show σ 9 1 = nI P from hR.2.2.1.2.2.2.1]
theorem o_wind (a1 a2 : Int32) (hk : k < 512) (h0 : ST k σ0 (v, S, W, B, P, N)) : OK (f_X7_wind a1 a2) k (v, S, W, B, P, N) := by
  have hR0 : RS σ0 1 v k S W B P N := h0.1
  rcases rng a1 0 9 (by decide) (by decide) with q | ⟨x, -, hx, rfl, q1, q2⟩
  · exact (AC_no (r := -1) (by decide) (fun σ h => by rw [f_X7_wind, color_no q, bi_some, if_pos rfl])).ok
  rcases rng a2 0 9999 (by decide) (by decide) with q | ⟨y, -, hy, rfl, q3, q4⟩
  · exact (AC_no (r := -1) (by decide) (fun σ h => by rw [f_X7_wind, color_yes q1 q2, bi_some, if_neg n10, show f_X7_isBetween a2 0 9999 σ = some 0 from btw_no q σ, bi_some, if_pos rfl])).ok
  · obtain ⟨-, y0, y1, y2⟩ := hR0.2.2.2.2.2.2.1 x (by omega)
    refine AC_ok (r := v (126 + x)) (x' := (upd v (126 + x) (nI y), S, W, B, P, N)) (AC_yes (by rw [y2]; exact nI_pos (by omega)) (FW_u h0.2.1 (by omega)) (fun σ σ1 h e1 e2 => ?_))
    have hR : RS σ 1 v k S W B P N := h.1
    refine ⟨wr σ1 15 x (nI y), ?_, fun a ha => wr_ne (by omega), RS_yarn (b := 1) (RS_frame (by omega) (fun a _ q => e2 a (by omega)) hR) (by omega) (by omega)⟩
    rw [f_X7_wind, color_yes q1 q2, bi_some, if_neg n10, show f_X7_isBetween (nI y) 0 9999 σ = some 1 from btw_yes q3 q4 σ, bi_some, if_neg n10, e1, bi_some, num_at (by omega) (by decide), bi_some, num_put (by omega) (by decide), bi_some, e2 15 (by decide), show σ 15 x = v (126 + x) from (hR.2.2.2.2.2.2.1 x (by omega)).1]
theorem o_fault (a1 a2 : Int32) (h0 : ST k σ0 (v, S, W, B, P, N)) : OK (f_X7_setFault a1 a2) k (v, S, W, B, P, N) := by
  have hR0 : RS σ0 1 v k S W B P N := h0.1
  have hS := hR0.1.2.1
  rcases rngN a1 S (by omega) with q | ⟨x, hx, rfl, q1, q2⟩
  · exact (AC_no (r := -1) (by decide) (fun σ h => by rw [f_X7_setFault, f_X6_hasShaft, has_no q (show σ 2 0 = nI S from h.1.2.2.1.1), bi_some, bi_some, if_pos rfl])).ok
  rcases rng a2 0 2 (by decide) (by decide) with q | ⟨y, -, hy, rfl, q3, q4⟩
  · exact (AC_no (r := -1) (by decide) (fun σ h => by rw [f_X7_setFault, f_X6_hasShaft, has_yes q1 q2 (show σ 2 0 = nI S from h.1.2.2.1.1), bi_some, bi_some, if_neg n10, show f_X7_isBetween a2 0 2 σ = some 0 from btw_no q σ, bi_some, if_pos rfl])).ok
  · obtain ⟨-, f0, f1, f2⟩ := hR0.2.2.2.2.1 x hx
    refine AC_ok (r := v (70 + x)) (x' := (upd v (70 + x) (nI y), S, W, B, P, N)) (AC_yes (by rw [f2]; exact nI_pos (by omega)) (FW_u h0.2.1 (by omega)) (fun σ σ1 h e1 e2 => ?_))
    have hR : RS σ 1 v k S W B P N := h.1
    refine ⟨wr σ1 8 x (nI y), ?_, fun a ha => wr_ne (by omega), RS_fault (b := 1) (RS_frame (by omega) (fun a _ q => e2 a (by omega)) hR) hx (by omega)⟩
    rw [f_X7_setFault, f_X6_hasShaft, has_yes q1 q2 (show σ 2 0 = nI S from hR.2.2.1.1), bi_some, bi_some, if_neg n10, show f_X7_isBetween (nI y) 0 2 σ = some 1 from btw_yes q3 q4 σ, bi_some, if_neg n10, e1, bi_some, num_at (by omega) (by decide), bi_some, num_put (by omega) (by decide), bi_some, e2 8 (by decide), show σ 8 x = v (70 + x) from (hR.2.2.2.2.1 x hx).1]
theorem o_end (a1 a2 a3 : Int32) (h0 : ST k σ0 (v, S, W, B, P, N)) : OK (f_X7_setEnd a1 a2 a3) k (v, S, W, B, P, N) := by
  have hR0 : RS σ0 1 v k S W B P N := h0.1
  have hS := hR0.1.2.1
  have hW := hR0.1.2.2.2.1
  have c1 : ∀ σ, ST k σ (v, S, W, B, P, N) → σ 2 0 = nI S := fun σ h => h.1.2.2.1.1
  have c3 : ∀ σ, ST k σ (v, S, W, B, P, N) → σ 2 1 = nI W := fun σ h => h.1.2.2.1.2.1
  rcases rngN a1 W (by omega) with q | ⟨x, hx, rfl, q1, q2⟩
  · exact (AC_no (r := -1) (by decide) (fun σ h => by rw [f_X7_setEnd, f_X6_hasEnd, has_no q (c3 σ h), bi_some, bi_some, if_pos rfl])).ok
  rcases rngN a2 S (by omega) with q | ⟨y, hy, rfl, q3, q4⟩
  · exact (AC_no (r := -1) (by decide) (fun σ h => by rw [f_X7_setEnd, f_X6_hasEnd, has_yes q1 q2 (c3 σ h), bi_some, bi_some, if_neg n10, f_X6_hasShaft, has_no q (c1 σ h), bi_some, bi_some, if_pos rfl])).ok
  rcases rng a3 0 9 (by decide) (by decide) with q | ⟨z, -, hz, rfl, q5, q6⟩
  · exact (AC_no (r := -1) (by decide) (fun σ h => by rw [f_X7_setEnd, f_X6_hasEnd, has_yes q1 q2 (c3 σ h), bi_some, bi_some, if_neg n10, f_X6_hasShaft, has_yes q3 q4 (c1 σ h), bi_some, bi_some, if_neg n10, color_no q, bi_some, if_pos rfl])).ok
  · obtain ⟨-, -, ⟨s0, s1, s2⟩, u0, u1, u2⟩ := hR0.2.2.2.1 x hx
    refine AC_ok (r := 10 * v (6 + x) + v (38 + x)) (x' := (upd (upd v (6 + x) (nI y)) (38 + x) (nI z), S, W, B, P, N)) (AC_yes (by rw [s2, u2, show (10 : Int32) = nI 10 from rfl, nI_mul, nI_add]; exact nI_pos (by omega)) (FW_u (FW_u h0.2.1 (by omega)) (by omega)) (fun σ σ1 h e1 e2 => ?_))
    have hR : RS σ 1 v k S W B P N := h.1
    refine ⟨wr (wr σ1 4 x (nI y)) 6 x (nI z), ?_, fun a ha => by rw [wr_ne (by omega), wr_ne (by omega)], RS_end (b := 1) (RS_frame (by omega) (fun a _ q => e2 a (by omega)) hR) hx hy (by omega)⟩
    rw [f_X7_setEnd, f_X6_hasEnd, has_yes q1 q2 (c3 σ h), bi_some, bi_some, if_neg n10, f_X6_hasShaft, has_yes q3 q4 (c1 σ h), bi_some, bi_some, if_neg n10, color_yes q5 q6, bi_some, if_neg n10, e1, bi_some, num_at (by omega) (by decide), bi_some, num_at (by omega) (by decide), bi_some, vl_eq, num_put (by omega) (by decide), bi_some, num_put (by omega) (by decide), bi_some, e2 4 (by decide), e2 6 (by decide), show σ 4 x = v (6 + x) from (hR.2.2.2.1 x hx).1, show σ 6 x = v (38 + x) from (hR.2.2.2.1 x hx).2.1]
theorem two8 {S : Nat} (h : S ≤ 8) : 2 ^ S ≤ 256 := Nat.pow_le_pow_right (n := 2) (by decide) h
theorem o_bar (a1 a2 a3 : Int32) (h0 : ST k σ0 (v, S, W, B, P, N)) : OK (f_X7_setBar a1 a2 a3) k (v, S, W, B, P, N) := by
  have hR0 : RS σ0 1 v k S W B P N := h0.1
  have hS := hR0.1.2.1
  have hB := hR0.1.2.2.2.2.1
  have c1 : ∀ σ, ST k σ (v, S, W, B, P, N) → σ 2 0 = nI S := fun σ h => h.1.2.2.1.1
  have c3 : ∀ σ, ST k σ (v, S, W, B, P, N) → σ 9 0 = nI B := fun σ h => h.1.2.2.1.2.2.1
  rcases rngN a1 B (by omega) with q | ⟨x, hx, rfl, q1, q2⟩
  · exact (AC_no (r := -1) (by decide) (fun σ h => by rw [f_X7_setBar, f_X0_hasBar, has_no q (c3 σ h), bi_some, bi_some, if_pos rfl])).ok
  rcases rngL a2 hS with q | ⟨y, hy, rfl, q3, q4⟩
  · exact (AC_no (r := -1) (by decide) (fun σ h => by rw [f_X7_setBar, f_X0_hasBar, has_yes q1 q2 (c3 σ h), bi_some, bi_some, if_neg n10, f_X6_isLift, lift_no q (c1 σ h), bi_some, bi_some, if_pos rfl])).ok
  rcases rng a3 0 9 (by decide) (by decide) with q | ⟨z, -, hz, rfl, q5, q6⟩
  · exact (AC_no (r := -1) (by decide) (fun σ h => by rw [f_X7_setBar, f_X0_hasBar, has_yes q1 q2 (c3 σ h), bi_some, bi_some, if_neg n10, f_X6_isLift, lift_yes q3 q4 (c1 σ h), bi_some, bi_some, if_neg n10, color_no q, bi_some, if_pos rfl])).ok
  · obtain ⟨-, -, ⟨s0, s1, s2⟩, u0, u1, u2⟩ := hR0.2.2.2.2.2.1 x hx
    have t8 := two8 hS
    refine AC_ok (r := 10 * v (78 + x) + v (102 + x)) (x' := (upd (upd v (78 + x) (nI y)) (102 + x) (nI z), S, W, B, P, N)) (AC_yes (by rw [s2, u2, show (10 : Int32) = nI 10 from rfl, nI_mul, nI_add]; exact nI_pos (by omega)) (FW_u (FW_u h0.2.1 (by omega)) (by omega)) (fun σ σ1 h e1 e2 => ?_))
    have hR : RS σ 1 v k S W B P N := h.1
    refine ⟨wr (wr σ1 11 x (nI y)) 13 x (nI z), ?_, fun a ha => by rw [wr_ne (by omega), wr_ne (by omega)], RS_bar (b := 1) (RS_frame (by omega) (fun a _ q => e2 a (by omega)) hR) hx hy (by omega)⟩
    rw [f_X7_setBar, f_X0_hasBar, has_yes q1 q2 (c3 σ h), bi_some, bi_some, if_neg n10, f_X6_isLift, lift_yes q3 q4 (c1 σ h), bi_some, bi_some, if_neg n10, color_yes q5 q6, bi_some, if_neg n10, e1, bi_some, num_at (by omega) (by decide), bi_some, num_at (by omega) (by decide), bi_some, vl_eq, num_put (by omega) (by decide), bi_some, num_put (by omega) (by decide), bi_some, e2 11 (by decide), e2 13 (by decide), show σ 11 x = v (78 + x) from (hR.2.2.2.2.2.1 x hx).1, show σ 13 x = v (102 + x) from (hR.2.2.2.2.2.1 x hx).2.1]
/-- a bar more -/
def addV (v : Nat → Int32) (P B : Nat) (y z : Nat) : Nat → Int32 := upd (upd (upd (upd v 3 (nI P)) (78 + B) (nI y)) (102 + B) (nI z)) 2 (nI (B + 1))
theorem add_yes {y z : Nat} (h0 : ST k σ0 (v, S, W, B, P, N)) (hB2 : B < 24) (hy : y < 2 ^ S) (hz : z < 10) : (nI B < 0 → (addV v P B y z, S, W, B + 1, P, N) = (v, S, W, B, P, N)) ∧ AC (f_X7_addBar (nI y) (nI z)) k (v, S, W, B, P, N) (nI B) (addV v P B y z, S, W, B + 1, P, N) := by
  have hR0 : RS σ0 1 v k S W B P N := h0.1
  have hS := hR0.1.2.1
  have t8 := two8 hS
  refine AC_yes (nI_pos (by omega)) (FW_u (FW_u (FW_u (FW_u h0.2.1 (by decide)) (by omega)) (by omega)) (by decide)) (fun σ σ1 h e1 e2 => ?_)
  have hR : RS σ 1 v k S W B P N := h.1
  have c1 : σ 2 0 = nI S := hR.2.2.1.1
  have c3 : σ 9 0 = nI B := hR.2.2.1.2.2.1
  have hlt : nI B < (24 : Int32) := nI_lt (b := 24) hB2 (by decide)
  have hl : f_X6_isLift 2 (nI y) σ = some 1 := by
    rw [f_X6_isLift, c1, lft S hS, show f_X7_isBetween (nI y) 0 (nI (2 ^ S - 1)) σ = some 1 from btw_in (lo := 0) (by omega) (by omega) (by omega) σ, bi_some]
  have hc : f_X7_isColor (nI z) σ = some 1 := by
    rw [f_X7_isColor, show f_X7_isBetween (nI z) 0 9 σ = some 1 from btw_in (lo := 0) (hi := 9) (by omega) (by omega) (by decide) σ, bi_some]
  refine ⟨wr (wr (wr σ1 11 B (nI y)) 13 B (nI z)) 9 0 (nI (B + 1)), ?_, fun a ha => by rw [wr_ne (by omega), wr_ne (by omega), wr_ne (by omega)], RS_add (b := 1) (RS_frame (by omega) (fun a _ q => e2 a (by omega)) hR) hB2 hy (by omega)⟩
  rw [f_X7_addBar, hl, bi_some, if_neg n10, hc, bi_some, if_neg n10, f_X0_isFull, c3, if_pos hlt, bi_some, if_pos rfl, e1, bi_some, f_X0_addLast, f_X0_isFull, e2 9 (by decide), c3, if_pos hlt, bi_some, if_pos rfl, num_put (by omega) (by decide), bi_some, wr_ne (by decide), e2 9 (by decide), c3, num_put (by omega) (by decide), bi_some, wr_ne (by decide), wr_ne (by decide), e2 9 (by decide), c3, vl_eq, bi_some, wr_at, nI_1, nI_pred]
theorem o_add (a1 a2 : Int32) (h0 : ST k σ0 (v, S, W, B, P, N)) : OK (f_X7_addBar a1 a2) k (v, S, W, B, P, N) := by
  have hR0 : RS σ0 1 v k S W B P N := h0.1
  have hS := hR0.1.2.1
  have hB := hR0.1.2.2.2.2.1
  have c1 : ∀ σ, ST k σ (v, S, W, B, P, N) → σ 2 0 = nI S := fun σ h => h.1.2.2.1.1
  have c3 : ∀ σ, ST k σ (v, S, W, B, P, N) → σ 9 0 = nI B := fun σ h => h.1.2.2.1.2.2.1
  rcases rngL a1 hS with q | ⟨y, hy, rfl, q3, q4⟩
  · exact (AC_no (r := -1) (by decide) (fun σ h => by rw [f_X7_addBar, f_X6_isLift, lift_no q (c1 σ h), bi_some, bi_some, if_pos rfl])).ok
  rcases rng a2 0 9 (by decide) (by decide) with q | ⟨z, -, hz, rfl, q5, q6⟩
  · exact (AC_no (r := -1) (by decide) (fun σ h => by rw [f_X7_addBar, f_X6_isLift, lift_yes q3 q4 (c1 σ h), bi_some, bi_some, if_neg n10, color_no q, bi_some, if_pos rfl])).ok
  by_cases e : B = 24
  · exact (AC_no (r := -3) (by decide) (fun σ h => by rw [f_X7_addBar, f_X6_isLift, lift_yes q3 q4 (c1 σ h), bi_some, bi_some, if_neg n10, color_yes q5 q6, bi_some, if_neg n10, f_X0_isFull, c3 σ h, e, if_neg (by decide), bi_some, if_neg n10])).ok
  · exact AC_ok (add_yes h0 (by omega) hy (by omega))
theorem o_cut (h0 : ST k σ0 (v, S, W, B, P, N)) : OK f_X7_cutOff k (v, S, W, B, P, N) := by
  have hR0 : RS σ0 1 v k S W B P N := h0.1
  have hN := hR0.1.2.2.2.2.2.2
  by_cases e : standV v W N = 0
  · refine AC_ok (r := nI N) (x' := (upd v 5 0, S, W, B, P, 0)) (AC_yes (nI_pos (by omega)) (fun r hr => absurd hr (Nat.not_lt_zero _)) (fun σ σ1 h e1 e2 => ?_))
    have hR : RS σ 1 v k S W B P N := h.1
    refine ⟨wr σ1 16 0 0, ?_, fun a ha => wr_ne (by omega), RS_cut (b := 1) (RS_frame (by omega) (fun a _ q => e2 a (by omega)) hR)⟩
    rw [f_X7_cutOff, stand7 hR, bi_some, if_pos e, e1, bi_some, vl_eq, vl_eq, e2 16 (by decide), show σ 16 0 = nI N from hR.2.2.1.2.2.2.2.1]
  · exact (AC_no (r := -2) (by decide) (fun σ h => by rw [f_X7_cutOff, stand7 (show RS σ 1 v k S W B P N from h.1), bi_some, if_neg e])).ok
theorem o_loom (a1 a2 : Int32) (h0 : ST k σ0 (v, S, W, B, P, N)) : OK (f_X7_setLoom a1 a2) k (v, S, W, B, P, N) := by
  have hR0 : RS σ0 1 v k S W B P N := h0.1
  have hN := hR0.1.2.2.2.2.2.2
  rcases rng a1 2 8 (by decide) (by decide) with q | ⟨S', hS, hS8, rfl, q1, q2⟩
  · exact (AC_no (r := -1) (by decide) (fun σ h => by rw [f_X7_setLoom, show f_X7_isBetween a1 2 8 σ = some 0 from btw_no q σ, bi_some, if_pos rfl])).ok
  rcases rng a2 4 32 (by decide) (by decide) with q | ⟨W', hW4, hW, rfl, q3, q4⟩
  · exact (AC_no (r := -1) (by decide) (fun σ h => by rw [f_X7_setLoom, show f_X7_isBetween (nI S') 2 8 σ = some 1 from btw_yes q1 q2 σ, bi_some, if_neg n10, show f_X7_isBetween a2 4 32 σ = some 0 from btw_no q σ, bi_some, if_pos rfl])).ok
  · refine AC_ok (r := nI N) (x' := (bgF S' W' (fun _ => 0), S', W', 0, 0, 0)) (AC_yes (nI_pos (by omega)) (fun r hr => absurd hr (Nat.not_lt_zero _)) (fun σ σ1 h e1 e2 => ?_))
    have hR : RS σ 1 v k S W B P N := h.1
    obtain ⟨τ, g1, g2, g3⟩ := reset_spec (o := 1) (W := W') σ1 hS hS8
    refine ⟨τ, ?_, fun a ha => g2 a (by omega), RS_fresh (k + 1) hS hS8 hW4 hW g3⟩
    rw [f_X7_setLoom, show f_X7_isBetween (nI S') 2 8 σ = some 1 from btw_yes q1 q2 σ, bi_some, if_neg n10, show f_X7_isBetween (nI W') 4 32 σ = some 1 from btw_yes q3 q4 σ, bi_some, if_neg n10, e1, bi_some, vl_eq, g1, bi_some, e2 16 (by decide), show σ 16 0 = nI N from hR.2.2.1.2.2.2.2.1]
end AT
