/-! part 27: ends, cells, floats -/
section RW
variable {σ τ : Nat → Nat → Int32} {v : Nat → Int32} {k S W B P N : Nat}
def tN (b : Bool) : Nat := if b = true then 1 else 0
theorem above7 {e : Nat} (hR : RS σ 1 v k S W B P N) (he : e < W) : f_X2_rowsAbove 16 (nI e) σ = some (nI (sumN (fun r => tN (bt (v (138 + 5 * r)) e)) N)) := by
  have hN := hR.1.2.2.2.2.2.2
  have hW := hR.1.2.2.2.1
  have c1 : σ 16 0 = nI N := hR.2.2.1.2.2.2.2.1
  have hl : lp (b_X2_rowsAbove_4 16 (nI e) σ) FU (0, 0) = some (nI (sumN (fun r => tN (bt (v (138 + 5 * r)) e)) N)) := by
    refine lp_run (fun i => (nI (sumN (fun r => tN (bt (v (138 + 5 * r)) e)) i), nI i)) N (by omega) (fun i hi => ?_) ?_ rfl
    · show b_X2_rowsAbove_4 16 (nI e) σ (_, nI i) = _
      rw [b_X2_rowsAbove_4, c1, if_neg (nI_ge hi (by omega)), num_at (by omega) (by decide), bi_some, show σ (16 + 7 + 1) i = _ from (hR.2.2.2.2.2.2.2 i hi).2.2.1, bitOf_spec (by omega), bi_some, vl_eq, vl_eq, nI_1, show (if bt (v (138 + 5 * i)) e = true then (1 : Int32) else 0) = nI (tN (bt (v (138 + 5 * i)) e)) by cases bt (v (138 + 5 * i)) e <;> rfl, nI_add]
      rfl
    · show b_X2_rowsAbove_4 16 (nI e) σ (_, nI N) = _
      rw [b_X2_rowsAbove_4, c1, if_pos (nI_le (Nat.le_refl N) (by omega))]
  rw [f_X2_rowsAbove, hl, bi_some]
theorem rowsWrong7 {e : Nat} (hR : RS σ 1 v k S W B P N) (he : e < W) : f_X2_rowsWrong 16 (nI e) σ = some (nI (sumN (fun r => tN (bt (wrongV v W r) e)) N)) := by
  have hN := hR.1.2.2.2.2.2.2
  have hW := hR.1.2.2.2.1
  have c1 : σ 16 0 = nI N := hR.2.2.1.2.2.2.2.1
  have hl : lp (b_X2_rowsWrong_4 16 (nI e) σ) FU (0, 0) = some (nI (sumN (fun r => tN (bt (wrongV v W r) e)) N)) := by
    refine lp_run (fun i => (nI (sumN (fun r => tN (bt (wrongV v W r) e)) i), nI i)) N (by omega) (fun i hi => ?_) ?_ rfl
    · show b_X2_rowsWrong_4 16 (nI e) σ (_, nI i) = _
      rw [b_X2_rowsWrong_4, c1, if_neg (nI_ge hi (by omega)), wrong7 hR hi, bi_some, bitOf_spec (by omega), bi_some, vl_eq, vl_eq, nI_1, show (if bt (wrongV v W i) e = true then (1 : Int32) else 0) = nI (tN (bt (wrongV v W i) e)) by cases bt (wrongV v W i) e <;> rfl, nI_add]
      rfl
    · show b_X2_rowsWrong_4 16 (nI e) σ (_, nI N) = _
      rw [b_X2_rowsWrong_4, c1, if_pos (nI_le (Nat.le_refl N) (by omega))]
  rw [f_X2_rowsWrong, hl, bi_some]
theorem rows8 {e d : Nat} (hR : RS σ 1 v k S W B P N) (ht : τ 184 = v) (he : e < W) (hd : d < 2) : f_X8_rowsWith (nI e) (nI d) τ = some (nI (sumN (fun r => tN (bt (if d = 0 then v (138 + 5 * r) else wrongV v W r) e)) N)) := by
  have hN := hR.1.2.2.2.2.2.2
  have hW := hR.1.2.2.2.1
  have c1 : τ 184 5 = nI N := by rw [ht]; exact hR.2.1.2.2.2.2.1
  have ed : (nI d = 0) ↔ d = 0 := nI_eq (b := 0) (by omega) (by decide)
  have hl : lp (b_X8_rowsWith_5 (nI e) (nI d) τ) FU (0, 0) = some (nI (sumN (fun r => tN (bt (if d = 0 then v (138 + 5 * r) else wrongV v W r) e)) N)) := by
    refine lp_run (fun i => (nI (sumN (fun r => tN (bt (if d = 0 then v (138 + 5 * r) else wrongV v W r) e)) i), nI i)) N (by omega) (fun i hi => ?_) ?_ rfl
    · show b_X8_rowsWith_5 (nI e) (nI d) τ (_, nI i) = _
      have hp : ∀ {γ : Type} (K : Int32 → Option γ), (if nI d = 0 then (bi (f_X8_of (nI i) 2 τ) fun r => K r) else (bi (f_X8_wrong (nI i) τ) fun r => K r)) = K (if d = 0 then v (138 + 5 * i) else wrongV v W i) := fun K => by
        by_cases q : d = 0
        · rw [if_pos (ed.mpr q), if_pos q, show f_X8_of (nI i) 2 τ = _ from of8 2 (138 + 5 * i) ht (by omega) (by omega) (by omega), bi_some]
        · rw [if_neg (fun z => q (ed.mp z)), if_neg q, wrong8 hR ht hi, bi_some]
      rw [b_X8_rowsWith_5, c1, if_neg (nI_ge hi (by omega)), jn_eq]
      refine (hp _).trans ?_
      rw [has_spec (by omega), bi_some]
      simp only [vl_eq]
      rw [nI_1, sumN]
      cases bt (if d = 0 then v (138 + 5 * i) else wrongV v W i) e
      · rw [if_pos (by rfl), show (0 : Int32) = nI 0 from rfl, nI_add]; rfl
      · rw [if_neg (by decide), show (1 : Int32) = nI 1 from rfl, nI_add]; rfl
    · show b_X8_rowsWith_5 (nI e) (nI d) τ (_, nI N) = _
      rw [b_X8_rowsWith_5, c1, if_pos (nI_le (Nat.le_refl N) (by omega))]
  rw [f_X8_rowsWith, hl, bi_some]
end RW
theorem op_16 (k : Nat) (σ : Nat → Nat → Int32) (a1 a2 : Int32) (h : Rel k σ) (hk : k < 512) : ∃ r σ2, f_X7_end a1 a2 σ = some r ∧ f_X8_end a1 a2 σ = some (r, σ2) ∧ Rel (k + 1) σ2 := by
  obtain ⟨⟨S, W, B, P, N, hR⟩, -, -⟩ := id h
  have hN := hR.1.2.2.2.2.2.2
  have hW := hR.1.2.2.2.1
  have ht : wr σ 183 0 0 184 = σ 184 := wr_ne (by decide)
  have c1 : σ 16 0 = nI N := hR.2.2.1.2.2.2.2.1
  have c3 : σ 2 1 = nI W := hR.2.2.1.2.1
  have c4 : σ 184 1 = nI W := hR.2.1.2.1
  rw [f_X7_end, f_X8_end, vl_eq, f_X6_hasEnd, f_X8_isEnd, in_eq, ht]
  rcases rngN a1 W (by omega) with q | ⟨x, hx, rfl, q1, q2⟩
  · rw [has_no q c3, has_no q c4, bi_some, bi_some, bi_some, if_pos rfl, if_pos rfl]
    exact ⟨_, _, rfl, rfl, rel_thr h⟩
  · rw [has_yes q1 q2 c3, has_yes q1 q2 c4, bi_some, bi_some, bi_some, if_neg n10, if_neg n10]
    by_cases p0 : a2 = 0
    · rw [if_pos p0, if_pos p0, num_at (by omega) (by decide), bi_some, show (6 : Int32) + nI x = nI (6 + x) from nI_add 6 x, ix_nI (by omega) (by decide), nI_clamp (by omega), show σ (3 + 1) x = _ from (hR.2.2.2.1 x hx).1]
      exact ⟨_, _, rfl, rfl, rel_thr h⟩
    rw [if_neg p0, if_neg p0]
    by_cases p1 : a2 = 1
    · rw [if_pos p1, if_pos p1, num_at (by omega) (by decide), bi_some, show (38 : Int32) + nI x = nI (38 + x) from nI_add 38 x, ix_nI (by omega) (by decide), nI_clamp (by omega), show σ (5 + 1) x = _ from (hR.2.2.2.1 x hx).2.1]
      exact ⟨_, _, rfl, rfl, rel_thr h⟩
    rw [if_neg p1, if_neg p1]
    by_cases p2 : a2 = 2
    · rw [if_pos p2, if_pos p2, above7 hR hx, show f_X8_rowsWith (nI x) 0 _ = _ from rows8 (d := 0) hR ht hx (by decide), bi_some, bi_some]
      exact ⟨_, _, rfl, rfl, rel_thr h⟩
    rw [if_neg p2, if_neg p2]
    by_cases p3 : a2 = 3
    · rw [if_pos p3, if_pos p3, rowsWrong7 hR hx, show f_X8_rowsWith (nI x) 1 _ = _ from rows8 (d := 1) hR ht hx (by decide), bi_some, bi_some]
      exact ⟨_, _, rfl, rfl, rel_thr h⟩
    rw [if_neg p3, if_neg p3]
    by_cases p4 : a2 = 4
    · obtain ⟨c, b, e⟩ := longest8 (d := 0) (x := x) hR ht (by decide) (by rw [if_pos rfl]; exact hx)
      have e7 := long7 (a1 := nI 0) (a2 := nI x) (n := N) (by omega) (lineV_le (σ 184) 0 N x) (fun i hi => along7 (d := 0) hR (by decide) (by rw [if_pos rfl]; exact hx) (by rw [if_pos rfl]; exact hi))
      rw [if_pos rfl] at e
      rw [if_pos p4, if_pos p4, c1, show f_X2_longestFloat 16 0 (nI x) (nI N) σ = _ from e7, bi_some, show f_X8_longestOf 0 (nI x) _ = _ from e, b2_some]
      exact ⟨_, _, rfl, rfl, rel_mk h⟩
    rw [if_neg p4, if_neg p4]
    exact ⟨_, _, rfl, rfl, rel_thr h⟩
theorem op_20 (k : Nat) (σ : Nat → Nat → Int32) (a1 a2 a3 : Int32) (h : Rel k σ) (hk : k < 512) : ∃ r σ2, f_X7_cell a1 a2 a3 σ = some r ∧ f_X8_cell a1 a2 a3 σ = some (r, σ2) ∧ Rel (k + 1) σ2 := by
  obtain ⟨⟨S, W, B, P, N, hR⟩, -, -⟩ := id h
  have hN := hR.1.2.2.2.2.2.2
  have hW := hR.1.2.2.2.1
  have ht : wr σ 183 0 0 184 = σ 184 := wr_ne (by decide)
  have c1 : σ 16 0 = nI N := hR.2.2.1.2.2.2.2.1
  have c2 : σ 184 5 = nI N := hR.2.1.2.2.2.2.1
  have c3 : σ 2 1 = nI W := hR.2.2.1.2.1
  have c4 : σ 184 1 = nI W := hR.2.1.2.1
  have key : ∃ r, f_X7_cell a1 a2 a3 σ = some r ∧ f_X8_cell a1 a2 a3 σ = some (r, wr σ 183 0 0) := by
    rw [f_X7_cell, f_X8_cell, vl_eq, f_X2_hasRow, f_X8_isRow, in_eq, ht]
    rcases rngN a1 N (by omega) with q | ⟨x, hx, rfl, q1, q2⟩
    · rw [has_no q c1, has_no q c2, bi_some, bi_some, bi_some, if_pos rfl, if_pos rfl]
      exact ⟨_, rfl, rfl⟩
    rw [has_yes q1 q2 c1, has_yes q1 q2 c2, bi_some, bi_some, bi_some, if_neg n10, if_neg n10, f_X6_hasEnd, f_X8_isEnd, in_eq, ht]
    rcases rngN a2 W (by omega) with q | ⟨y, hy, rfl, q3, q4⟩
    · rw [has_no q c3, has_no q c4, bi_some, bi_some, bi_some, if_pos rfl, if_pos rfl]
      exact ⟨_, rfl, rfl⟩
    rw [has_yes q3 q4 c3, has_yes q3 q4 c4, bi_some, bi_some, bi_some, if_neg n10, if_neg n10, side7 hR hx hy, bi_some, in_eq, side8 (v := σ 184) ht (by omega) (by omega)]
    have hsd := sideV_le (σ 184) x y
    have m1 := clS_2 (sideV (σ 184) x y) hsd
    have m2 : (nI (sideV (σ 184) x y) = 2) ↔ sideV (σ 184) x y = 2 := nI_eq (b := 2) (by omega) (by decide)
    rcases rng a3 0 3 (by decide) (by decide) with q | ⟨z, -, hz, rfl, q5, q6⟩
    · rw [show f_X7_isBetween a3 0 3 _ = some 0 from btw_no q _, bi_some, if_pos rfl]
      have w : ∀ z : Nat, z ≤ 3 → ¬ a3 = nI z := fun z hz e => by
        subst e
        rcases q with q | q
        · exact absurd q (nI_nlt (Nat.zero_le z) (by omega))
        · exact absurd q (nI_nlt hz (by omega))
      rw [if_neg (show ¬ a3 = 0 from w 0 (by omega)), if_neg (show ¬ a3 = 1 from w 1 (by omega)), if_neg (show ¬ a3 = 2 from w 2 (by omega)), if_neg (show ¬ a3 = 3 from w 3 (by omega))]
      exact ⟨_, rfl, rfl⟩
    rw [show f_X7_isBetween (nI z) 0 3 _ = some 1 from btw_yes q5 q6 _, bi_some, if_neg n10, bi_some]
    rcases (show z = 0 ∨ z = 1 ∨ z = 2 ∨ z = 3 by omega) with rfl | rfl | rfl | rfl
    · rw [if_neg (show ¬ (2 : Int32) ≤ nI 0 by decide), if_pos (show nI 0 = 0 from rfl), if_pos (show nI 0 = 0 from rfl)]
      by_cases e : sideV (σ 184) x y = 2
      · rw [if_pos (m1.mpr e), if_pos (m2.mpr e)]; exact ⟨_, rfl, rfl⟩
      · rw [if_neg (fun q => e (m1.mp q)), if_neg (fun q => e (m2.mp q)), show clS (sideV (σ 184) x y) = nI (sideV (σ 184) x y) by unfold clS; rw [if_neg e]]
        exact ⟨_, rfl, rfl⟩
    · rw [if_neg (show ¬ (2 : Int32) ≤ nI 1 by decide), if_neg (show ¬ nI 1 = 0 by decide), if_neg (show ¬ nI 1 = 0 by decide), if_pos (show nI 1 = 1 from rfl)]
      by_cases e : sideV (σ 184) x y = 2
      · rw [if_pos (m1.mpr e), if_pos (m2.mpr e)]; exact ⟨_, rfl, rfl⟩
      · rw [if_neg (fun q => e (m1.mp q)), if_neg (fun q => e (m2.mp q)), show clS (sideV (σ 184) x y) = nI (sideV (σ 184) x y) by unfold clS; rw [if_neg e], f_X7_seenColor]
        have m3 : (nI (sideV (σ 184) x y) = 1) ↔ sideV (σ 184) x y = 1 := nI_eq (b := 1) (by omega) (by decide)
        by_cases e1 : sideV (σ 184) x y = 1
        · rw [if_pos (m3.mpr e1), if_pos (m3.mpr e1), num_at (by omega) (by decide), bi_some, bi_some, show (38 : Int32) + nI y = nI (38 + y) from nI_add 38 y, ix_nI (by omega) (by decide), nI_clamp (by omega), show σ (5 + 1) y = _ from (hR.2.2.2.1 y hy).2.1]
          exact ⟨_, rfl, rfl⟩
        · rw [if_neg (fun q => e1 (m3.mp q)), if_neg (fun q => e1 (m3.mp q)), num_at (by omega) (by decide), bi_some, bi_some, show f_X8_of (nI x) 0 _ = _ from of8 0 (136 + 5 * x) ht (by omega) (by omega) (by omega), bi_some, show σ (17 + 1) x = _ from (hR.2.2.2.2.2.2.2 x hx).1]
          exact ⟨_, rfl, rfl⟩
    · rw [if_pos (show (2 : Int32) ≤ nI 2 by decide), if_neg (show ¬ nI 2 = 0 by decide), if_neg (show ¬ nI 2 = 1 by decide), if_pos (show nI 2 = 2 from rfl), wrong7 hR hx, bi_some, bitOf_spec (by omega), bi_some, jn_eq, if_pos (show nI 2 = 2 from rfl), wrong8 hR ht hx, bi_some]
      dsimp only
      rw [has_spec (by omega), bi_some]
      cases bt (wrongV (σ 184) W x) y
      · exact ⟨_, rfl, rfl⟩
      · exact ⟨_, rfl, rfl⟩
    · rw [if_pos (show (2 : Int32) ≤ nI 3 by decide), if_neg (show ¬ nI 3 = 0 by decide), if_neg (show ¬ nI 3 = 1 by decide), if_neg (show ¬ nI 3 = 2 by decide), if_pos (show nI 3 = 3 from rfl), num_at (by omega) (by decide), bi_some, bitOf_spec (by omega), bi_some, jn_eq, if_neg (show ¬ nI 3 = 2 by decide), show f_X8_of (nI x) 4 _ = _ from of8 4 (140 + 5 * x) ht (by omega) (by omega) (by omega), bi_some]
      dsimp only
      rw [has_spec (by omega), bi_some, show σ (27 + 1) x = _ from (hR.2.2.2.2.2.2.2 x hx).2.2.2.2.1]
      cases bt (σ 184 (140 + 5 * x)) y
      · exact ⟨_, rfl, rfl⟩
      · exact ⟨_, rfl, rfl⟩
  obtain ⟨r, e1, e2⟩ := key
  exact ⟨r, _, e1, e2, rel_thr h⟩
theorem op_21 (k : Nat) (σ : Nat → Nat → Int32) (a1 a2 : Int32) (h : Rel k σ) (hk : k < 512) : ∃ r σ2, f_X7_floats a1 a2 σ = some r ∧ f_X8_floats a1 a2 σ = some (r, σ2) ∧ Rel (k + 1) σ2 := by
  obtain ⟨⟨S, W, B, P, N, hR⟩, -, -⟩ := id h
  have hN := hR.1.2.2.2.2.2.2
  have hW := hR.1.2.2.2.1
  have ht : wr σ 183 0 0 184 = σ 184 := wr_ne (by decide)
  have c1 : σ 16 0 = nI N := hR.2.2.1.2.2.2.2.1
  have c3 : σ 2 1 = nI W := hR.2.2.1.2.1
  rw [f_X7_floats, f_X8_floats]
  simp only [vl_eq, in_eq]
  rcases rng a1 0 1 (by decide) (by decide) with q | ⟨d, -, hd, rfl, q1, q2⟩
  · rw [show f_X7_isBetween a1 0 1 σ = some 0 from btw_no q _, show f_X7_isBetween a1 0 1 _ = some 0 from btw_no q _, bi_some, bi_some, if_pos rfl, if_pos rfl]
    exact ⟨_, _, rfl, rfl, rel_thr h⟩
  rw [show f_X7_isBetween (nI d) 0 1 σ = some 1 from btw_yes q1 q2 _, show f_X7_isBetween (nI d) 0 1 _ = some 1 from btw_yes q1 q2 _, bi_some, bi_some, if_neg n10, if_neg n10]
  rcases rng a2 1 64 (by decide) (by decide) with q | ⟨m, hm0, hm, rfl, q3, q4⟩
  · rw [show f_X7_isBetween a2 1 64 σ = some 0 from btw_no q _, show f_X7_isBetween a2 1 64 _ = some 0 from btw_no q _, bi_some, bi_some, if_pos rfl, if_pos rfl]
    exact ⟨_, _, rfl, rfl, rel_thr h⟩
  rw [show f_X7_isBetween (nI m) 1 64 σ = some 1 from btw_yes q3 q4 _, show f_X7_isBetween (nI m) 1 64 _ = some 1 from btw_yes q3 q4 _, bi_some, bi_some, if_neg n10, if_neg n10, c1, c3]
  have ed : (nI d = 0) ↔ d = 0 := nI_eq (b := 0) (by omega) (by decide)
  obtain ⟨X, hX⟩ : ∃ X, X = (if d = 0 then W else N) := ⟨_, rfl⟩
  obtain ⟨Y, hY⟩ : ∃ Y, Y = (if d = 0 then N else W) := ⟨_, rfl⟩
  have hX64 : X ≤ 64 := by rw [hX]; split <;> omega
  have hY64 : Y ≤ 64 := by rw [hY]; split <;> omega
  have eX : (if nI d = 0 then nI W else nI N) = nI X := by
    by_cases q : d = 0
    · rw [if_pos (ed.mpr q), hX, if_pos q]
    · rw [if_neg (fun z => q (ed.mp z)), hX, if_neg q]
  have eY : (if nI d = 0 then nI N else nI W) = nI Y := by
    by_cases q : d = 0
    · rw [if_pos (ed.mpr q), hY, if_pos q]
    · rw [if_neg (fun z => q (ed.mp z)), hY, if_neg q]
  have hl7 : lp (b_X7_floats_84 (nI d) (nI m) σ (nI X) (nI Y)) FU (0, 0) = some (nI (sumN (fun x => c7 (lineV (σ 184) d Y x) m Y) X)) := by
    refine lp_run (fun i => (nI (sumN (fun x => c7 (lineV (σ 184) d Y x) m Y) i), nI i)) X (by omega) (fun i hi => ?_) ?_ rfl
    · show b_X7_floats_84 (nI d) (nI m) σ (nI X) (nI Y) (_, nI i) = _
      rw [b_X7_floats_84, if_neg (nI_ge hi (by omega)), floats7 (s := lineV (σ 184) d Y i) (n := Y) (m := m) hY64 (by omega) (lineV_le (σ 184) d Y i) (fun j hj => by rw [hY]; exact along7 hR (by omega) (by rw [← hX]; exact hi) (by rw [← hY]; exact hj)), bi_some, vl_eq, vl_eq, nI_add, nI_1]
      rfl
    · show b_X7_floats_84 (nI d) (nI m) σ (nI X) (nI Y) (_, nI X) = _
      rw [b_X7_floats_84, if_pos (nI_le (Nat.le_refl X) (by omega))]
  let bb : Nat → Nat := fun i => Nat.rec 0 (fun x b => max b (mx (lineV (σ 184) d Y x) Y)) i
  have hbb : ∀ i, bb i ≤ 64 := fun i => by
    induction i with
    | zero => exact Nat.zero_le _
    | succ i ih =>
      show max (bb i) (mx (lineV (σ 184) d Y i) Y) ≤ 64
      have := mx_le (lineV (σ 184) d Y i) Y
      omega
  have hl8 : lp (b_X8_floats_38 (nI d) (nI m)) FU (0, mk (wr σ 183 0 0) 0 0) = some (mk (wr σ 183 0 0) (sumN (fun x => c7 (lineV (σ 184) d Y x) m Y) X) (bb X)) := by
    refine lp_run (fun i => (nI i, mk (wr σ 183 0 0) (sumN (fun x => c7 (lineV (σ 184) d Y x) m Y) i) (bb i))) X (by omega) (fun i hi => ?_) ?_ rfl
    · show b_X8_floats_38 (nI d) (nI m) (nI i, _) = _
      have hb := hbb i
      have e := meas8 (d := d) (x := i) (m := m) (c := sumN (fun x => c7 (lineV (σ 184) d Y x) m Y) i) (b := bb i) hR ht (by omega) (by rw [← hX]; exact hi) (by omega) (by omega) (by omega)
      rw [← hY] at e
      rw [b_X8_floats_38, mk_ne (by decide), ht, show σ 184 1 = nI W from hR.2.1.2.1, show σ 184 5 = nI N from hR.2.1.2.2.2.2.1, eX, vl_eq, if_neg (nI_ge hi (by omega)), e, bi_some, vl_eq, nI_1]
      rfl
    · show b_X8_floats_38 (nI d) (nI m) (nI X, _) = _
      rw [b_X8_floats_38, mk_ne (by decide), ht, show σ 184 1 = nI W from hR.2.1.2.1, show σ 184 5 = nI N from hR.2.1.2.2.2.2.1, eX, vl_eq, if_pos (nI_le (Nat.le_refl X) (by omega))]
  rw [eX, eY, hl7, bi_some, show wr (wr (wr σ 183 0 0) 183 11 0) 183 12 0 = mk (wr σ 183 0 0) 0 0 from rfl, hl8, bi_some, mk_11]
  exact ⟨_, _, rfl, rfl, rel_mk h⟩
