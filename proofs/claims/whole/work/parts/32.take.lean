/-! part 32: rows taken out, the weft laid -/
theorem usV_le (ab wf : Int32) (W r : Nat) : ∀ n, usV ab wf W r n ≤ 2 * n
  | 0 => Nat.le_refl _
  | n + 1 => by
    have h := usV_le ab wf W r n
    have h2 : ndV ab W r n ≤ 2 := by
      unfold ndV
      split
      · omega
      · split <;> omega
    rw [usV]
    split <;> omega
section WT
variable {σ : Nat → Nat → Int32} {b : Nat} {v : Nat → Int32} {k S W B P N : Nat}
theorem RS_take {c y n P' : Nat} (h : RS σ b v k S W B P N) (hc0 : c < 10) (hy0 : y < 20000 + 5000 * k) (hn : n ≤ N) (hP : P' < B) : RS (wr (wr (wr σ (b + 14) c (nI y)) (b + 15) 0 (nI n)) (b + 8) 1 (nI P')) b (upd (upd (upd v (126 + c) (nI y)) 5 (nI n)) 3 (nI P')) k S W B P' n := by
  obtain ⟨d, hv, hc, he, hf, hb, hy, hr⟩ := h
  obtain ⟨d1, d4, d6, d3, d5, d7, d2⟩ := d
  refine ⟨⟨d1, d4, d6, d3, d5, Or.inl hP, by omega⟩, ?_, ?_, fun e h1 => ?_, fun i h1 => ?_, fun i h1 => ?_, fun j h1 => ?_, fun r h1 => ?_⟩
  all_goals (try unfold RR); (try simp (disch := omega) only [wr_ne, wr_atne, wr_at, upd_ne, upd_eq])
  · exact ⟨hv.1, hv.2.1, hv.2.2.1, trivial, trivial, hv.2.2.2.2.2⟩
  · exact ⟨hc.1, hc.2.1, hc.2.2.1, trivial, trivial, hc.2.2.2.2.2⟩
  · exact he e h1
  · exact hf i h1
  · exact hb i h1
  · by_cases e : j = c
    · subst e
      rw [wr_at, upd_eq]
      exact ⟨rfl, y, hy0, rfl⟩
    · rw [wr_atne e, upd_ne (by omega)]
      exact hy j h1
  · exact hr r (by omega)
theorem take7 {c y : Nat} (h : RS σ 1 v k S W B P (N + 1)) (hPB : P < B) (hc : c < 10) (hcv : v (136 + 5 * N) = nI c) (hy : v (126 + c) = nI y) : f_X5_takeOutLastRow 1 σ = some (wr (wr (wr σ (1 + 14) c (nI (y + usV (v (138 + 5 * N)) (v (139 + 5 * N)) W N W))) (1 + 15) 0 (nI N)) (1 + 8) 1 (nI (pbV v B P))) := by
  have hN := h.1.2.2.2.2.2.2
  have hr := h.2.2.2.2.2.2.2 N (Nat.lt_succ_self N)
  rw [f_X5_takeOutLastRow, show σ (1 + 15) 0 = nI (N + 1) from h.2.2.1.2.2.2.2.1, show nI (N + 1) - 1 = nI N from nI_sub (b := 1) (by omega), vl_eq, num_at (by omega) (by decide), bi_some, show σ (1 + 16 + 1) N = _ from hr.1, hcv, num_at hc (by decide), bi_some, show σ (1 + 13 + 1) c = _ from (h.2.2.2.2.2.2.1 c hc).1, hy, num_at (by omega) (by decide), bi_some, show σ (1 + 20 + 1) N = _ from hr.2.2.2.2.2.1, num_put hc (by decide), bi_some, vl_eq, nI_add, wr_ne (by decide), wr_ne (by decide), show σ (1 + 8) 1 = nI P from h.2.2.1.2.2.2.1, before7 (v := v) (B := B) (by rw [wr_ne (by decide), wr_ne (by decide)]; exact h.2.2.1.2.2.1) (by rw [wr_ne (by decide), wr_ne (by decide)]; exact h.2.2.1.2.2.2.2.2) h.2.1.2.2.2.2.2 hPB h.1.2.2.2.2.1, bi_some, vl_eq]
theorem take8 {σ2 : Nat → Nat → Int32} {c y i t : Nat} (h : RS σ 1 v k S W B P (N + 1)) (hPB : P < B) (hc : c < 10) (hcv : v (136 + 5 * N) = nI c) (hy : v (126 + c) = nI y) (hi : i < t) (ht : t < 2 ^ 31) : b_X8_takeOut_45 (nI t) (nI i, ur σ2 184 v) = some (.inl (nI (i + 1), ur σ2 184 (upd (upd (upd v (126 + c) (nI (y + usV (v (138 + 5 * N)) (v (139 + 5 * N)) W N W))) 5 (nI N)) 3 (nI (pbV v B P))))) := by
  have hN := h.1.2.2.2.2.2.2
  have hB := h.1.2.2.2.2.1
  have hz : ¬ nI B = 0 := fun q => by have := nI_inj (b := 0) (by omega) (by decide) q; omega
  have hu : f_X8_used (nI N) (ur σ2 184 v) = some (nI (usV (v (138 + 5 * N)) (v (139 + 5 * N)) W N W)) := used8 h (ur_at _ _ _) (Nat.lt_succ_self N)
  have ho : f_X8_of (nI N) 0 (ur σ2 184 v) = some (v (136 + 5 * N)) := of8 0 (136 + 5 * N) (ur_at _ _ _) (by omega) (by omega) (by omega)
  rw [b_X8_takeOut_45, if_neg (nI_ge hi ht), ur_at, show v 5 = nI (N + 1) from h.2.1.2.2.2.2.1, show nI (N + 1) - 1 = nI N from nI_sub (b := 1) (by omega), vl_eq, ho, bi_some, hcv, show (126 : Int32) + nI c = nI (126 + c) from nI_add 126 c, ix_nI (by omega) (by decide), hu, bi_some, ix_nI (by omega) (by decide), nI_clamp (by omega), hy, nI_add, wr_ur, vl_eq, ur_at, upd_ne (by omega), show v 5 = nI (N + 1) from h.2.1.2.2.2.2.1, show nI (N + 1) - 1 = nI N from nI_sub (b := 1) (by omega), wr_ur, vl_eq]
  obtain ⟨w, hw⟩ : ∃ w, w = upd (upd v (126 + c) (nI (y + usV (v (138 + 5 * N)) (v (139 + 5 * N)) W N W))) 5 (nI N) := ⟨_, rfl⟩
  have w4 : w 4 = v 4 := by rw [hw, upd_ne (by omega), upd_ne (by omega)]
  have w2 : w 2 = nI B := by rw [hw, upd_ne (by omega), upd_ne (by omega)]; exact h.2.1.2.2.1
  have w3 : w 3 = nI P := by rw [hw, upd_ne (by omega), upd_ne (by omega)]; exact h.2.1.2.2.2.1
  rw [← hw, onward8 (ur_at σ2 184 w), bi_some, f_X8_step, ur_at, w4, w2, w3, nz_ok hz, prev8 h.2.1.2.2.2.2.2 hPB hB, wr_ur, vl_eq, bi_some, vl_eq, nI_1]
end WT
theorem take_run {k S W B t : Nat} (ht : t ≤ 64) : ∀ m i (σ : Nat → Nat → Int32) (v : Nat → Int32) P n, i + m = t → RS σ 1 v (k + 1) S W B P (n + m) → P < B → (∀ c, c < 10 → ∃ y, y < 20000 + 5000 * k + 64 * i ∧ v (126 + c) = nI y) → ∀ F, m < F → ∃ σ' v' P', lp (b_X7_takeOut_55 (nI t)) F (nI i, σ) = some σ' ∧ RS σ' 1 v' (k + 1) S W B P' n ∧ (∀ a, 29 ≤ a → σ' a = σ a) ∧ ∀ σ2, lp (b_X8_takeOut_45 (nI t)) F (nI i, ur σ2 184 v) = some (ur σ2 184 v') := by
  intro m
  induction m with
  | zero =>
    intro i σ v P n hi h hP hy F hF
    obtain ⟨G, rfl⟩ : ∃ G, F = G + 1 := ⟨F - 1, by omega⟩
    have : i = t := by omega
    subst this
    refine ⟨σ, v, P, ?_, h, fun _ _ => rfl, fun σ2 => ?_⟩
    · rw [lp_s, b_X7_takeOut_55, if_pos (nI_le (Nat.le_refl i) (by omega)), lkr]
    · rw [lp_s, b_X8_takeOut_45, if_pos (nI_le (Nat.le_refl i) (by omega)), lkr]
  | succ m ih =>
    intro i σ v P n hi h hP hy F hF
    obtain ⟨G, rfl⟩ : ∃ G, F = G + 1 := ⟨F - 1, by omega⟩
    have h1 : RS σ 1 v (k + 1) S W B P ((n + m) + 1) := h
    have hW := h.1.2.2.2.1
    obtain ⟨-, -, -, -, -, -, ⟨c, hc, hcv⟩, -⟩ := h1.2.2.2.2.2.2.2 (n + m) (Nat.lt_succ_self _)
    obtain ⟨y, hy1, hy2⟩ := hy c hc
    have hu := usV_le (v (138 + 5 * (n + m))) (v (139 + 5 * (n + m))) W (n + m) W
    have e7 := take7 h1 hP hc hcv hy2
    have hR' := RS_take (c := c) (y := y + usV (v (138 + 5 * (n + m))) (v (139 + 5 * (n + m))) W (n + m) W) (n := n + m) (P' := pbV v B P) h1 hc (by omega) (by omega) (pbV_lt hP)
    obtain ⟨σ', v', P', g1, g2, g3, g4⟩ := ih (i + 1) _ _ _ n (by omega) hR' (pbV_lt hP) (fun q hq => by
      by_cases e : q = c
      · subst e
        exact ⟨y + usV (v (138 + 5 * (n + m))) (v (139 + 5 * (n + m))) W (n + m) W, by omega, by rw [upd_ne (by omega), upd_ne (by omega), upd_eq]⟩
      · obtain ⟨z, z1, z2⟩ := hy q hq
        exact ⟨z, by omega, by rw [upd_ne (by omega), upd_ne (by omega), upd_ne (by omega)]; exact z2⟩) G (by omega)
    refine ⟨σ', v', P', ?_, g2, fun a ha => ?_, fun σ2 => ?_⟩
    · rw [lp_s, b_X7_takeOut_55, if_neg (nI_ge (by omega) (by omega)), e7, bi_some, vl_eq, nI_1, lkl]
      exact g1
    · rw [g3 a ha, wr_ne (by omega), wr_ne (by omega), wr_ne (by omega)]
    · rw [lp_s, take8 h1 hP hc hcv hy2 (by omega) (by omega), lkl]
      exact g4 σ2
theorem op_12 (k : Nat) (σ : Nat → Nat → Int32) (a1 : Int32) (h : Rel k σ) (hk : k < 512) : ∃ r σ1 σ2, f_X7_takeOut a1 σ = some (r, σ1) ∧ f_X8_takeOut a1 σ1 = some (r, σ2) ∧ Rel (k + 1) σ2 := by
  obtain ⟨⟨S, W, B, P, N, hR⟩, -, -⟩ := id h
  have hN := hR.1.2.2.2.2.2.2
  have hB := hR.1.2.2.2.2.1
  have c1 : σ 16 0 = nI N := hR.2.2.1.2.2.2.2.1
  have c2 : σ 184 5 = nI N := hR.2.1.2.2.2.2.1
  have c3 : σ 9 0 = nI B := hR.2.2.1.2.2.1
  have c4 : σ 184 2 = nI B := hR.2.1.2.2.1
  have ht : wr σ 183 0 0 184 = σ 184 := wr_ne (by decide)
  rcases rng a1 1 64 (by decide) (by decide) with q | ⟨t, ht1, ht64, rfl, q1, q2⟩
  · refine ⟨-1, σ, wr σ 183 0 0, ?_, ?_, rel_thr h⟩
    · rw [f_X7_takeOut, show f_X7_isBetween a1 1 64 σ = some 0 from btw_no q σ, bi_some, if_pos rfl]
    · rw [f_X8_takeOut, vl_eq, in_eq, show f_X7_isBetween a1 1 64 _ = some 0 from btw_no q _, bi_some, if_pos rfl]
  by_cases e : N < t
  · refine ⟨-2, σ, wr σ 183 0 0, ?_, ?_, rel_thr h⟩
    · rw [f_X7_takeOut, show f_X7_isBetween (nI t) 1 64 σ = some 1 from btw_yes q1 q2 σ, bi_some, if_neg n10, c1, if_pos (nI_lt e (by omega))]
    · rw [f_X8_takeOut, vl_eq, in_eq, show f_X7_isBetween (nI t) 1 64 _ = some 1 from btw_yes q1 q2 _, bi_some, if_neg n10, ht, c2, if_pos (nI_lt e (by omega))]
  by_cases e2 : nI B = 0
  · refine ⟨-2, σ, wr σ 183 0 0, ?_, ?_, rel_thr h⟩
    · rw [f_X7_takeOut, show f_X7_isBetween (nI t) 1 64 σ = some 1 from btw_yes q1 q2 σ, bi_some, if_neg n10, c1, if_neg (nI_nlt (by omega) (by omega)), c3, if_pos e2]
    · rw [f_X8_takeOut, vl_eq, in_eq, show f_X7_isBetween (nI t) 1 64 _ = some 1 from btw_yes q1 q2 _, bi_some, if_neg n10, ht, c2, if_neg (nI_nlt (by omega) (by omega)), c4, if_pos e2]
  · have hPB : P < B := hR.1.2.2.2.2.2.1.resolve_right (fun q => e2 (by rw [q.1]; rfl))
    obtain ⟨σ1, e1, u2, u3, u4⟩ := do_act h
    have hR1 : RS σ1 1 (σ 184) (k + 1) S W B P (N - t + t) := by
      rw [show N - t + t = N by omega]
      exact RS_frame (by omega) (fun a _ q => u2 a (by omega)) hR
    obtain ⟨σ', v', P', g1, g2, g3, g4⟩ := take_run ht64 t 0 σ1 (σ 184) P (N - t) (by omega) hR1 hPB (fun c hc => by
      obtain ⟨-, y, y1, y2⟩ := hR.2.2.2.2.2.2.1 c hc
      exact ⟨y, by omega, y2⟩) FU (Nat.lt_of_le_of_lt ht64 (by decide))
    obtain ⟨σ2, f1, f2, f3, f4, f5, f6⟩ := u4 σ' g3
    have g4' : lp (b_X8_takeOut_45 (nI t)) FU (0, σ2) = some (ur σ2 184 v') := by
      have := g4 σ2
      rw [← f2, ur_self] at this
      exact this
    have ht' : wr σ' 183 0 0 184 = σ 184 := by rw [wr_ne (by decide), g3 184 (by decide), u3 184 (by decide)]
    refine ⟨nI (N - t), σ', ur σ2 184 v', ?_, ?_, f6 _ ⟨S, W, B, P', N - t, g2⟩⟩
    · rw [f_X7_takeOut, show f_X7_isBetween (nI t) 1 64 σ = some 1 from btw_yes q1 q2 σ, bi_some, if_neg n10, c1, if_neg (nI_nlt (by omega) (by omega)), c3, if_neg e2, e1, bi_some, show lp (b_X7_takeOut_55 (nI t)) FU (0, σ1) = _ from g1, bi_some, show σ' 16 0 = nI (N - t) from g2.2.2.1.2.2.2.2.1]
    · rw [f_X8_takeOut, vl_eq, in_eq, show f_X7_isBetween (nI t) 1 64 _ = some 1 from btw_yes q1 q2 _, bi_some, if_neg n10, ht', c2, if_neg (nI_nlt (by omega) (by omega)), c4, if_neg e2, f1, bi_some, g4', bi_some, ur_at, show v' 5 = nI (N - t) from g2.2.1.2.2.2.2.1]
