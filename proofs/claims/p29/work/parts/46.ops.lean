/-! part 46: takeOut and weave -/
section TW
variable {σ0 : Nat → Nat → Int32} {v : Nat → Int32} {k S W B P N : Nat}
/-- the numbers behind the last row's taking out -/
def tkV (v : Nat → Int32) (W B P N c y : Nat) : Nat → Int32 := upd (upd (upd v (126 + c) (nI (y + usV (v (138 + 5 * N)) (v (139 + 5 * N)) W N W))) 5 (nI N)) 3 (nI (pbV v B P))
theorem tk_lo {W B P N c y q : Nat} {v : Nat → Int32} (h3 : q ≠ 3) (h5 : q ≠ 5) (hd : q ≠ 126 + c) : tkV v W B P N c y q = v q := by
  unfold tkV
  rw [upd_ne h3, upd_ne h5, upd_ne hd]
theorem yT_take {c y : Nat} (hc : c < 10) (hy : v (126 + c) = nI y) : yT (tkV v W B P N c y) W N = yT v W (N + 1) := by
  have e := sI_upd (f := fun c => v (126 + c)) (g := fun q => tkV v W B P N c y (126 + q)) hc (fun q hq hn => tk_lo (by omega) (by omega) (by omega))
  have e1 : tkV v W B P N c y (126 + c) = nI (y + usV (v (138 + 5 * N)) (v (139 + 5 * N)) W N W) := by
    unfold tkV
    rw [upd_ne (by omega), upd_ne (by omega), upd_eq]
  have e : sI (fun q => tkV v W B P N c y (126 + q)) 10 + v (126 + c) = sI (fun c => v (126 + c)) 10 + tkV v W B P N c y (126 + c) := e
  rw [hy, e1, Nat.add_comm y, ← nI_add, ← Int32.add_assoc] at e
  have e3 := i_ac e
  unfold yT
  rw [e3, sI_succ _ N, sI_c (n := N) (f := fun r => nI (usV (tkV v W B P N c y (138 + 5 * r)) (tkV v W B P N c y (139 + 5 * r)) W r W)) (g := fun r => nI (usV (v (138 + 5 * r)) (v (139 + 5 * r)) W r W)) (fun r hr => by
    show nI (usV (tkV v W B P N c y (138 + 5 * r)) (tkV v W B P N c y (139 + 5 * r)) W r W) = _
    rw [tk_lo (by omega) (by omega) (by omega), tk_lo (by omega) (by omega) (by omega)])]
  rw [← Int32.add_assoc, i_ar]
theorem take_runX {t : Nat} (ht : t ≤ 64) : ∀ m i (σ0 : Nat → Nat → Int32) (v : Nat → Int32) P n, i + m = t → RS σ0 1 v (k + 1) S W B P (n + m) → P < B → FW v W (n + m) → (∀ c, c < 10 → ∃ y, y < 20000 + 5000 * k + 64 * i ∧ v (126 + c) = nI y) → ∃ v' P', P' < B ∧ FW v' W n ∧ yT v' W n = yT v W (n + m) ∧ ∀ σ : Nat → Nat → Int32, RS σ 1 v (k + 1) S W B P (n + m) → ∃ σ' : Nat → Nat → Int32, RS σ' 1 v' (k + 1) S W B P' n ∧ (∀ a, 29 ≤ a → σ' a = σ a) ∧ ∀ F, m < F → lp (b_X7_takeOut_55 (nI t)) F (nI i, σ) = some σ' := by
  intro m
  induction m with
  | zero =>
    intro i σ0 v P n hi h hP hw hy
    refine ⟨v, P, hP, hw, rfl, fun σ h => ⟨σ, h, fun _ _ => rfl, fun F hF => ?_⟩⟩
    obtain ⟨G, rfl⟩ : ∃ G, F = G + 1 := ⟨F - 1, by omega⟩
    have : i = t := by omega
    rw [lp_s, b_X7_takeOut_55, this, if_pos (nI_le (Nat.le_refl t) (by omega)), lkr]
  | succ m ih =>
    intro i σ0 v P n hi h hP hw hy
    have hW := h.1.2.2.2.1
    obtain ⟨-, -, -, -, -, -, ⟨c, hc, hcv⟩, -⟩ := h.2.2.2.2.2.2.2 (n + m) (by omega)
    obtain ⟨y, hy1, hy2⟩ := hy c hc
    have hu := usV_le (v (138 + 5 * (n + m))) (v (139 + 5 * (n + m))) W (n + m) W
    have step : ∀ σ : Nat → Nat → Int32, RS σ 1 v (k + 1) S W B P (n + (m + 1)) → ∃ σ1 : Nat → Nat → Int32, f_X5_takeOutLastRow 1 σ = some σ1 ∧ RS σ1 1 (tkV v W B P (n + m) c y) (k + 1) S W B (pbV v B P) (n + m) ∧ ∀ a, 29 ≤ a → σ1 a = σ a := fun σ hs => by
      have hs1 : RS σ 1 v (k + 1) S W B P ((n + m) + 1) := hs
      exact ⟨_, take7 hs1 hP hc hcv hy2, RS_take (b := 1) (c := c) (y := y + usV (v (138 + 5 * (n + m))) (v (139 + 5 * (n + m))) W (n + m) W) (n := n + m) (P' := pbV v B P) hs1 hc (by omega) (by omega) (pbV_lt hP), fun a ha => by rw [wr_ne (by omega), wr_ne (by omega), wr_ne (by omega)]⟩
    obtain ⟨σ1, g1, g2, g3⟩ := step σ0 h
    obtain ⟨v', P', i1, i2, i3, i4⟩ := ih (i + 1) σ1 _ _ n (by omega) g2 (pbV_lt hP) (fun r hr => by
      rw [tk_lo (by omega) (by omega) (by omega)]
      exact hw r (by omega)) (fun q hq => by
      by_cases e : q = c
      · subst e
        exact ⟨y + usV (v (138 + 5 * (n + m))) (v (139 + 5 * (n + m))) W (n + m) W, by omega, by unfold tkV; rw [upd_ne (by omega), upd_ne (by omega), upd_eq]⟩
      · obtain ⟨z, z1, z2⟩ := hy q hq
        exact ⟨z, by omega, by rw [tk_lo (by omega) (by omega) (by omega)]; exact z2⟩)
    refine ⟨v', P', i1, i2, by rw [i3, yT_take hc hy2]; rfl, fun σ hs => ?_⟩
    obtain ⟨σ1, g1, g2, g3⟩ := step σ hs
    obtain ⟨σ', j1, j2, j3⟩ := i4 σ1 g2
    refine ⟨σ', j1, fun a ha => by rw [j2 a ha, g3 a ha], fun F hF => ?_⟩
    obtain ⟨G, rfl⟩ : ∃ G, F = G + 1 := ⟨F - 1, by omega⟩
    rw [lp_s, b_X7_takeOut_55, if_neg (nI_ge (by omega) (by omega)), g1, bi_some, vl_eq, nI_1, lkl]
    exact j3 G (by omega)
/-- what takeOut asks first -/
theorem take_in {t : Nat} (ht1 : 1 ≤ t) (ht : t ≤ 64) (htN : t ≤ N) (hP : P < B) {σ σ1 σ' : Nat → Nat → Int32} (h : RS σ 1 v k S W B P N) (e1 : f_X3_keep σ = some σ1) (hl : lp (b_X7_takeOut_55 (nI t)) FU (0, σ1) = some σ') : f_X7_takeOut (nI t) σ = some (σ' 16 0, σ') := by
  have hB := h.1.2.2.2.2.1
  have hN := h.1.2.2.2.2.2.2
  rw [f_X7_takeOut, show f_X7_isBetween (nI t) 1 64 σ = some 1 from btw_in (lo := 1) (hi := 64) ht1 ht (by decide) σ, bi_some, if_neg n10, show σ 16 0 = nI N from h.2.2.1.2.2.2.2.1, if_neg (nI_nlt htN (by omega)), show σ 9 0 = nI B from h.2.2.1.2.2.1, if_neg (nI_ne0 (by omega) (by omega)), e1, bi_some, hl, bi_some]
theorem o_take (a1 : Int32) (hk : k < 512) (h0 : ST k σ0 (v, S, W, B, P, N)) : OKY (f_X7_takeOut a1) k (v, S, W, B, P, N) := by
  have hR0 : RS σ0 1 v k S W B P N := h0.1
  have hN := hR0.1.2.2.2.2.2.2
  have hB := hR0.1.2.2.2.2.1
  have c1 : ∀ σ, ST k σ (v, S, W, B, P, N) → σ 16 0 = nI N := fun σ h => h.1.2.2.1.2.2.2.2.1
  have c3 : ∀ σ, ST k σ (v, S, W, B, P, N) → σ 9 0 = nI B := fun σ h => h.1.2.2.1.2.2.1
  rcases rng a1 1 64 (by decide) (by decide) with q | ⟨t, ht1, ht64, rfl, q1, q2⟩
  · exact AC_no (r := -1) (by decide) (fun σ h => by rw [f_X7_takeOut, show f_X7_isBetween a1 1 64 σ = some 0 from btw_no q σ, bi_some, if_pos rfl])
  by_cases e : N < t
  · exact AC_no (r := -2) (by decide) (fun σ h => by rw [f_X7_takeOut, show f_X7_isBetween (nI t) 1 64 σ = some 1 from btw_yes q1 q2 σ, bi_some, if_neg n10, c1 σ h, if_pos (nI_lt e (by omega))])
  by_cases e2 : nI B = 0
  · exact AC_no (r := -2) (by decide) (fun σ h => by rw [f_X7_takeOut, show f_X7_isBetween (nI t) 1 64 σ = some 1 from btw_yes q1 q2 σ, bi_some, if_neg n10, c1 σ h, if_neg (nI_nlt (by omega) (by omega)), c3 σ h, if_pos e2])
  · have hPB : P < B := hR0.1.2.2.2.2.2.1.resolve_right (fun q => e2 (by rw [q.1]; rfl))
    have up : ∀ σ : Nat → Nat → Int32, RS σ 1 v k S W B P N → RS σ 1 v (k + 1) S W B P (N - t + t) := fun σ h => by
      rw [show N - t + t = N by omega]
      exact RS_frame (by omega) (fun _ _ _ => rfl) h
    have hw : FW v W (N - t + t) := by rw [show N - t + t = N by omega]; exact h0.2.1
    obtain ⟨v', P', i1, i2, i3, i4⟩ := take_runX (k := k) (S := S) ht64 t 0 σ0 v P (N - t) (by omega) (up σ0 hR0) hPB hw (fun c hc => by
      obtain ⟨-, y, y1, y2⟩ := hR0.2.2.2.2.2.2.1 c hc
      exact ⟨y, by omega, y2⟩)
    have hac := AC_yes (f := f_X7_takeOut (nI t)) (k := k) (x := (v, S, W, B, P, N)) (r := nI (N - t)) (x' := (v', S, W, B, P', N - t)) (nI_pos (by omega)) i2 (fun σ σ1 h e1 e2 => by
      have hR : RS σ 1 v k S W B P N := h.1
      obtain ⟨σ', j1, j2, j3⟩ := i4 σ1 (up σ1 (RS_frame (Nat.le_refl k) (fun a _ q => e2 a (by omega)) hR))
      refine ⟨σ', ?_, j2, j1⟩
      rw [take_in ht1 ht64 (by omega) hPB hR e1 (j3 FU (Nat.lt_of_le_of_lt ht64 (by decide))), show σ' 16 0 = nI (N - t) from j1.2.2.1.2.2.2.2.1])
    refine ⟨_, _, hac.1, hac.2, ?_⟩
    show yT v' W (N - t) = yT v W N
    rw [i3, show N - t + t = N by omega]
/-- weave where it can be done -/
theorem weave_ac {t c P' N' : Nat} {v' : Nat → Int32} (hk : k < 512) (ht1 : 1 ≤ t) (ht : t ≤ 64) (hP : P < B) (hs : standV v W N = 0) (hN : N < 64) (hc : c ≤ t) (hp : PK S W B c v P N v' P' N') (hstop : c = t ∨ N' = 64 ∨ ¬ standV v' W N' = 0) (hw : FW v' W N') : (nI c < 0 → (v', S, W, B, P', N') = (v, S, W, B, P, N)) ∧ AC (f_X7_weave (nI t)) k (v, S, W, B, P, N) (nI c) (v', S, W, B, P', N') := by
  refine AC_yes (nI_pos (by omega)) hw (fun σ σ1 h e1 e2 => ?_)
  have hR : RS σ 1 v k S W B P N := h.1
  have hB := hR.1.2.2.2.2.1
  obtain ⟨σ', j1, j2, j3⟩ := PK_run (k := k + 1) (by omega) ht c v P N hp hP σ1 (RS_frame (by omega) (fun a _ q => e2 a (by omega)) hR) 0 (by omega) (by rw [Nat.zero_add]; exact hstop)
  have j3 := j3 FU (Nat.lt_of_le_of_lt (show c ≤ 64 by omega) (by decide))
  rw [Nat.zero_add] at j3
  refine ⟨σ', ?_, j2, j1⟩
  rw [f_X7_weave, show f_X7_isBetween (nI t) 1 64 σ = some 1 from btw_in (lo := 1) (hi := 64) ht1 ht (by decide) σ, bi_some, if_neg n10, show σ 9 0 = nI B from hR.2.2.1.2.2.1, if_neg (nI_ne0 (by omega) (by omega)), stand7 hR, bi_some, if_pos hs, f_X2_isFull, show σ 16 0 = nI N from hR.2.2.1.2.2.2.2.1, if_pos (show nI N < 64 from nI_lt (b := 64) hN (by decide)), bi_some, if_pos rfl, e1, bi_some, show lp (b_X7_weave_70 (nI t)) FU (0, σ1) = _ from j3, b2_some]
theorem o_weave (a1 : Int32) (hk : k < 512) (h0 : ST k σ0 (v, S, W, B, P, N)) : OKY (f_X7_weave a1) k (v, S, W, B, P, N) := by
  have hR0 : RS σ0 1 v k S W B P N := h0.1
  have hN := hR0.1.2.2.2.2.2.2
  have hB := hR0.1.2.2.2.2.1
  have c1 : ∀ σ, ST k σ (v, S, W, B, P, N) → σ 16 0 = nI N := fun σ h => h.1.2.2.1.2.2.2.2.1
  have c3 : ∀ σ, ST k σ (v, S, W, B, P, N) → σ 9 0 = nI B := fun σ h => h.1.2.2.1.2.2.1
  rcases rng a1 1 64 (by decide) (by decide) with q | ⟨t, ht1, ht64, rfl, q1, q2⟩
  · exact AC_no (r := -1) (by decide) (fun σ h => by rw [f_X7_weave, show f_X7_isBetween a1 1 64 σ = some 0 from btw_no q σ, bi_some, if_pos rfl])
  by_cases e : nI B = 0
  · exact AC_no (r := -2) (by decide) (fun σ h => by rw [f_X7_weave, show f_X7_isBetween (nI t) 1 64 σ = some 1 from btw_yes q1 q2 σ, bi_some, if_neg n10, c3 σ h, if_pos e])
  by_cases e2 : standV v W N = 0
  · by_cases e3 : N = 64
    · exact AC_no (r := -3) (by decide) (fun σ h => by rw [f_X7_weave, show f_X7_isBetween (nI t) 1 64 σ = some 1 from btw_yes q1 q2 σ, bi_some, if_neg n10, c3 σ h, if_neg e, stand7 (show RS σ 1 v k S W B P N from h.1), bi_some, if_pos e2, f_X2_isFull, c1 σ h, if_neg (show ¬ nI N < 64 by rw [e3]; decide), bi_some, if_neg n10])
    · have hPB : P < B := hR0.1.2.2.2.2.2.1.resolve_right (fun q => e (by rw [q.1]; rfl))
      obtain ⟨c, v', P', N', p1, p2, p3, p4⟩ := PK_ex (k := k) (by omega) t σ0 v P N hR0 hPB
      obtain ⟨u1, u2, u3, u4⟩ := PK_inv (k := k) (by omega) c σ0 v P N p2 hPB hR0 h0.2.1
      have hac := weave_ac hk ht1 ht64 hPB e2 (by omega) p1 p2 p3 u2
      exact ⟨_, _, hac.1, hac.2, u4⟩
  · exact AC_no (r := -2) (by decide) (fun σ h => by rw [f_X7_weave, show f_X7_isBetween (nI t) 1 64 σ = some 1 from btw_yes q1 q2 σ, bi_some, if_neg n10, c3 σ h, if_neg e, stand7 (show RS σ 1 v k S W B P N from h.1), bi_some, if_neg e2])
/-- woven, taken out, woven again: as it was, and as it was then -/
theorem wtw {t : Nat} (hk : k + 3 < 512) (ht1 : 1 ≤ t) (ht : t ≤ 8) (h0 : ST k σ0 (v, S, W, B, P, N)) (hB0 : 0 < B) (hs : standV v W N = 0) (hN : N < 50) : ∃ c x' σ1 σ2 σ3, 1 ≤ c ∧ c < 2 ^ 31 ∧ f_X7_weave (nI t) σ0 = some (nI c, σ1) ∧ ST (k + 1) σ1 x' ∧ f_X7_takeOut (nI c) σ1 = some (nI N, σ2) ∧ ST (k + 2) σ2 (v, S, W, B, P, N) ∧ f_X7_weave (nI c) σ2 = some (nI c, σ3) ∧ ST (k + 3) σ3 x' := by
  have hR0 : RS σ0 1 v k S W B P N := h0.1
  have hPB : P < B := hR0.1.2.2.2.2.2.1.resolve_right (fun q => by omega)
  obtain ⟨c, v', P', N', p1, p2, p3, p4⟩ := PK_ex (k := k) (by omega) t σ0 v P N hR0 hPB
  have hc1 : 0 < c := p4 (by omega) (by omega) hs
  obtain ⟨u1, u2, u3, u4⟩ := PK_inv (k := k) (by omega) c σ0 v P N p2 hPB hR0 h0.2.1
  obtain ⟨σ1, a1, a2, -⟩ := (weave_ac (k := k) (by omega) ht1 (by omega) hPB hs (by omega) p1 p2 p3 u2).2 σ0 h0
  have hback := AC_yes (f := f_X7_takeOut (nI c)) (k := k + 1) (x := (v', S, W, B, P', N')) (r := nI N) (x' := (v, S, W, B, P, N)) (nI_pos (by omega)) h0.2.1 (fun σ σ1 h e1 e2 => by
    have hR : RS σ 1 v' (k + 1) S W B P' N' := h.1
    obtain ⟨τ', b1, b2, b3⟩ := PK_back (k := k) (k' := k + 1 + 1) (by omega) (by omega) (t := c) (by omega) c σ0 v P N p2 hPB hR0 σ1 (RS_frame (by omega) (fun a _ q => e2 a (by omega)) hR) 0 (by omega)
    refine ⟨τ', ?_, b2, b1⟩
    have b4 : lp (b_X7_takeOut_55 (nI c)) FU (0, σ1) = some τ' := by
      obtain ⟨F, hF⟩ : ∃ F, FU = F + 1 + c := ⟨FU - 1 - c, by have : FU = 4096 := rfl; omega⟩
      have := b3 (F + 1)
      rw [← hF, Nat.zero_add] at this
      rw [show lp (b_X7_takeOut_55 (nI c)) FU (0, σ1) = _ from this, lp_s, b_X7_takeOut_55, if_pos (nI_le (Nat.le_refl c) (by omega)), lkr]
    rw [take_in (show 1 ≤ c by omega) (by omega) (by omega) u3 hR e1 b4, show τ' 16 0 = nI N from b1.2.2.1.2.2.2.2.1])
  obtain ⟨σ2, d1, d2, -⟩ := hback.2 σ1 a2
  obtain ⟨σ3, f1, f2, -⟩ := (weave_ac (k := k + 2) (t := c) (by omega) (by omega) (by omega) hPB hs (by omega) (Nat.le_refl c) p2 (Or.inl rfl) u2).2 σ2 d2
  exact ⟨c, _, σ1, σ2, σ3, hc1, by omega, a1, a2, d1, d2, f1, f2⟩
end TW
