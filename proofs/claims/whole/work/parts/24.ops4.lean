/-! part 24: the cut, the undo, a bar's numbers -/
theorem op_13 (k : Nat) (σ : Nat → Nat → Int32) (h : Rel k σ) (hk : k < 512) : ∃ r σ1 σ2, f_X7_cutOff  σ = some (r, σ1) ∧ f_X8_cutOff  σ1 = some (r, σ2) ∧ Rel (k + 1) σ2 := by
  obtain ⟨⟨S, W, B, P, N, hR⟩, -, -⟩ := id h
  by_cases e : standV (σ 184) W N = 0
  · obtain ⟨σ1, e1, e2, e3, e4⟩ := do_act h
    obtain ⟨σ2, f1, f2, f3, f4, f5, f6⟩ := e4 (wr σ1 16 0 0) (fun a ha => wr_ne (by omega))
    have hR1 : RS (wr σ1 16 0 0) 1 (upd (σ 184) 5 0) (k + 1) S W B P 0 := RS_cut (b := 1) (RS_frame (by omega) (fun a _ q => e2 a (by omega)) hR)
    refine ⟨σ 16 0, wr σ1 16 0 0, ur σ2 184 (upd (σ2 184) 5 0), ?_, ?_, f6 _ ⟨S, W, B, P, 0, by rw [f2]; exact hR1⟩⟩
    · rw [f_X7_cutOff, stand7 hR, bi_some, if_pos e, e1, bi_some, vl_eq, vl_eq, e2 16 (by decide)]
    · have hs : f_X8_stands (wr (wr σ1 16 0 0) 183 0 0) = some (standV (σ 184) W N) := stand8 hR (by rw [wr_ne (by decide), wr_ne (by decide), e3 184 (by decide)])
      rw [f_X8_cutOff, vl_eq, hs, bi_some, if_pos e, show f_X8_put 5 0 _ = _ from put_spec (q := 5) (by decide) f1, b2_some, f2, show σ 16 0 = σ 184 5 from hR.2.2.1.2.2.2.2.1.trans hR.2.1.2.2.2.2.1.symm]
  · refine ⟨-2, σ, wr σ 183 0 0, ?_, ?_, rel_thr h⟩
    · rw [f_X7_cutOff, stand7 hR, bi_some, if_neg e]
    · rw [f_X8_cutOff, vl_eq, stand8 hR (wr_ne (by decide)), bi_some, if_neg e]
theorem undo_row {τ : Nat → Nat → Int32} {m : Nat} (hm : m < 5) (h1 : τ 183 4 = nI m) : lp b_X8_undo_27 FU (0, τ) = some (ur τ 184 (fun p => if p < 456 then τ 186 (456 * m + p) else τ 184 p)) := by
  refine lp_run (fun i => (nI i, ur τ 184 (fun p => if p < i then τ 186 (456 * m + p) else τ 184 p))) 456 (by omega) (fun i hi => ?_) ?_ ?_
  · show b_X8_undo_27 (nI i, _) = _
    rw [b_X8_undo_27, if_neg (show ¬ (456 : Int32) ≤ nI i from nI_ge (b := 456) hi (by omega)), ur_ne (by decide), h1, show (456 : Int32) * nI m + nI i = nI (456 * m + i) by rw [show (456 : Int32) = nI 456 from rfl, nI_mul, nI_add], ix_nI (by omega) (by omega), ix_nI (by omega) (by omega), nI_clamp (by omega), nI_clamp (by omega), vl_eq, vl_eq, wr_ur, ur_ne (by decide), nI_1]
    refine congrArg (fun f => some (Sum.inl (nI (i + 1), ur τ 184 f))) (funext fun p => ?_)
    unfold upd
    by_cases e : p = i
    · subst e; rw [if_pos rfl, if_pos (by omega)]
    · rw [if_neg e]
      dsimp only
      by_cases e2 : p < i
      · rw [if_pos e2, if_pos (by omega)]
      · rw [if_neg e2, if_neg (by omega)]
  · show b_X8_undo_27 (nI 456, _) = _
    rw [b_X8_undo_27, if_pos (show (456 : Int32) ≤ nI 456 from nI_le (a := 456) (Nat.le_refl 456) (by omega))]
  · show (nI 0, _) = _
    congr 1
    rw [show (fun p => if p < 0 then τ 186 (456 * m + p) else τ 184 p) = τ 184 by funext p; rw [if_neg (by omega)], ur_self]
theorem op_14 (k : Nat) (σ : Nat → Nat → Int32) (h : Rel k σ) (hk : k < 512) : ∃ r σ1 σ2, f_X7_undo  σ = some (r, σ1) ∧ f_X8_undo  σ1 = some (r, σ2) ∧ Rel (k + 1) σ2 := by
  obtain ⟨-, ⟨nx, kp, hn, hkp, h1, h2, h3, h4⟩, hT⟩ := id h
  by_cases e : kp = 0
  · subst e
    refine ⟨-2, σ, wr σ 183 0 0, ?_, ?_, rel_thr h⟩
    · rw [f_X7_undo, if_pos (by rw [h2]; rfl)]
    · rw [f_X8_undo, vl_eq, if_pos (by rw [wr_atne (by decide), h3]; rfl)]
  · obtain ⟨m, rfl⟩ : ∃ m, kp = m + 1 := ⟨kp - 1, by omega⟩
    have hm := h4 m (by omega)
    obtain ⟨S, W, B, P, N, hR⟩ := hm
    obtain ⟨np, hnp, hnp2⟩ : ∃ np, np = (if nx = 0 then 4 else nx - 1) ∧ ((nx = 0 ∧ np = 4) ∨ (0 < nx ∧ np + 1 = nx)) := ⟨_, rfl, by split <;> omega⟩
    have hnpE : (nx + 5 - (m + 1) + m) % 5 = np := by omega
    rw [hnpE] at hR
    have hv : (if nI nx ≤ 0 then (4 : Int32) else nI nx - 1) = nI np := by
      rcases hnp2 with ⟨a, b⟩ | ⟨a, b⟩
      · subst a; subst b; rfl
      · rw [if_neg (show ¬ nI nx ≤ 0 from nI_nle a (by omega)), show nI nx - 1 = nI (nx - 1) from nI_sub (b := 1) (by omega)]
        congr 1; omega
    obtain ⟨σ1, e1, e2, e3⟩ := st_copy (o := 1) (o2 := 31 + 28 * np) σ (by omega)
    have c29 : σ1 29 = σ 29 := e2 29 (by omega)
    refine ⟨nI m, wr (wr σ1 29 1 (nI np)) 29 2 (nI m), ?_⟩
    have hu : f_X7_undo σ = some (nI m, wr (wr σ1 29 1 (nI np)) 29 2 (nI m)) := by
      rw [f_X7_undo, h2, if_neg (show ¬ nI (m + 1) = 0 from fun q => by have := nI_inj (b := 0) (by omega) (by decide) q; omega), f_X3_restoreInto, h1, hv, vl_eq, ix_nI (by omega) (by decide), h2, if_neg (show ¬ nI (m + 1) ≤ 0 from nI_nle (by omega) (by omega)), nI_clamp (by omega), e1, bi_some, vl_eq, wr_atne (by decide), c29, h2, show nI (m + 1) - 1 = nI m from nI_sub (b := 1) (by omega), vl_eq, bi_some, wr_at]
    obtain ⟨τ, hτ⟩ : ∃ τ, τ = wr (wr σ1 29 1 (nI np)) 29 2 (nI m) := ⟨_, rfl⟩
    rw [hu, ← hτ]
    have t1 : ∀ a, a ≠ 29 → τ a = σ1 a := fun a q => by rw [hτ, wr_ne q, wr_ne q]
    have t2 : ∀ a, 30 ≤ a → τ a = σ a := fun a q => by rw [t1 a (by omega), e2 a (by omega)]
    obtain ⟨τ1, hτ1⟩ : ∃ τ1, τ1 = wr (wr τ 183 0 0) 183 4 (nI m) := ⟨_, rfl⟩
    have u1 : ∀ a, a ≠ 183 → τ1 a = τ a := fun a q => by rw [hτ1, wr_ne q, wr_ne q]
    have u2 : τ1 183 4 = nI m := by rw [hτ1, wr_at]
    have u3 : ∀ i, i ≠ 0 → i ≠ 4 → τ1 183 i = σ 183 i := fun i q1 q2 => by rw [hτ1, wr_atne q2, wr_atne q1, t2 183 (by decide)]
    have hl := undo_row (τ := τ1) (m := m) (by omega) u2
    refine ⟨ur τ1 184 (fun p => if p < 456 then τ1 186 (456 * m + p) else τ1 184 p), rfl, ?_, ?_⟩
    · rw [f_X8_undo, vl_eq, wr_atne (by decide), t2 183 (by decide), h3, if_neg (show ¬ nI (m + 1) = 0 from fun q => by have := nI_inj (b := 0) (by omega) (by decide) q; omega), show nI (m + 1) - 1 = nI m from nI_sub (b := 1) (by omega), vl_eq, ← hτ1, hl, bi_some, ur_ne (by decide), u2]
    · refine ⟨⟨S, W, B, P, N, ?_⟩, ⟨np, m, by omega, by omega, ?_, ?_, ?_, fun i hi => ?_⟩, ?_⟩
      · refine RS_cong (b := 31 + 28 * np) (v := fun q => σ 186 (456 * m + q)) (fun j i hj => ?_) (fun q hq => ?_) (Nat.le_succ k) hR
        · rw [ur_ne (by unfold lvp at hj; omega), u1 _ (by unfold lvp at hj; omega), t1 _ (by unfold lvp at hj; omega)]
          exact e3 j i hj
        · rw [ur_at, if_pos hq, u1 186 (by decide), t2 186 (by decide)]
      · rw [ur_ne (by decide), u1 29 (by decide), hτ, wr_atne (by decide), wr_at]
      · rw [ur_ne (by decide), u1 29 (by decide), hτ, wr_at]
      · rw [ur_ne (by decide), u2]
      · obtain ⟨S', W', B', P', N', h7⟩ := h4 i (by omega)
        have ea : (np + 5 - m + i) % 5 = (nx + 5 - (m + 1) + i) % 5 := by omega
        rw [ea]
        refine ⟨S', W', B', P', N', RS_cong (fun j i hj => ?_) (fun q _ => ?_) (Nat.le_succ k) h7⟩
        · rw [ur_ne (by unfold lvp at hj; omega), u1 _ (by unfold lvp at hj; omega), t2 _ (by omega)]
        · rw [ur_ne (by decide), u1 186 (by decide), t2 186 (by decide)]
      · exact TX_cong (by rw [ur_ne (by decide), u1 171 (by decide), t2 171 (by decide)]) (by rw [ur_ne (by decide), u3 6 (by decide) (by decide)]) (by rw [ur_ne (by decide), u1 173 (by decide), t2 173 (by decide)]) (by rw [ur_ne (by decide), u1 187 (by decide), t2 187 (by decide)]) hT
/-- what a whole pick needs -/
theorem fb_ct_cut {p : Nat → Bool} {m n : Nat} (hmn : m ≤ n) (h : ∀ i, m ≤ i → i < n → p i = false) : fb_ct p n = fb_ct p m := by
  obtain ⟨d, rfl⟩ : ∃ d, n = m + d := ⟨n - m, by omega⟩
  rw [fb_ct_split, fb_ct_zero.mpr (fun i hi => h (m + i) (by omega) (by omega)), Nat.add_zero]
def wholeV (ab : Int32) (W : Nat) : Nat := sumN (fun i => ndV ab W 0 i) W
theorem whole_ct (ab : Int32) (W : Nat) : ∀ m, sumN (fun i => ndV ab W 0 i) (m + 1) = m + 1 + fb_ct (fun i => bt ab i ^^ bt ab (i + 1)) m := by
  intro m
  induction m with
  | zero => rfl
  | succ m ih =>
    rw [sumN, ih, fb_ct_succ]
    rw [show ndV ab W 0 (m + 1) = if bt ab (m + 1) = bt ab m then 1 else 2 from rfl]
    cases bt ab (m + 1) <;> cases bt ab m <;> simp <;> omega
theorem bar7 {ab : Int32} {W : Nat} (h0 : 4 ≤ W) (hW : W ≤ 32) : W + pc ((ab ^^^ usr ab 1) &&& usr (aE W) 1) = wholeV ab W := by
  obtain ⟨m, rfl⟩ : ∃ m, W = m + 1 := ⟨W - 1, by omega⟩
  unfold wholeV
  rw [whole_ct]
  congr 1
  have u : ∀ x i, bt (usr x 1) i = bt x (1 + i) := fun x i => b_ushr 1 (by decide) x i
  have hb : ∀ i, i < 32 → bt ((ab ^^^ usr ab 1) &&& usr (aE (m + 1)) 1) i = (decide (i < m) && (bt ab i ^^ bt ab (i + 1))) := fun i hi => by
    rw [b_and, b_xor, u, u, Nat.add_comm 1 i]
    by_cases q : i < m
    · rw [b_aE _ hW _ (by omega), decide_eq_true q, decide_eq_true (by omega), Bool.and_true, Bool.true_and]
    · have : bt (aE (m + 1)) (i + 1) = false := by
        by_cases q2 : i + 1 < 32
        · rw [b_aE _ hW _ q2, decide_eq_false (by omega)]
        · exact b_big (by omega)
      rw [this, decide_eq_false q, Bool.and_false, Bool.false_and]
  unfold pc
  rw [fb_ct_cong hb, fb_ct_cut (m := m) (by omega) (fun i h1 _ => by rw [decide_eq_false (by omega), Bool.false_and])]
  exact fb_ct_cong (fun i hi => by rw [decide_eq_true hi, Bool.true_and])
section RB
variable {σ τ : Nat → Nat → Int32} {v : Nat → Int32} {k S W B P N : Nat}
theorem liftBar7 {b : Nat} (hR : RS σ b v k S W B P N) (a : Int32) : f_X6_liftedShafts (b + 1) a σ = some (liftV v a S) := lift7 hR.2.2.1.1 hR.1.2.1 (fun i hi => (hR.2.2.2.2.1 i hi).1) a
theorem liftBar8 (hR : RS σ 1 v k S W B P N) (ht : τ 184 = v) (a : Int32) : f_X8_lifted a τ = some (liftV v a S) := by
  subst ht
  exact lift8 hR.2.1.1 hR.1.2.1 a
theorem endsBar7 {b : Nat} (hR : RS σ b v k S W B P N) (a : Int32) : f_X6_endsOn (b + 1) a σ = some (endsV v a W) := ends7 hR.2.2.1.2.1 hR.1.2.2.2.1 (fun e he => ⟨(hR.2.2.2.1 e he).1, by
  obtain ⟨s, h1, h2⟩ := (hR.2.2.2.1 e he).2.2.1
  exact ⟨s, by have := hR.1.2.1; omega, h2⟩⟩) a
theorem endsBar8 (hR : RS σ 1 v k S W B P N) (ht : τ 184 = v) (a : Int32) : f_X8_endsOn a τ = some (endsV v a W) := by
  subst ht
  exact ends8 hR.2.1.2.1 hR.1.2.2.2.1 (fun e he => by
    obtain ⟨s, h1, h2⟩ := (hR.2.2.2.1 e he).2.2.1
    exact ⟨s, by have := hR.1.2.1; omega, h2⟩) a
theorem yarn7 {b : Nat} (hR : RS σ b v k S W B P N) (a : Int32) : f_X6_yarnOfWholePick (b + 1) a σ = some (nI (wholeV (endsV v (liftV v a S) W) W)) := by
  rw [f_X6_yarnOfWholePick, liftBar7 hR, bi_some, endsBar7 hR, bi_some, all7 hR.2.2.1.2.1 hR.1.2.2.2.1, bi_some, vl_eq, bitCount_spec, bi_some, show σ (b + 1) 1 = nI W from hR.2.2.1.2.1, nI_add, bar7 hR.1.2.2.1 hR.1.2.2.2.1]
theorem yarn8 {i : Nat} (hR : RS σ 1 v k S W B P N) (ht : τ 184 = v) (hi : i < 24) : f_X8_needOf (nI i) τ = some (nI (wholeV (endsV v (liftV v (v (78 + i)) S) W) W)) := by
  have h1 : τ 184 1 = nI W := by rw [ht]; exact hR.2.1.2.1
  have hW := hR.1.2.2.2.1
  have hl : ∀ ab, lp (b_X8_needOf_23 τ ab) FU (0, 0) = some (nI (wholeV ab W)) := fun ab => by
    refine lp_run (fun i => (nI (sumN (fun i => ndV ab W 0 i) i), nI i)) W (by omega) (fun i hi => ?_) ?_ rfl
    · show b_X8_needOf_23 τ ab (_, nI i) = _
      rw [b_X8_needOf_23, h1, if_neg (nI_ge hi (by omega)), show f_X8_need 0 ab (nI i) τ = _ from need_spec (r := 0) h1 (by decide) hi hW, bi_some, vl_eq, vl_eq, nI_add, nI_1]
      rfl
    · show b_X8_needOf_23 τ ab (_, nI W) = _
      rw [b_X8_needOf_23, h1, if_pos (nI_le (Nat.le_refl W) (by omega))]
      rfl
  rw [f_X8_needOf, show (78 : Int32) + nI i = nI (78 + i) from nI_add 78 i, ix_nI (by omega) (by decide), nI_clamp (by omega), ht, liftBar8 hR ht, bi_some, endsBar8 hR ht, bi_some, hl, bi_some]
end RB
theorem op_17 (k : Nat) (σ : Nat → Nat → Int32) (a1 a2 : Int32) (h : Rel k σ) (hk : k < 512) : ∃ r σ2, f_X7_bar a1 a2 σ = some r ∧ f_X8_bar a1 a2 σ = some (r, σ2) ∧ Rel (k + 1) σ2 := by
  obtain ⟨⟨S, W, B, P, N, hR⟩, -, -⟩ := id h
  have hB := hR.1.2.2.2.2.1
  have ht : wr σ 183 0 0 184 = σ 184 := wr_ne (by decide)
  have c1 : σ 9 0 = nI B := hR.2.2.1.2.2.1
  have c2 : σ 184 2 = nI B := hR.2.1.2.2.1
  have key : ∃ r, f_X7_bar a1 a2 σ = some r ∧ f_X8_bar a1 a2 σ = some (r, wr σ 183 0 0) := by
    rw [f_X7_bar, f_X8_bar, vl_eq, f_X0_hasBar, f_X8_isBar, in_eq, ht]
    rcases rngN a1 B (by omega) with q | ⟨x, hx, rfl, q1, q2⟩
    · rw [has_no q c1, has_no q c2, bi_some, bi_some, bi_some, if_pos rfl, if_pos rfl]
      exact ⟨_, rfl, rfl⟩
    · rw [has_yes q1 q2 c1, has_yes q1 q2 c2, bi_some, bi_some, bi_some, if_neg n10, if_neg n10, num_at (by omega) (by decide), bi_some, show σ (10 + 1) x = _ from (hR.2.2.2.2.2.1 x hx).1]
      have e78 : (78 : Int32) + nI x = nI (78 + x) := nI_add 78 x
      have e102 : (102 : Int32) + nI x = nI (102 + x) := nI_add 102 x
      by_cases p0 : a2 = 0
      · rw [if_pos p0, if_pos p0, e78, ix_nI (by omega) (by decide), nI_clamp (by omega)]; exact ⟨_, rfl, rfl⟩
      rw [if_neg p0, if_neg p0]
      by_cases p1 : a2 = 1
      · rw [if_pos p1, if_pos p1, e102, ix_nI (by omega) (by decide), nI_clamp (by omega), num_at (by omega) (by decide), bi_some, show σ (12 + 1) x = _ from (hR.2.2.2.2.2.1 x hx).2.1]; exact ⟨_, rfl, rfl⟩
      rw [if_neg p1, if_neg p1]
      by_cases p2 : a2 = 2
      · rw [if_pos p2, if_pos p2, e78, ix_nI (by omega) (by decide), nI_clamp (by omega), show f_X6_liftedShafts 2 _ σ = _ from liftBar7 hR _, liftBar8 hR ht, bi_some, bi_some]; exact ⟨_, rfl, rfl⟩
      rw [if_neg p2, if_neg p2]
      by_cases p3 : a2 = 3
      · rw [if_pos p3, if_pos p3, show f_X6_yarnOfWholePick 2 _ σ = _ from yarn7 hR _, yarn8 hR ht (by omega), bi_some, bi_some]; exact ⟨_, rfl, rfl⟩
      rw [if_neg p3, if_neg p3]
      exact ⟨_, rfl, rfl⟩
  obtain ⟨r, e1, e2⟩ := key
  exact ⟨r, _, e1, e2, rel_thr h⟩
