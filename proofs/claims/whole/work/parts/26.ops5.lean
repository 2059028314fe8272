/-! part 26: rows, ends, cells, floats -/
def sideV (v : Nat → Int32) (r e : Nat) : Nat := if bt (v (139 + 5 * r)) e = true then (if bt (v (138 + 5 * r)) e = true then 1 else 0) else 2
theorem sideV_le (v : Nat → Int32) (r e : Nat) : sideV v r e ≤ 2 := by
  unfold sideV
  split
  · split <;> omega
  · omega
section SD
variable {σ τ : Nat → Nat → Int32} {v : Nat → Int32} {k S W B P N : Nat}
theorem side8 {r e : Nat} (ht : τ 184 = v) (hr : r < 64) (he : e < 32) : f_X8_side (nI r) (nI e) τ = some (nI (sideV v r e)) := by
  rw [f_X8_side, show f_X8_of (nI r) 3 τ = _ from of8 3 (139 + 5 * r) ht hr (by omega) (by omega), bi_some, has_spec he, bi_some, show f_X8_of (nI r) 2 τ = _ from of8 2 (138 + 5 * r) ht hr (by omega) (by omega), bi_some, has_spec he]
  unfold sideV
  cases bt (v (139 + 5 * r)) e <;> cases bt (v (138 + 5 * r)) e <;> rfl
theorem b_miss {r e : Nat} (hR : RS σ 1 v k S W B P N) (he : e < W) : bt (aE W &&& (v (139 + 5 * r) ^^^ (-1))) e = !bt (v (139 + 5 * r)) e := by
  have hW := hR.1.2.2.2.1
  rw [b_and, b_not _ (by omega), b_aE W hW e (by omega), decide_eq_true he, Bool.true_and]
theorem side7 {r e : Nat} (hR : RS σ 1 v k S W B P N) (hr : r < N) (he : e < W) : f_X2_sideAt 16 (nI r) (nI e) σ = some (clS (sideV v r e)) := by
  have hN := hR.1.2.2.2.2.2.2
  have hW := hR.1.2.2.2.1
  obtain ⟨-, -, h1, h2, -⟩ := hR.2.2.2.2.2.2.2 r hr
  rw [f_X2_sideAt, num_at (by omega) (by decide), bi_some, show σ (16 + 9 + 1) r = _ from h2, bitOf_spec (by omega), bi_some, num_at (by omega) (by decide), bi_some, show σ (16 + 7 + 1) r = _ from h1, bitOf_spec (by omega), b_miss hR he]
  unfold sideV
  cases bt (v (139 + 5 * r)) e <;> cases bt (v (138 + 5 * r)) e <;> rfl
/-- a line: direction 0 along an end, 1 along a row -/
def lineV (v : Nat → Int32) (d n x : Nat) (i : Nat) : Nat := if n ≤ i then 2 else if d = 0 then sideV v i x else sideV v x i
theorem lineV_le (v : Nat → Int32) (d n x i : Nat) : lineV v d n x i ≤ 2 := by
  unfold lineV
  split
  · omega
  · split <;> exact sideV_le _ _ _
theorem along7 {d x i : Nat} (hR : RS σ 1 v k S W B P N) (hd : d < 2) (hx : x < (if d = 0 then W else N)) (hi : i < (if d = 0 then N else W)) : f_X2_sideAlong 16 (nI d) (nI x) (nI i) σ = some (clS (lineV v d (if d = 0 then N else W) x i)) := by
  have hN := hR.1.2.2.2.2.2.2
  have hW := hR.1.2.2.2.1
  rw [f_X2_sideAlong]
  unfold lineV
  rw [if_neg (Nat.not_le.mpr hi)]
  by_cases e : d = 0
  · subst e
    rw [if_pos rfl] at hx hi
    rw [if_pos (by decide), if_pos rfl, side7 hR hi hx, bi_some]
  · rw [if_neg e] at hx hi
    rw [if_neg (show ¬ nI d = 0 from fun q => e (nI_inj (b := 0) (by omega) (by decide) q)), if_neg e, side7 hR hx hi, bi_some]
theorem meas8 {d x m c b : Nat} (hR : RS σ 1 v k S W B P N) (ht : τ 184 = v) (hd : d < 2) (hx : x < (if d = 0 then W else N)) (h0 : 0 < m) (hm : m < 2 ^ 31) (hb : b < 2 ^ 30) : f_X8_measure (nI d) (nI x) (nI m) (mk τ c b) = some (mk τ (c + c7 (lineV v d (if d = 0 then N else W) x) m (if d = 0 then N else W)) (max b (mx (lineV v d (if d = 0 then N else W) x) (if d = 0 then N else W)))) := by
  have hN := hR.1.2.2.2.2.2.2
  have hW := hR.1.2.2.2.1
  have ed : (nI d = 0) ↔ d = 0 := nI_eq (b := 0) (by omega) (by decide)
  refine measure_spec (by split <;> omega) h0 hm hb (lineV_le v d _ x) (by unfold lineV; rw [if_pos (Nat.le_refl _)]) ?_ (fun e i c b hi => ?_) (fun e i c b hi => ?_)
  · rw [ht, show v 5 = nI N from hR.2.1.2.2.2.2.1, show v 1 = nI W from hR.2.1.2.1]
    by_cases e : d = 0
    · rw [if_pos (ed.mpr e), if_pos e]
    · rw [if_neg (fun q => e (ed.mp q)), if_neg e]
  · have e' := ed.mp e
    subst e'
    rw [if_pos rfl] at hx hi
    rw [side8 (v := v) (by rw [mk_ne (by decide), ht]) (by omega) (by omega)]
    unfold lineV
    rw [if_neg (by rw [if_pos rfl]; omega), if_pos rfl]
  · have e' : ¬ d = 0 := fun q => e (ed.mpr q)
    rw [if_neg e'] at hx hi
    rw [side8 (v := v) (by rw [mk_ne (by decide), ht]) (by omega) (by omega)]
    unfold lineV
    rw [if_neg (by rw [if_neg e']; omega), if_neg e']
theorem pc_all {W : Nat} (hW : W ≤ 32) : pc (aE W) = W := by
  unfold pc
  rw [fb_ct_cong (fun i hi => b_aE W hW i hi), fb_ct_cut (m := W) hW (fun i h _ => decide_eq_false (by omega))]
  exact fb_ct_all.mpr (fun i hi => decide_eq_true hi)
theorem pc_miss {x : Int32} {W : Nat} (hW : W ≤ 32) (h : sbs x (aE W)) : pc x + pc (aE W &&& (x ^^^ (-1))) = W := by
  have e := fb_ct_or (p := bt x) (q := bt (aE W &&& (x ^^^ (-1)))) (n := 32) (fun i hi q => by
    rw [b_and, b_not _ hi, q.1] at q
    have := q.2
    simp at this)
  have e2 : fb_ct (fun i => bt x i || bt (aE W &&& (x ^^^ (-1))) i) 32 = pc (aE W) := fb_ct_cong (fun i hi => by
    rw [b_and, b_not _ hi]
    have := h i hi
    cases q : bt x i
    · simp
    · rw [this q]; rfl)
  rw [e2, pc_all hW] at e
  unfold pc
  exact e.symm
/-- what a row used -/
theorem used8 {r : Nat} (hR : RS σ 1 v k S W B P N) (ht : τ 184 = v) (hr : r < N) : f_X8_used (nI r) τ = some (nI (usV (v (138 + 5 * r)) (v (139 + 5 * r)) W r W)) := by
  have hN := hR.1.2.2.2.2.2.2
  have hW := hR.1.2.2.2.1
  have h1 : τ 184 1 = nI W := by rw [ht]; exact hR.2.1.2.1
  have hl : lp (b_X8_used_4 (nI r) τ) FU (0, 0) = some (nI (usV (v (138 + 5 * r)) (v (139 + 5 * r)) W r W)) := by
    refine lp_run (fun i => (nI (usV (v (138 + 5 * r)) (v (139 + 5 * r)) W r i), nI i)) W (by omega) (fun i hi => ?_) ?_ rfl
    · show b_X8_used_4 (nI r) τ (_, nI i) = _
      rw [b_X8_used_4, h1, if_neg (nI_ge hi (by omega)), show f_X8_of (nI r) 3 τ = _ from of8 3 (139 + 5 * r) ht (by omega) (by omega) (by omega), bi_some, endAt_spec h1 (by omega) hi (by omega), bi_some, has_spec (by have := eA_lt (r := r) hi; omega), bi_some, jn_eq]
      dsimp only
      rw [show f_X8_of (nI r) 2 τ = _ from of8 2 (138 + 5 * r) ht (by omega) (by omega) (by omega), bi_some, need_spec h1 (by omega) hi hW, bi_some, usV]
      by_cases e : bt (v (139 + 5 * r)) (eA W r i) = true
      · rw [if_pos e, if_neg n10, if_pos e, vl_eq, vl_eq, nI_add, nI_1]
      · rw [if_neg e, if_pos rfl, if_neg e, vl_eq, vl_eq, show (0 : Int32) = nI 0 from rfl, nI_add, nI_1]
    · show b_X8_used_4 (nI r) τ (_, nI W) = _
      rw [b_X8_used_4, h1, if_pos (nI_le (Nat.le_refl W) (by omega))]
  rw [f_X8_used, hl, bi_some]
end SD
theorem rel_mk {k : Nat} {σ : Nat → Nat → Int32} {c b : Nat} (h : Rel k σ) : Rel (k + 1) (mk (wr σ 183 0 0) c b) := by
  refine rel_free h (fun a _ => ?_) ?_ ?_ ?_ ?_ ?_ ?_ ?_
  · rw [mk_ne (by omega), wr_ne (by omega)]
  · rw [mk_ne (by decide), wr_ne (by decide)]
  · rw [mk_ne (by decide), wr_ne (by decide)]
  · rw [mk_o (by decide) (by decide), wr_atne (by decide)]
  · rw [mk_o (by decide) (by decide), wr_atne (by decide)]
  · rw [mk_ne (by decide), wr_ne (by decide)]
  · rw [mk_ne (by decide), wr_ne (by decide)]
  · rw [mk_ne (by decide), wr_ne (by decide)]
theorem longest8 {σ τ : Nat → Nat → Int32} {v : Nat → Int32} {k S W B P N d x : Nat} (hR : RS σ 1 v k S W B P N) (ht : τ 184 = v) (hd : d < 2) (hx : x < (if d = 0 then W else N)) : ∃ c b, f_X8_longestOf (nI d) (nI x) τ = some (nI (mx (lineV v d (if d = 0 then N else W) x) (if d = 0 then N else W)), mk τ c b) := by
  have e := meas8 (m := 1) (c := 0) (b := 0) hR ht hd hx (by decide) (by decide) (by decide)
  have e2 : f_X8_longestOf (nI d) (nI x) τ = bi (f_X8_measure (nI d) (nI x) (nI 1) (mk τ 0 0)) fun σ_4 => some (σ_4 183 12, σ_4) := rfl
  rw [e2, e, bi_some, mk_12, Nat.zero_max]
  exact ⟨_, _, rfl⟩
theorem op_19 (k : Nat) (σ : Nat → Nat → Int32) (a1 a2 : Int32) (h : Rel k σ) (hk : k < 512) : ∃ r σ2, f_X7_row a1 a2 σ = some r ∧ f_X8_row a1 a2 σ = some (r, σ2) ∧ Rel (k + 1) σ2 := by
  obtain ⟨⟨S, W, B, P, N, hR⟩, -, -⟩ := id h
  have hN := hR.1.2.2.2.2.2.2
  have hW := hR.1.2.2.2.1
  have ht : wr σ 183 0 0 184 = σ 184 := wr_ne (by decide)
  have c1 : σ 16 0 = nI N := hR.2.2.1.2.2.2.2.1
  have c2 : σ 184 5 = nI N := hR.2.1.2.2.2.2.1
  have c3 : σ 2 1 = nI W := hR.2.2.1.2.1
  have c4 : σ 184 1 = nI W := hR.2.1.2.1
  rw [f_X7_row, f_X8_row, vl_eq, f_X2_hasRow, f_X8_isRow, in_eq, ht]
  rcases rngN a1 N (by omega) with q | ⟨x, hx, rfl, q1, q2⟩
  · rw [has_no q c1, has_no q c2, bi_some, bi_some, bi_some, if_pos rfl, if_pos rfl]
    exact ⟨_, _, rfl, rfl, rel_thr h⟩
  · obtain ⟨r1, r2, r3, r4, r5, r6, -, -, r7, -⟩ := hR.2.2.2.2.2.2.2 x hx
    rw [has_yes q1 q2 c1, has_yes q1 q2 c2, bi_some, bi_some, bi_some, if_neg n10, if_neg n10]
    by_cases p0 : a2 = 0
    · subst p0
      rw [if_pos rfl, if_pos rfl, num_at (by omega) (by decide), bi_some, show f_X8_of (nI x) 0 _ = _ from of8 0 (136 + 5 * x) ht (by omega) (by omega) (by omega), bi_some, show σ (17 + 1) x = _ from r1]
      exact ⟨_, _, rfl, rfl, rel_thr h⟩
    rw [if_neg p0, if_neg p0]
    by_cases p1 : a2 = 1
    · subst p1
      rw [if_pos rfl, if_pos rfl, num_at (by omega) (by decide), bi_some, show f_X8_of (nI x) 1 _ = _ from of8 1 (137 + 5 * x) ht (by omega) (by omega) (by omega), bi_some, show σ (19 + 1) x = _ from r2]
      exact ⟨_, _, rfl, rfl, rel_thr h⟩
    rw [if_neg p1, if_neg p1]
    by_cases p2 : a2 = 2
    · rw [if_pos p2, if_pos p2, num_at (by omega) (by decide), bi_some, used8 hR ht hx, bi_some, show σ (21 + 1) x = _ from r6]
      exact ⟨_, _, rfl, rfl, rel_thr h⟩
    rw [if_neg p2, if_neg p2]
    by_cases p3 : a2 = 3
    · rw [if_pos p3, if_pos p3, num_at (by omega) (by decide), bi_some, show f_X8_of (nI x) 2 _ = _ from of8 2 (138 + 5 * x) ht (by omega) (by omega) (by omega), bi_some, show σ (23 + 1) x = _ from r3, bitCount_spec, bi_some, sizeOf_spec, bi_some]
      exact ⟨_, _, rfl, rfl, rel_thr h⟩
    rw [if_neg p3, if_neg p3]
    by_cases p4 : a2 = 4
    · have e := pc_miss hW r7
      rw [if_pos p4, if_pos p4, num_at (by omega) (by decide), bi_some, show f_X8_of (nI x) 3 _ = _ from of8 3 (139 + 5 * x) ht (by omega) (by omega) (by omega), bi_some, show σ (25 + 1) x = _ from r4, bitCount_spec, bi_some, sizeOf_spec, bi_some, c4, nI_sub (by omega), show W - pc (σ 184 (139 + 5 * x)) = pc (aE W &&& (σ 184 (139 + 5 * x) ^^^ (-1))) by omega]
      exact ⟨_, _, rfl, rfl, rel_thr h⟩
    rw [if_neg p4, if_neg p4]
    by_cases p5 : a2 = 5
    · rw [if_pos p5, if_pos p5, wrong7 hR hx, wrong8 hR ht hx, bi_some, bi_some, bitCount_spec, bi_some, sizeOf_spec, bi_some]
      exact ⟨_, _, rfl, rfl, rel_thr h⟩
    rw [if_neg p5, if_neg p5]
    by_cases p6 : a2 = 6
    · obtain ⟨c, b, e⟩ := longest8 (d := 1) (x := x) hR ht (by decide) (by rw [if_neg (by decide)]; exact hx)
      have e7 := long7 (a1 := nI 1) (a2 := nI x) (n := W) (by omega) (lineV_le (σ 184) 1 W x) (fun i hi => along7 (d := 1) hR (by decide) (by rw [if_neg (by decide)]; exact hx) (by rw [if_neg (by decide)]; exact hi))
      rw [if_neg (by decide : ¬ (1 : Nat) = 0)] at e
      rw [if_pos p6, if_pos p6, c3, show f_X2_longestFloat 16 1 (nI x) (nI W) σ = _ from e7, bi_some, show f_X8_longestOf 1 (nI x) _ = _ from e, b2_some]
      exact ⟨_, _, rfl, rfl, rel_mk h⟩
    rw [if_neg p6, if_neg p6]
    exact ⟨_, _, rfl, rfl, rel_thr h⟩
