/-! part 42: the law's look at a state: it is right -/
/-- all rows but the last are whole -/
def FW (v : Nat → Int32) (W N : Nat) : Prop := ∀ r, r + 1 < N → v (139 + 5 * r) = aE W
theorem us_b {ab : Int32} {W r : Nat} (hW : W ≤ 32) : ∀ n, n ≤ W → n ≤ usV ab (aE W) W r n ∧ (0 < n → usV ab (aE W) W r n + 1 ≤ 2 * n)
  | 0, _ => ⟨Nat.le_refl _, fun h => absurd h (Nat.lt_irrefl 0)⟩
  | n + 1, hn => by
    obtain ⟨h1, h2⟩ := us_b (ab := ab) (r := r) hW n (by omega)
    have he := eA_lt (r := r) (show n < W by omega)
    have hb : bt (aE W) (eA W r n) = true := by rw [b_aE W hW _ (by omega)]; exact decide_eq_true he
    have h3 := nd_le ab W r n
    have h4 : 1 ≤ ndV ab W r n := by
      unfold ndV
      split
      · omega
      · split <;> omega
    rw [usV, if_pos hb]
    refine ⟨by omega, fun _ => ?_⟩
    rcases Nat.eq_zero_or_pos n with e | e
    · subst e
      have h5 : ndV ab W r 0 = 1 := rfl
      have h6 : usV ab (aE W) W r 0 = 0 := rfl
      omega
    · have := h2 e
      omega
section RG
variable {σ : Nat → Nat → Int32} {v : Nat → Int32} {k S W B P N : Nat}
theorem cell_ok {r e : Nat} (h : RS σ 1 v k S W B P N) (hr : r < N) (he : e < W) : (if (if sideV v r e = 2 then (-9 : Int32) else nI (sideV v r e)) = 1 then (1 : Int32) else 0) = (if bt (v (138 + 5 * r)) e = true then 1 else 0) ∧ (if (if sideV v r e = 2 then (-9 : Int32) else nI (sideV v r e)) = (if bt (v (140 + 5 * r)) e = true then (1 : Int32) else 0) then (0 : Int32) else 1) = (if (if bt (wrongV v W r) e = true then (1 : Int32) else 0) = 1 then 1 else 0) := by
  have hW := h.1.2.2.2.1
  obtain ⟨-, -, -, -, -, -, -, h8, -, -⟩ := h.2.2.2.2.2.2.2 r hr
  have hw : bt (wrongV v W r) e = ((true && !bt (v (139 + 5 * r)) e) || (bt (v (138 + 5 * r)) e ^^ (bt (v (140 + 5 * r)) e && bt (v (139 + 5 * r)) e))) := by
    unfold wrongV
    rw [b_or, b_and, b_not _ (by omega), b_xor, b_and, b_aE W hW e (by omega), decide_eq_true he]
  have hab := h8 e (by omega)
  unfold sideV
  rw [hw]
  revert hab
  generalize bt (v (139 + 5 * r)) e = x
  generalize bt (v (138 + 5 * r)) e = y
  generalize bt (v (140 + 5 * r)) e = z
  cases x <;> cases y <;> cases z <;> intro q <;> first | decide +kernel | exact absurd (q rfl) (by decide)
theorem r149 {r : Nat} (h : RS σ 1 v k S W B P N) (hr : r < N) : lp (b_L_isRight_149 σ (nI r)) FU (0, 0) = some (.inr (nI (fb_ct (bt (v (138 + 5 * r))) W))) := by
  have hW := h.1.2.2.2.1
  refine lp_run (fun i => (nI (fb_ct (bt (v (138 + 5 * r))) i), nI i)) W (by omega) (fun i hi => ?_) ?_ rfl
  · show b_L_isRight_149 σ (nI r) (_, nI i) = _
    obtain ⟨e0, e2, e3⟩ := cell_at h hr hi
    obtain ⟨k1, k2⟩ := cell_ok h hr hi
    rw [b_L_isRight_149, cnt1 h, bi_some, if_neg (nI_ge hi (by omega)), e0, bi_some, vl_eq, k1, vl_eq, bi_some, e3, bi_some, vl_eq, k2, e2, bi_some, vl_eq, if_pos rfl, vl_eq, nI_1]
    refine congrArg (fun x => some (Sum.inl (x, nI (i + 1)))) ?_
    rw [fb_ct_succ]
    cases bt (v (138 + 5 * r)) i
    · exact Int32.add_zero _
    · exact nI_1 _
  · show b_L_isRight_149 σ (nI r) (_, nI W) = _
    rw [b_L_isRight_149, cnt1 h, bi_some, if_pos (nI_le (Nat.le_refl _) (by omega))]
theorem above_ct {r : Nat} (h : RS σ 1 v k S W B P N) (hr : r < N) : pc (v (138 + 5 * r)) = fb_ct (bt (v (138 + 5 * r))) W := by
  have hW := h.1.2.2.2.1
  obtain ⟨-, -, -, -, -, -, -, h8, h9, -⟩ := h.2.2.2.2.2.2.2 r hr
  refine fb_ct_cut hW (fun i h1 h2 => ?_)
  cases e : bt (v (138 + 5 * r)) i
  · rfl
  · have := h9 i h2 (h8 i h2 e)
    rw [b_aE W hW i h2] at this
    exact absurd (of_decide_eq_true this) (by omega)
theorem nI0_le {a : Nat} (h : a < 2 ^ 31) : (nI a ≤ 0) ↔ a = 0 := by
  constructor
  · intro q
    rcases Nat.eq_zero_or_pos a with e | e
    · exact e
    · exact absurd q (nI_nle e h)
  · intro q
    subst q
    decide
theorem jn_last {γ : Type} {i : Nat} (h : RS σ 1 v k S W B P N) (hw : FW v W N) (hi : i < N) (K : Int32 → Option γ) : jn (fun k_129 : Int32 → Option γ => if nI i = nI N - 1 then (bi (f_X7_count 6 σ) fun r_218 => if r_218 = 1 then (k_129 1) else (k_129 0)) else (k_129 0)) K = K (if nI (pc (aE W &&& (v (139 + 5 * i) ^^^ (-1)))) ≤ 0 then 0 else 1) := by
  have hN := h.1.2.2.2.2.2.2
  have hp := pc_le (aE W &&& (v (139 + 5 * i) ^^^ (-1)))
  have e1 : (nI i = nI N - 1) ↔ i + 1 = N := by
    rw [show nI N - 1 = nI (N - 1) from nI_sub (b := 1) (by omega), nI_eq (by omega) (by omega)]
    omega
  have e2 : (nI (pc (aE W &&& (v (139 + 5 * i) ^^^ (-1)))) ≤ 0) ↔ v (139 + 5 * i) = aE W := by
    rw [nI0_le (by omega), pc_0, miss_0 h hi]
  rw [jn_eq, cnt6 h]
  by_cases q : i + 1 = N
  · rw [if_pos (e1.mpr q), bi_some]
    have e3 : standV v W N = if v (139 + 5 * i) = aE W then 0 else 1 := by
      unfold standV
      rw [show N - 1 = i by omega]
      by_cases z : v (139 + 5 * i) = aE W
      · rw [if_pos z, if_pos (Or.inr z)]
      · rw [if_neg z, if_neg (fun y => y.elim (fun z2 => by omega) z)]
    rw [e3]
    by_cases z : v (139 + 5 * i) = aE W
    · rw [if_pos z, if_pos (e2.mpr z), if_neg (by decide)]
    · rw [if_neg z, if_neg (fun y => z (e2.mp y)), if_pos rfl]
  · rw [if_neg (fun y => q (e1.mp y)), if_pos (e2.mpr (hw i (by omega)))]
theorem jn_used {γ : Type} {i : Nat} (h : RS σ 1 v k S W B P N) (hi : i < N) (K bad : Option γ) : jn (fun k_139 : Option γ => if nI (pc (aE W &&& (v (139 + 5 * i) ^^^ (-1)))) = 0 then (bi (f_X7_row (nI i) 2 σ) fun r_210 => bi (f_X7_count 1 σ) fun r_211 => if r_210 < r_211 then bad else (bi (f_X7_row (nI i) 2 σ) fun r_212 => bi (f_X7_count 1 σ) fun r_213 => if r_212 ≤ ((2 * r_213) - 1) then (k_139) else bad)) else (k_139)) K = K := by
  have hW := h.1.2.2.2.1
  have hW4 := h.1.2.2.1
  have hp := pc_le (aE W &&& (v (139 + 5 * i) ^^^ (-1)))
  rw [jn_eq]
  by_cases q : nI (pc (aE W &&& (v (139 + 5 * i) ^^^ (-1)))) = 0
  · rw [if_pos q]
    have e : v (139 + 5 * i) = aE W := (miss_0 h hi).mp (pc_0.mp (nI_inj (b := 0) (by omega) (by decide) q))
    obtain ⟨u1, u2⟩ := us_b (ab := v (138 + 5 * i)) (r := i) hW W (Nat.le_refl W)
    have u2 := u2 (by omega)
    rw [row2 h hi, bi_some, cnt1 h, bi_some, e, if_neg (nI_nlt u1 (by omega)), bi_some, bi_some, show (2 : Int32) * nI W - 1 = nI (2 * W - 1) by rw [show (2 : Int32) = nI 2 from rfl, nI_mul]; exact nI_sub (b := 1) (by omega), if_pos (nI_le (by omega) (by omega))]
  · rw [if_neg q]
theorem jn_most {γ : Type} {i : Nat} (h : RS σ 1 v k S W B P N) (hi : i < N) (g : Nat → Nat) (hg : g = fun x => mx (lineV v 1 W x) W) (K : Int32 → Option γ) : jn (fun k_145 : Int32 → Option γ => if nI (g i) ≤ nI (mxs g i) then (k_145 (nI (mxs g i))) else (bi (some (nI (g i))) fun r_208 => k_145 r_208)) K = K (nI (mxs g (i + 1))) := by
  have hW := h.1.2.2.2.1
  have h1 : ∀ j, g j ≤ 32 := fun j => by rw [hg]; exact Nat.le_trans (mx_le _ _) hW
  have h2 := mxs_le h1 i
  have h3 := h1 i
  rw [jn_eq, bi_some, mxs]
  by_cases q : g i ≤ mxs g i
  · rw [if_pos (nI_le q (by omega)), if_pos q]
  · rw [if_neg (nI_ge (by omega) (by omega)), if_neg q]
theorem r13 (h : RS σ 1 v k S W B P N) (hw : FW v W N) : lp (b_L_isRight_13 σ (nI N)) FU (0, 0, 0) = some (.inr (nI (sumN (fun r => pc (wrongV v W r)) N), nI (lgV v 1 W N))) := by
  have hN := h.1.2.2.2.2.2.2
  obtain ⟨g, hg⟩ : ∃ g : Nat → Nat, g = fun x => mx (lineV v 1 W x) W := ⟨_, rfl⟩
  have hl : lgV v 1 W N = mxs g N := by rw [hg]; rfl
  rw [hl]
  refine lp_run (fun i => (nI (sumN (fun r => pc (wrongV v W r)) i), nI (mxs g i), nI i)) N (by omega) (fun i hi => ?_) ?_ rfl
  · show b_L_isRight_13 σ (nI N) (_, _, nI i) = _
    rw [b_L_isRight_13, if_neg (nI_ge hi (by omega)), row5 h hi, bi_some, vl_eq, nI_add, row4 h hi, bi_some, vl_eq, jn_last h hw hi, if_pos rfl, bi_some, jn_used h hi, row6 h hi, bi_some, show nI (mx (lineV v 1 W i) W) = nI (g i) by rw [hg], jn_most h hi g hg, r149 h hi, bi_some, sm_inr, row3 h hi, bi_some, above_ct h hi, if_pos rfl, vl_eq, nI_1]
    rfl
  · show b_L_isRight_13 σ (nI N) (_, _, nI N) = _
    rw [b_L_isRight_13, if_pos (nI_le (Nat.le_refl _) (by omega))]
theorem fl_small (h : RS σ 1 v k S W B P N) (d m : Nat) : flV v d W N m ≤ 2048 := by
  have hN := h.1.2.2.2.2.2.2
  have hW := h.1.2.2.2.1
  have h1 := fl_le v d W N m
  have h2 : yN d W N * xN d W N ≤ 2048 := by
    unfold yN xN
    split
    · exact Nat.mul_le_mul hN hW
    · exact Nat.le_trans (Nat.mul_le_mul hW hN) (by decide)
  omega
theorem r271 (h : RS σ 1 v k S W B P N) : lp (b_L_isRight_271 σ) FU (1000000, 1) = some (.inr ()) := by
  refine lp_run (fun i => (if i = 0 then 1000000 else nI (flV v 0 W N i), nI (i + 1))) 12 (by decide) (fun i hi => ?_) ?_ rfl
  · show b_L_isRight_271 σ (_, nI (i + 1)) = _
    have hs := fl_small h 0 (i + 1)
    have e := floats_at (d := 0) (m := i + 1) h (by decide) (by omega) (by omega)
    have hle : nI (flV v 0 W N (i + 1)) ≤ (if i = 0 then (1000000 : Int32) else nI (flV v 0 W N i)) := by
      by_cases q : i = 0
      · rw [if_pos q]
        exact nI_le (b := 1000000) (by omega) (by decide)
      · rw [if_neg q]
        exact nI_le (fl_dec v 0 W N (by omega)) (by have := fl_small h 0 i; omega)
    rw [b_L_isRight_271, if_neg (show ¬ (12 : Int32) < nI (i + 1) from nI_nlt (a := 12) (by omega) (by decide)), show f_X7_floats 0 (nI (i + 1)) σ = _ from e, bi_some, if_pos hle, bi_some, vl_eq, nI_1, if_neg (Nat.succ_ne_zero i)]
  · show b_L_isRight_271 σ (_, nI 13) = _
    rw [b_L_isRight_271, if_pos (show (12 : Int32) < nI 13 by decide)]
theorem r310 (h : RS σ 1 v k S W B P N) : lp (b_L_isRight_310 σ) FU (0, 0) = some (nI (lgV v 0 W N)) := by
  have hN := h.1.2.2.2.2.2.2
  have hW := h.1.2.2.2.1
  obtain ⟨g, hg⟩ : ∃ g : Nat → Nat, g = fun x => mx (lineV v 0 N x) N := ⟨_, rfl⟩
  have hl : lgV v 0 W N = mxs g W := by rw [hg]; rfl
  have h1 : ∀ j, g j ≤ 64 := fun j => by rw [hg]; exact Nat.le_trans (mx_le _ _) hN
  rw [hl]
  refine lp_run (fun i => (nI (mxs g i), nI i)) W (by omega) (fun i hi => ?_) ?_ rfl
  · show b_L_isRight_310 σ (_, nI i) = _
    have h2 := mxs_le h1 i
    have h3 := h1 i
    rw [b_L_isRight_310, cnt1 h, bi_some, if_neg (nI_ge hi (by omega)), end4 h hi, bi_some, show nI (mx (lineV v 0 N i) N) = nI (g i) by rw [hg], mxs]
    by_cases q : g i ≤ mxs g i
    · rw [if_pos (nI_le q (by omega)), if_pos q, vl_eq, nI_1]
    · rw [if_neg (nI_ge (by omega) (by omega)), if_neg q, bi_some, vl_eq, nI_1]
  · show b_L_isRight_310 σ (_, nI W) = _
    rw [b_L_isRight_310, cnt1 h, bi_some, if_pos (nI_le (Nat.le_refl _) (by omega))]
theorem jn_warp (h : RS σ 1 v k S W B P N) (K : Option Int32) : jn (fun k_273 : Option Int32 => if nI (lgV v 0 W N) ≤ 0 then (k_273) else (if 64 ≤ nI (lgV v 0 W N) then (k_273) else (bi (f_X7_floats 0 (nI (lgV v 0 W N)) σ) fun r_299 => if r_299 < 1 then (some 0) else (bi (f_X7_floats 0 (nI (lgV v 0 W N) + 1) σ) fun r_300 => if r_300 = 0 then (k_273) else (some 0))))) K = K := by
  have hN := h.1.2.2.2.2.2.2
  have hl : lgV v 0 W N ≤ 64 := mxs_le (fun j => Nat.le_trans (mx_le _ _) hN) _
  rw [jn_eq]
  by_cases q : lgV v 0 W N = 0
  · rw [if_pos ((nI0_le (by omega)).mpr q)]
  · rw [if_neg (fun z => q ((nI0_le (by omega)).mp z))]
    by_cases q2 : lgV v 0 W N = 64
    · rw [if_pos (show (64 : Int32) ≤ nI (lgV v 0 W N) from nI_le (a := 64) (by omega) (by omega))]
    · have e1 := floats_at (d := 0) (m := lgV v 0 W N) h (by decide) (by omega) (by omega)
      have e2 := floats_at (d := 0) (m := lgV v 0 W N + 1) h (by decide) (by omega) (by omega)
      have e3 := fl_some v 0 W N (by omega)
      have e4 := fl_small h 0 (lgV v 0 W N)
      rw [if_neg (show ¬ (64 : Int32) ≤ nI (lgV v 0 W N) from nI_ge (b := 64) (by omega) (by decide)), show f_X7_floats 0 (nI (lgV v 0 W N)) σ = _ from e1, bi_some, if_neg (show ¬ nI _ < (1 : Int32) from nI_nlt (b := 1) e3 (by omega)), nI_1, show f_X7_floats 0 (nI (lgV v 0 W N + 1)) σ = _ from e2, bi_some, fl_none, if_pos nI_0]
theorem jn_weft (h : RS σ 1 v k S W B P N) (K : Option Int32) : jn (fun k_280 : Option Int32 => if nI (lgV v 1 W N) ≤ 0 then (k_280) else (bi (f_X7_floats 1 (nI (lgV v 1 W N)) σ) fun r_294 => if r_294 < 1 then (some 0) else (bi (f_X7_floats 1 (nI (lgV v 1 W N) + 1) σ) fun r_295 => if r_295 = 0 then (k_280) else (some 0)))) K = K := by
  have hW := h.1.2.2.2.1
  have hl : lgV v 1 W N ≤ 32 := mxs_le (fun j => Nat.le_trans (mx_le _ _) hW) _
  rw [jn_eq]
  by_cases q : lgV v 1 W N = 0
  · rw [if_pos ((nI0_le (by omega)).mpr q)]
  · rw [if_neg (fun z => q ((nI0_le (by omega)).mp z))]
    have e1 := floats_at (d := 1) (m := lgV v 1 W N) h (by decide) (by omega) (by omega)
    have e2 := floats_at (d := 1) (m := lgV v 1 W N + 1) h (by decide) (by omega) (by omega)
    have e3 := fl_some v 1 W N (by omega)
    have e4 := fl_small h 1 (lgV v 1 W N)
    rw [show f_X7_floats 1 (nI (lgV v 1 W N)) σ = _ from e1, bi_some, if_neg (show ¬ nI _ < (1 : Int32) from nI_nlt (b := 1) e3 (by omega)), nI_1, show f_X7_floats 1 (nI (lgV v 1 W N + 1)) σ = _ from e2, bi_some, fl_none, if_pos nI_0]
theorem right_at (h : RS σ 1 v k S W B P N) (hw : FW v W N) : f_L_isRight σ = some 1 := by
  have hN := h.1.2.2.2.2.2.2
  rw [f_L_isRight, cnt5 h, bi_some, r13 h hw, bi_some, sm_inr, cur2_mk, r271 h, bi_some, sm_inr, r310 h, bi_some, jn_warp h, jn_weft h, cnt7 h, bi_some, if_pos rfl]
  rcases Nat.eq_zero_or_pos N with e | e
  · subst e
    rw [if_pos nI_0, repeat_no h, bi_some, if_pos rfl]
  · obtain ⟨p1, p2, -⟩ := rpV_sp (v := v) (N := N) (N - 1) 1 (by omega)
    have p3 := dfV_le v N
    rw [if_neg (nI_ne0 e (by omega)), repeat_at h e, bi_some, if_neg (show ¬ nI _ < (1 : Int32) from nI_nlt (b := 1) p1 (by omega)), bi_some, if_neg (nI_nlt p2 (by omega)), different_at h, bi_some, bi_some, if_neg (nI_nlt p3 (by omega))]
end RG
