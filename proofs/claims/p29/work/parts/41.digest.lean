/-! part 41: floats along the lines; the digest and the yarn are functions of v -/
theorem c7_dec (s : Nat → Nat) {m : Nat} (hm : 1 ≤ m) : ∀ n, c7 s (m + 1) n + (if rn s n = m then 1 else 0) ≤ c7 s m n
  | 0 => by
    rw [c7, c7, rn, if_neg (by omega)]
    exact Nat.le_refl _
  | n + 1 => by
    have h := c7_dec s hm n
    have hr : rn s (n + 1) = m + 1 → rn s n = m := by
      rw [rn]
      split
      · omega
      · split <;> omega
    rw [c7, c7]
    by_cases q : rn s (n + 1) = m + 1
    · rw [if_pos (hr q)] at h
      rw [if_pos q, if_neg (by omega)]
      omega
    · rw [if_neg q]
      by_cases q2 : rn s (n + 1) = m
      · rw [if_pos q2]
        split at h <;> omega
      · rw [if_neg q2]
        split at h <;> omega
theorem c7_pos (s : Nat → Nat) {m : Nat} (hm : 1 ≤ m) : ∀ n, mx s n = m → 1 ≤ c7 s m n
  | 0, h => by rw [mx] at h; omega
  | n + 1, h => by
    rw [mx] at h
    rw [c7]
    by_cases q : rn s (n + 1) = m
    · rw [if_pos q]; omega
    · have := c7_pos s hm n (by omega)
      omega
theorem c7_zero (s : Nat → Nat) {m : Nat} : ∀ n, mx s n < m → c7 s m n = 0
  | 0, _ => rfl
  | n + 1, h => by
    rw [mx] at h
    rw [c7, c7_zero s n (by omega), if_neg (by omega)]
theorem sumN_mono {f g : Nat → Nat} : ∀ {n : Nat}, (∀ i, i < n → f i ≤ g i) → sumN f n ≤ sumN g n
  | 0, _ => Nat.le_refl _
  | n + 1, h => by
    have h1 := sumN_mono (f := f) (g := g) (n := n) (fun i hi => h i (by omega))
    have h2 := h n (by omega)
    rw [sumN, sumN]
    omega
theorem sumN_one {f : Nat → Nat} {j : Nat} : ∀ {n : Nat}, j < n → f j ≤ sumN f n
  | 0, h => absurd h (Nat.not_lt_zero _)
  | n + 1, h => by
    rw [sumN]
    by_cases q : j = n
    · subst q; omega
    · have := sumN_one (f := f) (n := n) (show j < n by omega)
      omega
theorem sumN_zero {f : Nat → Nat} : ∀ {n : Nat}, (∀ i, i < n → f i = 0) → sumN f n = 0
  | 0, _ => rfl
  | n + 1, h => by rw [sumN, sumN_zero (fun i hi => h i (by omega)), h n (by omega)]
/-- the greatest of the first n -/
def mxs (g : Nat → Nat) : Nat → Nat
  | 0 => 0
  | n + 1 => if g n ≤ mxs g n then mxs g n else g n
theorem mxs_ge (g : Nat → Nat) : ∀ n i, i < n → g i ≤ mxs g n
  | 0, i, h => absurd h (Nat.not_lt_zero _)
  | n + 1, i, h => by
    rw [mxs]
    by_cases q : i = n
    · subst q; split <;> omega
    · have := mxs_ge g n i (by omega)
      split <;> omega
theorem mxs_at (g : Nat → Nat) : ∀ n, 0 < mxs g n → ∃ i, i < n ∧ g i = mxs g n
  | 0, h => absurd h (Nat.not_lt_zero _)
  | n + 1, h => by
    rw [mxs] at h ⊢
    by_cases q : g n ≤ mxs g n
    · rw [if_pos q] at h ⊢
      obtain ⟨i, h1, h2⟩ := mxs_at g n h
      exact ⟨i, by omega, h2⟩
    · rw [if_neg q]
      exact ⟨n, by omega, rfl⟩
theorem mxs_le {g : Nat → Nat} {c : Nat} (h : ∀ i, g i ≤ c) : ∀ n, mxs g n ≤ c
  | 0 => Nat.zero_le _
  | n + 1 => by
    have h1 := mxs_le h n
    have h2 := h n
    rw [mxs]
    split <;> omega
theorem fl_dec (v : Nat → Int32) (d W N : Nat) {m : Nat} (hm : 1 ≤ m) : flV v d W N (m + 1) ≤ flV v d W N m := sumN_mono (fun i _ => by
  have := c7_dec (lineV v d (yN d W N) i) hm (yN d W N)
  omega)
/-- the greatest length of a float of a kind -/
def lgV (v : Nat → Int32) (d W N : Nat) : Nat := mxs (fun x => mx (lineV v d (yN d W N) x) (yN d W N)) (xN d W N)
theorem fl_some (v : Nat → Int32) (d W N : Nat) (h : 0 < lgV v d W N) : 1 ≤ flV v d W N (lgV v d W N) := by
  obtain ⟨i, h1, h2⟩ := mxs_at _ _ h
  have h3 := c7_pos (lineV v d (yN d W N) i) (m := lgV v d W N) (by omega) (yN d W N) h2
  have h4 := sumN_one (f := fun x => c7 (lineV v d (yN d W N) x) (lgV v d W N) (yN d W N)) h1
  exact Nat.le_trans h3 h4
theorem fl_none (v : Nat → Int32) (d W N : Nat) : flV v d W N (lgV v d W N + 1) = 0 := sumN_zero (fun i hi => c7_zero _ _ (Nat.lt_succ_of_le (mxs_ge (fun x => mx (lineV v d (yN d W N) x) (yN d W N)) _ i hi)))
theorem fl_le (v : Nat → Int32) (d W N m : Nat) : flV v d W N m ≤ yN d W N * xN d W N := sumN_le (fun i => c7_le _ _ _) _
/-- a digest's way -/
def hs (g : Nat → Int32) (h : Int64) : Nat → Int64
  | 0 => h
  | n + 1 => 31 * hs g h n + (g n).toInt64
def hs2 (g : Nat → Nat → Int32) (t : Nat) (h : Int64) : Nat → Int64
  | 0 => h
  | n + 1 => hs (g n) (hs2 g t h n) t
theorem pick1 {α : Type} {n : Nat} {p : Nat → α → Prop} (a : α) (h : ∀ i, i < n → ∃ r, p i r) : ∃ f : Nat → α, ∀ i, i < n → p i (f i) := by
  refine ⟨fun i => if q : i < n then (h i q).choose else a, fun i hi => ?_⟩
  show p i (dite (i < n) _ _)
  rw [dif_pos hi]
  exact (h i hi).choose_spec
theorem pick2 {α : Type} {n t : Nat} {p : Nat → Nat → α → Prop} (a : α) (h : ∀ i, i < n → ∀ j, j < t → ∃ r, p i j r) : ∃ f : Nat → Nat → α, ∀ i, i < n → ∀ j, j < t → p i j (f i j) :=
  pick1 (p := fun i f => ∀ j, j < t → p i j (f j)) (fun _ => a) (fun i hi => pick1 a (h i hi))
section DG
variable {v : Nat → Int32} {k S W B P N : Nat}
theorem cnt_ex (i : Nat) (hi : i < 8) : ∃ r, ∀ σ k, RS σ 1 v k S W B P N → f_X7_count (nI i) σ = some r := by
  rcases (show i = 0 ∨ i = 1 ∨ i = 2 ∨ i = 3 ∨ i = 4 ∨ i = 5 ∨ i = 6 ∨ i = 7 by omega) with rfl | rfl | rfl | rfl | rfl | rfl | rfl | rfl
  · refine ⟨nI S, fun σ k h => ?_⟩
    rw [f_X7_count, if_pos nI_0]
    exact congrArg some (show σ 2 0 = nI S from h.2.2.1.1)
  · exact ⟨_, fun σ k h => cnt1 h⟩
  · exact ⟨_, fun σ k h => cnt2 h⟩
  · refine ⟨if nI B = 0 then -9 else nI P, fun σ k h => ?_⟩
    show f_X7_count 3 σ = _
    rw [f_X7_count, if_neg (by decide), if_neg (by decide), if_neg (by decide), if_pos rfl, show σ 9 0 = nI B from h.2.2.1.2.2.1, show σ 9 1 = nI P from h.2.2.1.2.2.2.1]
    split <;> rfl
  · refine ⟨v 4, fun σ k h => ?_⟩
    show f_X7_count 4 σ = _
    rw [f_X7_count, if_neg (by decide), if_neg (by decide), if_neg (by decide), if_neg (by decide), if_pos rfl]
    exact congrArg some (show σ 9 2 = v 4 from h.2.2.1.2.2.2.2.2)
  · exact ⟨_, fun σ k h => cnt5 h⟩
  · exact ⟨_, fun σ k h => cnt6 h⟩
  · exact ⟨_, fun σ k h => cnt7 h⟩
theorem end_ex (e : Nat) (he : e < W) (i : Nat) (hi : i < 5) : ∃ r, ∀ σ k, RS σ 1 v k S W B P N → f_X7_end (nI e) (nI i) σ = some r := by
  have hin : ∀ σ k, RS σ 1 v k S W B P N → f_X6_hasEnd 2 (nI e) σ = some 1 := fun σ k h => by
    rw [f_X6_hasEnd, has_in he (by have := h.1.2.2.2.1; omega) (show σ 2 1 = nI W from h.2.2.1.2.1), bi_some]
  rcases (show i = 0 ∨ i = 1 ∨ i = 2 ∨ i = 3 ∨ i = 4 by omega) with rfl | rfl | rfl | rfl | rfl
  · refine ⟨v (6 + e), fun σ k h => ?_⟩
    show f_X7_end (nI e) 0 σ = _
    rw [f_X7_end, hin σ k h, bi_some, if_neg n10, if_pos rfl, num_at (by have := h.1.2.2.2.1; omega) (by decide), bi_some]
    exact congrArg some (h.2.2.2.1 e he).1
  · refine ⟨v (38 + e), fun σ k h => ?_⟩
    show f_X7_end (nI e) 1 σ = _
    rw [f_X7_end, hin σ k h, bi_some, if_neg n10, if_neg (by decide), if_pos rfl, num_at (by have := h.1.2.2.2.1; omega) (by decide), bi_some]
    exact congrArg some (h.2.2.2.1 e he).2.1
  · refine ⟨nI (sumN (fun r => tN (bt (v (138 + 5 * r)) e)) N), fun σ k h => ?_⟩
    show f_X7_end (nI e) 2 σ = _
    rw [f_X7_end, hin σ k h, bi_some, if_neg n10, if_neg (by decide), if_neg (by decide), if_pos rfl, above7 h he, bi_some]
  · refine ⟨nI (sumN (fun r => tN (bt (wrongV v W r) e)) N), fun σ k h => ?_⟩
    show f_X7_end (nI e) 3 σ = _
    rw [f_X7_end, hin σ k h, bi_some, if_neg n10, if_neg (by decide), if_neg (by decide), if_neg (by decide), if_pos rfl, rowsWrong7 h he, bi_some]
  · exact ⟨_, fun σ k h => end4 h he⟩
theorem bar_ex (b : Nat) (hb : b < B) (i : Nat) (hi : i < 4) : ∃ r, ∀ σ k, RS σ 1 v k S W B P N → f_X7_bar (nI b) (nI i) σ = some r := by
  have hin : ∀ σ k, RS σ 1 v k S W B P N → ∀ g : Int32 → Option Int32, (bi (f_X0_hasBar 9 (nI b) σ) fun r_1 => if r_1 = 0 then some (-1) else bi (f_X4_at 10 24 (nI b) σ) g) = g (v (78 + b)) := fun σ k h g => by
    have hB := h.1.2.2.2.2.1
    rw [f_X0_hasBar, has_in hb (by omega) (show σ 9 0 = nI B from h.2.2.1.2.2.1), bi_some, bi_some, if_neg n10, num_at (by omega) (by decide), bi_some, show σ (10 + 1) b = _ from (h.2.2.2.2.2.1 b hb).1]
  rcases (show i = 0 ∨ i = 1 ∨ i = 2 ∨ i = 3 by omega) with rfl | rfl | rfl | rfl
  · refine ⟨v (78 + b), fun σ k h => ?_⟩
    show f_X7_bar (nI b) 0 σ = _
    rw [f_X7_bar, hin σ k h, if_pos rfl]
  · refine ⟨v (102 + b), fun σ k h => ?_⟩
    show f_X7_bar (nI b) 1 σ = _
    have hB := h.1.2.2.2.2.1
    rw [f_X7_bar, hin σ k h, if_neg (by decide), if_pos rfl, num_at (by omega) (by decide), bi_some]
    exact congrArg some (h.2.2.2.2.2.1 b hb).2.1
  · refine ⟨liftV v (v (78 + b)) S, fun σ k h => ?_⟩
    show f_X7_bar (nI b) 2 σ = _
    rw [f_X7_bar, hin σ k h, if_neg (by decide), if_neg (by decide), if_pos rfl, show f_X6_liftedShafts 2 _ σ = _ from liftBar7 h _, bi_some]
  · refine ⟨nI (wholeV (endsV v (liftV v (v (78 + b)) S) W) W), fun σ k h => ?_⟩
    show f_X7_bar (nI b) 3 σ = _
    rw [f_X7_bar, hin σ k h, if_neg (by decide), if_neg (by decide), if_neg (by decide), if_pos rfl, show f_X6_yarnOfWholePick 2 _ σ = _ from yarn7 h _, bi_some]
theorem row_ex (r : Nat) (hr : r < N) (i : Nat) (hi : i < 7) : ∃ z, ∀ σ k, RS σ 1 v k S W B P N → f_X7_row (nI r) (nI i) σ = some z := by
  have hin : ∀ σ k, RS σ 1 v k S W B P N → f_X2_hasRow 16 (nI r) σ = some 1 := fun σ k h => by
    rw [f_X2_hasRow, has_in hr (by have := h.1.2.2.2.2.2.2; omega) (show σ 16 0 = nI N from h.2.2.1.2.2.2.2.1), bi_some]
  rcases (show i = 0 ∨ i = 1 ∨ i = 2 ∨ i = 3 ∨ i = 4 ∨ i = 5 ∨ i = 6 by omega) with rfl | rfl | rfl | rfl | rfl | rfl | rfl
  · refine ⟨v (136 + 5 * r), fun σ k h => ?_⟩
    show f_X7_row (nI r) 0 σ = _
    rw [f_X7_row, hin σ k h, bi_some, if_neg n10, if_pos rfl, num_at (by have := h.1.2.2.2.2.2.2; omega) (by decide), bi_some]
    exact congrArg some (h.2.2.2.2.2.2.2 r hr).1
  · refine ⟨v (137 + 5 * r), fun σ k h => ?_⟩
    show f_X7_row (nI r) 1 σ = _
    rw [f_X7_row, hin σ k h, bi_some, if_neg n10, if_neg (by decide), if_pos rfl, num_at (by have := h.1.2.2.2.2.2.2; omega) (by decide), bi_some]
    exact congrArg some (h.2.2.2.2.2.2.2 r hr).2.1
  · exact ⟨_, fun σ k h => row2 h hr⟩
  · exact ⟨_, fun σ k h => row3 h hr⟩
  · exact ⟨_, fun σ k h => row4 h hr⟩
  · exact ⟨_, fun σ k h => row5 h hr⟩
  · exact ⟨_, fun σ k h => row6 h hr⟩
theorem rep_ex : ∃ r, ∀ σ k, RS σ 1 v k S W B P N → f_X7_repeat σ = some r := by
  rcases Nat.eq_zero_or_pos N with e | e
  · subst e
    exact ⟨_, fun σ k h => repeat_no h⟩
  · exact ⟨_, fun σ k h => repeat_at h e⟩
theorem digest_ex : ∃ d, ∀ σ k, RS σ 1 v k S W B P N → f_L_digest σ = some d := by
  obtain ⟨gc, hc⟩ := pick1 (n := 8) (p := fun i r => ∀ σ k, RS σ 1 v k S W B P N → f_X7_count (nI i) σ = some r) 0 cnt_ex
  obtain ⟨ge, he⟩ := pick2 (n := W) (t := 5) (p := fun e i r => ∀ σ k, RS σ 1 v k S W B P N → f_X7_end (nI e) (nI i) σ = some r) 0 end_ex
  obtain ⟨gb, hb⟩ := pick2 (n := B) (t := 4) (p := fun e i r => ∀ σ k, RS σ 1 v k S W B P N → f_X7_bar (nI e) (nI i) σ = some r) 0 bar_ex
  obtain ⟨gr, hr⟩ := pick2 (n := N) (t := 7) (p := fun e i r => ∀ σ k, RS σ 1 v k S W B P N → f_X7_row (nI e) (nI i) σ = some r) 0 row_ex
  obtain ⟨gp, hp⟩ := rep_ex (v := v) (S := S) (W := W) (B := B) (P := P) (N := N)
  refine ⟨31 * hs2 gr 7 (hs (fun c => v (126 + c)) (hs2 gb 4 (hs2 ge 5 (hs gc 7 8) W) B) 10) N + gp.toInt64, fun σ k h => ?_⟩
  have hW := h.1.2.2.2.1
  have hB := h.1.2.2.2.2.1
  have hN := h.1.2.2.2.2.2.2
  have l1 : lp (b_L_digest_6 σ) FU (7, 0) = some (hs gc 7 8) := by
    refine lp_run (fun i => (hs gc 7 i, nI i)) 8 (by decide) (fun i hi => ?_) ?_ rfl
    · show b_L_digest_6 σ (_, nI i) = _
      rw [b_L_digest_6, if_neg (show ¬ (8 : Int32) ≤ nI i from nI_ge (b := 8) hi (by decide)), hc i hi σ k h, bi_some, vl_eq, vl_eq, nI_1]
      rfl
    · show b_L_digest_6 σ (_, nI 8) = _
      rw [b_L_digest_6, if_pos (show (8 : Int32) ≤ nI 8 by decide)]
  have l2i : ∀ e, e < W → ∀ z, lp (b_L_digest_45 σ (nI e)) FU (z, 0) = some (hs (ge e) z 5) := fun e q z => by
    refine lp_run (fun i => (hs (ge e) z i, nI i)) 5 (by decide) (fun i hi => ?_) ?_ rfl
    · show b_L_digest_45 σ (nI e) (_, nI i) = _
      rw [b_L_digest_45, if_neg (show ¬ (5 : Int32) ≤ nI i from nI_ge (b := 5) hi (by decide)), he e q i hi σ k h, bi_some, vl_eq, vl_eq, nI_1]
      rfl
    · show b_L_digest_45 σ (nI e) (_, nI 5) = _
      rw [b_L_digest_45, if_pos (show (5 : Int32) ≤ nI 5 by decide)]
  have l2 : ∀ z, lp (b_L_digest_33 σ) FU (z, 0) = some (hs2 ge 5 z W) := fun z => by
    refine lp_run (fun i => (hs2 ge 5 z i, nI i)) W (by omega) (fun i hi => ?_) ?_ rfl
    · show b_L_digest_33 σ (_, nI i) = _
      rw [b_L_digest_33, cnt1 h, bi_some, if_neg (nI_ge hi (by omega)), l2i i hi, bi_some, vl_eq, nI_1]
      rfl
    · show b_L_digest_33 σ (_, nI W) = _
      rw [b_L_digest_33, cnt1 h, bi_some, if_pos (nI_le (Nat.le_refl _) (by omega))]
  have l3i : ∀ e, e < B → ∀ z, lp (b_L_digest_92 σ (nI e)) FU (z, 0) = some (hs (gb e) z 4) := fun e q z => by
    refine lp_run (fun i => (hs (gb e) z i, nI i)) 4 (by decide) (fun i hi => ?_) ?_ rfl
    · show b_L_digest_92 σ (nI e) (_, nI i) = _
      rw [b_L_digest_92, if_neg (show ¬ (4 : Int32) ≤ nI i from nI_ge (b := 4) hi (by decide)), hb e q i hi σ k h, bi_some, vl_eq, vl_eq, nI_1]
      rfl
    · show b_L_digest_92 σ (nI e) (_, nI 4) = _
      rw [b_L_digest_92, if_pos (show (4 : Int32) ≤ nI 4 by decide)]
  have l3 : ∀ z, lp (b_L_digest_80 σ) FU (z, 0) = some (hs2 gb 4 z B) := fun z => by
    refine lp_run (fun i => (hs2 gb 4 z i, nI i)) B (by omega) (fun i hi => ?_) ?_ rfl
    · show b_L_digest_80 σ (_, nI i) = _
      rw [b_L_digest_80, cnt2 h, bi_some, if_neg (nI_ge hi (by omega)), l3i i hi, bi_some, vl_eq, nI_1]
      rfl
    · show b_L_digest_80 σ (_, nI B) = _
      rw [b_L_digest_80, cnt2 h, bi_some, if_pos (nI_le (Nat.le_refl _) (by omega))]
  have l4 : ∀ z, lp (b_L_digest_127 σ) FU (z, 0) = some (hs (fun c => v (126 + c)) z 10) := fun z => by
    refine lp_run (fun i => (hs (fun c => v (126 + c)) z i, nI i)) 10 (by decide) (fun i hi => ?_) ?_ rfl
    · show b_L_digest_127 σ (_, nI i) = _
      rw [b_L_digest_127, if_neg (show ¬ (10 : Int32) ≤ nI i from nI_ge (b := 10) hi (by decide)), yarnC h hi, bi_some, vl_eq, vl_eq, nI_1]
      rfl
    · show b_L_digest_127 σ (_, nI 10) = _
      rw [b_L_digest_127, if_pos (show (10 : Int32) ≤ nI 10 by decide)]
  have l5i : ∀ e, e < N → ∀ z, lp (b_L_digest_166 σ (nI e)) FU (z, 0) = some (hs (gr e) z 7) := fun e q z => by
    refine lp_run (fun i => (hs (gr e) z i, nI i)) 7 (by decide) (fun i hi => ?_) ?_ rfl
    · show b_L_digest_166 σ (nI e) (_, nI i) = _
      rw [b_L_digest_166, if_neg (show ¬ (7 : Int32) ≤ nI i from nI_ge (b := 7) hi (by decide)), hr e q i hi σ k h, bi_some, vl_eq, vl_eq, nI_1]
      rfl
    · show b_L_digest_166 σ (nI e) (_, nI 7) = _
      rw [b_L_digest_166, if_pos (show (7 : Int32) ≤ nI 7 by decide)]
  have l5 : ∀ z, lp (b_L_digest_154 σ) FU (z, 0) = some (hs2 gr 7 z N) := fun z => by
    refine lp_run (fun i => (hs2 gr 7 z i, nI i)) N (by omega) (fun i hi => ?_) ?_ rfl
    · show b_L_digest_154 σ (_, nI i) = _
      rw [b_L_digest_154, cnt5 h, bi_some, if_neg (nI_ge hi (by omega)), l5i i hi, bi_some, vl_eq, nI_1]
      rfl
    · show b_L_digest_154 σ (_, nI N) = _
      rw [b_L_digest_154, cnt5 h, bi_some, if_pos (nI_le (Nat.le_refl _) (by omega))]
  rw [f_L_digest, vl_eq, l1, bi_some, l2, bi_some, l3, bi_some, l4, bi_some, l5, bi_some, hp σ k h, bi_some]
end DG
/-- sums of the machine's numbers -/
def sI (f : Nat → Int32) : Nat → Int32
  | 0 => 0
  | n + 1 => sI f n + f n
theorem sI_c {f g : Nat → Int32} : ∀ {n : Nat}, (∀ i, i < n → f i = g i) → sI f n = sI g n
  | 0, _ => rfl
  | n + 1, h => by rw [sI, sI, sI_c (fun i hi => h i (by omega)), h n (by omega)]
/-- all yarn: on the bobbins and in the rows -/
def yT (v : Nat → Int32) (W N : Nat) : Int32 := sI (fun c => v (126 + c)) 10 + sI (fun r => nI (usV (v (138 + 5 * r)) (v (139 + 5 * r)) W r W)) N
theorem yarn_at {σ : Nat → Nat → Int32} {v : Nat → Int32} {k S W B P N : Nat} (h : RS σ 1 v k S W B P N) : f_L_yarn σ = some (yT v W N) := by
  have hN := h.1.2.2.2.2.2.2
  have l1 : lp (b_L_yarn_4 σ) FU (0, 0) = some (sI (fun c => v (126 + c)) 10) := by
    refine lp_run (fun i => (sI (fun c => v (126 + c)) i, nI i)) 10 (by decide) (fun i hi => ?_) ?_ rfl
    · show b_L_yarn_4 σ (_, nI i) = _
      rw [b_L_yarn_4, if_neg (show ¬ (10 : Int32) ≤ nI i from nI_ge (b := 10) hi (by decide)), yarnC h hi, bi_some, vl_eq, vl_eq, nI_1]
      rfl
    · show b_L_yarn_4 σ (_, nI 10) = _
      rw [b_L_yarn_4, if_pos (show (10 : Int32) ≤ nI 10 by decide)]
  have l2 : ∀ z : Int32, lp (b_L_yarn_26 σ) FU (z, 0) = some (z + sI (fun r => nI (usV (v (138 + 5 * r)) (v (139 + 5 * r)) W r W)) N) := fun z => by
    refine lp_run (fun i => (z + sI (fun r => nI (usV (v (138 + 5 * r)) (v (139 + 5 * r)) W r W)) i, nI i)) N (by omega) (fun i hi => ?_) ?_ (by show (z + 0, nI 0) = _; rw [Int32.add_zero]; rfl)
    · show b_L_yarn_26 σ (_, nI i) = _
      rw [b_L_yarn_26, cnt5 h, bi_some, if_neg (nI_ge hi (by omega)), row2 h hi, bi_some, vl_eq, vl_eq, nI_1, Int32.add_assoc]
      rfl
    · show b_L_yarn_26 σ (_, nI N) = _
      rw [b_L_yarn_26, cnt5 h, bi_some, if_pos (nI_le (Nat.le_refl _) (by omega))]
  rw [f_L_yarn, l1, bi_some, l2, bi_some]
  rfl
