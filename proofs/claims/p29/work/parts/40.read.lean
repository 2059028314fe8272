/-! part 40: what the readers answer, out of v -/
theorem has_in {x N : Nat} (hx : x < N) (hN : N < 2 ^ 31) {y : Int32} (hy : y = nI N) (σ : Nat → Nat → Int32) : f_X7_isBetween (nI x) 0 (y - 1) σ = some 1 := by
  refine has_yes (N := N) (nI_pos (by omega)) ?_ hy σ
  rw [show nI N - 1 = nI (N - 1) from nI_sub (b := 1) (by omega)]
  exact nI_nlt (by omega) (by omega)
theorem btw_in {x lo hi : Nat} (h1 : lo ≤ x) (h2 : x ≤ hi) (h : hi < 2 ^ 31) (σ : Nat → Nat → Int32) : f_X7_isBetween (nI x) (nI lo) (nI hi) σ = some 1 :=
  btw_yes (nI_nlt h1 (by omega)) (nI_nlt h2 (by omega)) σ
section RDS
variable {σ : Nat → Nat → Int32} {v : Nat → Int32} {k S W B P N : Nat}
theorem cnt1 (h : RS σ 1 v k S W B P N) : f_X7_count 1 σ = some (nI W) := by
  rw [f_X7_count, if_neg (by decide), if_pos rfl]
  exact congrArg some (show σ 2 1 = nI W from h.2.2.1.2.1)
theorem cnt2 (h : RS σ 1 v k S W B P N) : f_X7_count 2 σ = some (nI B) := by
  rw [f_X7_count, if_neg (by decide), if_neg (by decide), if_pos rfl]
  exact congrArg some (show σ 9 0 = nI B from h.2.2.1.2.2.1)
theorem cnt5 (h : RS σ 1 v k S W B P N) : f_X7_count 5 σ = some (nI N) := by
  rw [f_X7_count, if_neg (by decide), if_neg (by decide), if_neg (by decide), if_neg (by decide), if_neg (by decide), if_pos rfl]
  exact congrArg some (show σ 16 0 = nI N from h.2.2.1.2.2.2.2.1)
theorem cnt6 (h : RS σ 1 v k S W B P N) : f_X7_count 6 σ = some (standV v W N) := by
  rw [f_X7_count, if_neg (by decide), if_neg (by decide), if_neg (by decide), if_neg (by decide), if_neg (by decide), if_neg (by decide), if_pos rfl, stand7 h, bi_some]
  unfold standV
  split <;> rfl
theorem cnt7 (h : RS σ 1 v k S W B P N) : f_X7_count 7 σ = some (nI (sumN (fun r => pc (wrongV v W r)) N)) := by
  rw [f_X7_count, if_neg (by decide), if_neg (by decide), if_neg (by decide), if_neg (by decide), if_neg (by decide), if_neg (by decide), if_neg (by decide), if_pos rfl, allWrong7 h, bi_some]
theorem cnt10 (σ : Nat → Nat → Int32) : f_X7_count 10 σ = some (-1) := by
  rw [f_X7_count, if_neg (by decide), if_neg (by decide), if_neg (by decide), if_neg (by decide), if_neg (by decide), if_neg (by decide), if_neg (by decide), if_neg (by decide), if_neg (by decide), if_neg (by decide)]
theorem end4 {e : Nat} (h : RS σ 1 v k S W B P N) (he : e < W) : f_X7_end (nI e) 4 σ = some (nI (mx (lineV v 0 N e) N)) := by
  have hN := h.1.2.2.2.2.2.2
  have hW := h.1.2.2.2.1
  have e7 := long7 (a1 := nI 0) (a2 := nI e) (n := N) (by omega) (lineV_le v 0 N e) (fun i hi => along7 (d := 0) h (by decide) (by rw [if_pos rfl]; exact he) (by rw [if_pos rfl]; exact hi))
  rw [f_X7_end, f_X6_hasEnd, has_in he (by omega) (show σ 2 1 = nI W from h.2.2.1.2.1), bi_some, bi_some, if_neg n10, if_neg (by decide), if_neg (by decide), if_neg (by decide), if_neg (by decide), if_pos rfl, show σ 16 0 = nI N from h.2.2.1.2.2.2.2.1, show f_X2_longestFloat 16 0 (nI e) (nI N) σ = _ from e7, bi_some]
theorem row2 {r : Nat} (h : RS σ 1 v k S W B P N) (hr : r < N) : f_X7_row (nI r) 2 σ = some (nI (usV (v (138 + 5 * r)) (v (139 + 5 * r)) W r W)) := by
  have hN := h.1.2.2.2.2.2.2
  rw [f_X7_row, f_X2_hasRow, has_in hr (by omega) (show σ 16 0 = nI N from h.2.2.1.2.2.2.2.1), bi_some, bi_some, if_neg n10, if_neg (by decide), if_neg (by decide), if_pos rfl, num_at (by omega) (by decide), bi_some]
  exact congrArg some (h.2.2.2.2.2.2.2 r hr).2.2.2.2.2.1
theorem row3 {r : Nat} (h : RS σ 1 v k S W B P N) (hr : r < N) : f_X7_row (nI r) 3 σ = some (nI (pc (v (138 + 5 * r)))) := by
  have hN := h.1.2.2.2.2.2.2
  rw [f_X7_row, f_X2_hasRow, has_in hr (by omega) (show σ 16 0 = nI N from h.2.2.1.2.2.2.2.1), bi_some, bi_some, if_neg n10, if_neg (by decide), if_neg (by decide), if_neg (by decide), if_pos rfl, num_at (by omega) (by decide), bi_some, bitCount_spec, bi_some, show σ (23 + 1) r = _ from (h.2.2.2.2.2.2.2 r hr).2.2.1]
theorem row4 {r : Nat} (h : RS σ 1 v k S W B P N) (hr : r < N) : f_X7_row (nI r) 4 σ = some (nI (pc (aE W &&& (v (139 + 5 * r) ^^^ (-1))))) := by
  have hN := h.1.2.2.2.2.2.2
  rw [f_X7_row, f_X2_hasRow, has_in hr (by omega) (show σ 16 0 = nI N from h.2.2.1.2.2.2.2.1), bi_some, bi_some, if_neg n10, if_neg (by decide), if_neg (by decide), if_neg (by decide), if_neg (by decide), if_pos rfl, num_at (by omega) (by decide), bi_some, bitCount_spec, bi_some, show σ (25 + 1) r = _ from (h.2.2.2.2.2.2.2 r hr).2.2.2.1]
theorem row5 {r : Nat} (h : RS σ 1 v k S W B P N) (hr : r < N) : f_X7_row (nI r) 5 σ = some (nI (pc (wrongV v W r))) := by
  have hN := h.1.2.2.2.2.2.2
  rw [f_X7_row, f_X2_hasRow, has_in hr (by omega) (show σ 16 0 = nI N from h.2.2.1.2.2.2.2.1), bi_some, bi_some, if_neg n10, if_neg (by decide), if_neg (by decide), if_neg (by decide), if_neg (by decide), if_neg (by decide), if_pos rfl, wrong7 h hr, bi_some, bitCount_spec, bi_some]
theorem row6 {r : Nat} (h : RS σ 1 v k S W B P N) (hr : r < N) : f_X7_row (nI r) 6 σ = some (nI (mx (lineV v 1 W r) W)) := by
  have hN := h.1.2.2.2.2.2.2
  have hW := h.1.2.2.2.1
  have e7 := long7 (a1 := nI 1) (a2 := nI r) (n := W) (by omega) (lineV_le v 1 W r) (fun i hi => along7 (d := 1) h (by decide) (by rw [if_neg (by decide)]; exact hr) (by rw [if_neg (by decide)]; exact hi))
  rw [f_X7_row, f_X2_hasRow, has_in hr (by omega) (show σ 16 0 = nI N from h.2.2.1.2.2.2.2.1), bi_some, bi_some, if_neg n10, if_neg (by decide), if_neg (by decide), if_neg (by decide), if_neg (by decide), if_neg (by decide), if_neg (by decide), if_pos rfl, show σ 2 1 = nI W from h.2.2.1.2.1, show f_X2_longestFloat 16 1 (nI r) (nI W) σ = _ from e7, bi_some]
theorem yarnC {c : Nat} (h : RS σ 1 v k S W B P N) (hc : c < 10) : f_X7_yarn (nI c) σ = some (v (126 + c)) := by
  rw [f_X7_yarn, f_X7_isColor, show f_X7_isBetween (nI c) 0 9 σ = some 1 from btw_in (lo := 0) (hi := 9) (by omega) (by omega) (by decide) σ, bi_some, bi_some, if_neg n10, num_at (by omega) (by decide), bi_some]
  exact congrArg some (h.2.2.2.2.2.2.1 c hc).1
theorem cell_at {r e : Nat} (h : RS σ 1 v k S W B P N) (hr : r < N) (he : e < W) : f_X7_cell (nI r) (nI e) 0 σ = some (if sideV v r e = 2 then -9 else nI (sideV v r e)) ∧ f_X7_cell (nI r) (nI e) 2 σ = some (if bt (wrongV v W r) e = true then 1 else 0) ∧ f_X7_cell (nI r) (nI e) 3 σ = some (if bt (v (140 + 5 * r)) e = true then 1 else 0) := by
  have hN := h.1.2.2.2.2.2.2
  have hW := h.1.2.2.2.1
  have hsd := sideV_le v r e
  have m1 := clS_2 (sideV v r e) hsd
  have h1 : f_X2_hasRow 16 (nI r) σ = some 1 := by
    rw [f_X2_hasRow, has_in hr (by omega) (show σ 16 0 = nI N from h.2.2.1.2.2.2.2.1), bi_some]
  have h2 : f_X6_hasEnd 2 (nI e) σ = some 1 := by
    rw [f_X6_hasEnd, has_in he (by omega) (show σ 2 1 = nI W from h.2.2.1.2.1), bi_some]
  refine ⟨?_, ?_, ?_⟩
  · rw [f_X7_cell, h1, bi_some, if_neg n10, h2, bi_some, if_neg n10, side7 h hr he, bi_some, if_pos rfl]
    by_cases q : sideV v r e = 2
    · rw [if_pos (m1.mpr q), if_pos q]
    · rw [if_neg (fun z => q (m1.mp z)), if_neg q, show clS (sideV v r e) = nI (sideV v r e) by unfold clS; rw [if_neg q]]
  · rw [f_X7_cell, h1, bi_some, if_neg n10, h2, bi_some, if_neg n10, side7 h hr he, bi_some, if_neg (by decide), if_neg (by decide), if_pos rfl, wrong7 h hr, bi_some, bitOf_spec (by omega), bi_some]
  · rw [f_X7_cell, h1, bi_some, if_neg n10, h2, bi_some, if_neg n10, side7 h hr he, bi_some, if_neg (by decide), if_neg (by decide), if_neg (by decide), if_pos rfl, num_at (by omega) (by decide), bi_some, bitOf_spec (by omega), bi_some, show σ (27 + 1) r = _ from (h.2.2.2.2.2.2.2 r hr).2.2.2.2.1]
/-- the floats of a kind: the lines' and the places' numbers -/
def xN (d W N : Nat) : Nat := if d = 0 then W else N
def yN (d W N : Nat) : Nat := if d = 0 then N else W
def flV (v : Nat → Int32) (d W N m : Nat) : Nat := sumN (fun x => c7 (lineV v d (yN d W N) x) m (yN d W N)) (xN d W N)
theorem floats_at {d m : Nat} (h : RS σ 1 v k S W B P N) (hd : d < 2) (hm0 : 1 ≤ m) (hm : m ≤ 64) : f_X7_floats (nI d) (nI m) σ = some (nI (flV v d W N m)) := by
  have hN := h.1.2.2.2.2.2.2
  have hW := h.1.2.2.2.1
  have ed : (nI d = 0) ↔ d = 0 := nI_eq (b := 0) (by omega) (by decide)
  have hX64 : xN d W N ≤ 64 := by unfold xN; split <;> omega
  have hY64 : yN d W N ≤ 64 := by unfold yN; split <;> omega
  have eX : (if nI d = 0 then nI W else nI N) = nI (xN d W N) := by
    unfold xN
    by_cases q : d = 0
    · rw [if_pos (ed.mpr q), if_pos q]
    · rw [if_neg (fun z => q (ed.mp z)), if_neg q]
  have eY : (if nI d = 0 then nI N else nI W) = nI (yN d W N) := by
    unfold yN
    by_cases q : d = 0
    · rw [if_pos (ed.mpr q), if_pos q]
    · rw [if_neg (fun z => q (ed.mp z)), if_neg q]
  have hl7 : lp (b_X7_floats_84 (nI d) (nI m) σ (nI (xN d W N)) (nI (yN d W N))) FU (0, 0) = some (nI (flV v d W N m)) := by
    refine lp_run (fun i => (nI (sumN (fun x => c7 (lineV v d (yN d W N) x) m (yN d W N)) i), nI i)) (xN d W N) (by omega) (fun i hi => ?_) ?_ rfl
    · show b_X7_floats_84 (nI d) (nI m) σ (nI (xN d W N)) (nI (yN d W N)) (_, nI i) = _
      rw [b_X7_floats_84, if_neg (nI_ge hi (by omega)), floats7 (s := lineV v d (yN d W N) i) (n := yN d W N) (m := m) hY64 (by omega) (lineV_le v d (yN d W N) i) (fun j hj => along7 h hd (by unfold xN at hi; exact hi) (by unfold yN at hj; exact hj)), bi_some, vl_eq, vl_eq, nI_add, nI_1]
      rfl
    · show b_X7_floats_84 (nI d) (nI m) σ (nI (xN d W N)) (nI (yN d W N)) (_, nI (xN d W N)) = _
      rw [b_X7_floats_84, if_pos (nI_le (Nat.le_refl _) (by omega))]
      rfl
  rw [f_X7_floats, show f_X7_isBetween (nI d) 0 1 σ = some 1 from btw_in (lo := 0) (hi := 1) (by omega) (by omega) (by decide) σ, bi_some, if_neg n10, show f_X7_isBetween (nI m) 1 64 σ = some 1 from btw_in (lo := 1) (hi := 64) hm0 hm (by decide) σ, bi_some, if_neg n10, show σ 2 1 = nI W from h.2.2.1.2.1, show σ 16 0 = nI N from h.2.2.1.2.2.2.2.1, vl_eq, vl_eq, eX, eY, hl7, bi_some]
/-- is every row from j on alike the one p before -/
def allV (v : Nat → Int32) (p : Nat) : Nat → Nat → Bool
  | _, 0 => true
  | j, m + 1 => if aV v j (j - p) = 0 then false else allV v p (j + 1) m
def rpV (v : Nat → Int32) (N : Nat) : Nat → Nat → Nat
  | p, 0 => p
  | p, m + 1 => if allV v p p (N - p) = true then p else rpV v N (p + 1) m
theorem allV_at {v : Nat → Int32} {p : Nat} : ∀ m j, allV v p j m = true → ∀ t, j ≤ t → t < j + m → ¬ aV v t (t - p) = 0 := by
  intro m
  induction m with
  | zero => intro j _ t h1 h2; omega
  | succ m ih =>
    intro j h t h1 h2
    rw [allV] at h
    by_cases e : aV v j (j - p) = 0
    · rw [if_pos e] at h; cases h
    · rw [if_neg e] at h
      by_cases q : t = j
      · rw [q]; exact e
      · exact ih (j + 1) h t (by omega) (by omega)
theorem rpV_sp {v : Nat → Int32} {N : Nat} : ∀ m p, p + m = N → p ≤ rpV v N p m ∧ rpV v N p m ≤ N ∧ ∀ t, rpV v N p m ≤ t → t < N → ¬ aV v t (t - rpV v N p m) = 0 := by
  intro m
  induction m with
  | zero =>
    intro p hp
    rw [rpV]
    exact ⟨Nat.le_refl _, by omega, fun t h1 h2 => by omega⟩
  | succ m ih =>
    intro p hp
    rw [rpV]
    by_cases e : allV v p p (N - p) = true
    · rw [if_pos e]
      exact ⟨Nat.le_refl _, by omega, fun t h1 h2 => allV_at _ _ e t h1 (by omega)⟩
    · rw [if_neg e]
      obtain ⟨h1, h2, h3⟩ := ih (p + 1) (by omega)
      exact ⟨by omega, h2, h3⟩
theorem rep_in7 (hR : RS σ 1 v k S W B P N) {p : Nat} : ∀ m j, j + m = N → p ≤ j → ∀ F, m < F → lp (b_X2_repeatsAfter_2 16 (nI p) σ) F (nI j) = some (if allV v p j m = true then .inr () else .inl 0) := by
  have hN := hR.1.2.2.2.2.2.2
  have c1 : σ 16 0 = nI N := hR.2.2.1.2.2.2.2.1
  intro m
  induction m with
  | zero =>
    intro j hj hpj F hF
    obtain ⟨G, rfl⟩ : ∃ G, F = G + 1 := ⟨F - 1, by omega⟩
    have : j = N := by omega
    subst this
    rw [lp_s, b_X2_repeatsAfter_2, c1, if_pos (nI_le (Nat.le_refl _) (by omega)), lkr]
    rfl
  | succ m ih =>
    intro j hj hpj F hF
    obtain ⟨G, rfl⟩ : ∃ G, F = G + 1 := ⟨F - 1, by omega⟩
    have h3 := ih (j + 1) (by omega) (by omega) G (by omega)
    rw [lp_s, b_X2_repeatsAfter_2, c1, if_neg (nI_ge (by omega) (by omega)), nI_sub hpj, like7 hR (by omega) (by omega), bi_some, allV]
    by_cases e : aV v j (j - p) = 0
    · rw [if_pos e, if_pos e, lkr]
      rfl
    · rw [if_neg e, if_neg e, vl_eq, nI_1, lkl]
      exact h3
theorem rep_sp7 (hR : RS σ 1 v k S W B P N) {p : Nat} (hpN : p ≤ N) : f_X2_repeatsAfter 16 (nI p) σ = some (if allV v p p (N - p) = true then 1 else 0) := by
  have hN := hR.1.2.2.2.2.2.2
  rw [f_X2_repeatsAfter, rep_in7 hR (N - p) p (by omega) (Nat.le_refl p) FU (Nat.lt_of_le_of_lt (show N - p ≤ 64 by omega) (by decide)), bi_some]
  by_cases e : allV v p p (N - p) = true
  · rw [if_pos e, if_pos e]; rfl
  · rw [if_neg e, if_neg e]; rfl
theorem rep_out7 (hR : RS σ 1 v k S W B P N) : ∀ m p, p + m = N → ∀ F, m < F → ∃ z, lp (b_X7_repeat_20 σ (nI N)) F (nI p) = some z ∧ (z = .inl (nI (rpV v N p m)) ∨ (z = .inr () ∧ rpV v N p m = N)) := by
  have hN := hR.1.2.2.2.2.2.2
  intro m
  induction m with
  | zero =>
    intro p hp F hF
    obtain ⟨G, rfl⟩ : ∃ G, F = G + 1 := ⟨F - 1, by omega⟩
    have : p = N := by omega
    subst this
    refine ⟨.inr (), ?_, Or.inr ⟨rfl, rfl⟩⟩
    rw [lp_s, b_X7_repeat_20, if_pos (nI_le (Nat.le_refl _) (by omega)), lkr]
  | succ m ih =>
    intro p hp F hF
    obtain ⟨G, rfl⟩ : ∃ G, F = G + 1 := ⟨F - 1, by omega⟩
    obtain ⟨z, e4, e5⟩ := ih (p + 1) (by omega) G (by omega)
    rw [lp_s, b_X7_repeat_20, if_neg (nI_ge (by omega) (by omega)), rep_sp7 hR (by omega), bi_some, rpV]
    by_cases e : allV v p p (N - p) = true
    · rw [if_pos e, if_pos e, if_neg n10, lkr]
      exact ⟨_, rfl, Or.inl rfl⟩
    · rw [if_neg e, if_neg e, if_pos rfl, vl_eq, nI_1, lkl]
      exact ⟨z, e4, e5⟩
theorem repeat_at (hR : RS σ 1 v k S W B P N) (h1 : 1 ≤ N) : f_X7_repeat σ = some (nI (rpV v N 1 (N - 1))) := by
  have hN := hR.1.2.2.2.2.2.2
  obtain ⟨z, e4, e5⟩ := rep_out7 hR (N - 1) 1 (by omega) FU (Nat.lt_of_le_of_lt (show N - 1 ≤ 64 by omega) (by decide))
  rw [f_X7_repeat, show σ 16 0 = nI N from hR.2.2.1.2.2.2.2.1, vl_eq, if_neg (nI_ne0 h1 (by omega)), show lp (b_X7_repeat_20 σ (nI N)) FU 1 = _ from e4, bi_some]
  rcases e5 with q | ⟨q1, q2⟩
  · subst q; rfl
  · subst q1; rw [q2]; rfl
theorem repeat_no (hR : RS σ 1 v k S W B P 0) : f_X7_repeat σ = some (-9) := by
  rw [f_X7_repeat, show σ 16 0 = nI 0 from hR.2.2.1.2.2.2.2.1, vl_eq, if_pos nI_0]
def dfV (v : Nat → Int32) (N : Nat) : Nat := sumN (fun i => if exV v i 0 i = true then 0 else 1) N
theorem different_at (hR : RS σ 1 v k S W B P N) : f_X7_differentRows σ = some (nI (dfV v N)) := by
  have hN := hR.1.2.2.2.2.2.2
  have c1 : σ 16 0 = nI N := hR.2.2.1.2.2.2.2.1
  have h7 : lp (b_X7_differentRows_4 σ) FU (0, 0) = some (nI (dfV v N)) := by
    refine lp_run (fun i => (nI (sumN (fun i => if exV v i 0 i = true then 0 else 1) i), nI i)) N (by omega) (fun i hi => ?_) ?_ rfl
    · show b_X7_differentRows_4 σ (_, nI i) = _
      have e := has7 hR hi i 0 (by omega) FU (Nat.lt_of_le_of_lt (show i ≤ 64 by omega) (by decide))
      rw [b_X7_differentRows_4, c1, if_neg (nI_ge hi (by omega)), f_X2_hasAlikeBefore, show lp (b_X2_hasAlikeBefore_2 16 (nI i) σ) FU 0 = _ from e, bi_some, sumN]
      cases exV v i 0 i
      · rw [if_neg (by decide), if_neg (by decide), sm_inr, bi_some, if_pos rfl, vl_eq, vl_eq, nI_1, nI_1]
      · rw [if_pos rfl, if_pos rfl, sm_inl, bi_some, if_neg n10, vl_eq, nI_1]; rfl
    · show b_X7_differentRows_4 σ (_, nI N) = _
      rw [b_X7_differentRows_4, c1, if_pos (nI_le (Nat.le_refl N) (by omega))]
      rfl
  rw [f_X7_differentRows, h7, bi_some]
theorem exV_of {v : Nat → Int32} {i : Nat} : ∀ m j t, j ≤ t → t < j + m → ¬ aV v i t = 0 → exV v i j m = true := by
  intro m
  induction m with
  | zero => intro j t h1 h2; omega
  | succ m ih =>
    intro j t h1 h2 h3
    rw [exV]
    by_cases e : aV v i j = 0
    · rw [if_pos e]
      have q : ¬ t = j := fun z => h3 (by rw [z]; exact e)
      exact ih (j + 1) t (by omega) (by omega) h3
    · rw [if_neg e]
/-- not more different rows than the repeat is long -/
theorem dfV_le (v : Nat → Int32) (N : Nat) : dfV v N ≤ rpV v N 1 (N - 1) := by
  rcases Nat.eq_zero_or_pos N with e | e
  · subst e; exact Nat.zero_le _
  obtain ⟨h1, h2, h3⟩ := rpV_sp (v := v) (N := N) (N - 1) 1 (by omega)
  generalize rpV v N 1 (N - 1) = p at h1 h2 h3
  have key : ∀ n, n ≤ N → sumN (fun i => if exV v i 0 i = true then 0 else 1) n ≤ p ∧ sumN (fun i => if exV v i 0 i = true then 0 else 1) n ≤ n := by
    intro n
    induction n with
    | zero => intro _; exact ⟨Nat.zero_le _, Nat.le_refl _⟩
    | succ n ih =>
      intro hn
      obtain ⟨i1, i2⟩ := ih (by omega)
      rw [sumN]
      by_cases q : n < p
      · refine ⟨?_, ?_⟩ <;> (split <;> omega)
      · have hx : exV v n 0 n = true := exV_of n 0 (n - p) (Nat.zero_le _) (by omega) (h3 n (by omega) (by omega))
        rw [if_pos hx]
        exact ⟨by omega, by omega⟩
  exact (key N (Nat.le_refl N)).1
end RDS
