/-! part 28: rows that are alike, repeats, different rows -/
theorem lp_s {α β : Type _} (f : α → Option (α ⊕ β)) (G : Nat) (x : α) : lp f (G + 1) x = bi (f x) (lk (lp f G)) := rfl
theorem lkl {α β : Type _} (g : α → Option β) (x : α) : bi (some (Sum.inl x : α ⊕ β)) (lk g) = g x := rfl
theorem lkr {α β : Type _} (g : α → Option β) (y : β) : bi (some (Sum.inr y : α ⊕ β)) (lk g) = some y := rfl
def aV (v : Nat → Int32) (r q : Nat) : Int32 := if v (136 + 5 * r) = v (136 + 5 * q) then (if v (138 + 5 * r) = v (138 + 5 * q) then (if v (139 + 5 * r) = v (139 + 5 * q) then 1 else 0) else 0) else 0
section AL
variable {σ τ : Nat → Nat → Int32} {v : Nat → Int32} {k S W B P N : Nat}
theorem like8 {r q : Nat} (ht : τ 184 = v) (hr : r < 64) (hq : q < 64) : f_X8_areLike (nI r) (nI q) τ = some (aV v r q) := by
  have o0 : ∀ r, r < 64 → f_X8_of (nI r) 0 τ = some (v (136 + 5 * r)) := fun r hr => of8 0 (136 + 5 * r) ht hr (by omega) (by omega)
  have o2 : ∀ r, r < 64 → f_X8_of (nI r) 2 τ = some (v (138 + 5 * r)) := fun r hr => of8 2 (138 + 5 * r) ht hr (by omega) (by omega)
  have o3 : ∀ r, r < 64 → f_X8_of (nI r) 3 τ = some (v (139 + 5 * r)) := fun r hr => of8 3 (139 + 5 * r) ht hr (by omega) (by omega)
  rw [f_X8_areLike, o0 r hr, o0 q hq, o2 r hr, o2 q hq, o3 r hr, o3 q hq, bi_some, bi_some, bi_some, bi_some, bi_some, bi_some]
  unfold aV
  split
  · split
    · split <;> rfl
    · rfl
  · rfl
theorem miss_inj {x y a : Int32} (hx : sbs x a) (hy : sbs y a) : a &&& (x ^^^ (-1)) = a &&& (y ^^^ (-1)) ↔ x = y := by
  constructor
  · intro h
    apply b_ext
    intro i hi
    have g := congrArg (fun x => bt x i) h
    simp only [b_and, b_not _ hi] at g
    have g1 := hx i hi
    have g2 := hy i hi
    cases p : bt x i <;> cases q : bt y i
    · rfl
    · rw [p, q, g2 q] at g; exact absurd g (by decide)
    · rw [p, q, g1 p] at g; exact absurd g (by decide)
    · rfl
  · intro h; rw [h]
theorem like7 {r q : Nat} (hR : RS σ 1 v k S W B P N) (hr : r < N) (hq : q < N) : f_X2_areAlike 16 (nI r) (nI q) σ = some (aV v r q) := by
  have hN := hR.1.2.2.2.2.2.2
  obtain ⟨r1, -, r3, r4, -, -, -, -, r7, -⟩ := hR.2.2.2.2.2.2.2 r hr
  obtain ⟨s1, -, s3, s4, -, -, -, -, s7, -⟩ := hR.2.2.2.2.2.2.2 q hq
  rw [f_X2_areAlike, num_at (by omega) (by decide), num_at (by omega) (by decide), num_at (by omega) (by decide), num_at (by omega) (by decide), num_at (by omega) (by decide), num_at (by omega) (by decide), bi_some, bi_some, bi_some, bi_some, bi_some, bi_some, show σ (16 + 1 + 1) r = _ from r1, show σ (16 + 1 + 1) q = _ from s1, show σ (16 + 7 + 1) r = _ from r3, show σ (16 + 7 + 1) q = _ from s3, show σ (16 + 9 + 1) r = _ from r4, show σ (16 + 9 + 1) q = _ from s4]
  have hm := miss_inj r7 s7
  unfold aV
  by_cases e1 : v (136 + 5 * r) = v (136 + 5 * q)
  · rw [if_pos e1, if_pos e1]
    by_cases e2 : v (138 + 5 * r) = v (138 + 5 * q)
    · rw [if_pos e2, if_pos e2]
      by_cases e3 : v (139 + 5 * r) = v (139 + 5 * q)
      · rw [if_pos (hm.mpr e3), if_pos e3]
      · rw [if_neg (fun z => e3 (hm.mp z)), if_neg e3]
    · rw [if_neg e2, if_neg e2]
  · rw [if_neg e1, if_neg e1]
theorem rep_in (hR : RS σ 1 v k S W B P N) (ht : τ 184 = v) {p : Nat} (hp : 1 ≤ p) : ∀ m j, j + m = N → p ≤ j → ∀ F, m < F → ∃ r, (r = .inl 0 ∨ r = .inr ()) ∧ (m = 0 → r = .inr ()) ∧ lp (b_X2_repeatsAfter_2 16 (nI p) σ) F (nI j) = some r ∧ lp (b_X8_repeats_2 (nI p) τ) F (nI j) = some r := by
  have hN := hR.1.2.2.2.2.2.2
  have c1 : σ 16 0 = nI N := hR.2.2.1.2.2.2.2.1
  have c2 : τ 184 5 = nI N := by rw [ht]; exact hR.2.1.2.2.2.2.1
  intro m
  induction m with
  | zero =>
    intro j hj hpj F hF
    obtain ⟨G, rfl⟩ : ∃ G, F = G + 1 := ⟨F - 1, by omega⟩
    have : j = N := by omega
    subst this
    refine ⟨.inr (), Or.inr rfl, fun _ => rfl, ?_, ?_⟩
    · rw [lp_s, b_X2_repeatsAfter_2, c1, if_pos (nI_le (Nat.le_refl _) (by omega)), lkr]
    · rw [lp_s, b_X8_repeats_2, c2, if_pos (nI_le (Nat.le_refl _) (by omega)), lkr]
  | succ m ih =>
    intro j hj hpj F hF
    obtain ⟨G, rfl⟩ : ∃ G, F = G + 1 := ⟨F - 1, by omega⟩
    obtain ⟨r, h1, h2, h3, h4⟩ := ih (j + 1) (by omega) (by omega) G (by omega)
    rw [lp_s, lp_s, b_X2_repeatsAfter_2, b_X8_repeats_2, c1, c2, if_neg (nI_ge (by omega) (by omega)), if_neg (nI_ge (by omega) (by omega)), nI_sub hpj, like7 hR (by omega) (by omega), like8 ht (by omega) (by omega), bi_some, vl_eq, nI_1]
    by_cases e : aV v j (j - p) = 0
    · rw [if_pos e, lkr, lkr]
      exact ⟨_, Or.inl rfl, fun q => absurd q (Nat.succ_ne_zero m), rfl, rfl⟩
    · rw [if_neg e, lkl, lkl]
      exact ⟨r, h1, fun q => absurd q (Nat.succ_ne_zero m), h3, h4⟩
theorem rep_sp (hR : RS σ 1 v k S W B P N) (ht : τ 184 = v) {p : Nat} (hp : 1 ≤ p) (hpN : p ≤ N) : ∃ y : Int32, (p = N → y = 1) ∧ f_X2_repeatsAfter 16 (nI p) σ = some y ∧ f_X8_repeats (nI p) τ = some y := by
  have hN := hR.1.2.2.2.2.2.2
  obtain ⟨r, h1, h2, h3, h4⟩ := rep_in hR ht hp (N - p) p (by omega) (Nat.le_refl p) FU (Nat.lt_of_le_of_lt (show N - p ≤ 64 by omega) (by decide))
  rw [f_X2_repeatsAfter, f_X8_repeats, h3, h4, bi_some]
  rcases h1 with h1 | h1
  · subst h1
    exact ⟨0, fun q => (by have := h2 (by omega); cases this), rfl, rfl⟩
  · subst h1
    exact ⟨1, fun _ => rfl, rfl, rfl⟩
theorem rep_out (hR : RS σ 1 v k S W B P N) (ht : τ 184 = v) : ∀ m p, p + m = N → 1 ≤ p → ∀ F, m < F → ∃ (z : Int32 ⊕ Unit) (y : Int32), lp (b_X7_repeat_20 σ (nI N)) F (nI p) = some z ∧ lp (b_X8_repeat_19 τ) F (nI p) = some y ∧ (z = .inl y ∨ (z = .inr () ∧ y = nI N)) := by
  have hN := hR.1.2.2.2.2.2.2
  intro m
  induction m with
  | zero =>
    intro p hp h1 F hF
    obtain ⟨G, rfl⟩ : ∃ G, F = G + 1 := ⟨F - 1, by omega⟩
    have : p = N := by omega
    subst this
    obtain ⟨y, e1, e2, e3⟩ := rep_sp hR ht h1 (Nat.le_refl _)
    have e1 := e1 rfl
    subst e1
    refine ⟨.inr (), nI p, ?_, ?_, Or.inr ⟨rfl, rfl⟩⟩
    · rw [lp_s, b_X7_repeat_20, if_pos (nI_le (Nat.le_refl _) (by omega)), lkr]
    · rw [lp_s, b_X8_repeat_19, e3, bi_some, if_neg n10, lkr]
  | succ m ih =>
    intro p hp h1 F hF
    obtain ⟨G, rfl⟩ : ∃ G, F = G + 1 := ⟨F - 1, by omega⟩
    obtain ⟨z, y, e4, e5, e6⟩ := ih (p + 1) (by omega) (by omega) G (by omega)
    obtain ⟨a, -, e2, e3⟩ := rep_sp hR ht h1 (show p ≤ N by omega)
    rw [lp_s, lp_s, b_X7_repeat_20, b_X8_repeat_19, if_neg (nI_ge (by omega) (by omega)), e2, e3, bi_some, bi_some, vl_eq, nI_1]
    by_cases e : a = 0
    · rw [if_pos e, if_pos e, lkl, vl_eq, lkl]
      exact ⟨z, y, e4, e5, e6⟩
    · rw [if_neg e, if_neg e, lkr, lkr]
      exact ⟨_, _, rfl, rfl, Or.inl rfl⟩
/-- is there one alike among m rows from j on -/
def exV (v : Nat → Int32) (i : Nat) : Nat → Nat → Bool
  | _, 0 => false
  | j, m + 1 => if aV v i j = 0 then exV v i (j + 1) m else true
theorem has7 (hR : RS σ 1 v k S W B P N) {i : Nat} (hi : i < N) : ∀ m j, j + m = i → ∀ F, m < F → lp (b_X2_hasAlikeBefore_2 16 (nI i) σ) F (nI j) = some (if exV v i j m = true then .inl 1 else .inr ()) := by
  have hN := hR.1.2.2.2.2.2.2
  intro m
  induction m with
  | zero =>
    intro j hj F hF
    obtain ⟨G, rfl⟩ : ∃ G, F = G + 1 := ⟨F - 1, by omega⟩
    have : j = i := by omega
    subst this
    rw [lp_s, b_X2_hasAlikeBefore_2, if_pos (nI_le (Nat.le_refl _) (by omega)), lkr]
    rfl
  | succ m ih =>
    intro j hj F hF
    obtain ⟨G, rfl⟩ : ∃ G, F = G + 1 := ⟨F - 1, by omega⟩
    have e := ih (j + 1) (by omega) G (by omega)
    rw [lp_s, b_X2_hasAlikeBefore_2, if_neg (nI_ge (by omega) (by omega)), like7 hR hi (by omega), bi_some, exV]
    by_cases q : aV v i j = 0
    · rw [if_pos q, if_pos q, vl_eq, nI_1, lkl, e]
    · rw [if_neg q, if_neg q, lkr]
      rfl
theorem has8 (ht : τ 184 = v) {i : Nat} (hi : i < 64) : ∀ m j, j + m = i → ∀ F, m < F → (lp (b_X8_differentRows_24 τ (nI i)) F (0, nI j) = some 0 ∧ lp (b_X8_differentRows_24 τ (nI i)) F (1, nI j) = some (if exV v i j m = true then 0 else 1)) := by
  intro m
  induction m with
  | zero =>
    intro j hj F hF
    obtain ⟨G, rfl⟩ : ∃ G, F = G + 1 := ⟨F - 1, by omega⟩
    have : j = i := by omega
    subst this
    rw [lp_s, lp_s, b_X8_differentRows_24, b_X8_differentRows_24, if_pos (nI_le (Nat.le_refl _) (by omega)), if_pos (nI_le (Nat.le_refl _) (by omega)), lkr, lkr]
    exact ⟨rfl, rfl⟩
  | succ m ih =>
    intro j hj F hF
    obtain ⟨G, rfl⟩ : ∃ G, F = G + 1 := ⟨F - 1, by omega⟩
    obtain ⟨e1, e2⟩ := ih (j + 1) (by omega) G (by omega)
    constructor
    · rw [lp_s, b_X8_differentRows_24, if_neg (nI_ge (by omega) (by omega)), jn_eq, if_pos rfl, vl_eq, nI_1, lkl, e1]
    · rw [lp_s, b_X8_differentRows_24, if_neg (nI_ge (by omega) (by omega)), jn_eq, if_neg n10, like8 ht hi (by omega), bi_some, exV]
      by_cases q : aV v i j = 0
      · rw [if_pos q, if_pos q, vl_eq, nI_1, lkl, e2]
      · rw [if_neg q, if_neg q, vl_eq, nI_1, lkl, e1]
        rfl
end AL
theorem op_22 (k : Nat) (σ : Nat → Nat → Int32) (h : Rel k σ) (hk : k < 512) : ∃ r σ2, f_X7_repeat  σ = some r ∧ f_X8_repeat  σ = some (r, σ2) ∧ Rel (k + 1) σ2 := by
  obtain ⟨⟨S, W, B, P, N, hR⟩, -, -⟩ := id h
  have hN := hR.1.2.2.2.2.2.2
  have ht : wr σ 183 0 0 184 = σ 184 := wr_ne (by decide)
  have c1 : σ 16 0 = nI N := hR.2.2.1.2.2.2.2.1
  have c2 : σ 184 5 = nI N := hR.2.1.2.2.2.2.1
  rw [f_X7_repeat, f_X8_repeat]
  simp only [vl_eq]
  rw [ht, c1, c2]
  by_cases e : nI N = 0
  · rw [if_pos e, if_pos e]
    exact ⟨_, _, rfl, rfl, rel_thr h⟩
  · have hp : 1 ≤ N := Nat.one_le_iff_ne_zero.mpr (fun q => e (by rw [q]; rfl))
    obtain ⟨z, y, e4, e5, e6⟩ := rep_out hR ht (N - 1) 1 (by omega) (Nat.le_refl 1) FU (Nat.lt_of_le_of_lt (show N - 1 ≤ 64 by omega) (by decide))
    rw [if_neg e, if_neg e, show lp (b_X7_repeat_20 σ (nI N)) FU 1 = _ from e4, show lp (b_X8_repeat_19 (wr σ 183 0 0)) FU 1 = _ from e5, bi_some, bi_some]
    rcases e6 with q | ⟨q1, q2⟩
    · subst q
      exact ⟨_, _, rfl, rfl, rel_thr h⟩
    · subst q1; subst q2
      exact ⟨_, _, rfl, rfl, rel_thr h⟩
theorem op_23 (k : Nat) (σ : Nat → Nat → Int32) (h : Rel k σ) (hk : k < 512) : ∃ r σ2, f_X7_differentRows  σ = some r ∧ f_X8_differentRows  σ = some (r, σ2) ∧ Rel (k + 1) σ2 := by
  obtain ⟨⟨S, W, B, P, N, hR⟩, -, -⟩ := id h
  have hN := hR.1.2.2.2.2.2.2
  have ht : wr σ 183 0 0 184 = σ 184 := wr_ne (by decide)
  have c1 : σ 16 0 = nI N := hR.2.2.1.2.2.2.2.1
  have c2 : σ 184 5 = nI N := hR.2.1.2.2.2.2.1
  have h7 : lp (b_X7_differentRows_4 σ) FU (0, 0) = some (nI (sumN (fun i => if exV (σ 184) i 0 i = true then 0 else 1) N)) := by
    refine lp_run (fun i => (nI (sumN (fun i => if exV (σ 184) i 0 i = true then 0 else 1) i), nI i)) N (by omega) (fun i hi => ?_) ?_ rfl
    · show b_X7_differentRows_4 σ (_, nI i) = _
      have e := has7 hR hi i 0 (by omega) FU (Nat.lt_of_le_of_lt (show i ≤ 64 by omega) (by decide))
      rw [b_X7_differentRows_4, c1, if_neg (nI_ge hi (by omega)), f_X2_hasAlikeBefore, show lp (b_X2_hasAlikeBefore_2 16 (nI i) σ) FU 0 = _ from e, bi_some, sumN]
      cases exV (σ 184) i 0 i
      · rw [if_neg (by decide), if_neg (by decide), sm_inr, bi_some, if_pos rfl, vl_eq, vl_eq, nI_1, nI_1]
      · rw [if_pos rfl, if_pos rfl, sm_inl, bi_some, if_neg n10, vl_eq, nI_1]; rfl
    · show b_X7_differentRows_4 σ (_, nI N) = _
      rw [b_X7_differentRows_4, c1, if_pos (nI_le (Nat.le_refl N) (by omega))]
  have h8 : lp (b_X8_differentRows_9 (wr σ 183 0 0)) FU (0, 0) = some (nI (sumN (fun i => if exV (σ 184) i 0 i = true then 0 else 1) N)) := by
    refine lp_run (fun i => (nI (sumN (fun i => if exV (σ 184) i 0 i = true then 0 else 1) i), nI i)) N (by omega) (fun i hi => ?_) ?_ rfl
    · show b_X8_differentRows_9 (wr σ 183 0 0) (_, nI i) = _
      have e := (has8 (v := σ 184) ht (i := i) (by omega) i 0 (by omega) FU (Nat.lt_of_le_of_lt (show i ≤ 64 by omega) (by decide))).2
      rw [b_X8_differentRows_9, ht, c2, if_neg (nI_ge hi (by omega)), show lp (b_X8_differentRows_24 (wr σ 183 0 0) (nI i)) FU (1, 0) = _ from e, bi_some, sumN]
      cases exV (σ 184) i 0 i
      · rw [if_neg (by decide), if_neg (by decide), vl_eq, vl_eq, vl_eq, nI_1, nI_1]
      · rw [if_pos rfl, if_pos rfl, vl_eq, vl_eq, vl_eq, if_pos rfl, nI_1, show (0 : Int32) = nI 0 from rfl, nI_add]
    · show b_X8_differentRows_9 (wr σ 183 0 0) (_, nI N) = _
      rw [b_X8_differentRows_9, ht, c2, if_pos (nI_le (Nat.le_refl N) (by omega))]
  refine ⟨nI (sumN (fun i => if exV (σ 184) i 0 i = true then 0 else 1) N), wr σ 183 0 0, ?_, ?_, rel_thr h⟩
  · rw [f_X7_differentRows, h7, bi_some]
  · rw [f_X8_differentRows, vl_eq, h8, bi_some]
