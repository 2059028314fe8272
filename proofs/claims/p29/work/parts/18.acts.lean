/-! part 18: ranges, and what single writes do to the relation -/
theorem btw_no {a lo hi : Int32} (h : a < lo ∨ hi < a) (σ : Nat → Nat → Int32) : f_X7_isBetween a lo hi σ = some 0 := by
  unfold f_X7_isBetween
  by_cases h1 : a < lo
  · rw [if_pos h1]
  · rw [if_neg h1]
    rcases h with h | h
    · exact absurd h h1
    · rw [if_pos h]
theorem btw_yes {a lo hi : Int32} (h1 : ¬ a < lo) (h2 : ¬ hi < a) (σ : Nat → Nat → Int32) : f_X7_isBetween a lo hi σ = some 1 := by
  unfold f_X7_isBetween
  rw [if_neg h1, if_neg h2]
theorem rng (a : Int32) (lo hi : Nat) (hlo : lo ≤ hi) (h : hi < 2 ^ 31) : (a < nI lo ∨ nI hi < a) ∨ ∃ x, lo ≤ x ∧ x ≤ hi ∧ a = nI x ∧ ¬ a < nI lo ∧ ¬ nI hi < a := by
  by_cases h1 : a < nI lo
  · exact Or.inl (Or.inl h1)
  by_cases h2 : nI hi < a
  · exact Or.inl (Or.inr h2)
  have h3 : ¬ a < 0 := fun q => h1 (Int32.lt_of_lt_of_le q (nI_pos' (by omega)))
  obtain ⟨x, hx, rfl⟩ := nI_of2 (n := hi) (nI_toInt h) h3 (Int32.not_lt.mp h2)
  refine Or.inr ⟨x, ?_, hx, rfl, h1, h2⟩
  rcases Nat.lt_or_ge x lo with q | q
  · exact absurd (nI_lt q (by omega)) h1
  · exact q
theorem rngN (a : Int32) (N : Nat) (h : N < 2 ^ 31) : (a < 0 ∨ nI N - 1 < a) ∨ ∃ x, x < N ∧ a = nI x ∧ ¬ a < 0 ∧ ¬ nI N - 1 < a := by
  by_cases e : N = 0
  · subst e
    by_cases h1 : a < 0
    · exact Or.inl (Or.inl h1)
    · refine Or.inl (Or.inr ?_)
      have h2 := Int32.not_lt.mp h1
      exact Int32.lt_of_lt_of_le (by decide) h2
  · rw [show nI N - 1 = nI (N - 1) from nI_sub (b := 1) (by omega)]
    rcases rng a 0 (N - 1) (by omega) (by omega) with q | ⟨x, q1, q2, q3, q4, q5⟩
    · exact Or.inl q
    · exact Or.inr ⟨x, by omega, q3, q4, q5⟩
theorem lft : ∀ S, S ≤ 8 → ((1 : Int32) <<< (nI S &&& 31)) - 1 = nI (2 ^ S - 1) := by decide +kernel
theorem rngL (a : Int32) {S : Nat} (h : S ≤ 8) : (a < 0 ∨ ((1 : Int32) <<< (nI S &&& 31)) - 1 < a) ∨ ∃ x, x < 2 ^ S ∧ a = nI x ∧ ¬ a < 0 ∧ ¬ ((1 : Int32) <<< (nI S &&& 31)) - 1 < a := by
  rw [lft S h]
  have h2 : 0 < 2 ^ S := Nat.two_pow_pos S
  have h3 : 2 ^ S ≤ 2 ^ 8 := Nat.pow_le_pow_right (by decide) h
  rcases rng a 0 (2 ^ S - 1) (by omega) (by omega) with q | ⟨x, q1, q2, q3, q4, q5⟩
  · exact Or.inl q
  · exact Or.inr ⟨x, by omega, q3, q4, q5⟩
section WS
variable {σ : Nat → Nat → Int32} {b : Nat} {v : Nat → Int32} {k S W B P N : Nat}
theorem RS_dir {x : Int32} (h : RS σ b v k S W B P N) (hx : x = 0 ∨ x = 1) : RS (wr σ (b + 8) 2 x) b (upd v 4 x) k S W B P N := by
  obtain ⟨d, hv, hc, he, hf, hb, hy, hr⟩ := h
  refine ⟨d, ?_, ?_, fun e h1 => ?_, fun i h1 => ?_, fun i h1 => ?_, fun c h1 => ?_, fun r h1 => ?_⟩
  all_goals (try unfold RR); simp (disch := omega) only [wr_ne, wr_atne, wr_at, upd_ne, upd_eq]
  · exact ⟨hv.1, hv.2.1, hv.2.2.1, hv.2.2.2.1, hv.2.2.2.2.1, hx⟩
  · exact ⟨hc.1, hc.2.1, hc.2.2.1, hc.2.2.2.1, hc.2.2.2.2.1, trivial⟩
  · exact he e h1
  · exact hf i h1
  · exact hb i h1
  · exact hy c h1
  · exact hr r h1
theorem RS_present {x : Nat} (h : RS σ b v k S W B P N) (hx : x < B) : RS (wr σ (b + 8) 1 (nI x)) b (upd v 3 (nI x)) k S W B x N := by
  obtain ⟨d, hv, hc, he, hf, hb, hy, hr⟩ := h
  refine ⟨⟨d.1, d.2.1, d.2.2.1, d.2.2.2.1, d.2.2.2.2.1, Or.inl hx, d.2.2.2.2.2.2⟩, ?_, ?_, fun e h1 => ?_, fun i h1 => ?_, fun i h1 => ?_, fun c h1 => ?_, fun r h1 => ?_⟩
  all_goals (try unfold RR); simp (disch := omega) only [wr_ne, wr_atne, wr_at, upd_ne, upd_eq]
  · exact ⟨hv.1, hv.2.1, hv.2.2.1, trivial, hv.2.2.2.2.1, hv.2.2.2.2.2⟩
  · exact ⟨hc.1, hc.2.1, hc.2.2.1, trivial, hc.2.2.2.2.1, hc.2.2.2.2.2⟩
  · exact he e h1
  · exact hf i h1
  · exact hb i h1
  · exact hy c h1
  · exact hr r h1
theorem RS_cut (h : RS σ b v k S W B P N) : RS (wr σ (b + 15) 0 0) b (upd v 5 0) k S W B P 0 := by
  obtain ⟨d, hv, hc, he, hf, hb, hy, hr⟩ := h
  refine ⟨⟨d.1, d.2.1, d.2.2.1, d.2.2.2.1, d.2.2.2.2.1, d.2.2.2.2.2.1, by omega⟩, ?_, ?_, fun e h1 => ?_, fun i h1 => ?_, fun i h1 => ?_, fun c h1 => ?_, fun r h1 => absurd h1 (by omega)⟩
  all_goals simp (disch := omega) only [wr_ne, wr_atne, wr_at, upd_ne, upd_eq]
  · exact ⟨hv.1, hv.2.1, hv.2.2.1, hv.2.2.2.1, nI_0.symm, hv.2.2.2.2.2⟩
  · exact ⟨hc.1, hc.2.1, hc.2.2.1, hc.2.2.2.1, nI_0.symm, hc.2.2.2.2.2⟩
  · exact he e h1
  · exact hf i h1
  · exact hb i h1
  · exact hy c h1
theorem RS_yarn {c y : Nat} (h : RS σ b v k S W B P N) (hc0 : c < 10) (hy0 : y < 20000 + 5000 * k) : RS (wr σ (b + 14) c (nI y)) b (upd v (126 + c) (nI y)) k S W B P N := by
  obtain ⟨d, hv, hc, he, hf, hb, hy, hr⟩ := h
  have d2 := d.2.2.2.2.2.2
  have d3 := d.2.2.2.1
  have d4 := d.2.1
  have d5 := d.2.2.2.2.1
  refine ⟨d, ?_, ?_, fun e h1 => ?_, fun i h1 => ?_, fun i h1 => ?_, fun j h1 => ?_, fun r h1 => ?_⟩
  all_goals (try unfold RR); (try simp (disch := omega) only [wr_ne, wr_atne, wr_at, upd_ne, upd_eq])
  · exact hv
  · exact hc
  · exact he e h1
  · exact hf i h1
  · exact hb i h1
  · by_cases e : j = c
    · subst e
      rw [wr_at, upd_eq]
      exact ⟨rfl, y, hy0, rfl⟩
    · rw [wr_atne e, upd_ne (by omega)]
      exact hy j h1
  · exact hr r h1
theorem RS_fault {i f : Nat} (h : RS σ b v k S W B P N) (hi0 : i < S) (hf0 : f < 3) : RS (wr σ (b + 7) i (nI f)) b (upd v (70 + i) (nI f)) k S W B P N := by
  obtain ⟨d, hv, hc, he, hf, hb, hy, hr⟩ := h
  have d2 := d.2.2.2.2.2.2
  have d3 := d.2.2.2.1
  have d4 := d.2.1
  have d5 := d.2.2.2.2.1
  refine ⟨d, ?_, ?_, fun e h1 => ?_, fun j h1 => ?_, fun j h1 => ?_, fun j h1 => ?_, fun r h1 => ?_⟩
  all_goals (try unfold RR); (try simp (disch := omega) only [wr_ne, wr_atne, wr_at, upd_ne, upd_eq])
  · exact hv
  · exact hc
  · exact he e h1
  · by_cases e : j = i
    · subst e
      rw [wr_at, upd_eq]
      exact ⟨rfl, f, hf0, rfl⟩
    · rw [wr_atne e, upd_ne (by omega)]
      exact hf j h1
  · exact hb j h1
  · exact hy j h1
  · exact hr r h1
theorem RS_end {e0 s0 c0 : Nat} (h : RS σ b v k S W B P N) (he0 : e0 < W) (hs0 : s0 < S) (hc0 : c0 < 10) : RS (wr (wr σ (b + 3) e0 (nI s0)) (b + 5) e0 (nI c0)) b (upd (upd v (6 + e0) (nI s0)) (38 + e0) (nI c0)) k S W B P N := by
  obtain ⟨d, hv, hc, he, hf, hb, hy, hr⟩ := h
  have d2 := d.2.2.2.2.2.2
  have d3 := d.2.2.2.1
  have d4 := d.2.1
  have d5 := d.2.2.2.2.1
  refine ⟨d, ?_, ?_, fun e h1 => ?_, fun j h1 => ?_, fun j h1 => ?_, fun j h1 => ?_, fun r h1 => ?_⟩
  all_goals (try unfold RR); (try simp (disch := omega) only [wr_ne, wr_atne, wr_at, upd_ne, upd_eq])
  · exact hv
  · exact hc
  · by_cases e2 : e = e0
    · subst e2
      rw [wr_at, wr_at, upd_eq, upd_eq]
      exact ⟨rfl, rfl, ⟨s0, hs0, rfl⟩, c0, hc0, rfl⟩
    · simp (disch := omega) only [wr_ne, wr_atne, upd_ne]
      exact he e h1
  · exact hf j h1
  · exact hb j h1
  · exact hy j h1
  · exact hr r h1
theorem RS_bar {i x c0 : Nat} (h : RS σ b v k S W B P N) (hi0 : i < B) (hx0 : x < 2 ^ S) (hc0 : c0 < 10) : RS (wr (wr σ (b + 10) i (nI x)) (b + 12) i (nI c0)) b (upd (upd v (78 + i) (nI x)) (102 + i) (nI c0)) k S W B P N := by
  obtain ⟨d, hv, hc, he, hf, hb, hy, hr⟩ := h
  have d2 := d.2.2.2.2.2.2
  have d3 := d.2.2.2.1
  have d4 := d.2.1
  have d5 := d.2.2.2.2.1
  refine ⟨d, ?_, ?_, fun e h1 => ?_, fun j h1 => ?_, fun j h1 => ?_, fun j h1 => ?_, fun r h1 => ?_⟩
  all_goals (try unfold RR); (try simp (disch := omega) only [wr_ne, wr_atne, wr_at, upd_ne, upd_eq])
  · exact hv
  · exact hc
  · exact he e h1
  · exact hf j h1
  · by_cases e2 : j = i
    · subst e2
      rw [wr_at, wr_at, upd_eq, upd_eq]
      exact ⟨rfl, rfl, ⟨x, hx0, rfl⟩, c0, hc0, rfl⟩
    · simp (disch := omega) only [wr_ne, wr_atne, upd_ne]
      exact hb j h1
  · exact hy j h1
  · exact hr r h1
/-- a new bar -/
theorem RS_add {x c0 : Nat} (h : RS σ b v k S W B P N) (hB : B < 24) (hx0 : x < 2 ^ S) (hc0 : c0 < 10) : RS (wr (wr (wr σ (b + 10) B (nI x)) (b + 12) B (nI c0)) (b + 8) 0 (nI (B + 1))) b (upd (upd (upd (upd v 3 (nI P)) (78 + B) (nI x)) (102 + B) (nI c0)) 2 (nI (B + 1))) k S W (B + 1) P N := by
  obtain ⟨d, hv, hc, he, hf, hb, hy, hr⟩ := h
  obtain ⟨d1, d4, d6, d3, d5, d7, d2⟩ := d
  refine ⟨⟨d1, d4, d6, d3, by omega, by omega, d2⟩, ?_, ?_, fun e h1 => ?_, fun j h1 => ?_, fun j h1 => ?_, fun j h1 => ?_, fun r h1 => ?_⟩
  all_goals (try unfold RR); (try simp (disch := omega) only [wr_ne, wr_atne, wr_at, upd_ne, upd_eq])
  · exact ⟨hv.1, hv.2.1, trivial, trivial, hv.2.2.2.2.1, hv.2.2.2.2.2⟩
  · exact ⟨hc.1, hc.2.1, trivial, hc.2.2.2.1, hc.2.2.2.2.1, hc.2.2.2.2.2⟩
  · exact he e h1
  · exact hf j h1
  · by_cases e2 : j = B
    · subst e2
      rw [wr_at, wr_at, upd_eq, upd_eq]
      exact ⟨rfl, rfl, ⟨x, hx0, rfl⟩, c0, hc0, rfl⟩
    · simp (disch := omega) only [wr_ne, wr_atne, upd_ne]
      exact hb j (by omega)
  · exact hy j h1
  · exact hr r h1
end WS
