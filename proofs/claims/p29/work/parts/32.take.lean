/-! part 32: rows taken out, the weft laid -/
theorem usV_le (ab wf : Int32) (W r : Nat) : ∀ n, usV ab wf W r n ≤ 2 * n
  | 0 => Nat.le_refl _
  | n + 1 => by
    have h := usV_le ab wf W r n
    have h2 : ndV ab W r n ≤ 2 := by
      unfold ndV
      split
      · omega
      · split <;> omega
    rw [usV]
    split <;> omega
section WT
variable {σ : Nat → Nat → Int32} {b : Nat} {v : Nat → Int32} {k S W B P N : Nat}
theorem RS_take {c y n P' : Nat} (h : RS σ b v k S W B P N) (hc0 : c < 10) (hy0 : y < 20000 + 5000 * k) (hn : n ≤ N) (hP : P' < B) : RS (wr (wr (wr σ (b + 14) c (nI y)) (b + 15) 0 (nI n)) (b + 8) 1 (nI P')) b (upd (upd (upd v (126 + c) (nI y)) 5 (nI n)) 3 (nI P')) k S W B P' n := by
  obtain ⟨d, hv, hc, he, hf, hb, hy, hr⟩ := h
  obtain ⟨d1, d4, d6, d3, d5, d7, d2⟩ := d
  refine ⟨⟨d1, d4, d6, d3, d5, Or.inl hP, by omega⟩, ?_, ?_, fun e h1 => ?_, fun i h1 => ?_, fun i h1 => ?_, fun j h1 => ?_, fun r h1 => ?_⟩
  all_goals (try unfold RR); (try simp (disch := omega) only [wr_ne, wr_atne, wr_at, upd_ne, upd_eq])
  · exact ⟨hv.1, hv.2.1, hv.2.2.1, trivial, trivial, hv.2.2.2.2.2⟩
  · exact ⟨hc.1, hc.2.1, hc.2.2.1, trivial, trivial, hc.2.2.2.2.2⟩
  · exact he e h1
  · exact hf i h1
  · exact hb i h1
  · by_cases e : j = c
    · subst e
      rw [wr_at, upd_eq]
      exact ⟨rfl, y, hy0, rfl⟩
    · rw [wr_atne e, upd_ne (by omega)]
      exact hy j h1
  · exact hr r (by omega)
theorem take7 {c y : Nat} (h : RS σ 1 v k S W B P (N + 1)) (hPB : P < B) (hc : c < 10) (hcv : v (136 + 5 * N) = nI c) (hy : v (126 + c) = nI y) : f_X5_takeOutLastRow 1 σ = some (wr (wr (wr σ (1 + 14) c (nI (y + usV (v (138 + 5 * N)) (v (139 + 5 * N)) W N W))) (1 + 15) 0 (nI N)) (1 + 8) 1 (nI (pbV v B P))) := by
  have hN := h.1.2.2.2.2.2.2
  have hr := h.2.2.2.2.2.2.2 N (Nat.lt_succ_self N)
  rw [f_X5_takeOutLastRow, show σ (1 + 15) 0 = nI (N + 1) from h.2.2.1.2.2.2.2.1, show nI (N + 1) - 1 = nI N from nI_sub (b := 1) (by omega), vl_eq, num_at (by omega) (by decide), bi_some, show σ (1 + 16 + 1) N = _ from hr.1, hcv, num_at hc (by decide), bi_some, show σ (1 + 13 + 1) c = _ from (h.2.2.2.2.2.2.1 c hc).1, hy, num_at (by omega) (by decide), bi_some, show σ (1 + 20 + 1) N = _ from hr.2.2.2.2.2.1, num_put hc (by decide), bi_some, vl_eq, nI_add, wr_ne (by decide), wr_ne (by decide), show σ (1 + 8) 1 = nI P from h.2.2.1.2.2.2.1, before7 (v := v) (B := B) (by rw [wr_ne (by decide), wr_ne (by decide)]; exact h.2.2.1.2.2.1) (by rw [wr_ne (by decide), wr_ne (by decide)]; exact h.2.2.1.2.2.2.2.2) h.2.1.2.2.2.2.2 hPB h.1.2.2.2.2.1, bi_some, vl_eq]
end WT
