/-! part 44: an action's keeping, with more changed between -/
theorem push2 {k : Nat} {σ : Nat → Nat → Int32} (h : Rel k σ) : ∃ σ1, f_X3_keep σ = some σ1 ∧ (∀ a, a < 29 → σ1 a = σ a) ∧ (∀ a, 171 ≤ a → σ1 a = σ a) ∧ ∀ τ1 : Nat → Nat → Int32, (∀ a, 29 ≤ a → a < 171 → τ1 a = σ1 a) → τ1 183 4 = σ 183 4 → τ1 184 = σ 184 → τ1 186 = σ 186 → ∃ σ2, f_X8_act τ1 = some σ2 ∧ (∀ a, a ≠ 183 → a ≠ 186 → σ2 a = τ1 a) ∧ (∀ i, i ≠ 4 → σ2 183 i = τ1 183 i) ∧ ∀ τ2 : Nat → Nat → Int32, (∀ a, 29 ≤ a → a < 171 → τ2 a = σ2 a) → τ2 183 4 = σ2 183 4 → τ2 186 = σ2 186 → HR (k + 1) τ2 := by
  obtain ⟨⟨S0, W0, B0, P0, N0, hR⟩, ⟨nx, kp, hn, hk, h1, h2, h3, h4⟩, hT⟩ := h
  obtain ⟨σ1, e1, e2, e3, e4, e5⟩ := keep_spec hn hk h1 h2
  obtain ⟨nx', hx1, hx2⟩ : ∃ y, y = (if nx = 4 then 0 else nx + 1) ∧ ((nx = 4 ∧ y = 0) ∨ (nx < 4 ∧ y = nx + 1)) := ⟨_, rfl, by split <;> omega⟩
  obtain ⟨kp', hy1, hy2⟩ : ∃ y, y = (if kp = 5 then 5 else kp + 1) ∧ ((kp = 5 ∧ y = 5) ∨ (kp < 5 ∧ y = kp + 1)) := ⟨_, rfl, by split <;> omega⟩
  rw [← hx1] at e4
  rw [← hy1] at e5
  refine ⟨σ1, e1, fun a ha => e2 a (by omega) (by omega), fun a ha => e2 a (by omega) (by omega), fun τ1 ht t4 t184 t186 => ?_⟩
  obtain ⟨σ2, f1, f2, f3, f4, f5⟩ := act_spec (σ := τ1) hk (by rw [t4]; exact h3)
  rw [← hy1] at f4
  refine ⟨σ2, f1, f2, f3, fun τ2 hu v4 v1 => ⟨nx', kp', by omega, by omega, by rw [hu 29 (by omega) (by omega), f2 29 (by omega) (by omega), ht 29 (by omega) (by omega)]; exact e4, by rw [hu 29 (by omega) (by omega), f2 29 (by omega) (by omega), ht 29 (by omega) (by omega)]; exact e5, by rw [v4]; exact f4, fun i hi => ?_⟩⟩
  have u1 : ∀ a, 29 ≤ a → a < 171 → τ2 a = σ1 a := fun a q1 q2 => by rw [hu a q1 q2, f2 a (by omega) (by omega), ht a q1 q2]
  have hnew : ∀ j i, lvp j i → τ2 (31 + 28 * nx + j) i = σ (1 + j) i := fun j i hj => by rw [u1 _ (by omega) (by unfold lvp at hj; omega)]; exact e3 j i hj
  have hold : ∀ y, y < 5 → y ≠ nx → ∀ j i, lvp j i → τ2 (31 + 28 * y + j) i = σ (31 + 28 * y + j) i := fun y q1 q2 j i hj => by
    unfold lvp at hj
    rw [u1 _ (by omega) (by omega), e2 _ (by omega) (by omega)]
  rcases f5 with ⟨k5, q1, q2⟩ | ⟨k5, q1, q2⟩
  · by_cases e : i = kp
    · subst e
      have ea : (nx' + 5 - kp' + i) % 5 = nx := by omega
      rw [ea]
      exact ⟨S0, W0, B0, P0, N0, RS_cong hnew (fun q hq => by rw [v1, q1 q hq, t184]) (by omega) hR⟩
    · obtain ⟨S, W, B, P, N, h7⟩ := h4 i (by omega)
      have ea : (nx' + 5 - kp' + i) % 5 = (nx + 5 - kp + i) % 5 := by omega
      rw [ea]
      refine ⟨S, W, B, P, N, RS_cong (hold _ (by omega) (by omega)) (fun q hq => by show τ2 186 (456 * i + q) = σ 186 (456 * i + q); rw [v1, q2 _ (by omega), t186]) (by omega) h7⟩
  · subst k5
    by_cases e : i = 4
    · subst e
      have ea : (nx' + 5 - kp' + 4) % 5 = nx := by omega
      rw [ea]
      exact ⟨S0, W0, B0, P0, N0, RS_cong hnew (fun q hq => by rw [v1, q1 q hq, t184]) (by omega) hR⟩
    · obtain ⟨S, W, B, P, N, h7⟩ := h4 (i + 1) (by omega)
      have ea : (nx' + 5 - kp' + i) % 5 = (nx + 5 - 5 + (i + 1)) % 5 := by omega
      rw [ea]
      refine ⟨S, W, B, P, N, RS_cong (hold _ (by omega) (by omega)) (fun q hq => by show τ2 186 (456 * i + q) = σ 186 (456 * (i + 1) + q); rw [v1, q2 _ (by omega), t186]; congr 1; omega) (by omega) h7⟩
theorem rel_same {k : Nat} {σ σ' : Nat → Nat → Int32} (h : Rel k σ) (e1 : ∀ a, a < 171 → σ' a = σ a) (e2 : σ' 171 2 = σ 171 2) (e3 : σ' 173 = σ 173) (e4 : σ' 183 4 = σ 183 4) (e5 : σ' 183 6 = σ 183 6) (e6 : σ' 184 = σ 184) (e7 : σ' 186 = σ 186) (e8 : σ' 187 = σ 187) : Rel k σ' := by
  obtain ⟨⟨S, W, B, P, N, h1⟩, h2, h3⟩ := h
  exact ⟨⟨S, W, B, P, N, by rw [e6]; exact RS_frame (Nat.le_refl k) (fun a _ h => e1 a (by omega)) h1⟩, HR_cong (Nat.le_refl k) (fun a _ h => e1 a h) e4 e7 h2, TX_cong e2 e5 e3 e8 h3⟩
/-- bars taken over -/
theorem RS_load {σ σ' : Nat → Nat → Int32} {b : Nat} {v v' : Nat → Int32} {k S W B P N n : Nat} {L Y : Nat → Int32} (h : RS σ b v k S W B P N) (hn0 : 0 < n) (hn : n ≤ 24) (hi : inv S n L Y) (g1 : ∀ a, b ≤ a → a < b + 28 → a ≠ b + 8 → a ≠ b + 10 → a ≠ b + 12 → σ' a = σ a) (g2 : σ' (b + 8) 0 = nI n ∧ σ' (b + 8) 1 = 0 ∧ σ' (b + 8) 2 = σ (b + 8) 2) (g3 : ∀ i, i < n → σ' (b + 10) i = L i ∧ σ' (b + 12) i = Y i) (w1 : ∀ q, q ≠ 2 → q ≠ 3 → (q < 78 ∨ 126 ≤ q) → v' q = v q) (w2 : v' 2 = nI n ∧ v' 3 = 0) (w3 : ∀ i, i < n → v' (78 + i) = L i ∧ v' (102 + i) = Y i) : RS σ' b v' k S W n 0 N := by
  obtain ⟨d, hv, hc, he, hf, hb, hy, hr⟩ := h
  obtain ⟨d1, d4, d6, d3, d5, d7, d2⟩ := d
  refine ⟨⟨d1, d4, d6, d3, hn, Or.inl hn0, d2⟩, ?_, ?_, fun e h1 => ?_, fun i h1 => ?_, fun i h1 => ?_, fun c h1 => ?_, fun r h1 => ?_⟩
  · rw [w1 0 (by omega) (by omega) (by omega), w1 1 (by omega) (by omega) (by omega), w1 5 (by omega) (by omega) (by omega), w1 4 (by omega) (by omega) (by omega)]
    exact ⟨hv.1, hv.2.1, w2.1, w2.2, hv.2.2.2.2.1, hv.2.2.2.2.2⟩
  · rw [g1 (b + 1) (by omega) (by omega) (by omega) (by omega) (by omega), g1 (b + 15) (by omega) (by omega) (by omega) (by omega) (by omega), g2.2.2, w1 4 (by omega) (by omega) (by omega)]
    exact ⟨hc.1, hc.2.1, g2.1, g2.2.1, hc.2.2.2.2.1, hc.2.2.2.2.2⟩
  · rw [g1 (b + 3) (by omega) (by omega) (by omega) (by omega) (by omega), g1 (b + 5) (by omega) (by omega) (by omega) (by omega) (by omega), w1 (6 + e) (by omega) (by omega) (by omega), w1 (38 + e) (by omega) (by omega) (by omega)]
    exact he e h1
  · rw [g1 (b + 7) (by omega) (by omega) (by omega) (by omega) (by omega), w1 (70 + i) (by omega) (by omega) (by omega)]
    exact hf i h1
  · rw [(g3 i h1).1, (g3 i h1).2, (w3 i h1).1, (w3 i h1).2]
    exact ⟨rfl, rfl, (hi i h1).1, (hi i h1).2⟩
  · rw [g1 (b + 14) (by omega) (by omega) (by omega) (by omega) (by omega), w1 (126 + c) (by omega) (by omega) (by omega)]
    exact hy c h1
  · have hr1 := hr r h1
    unfold RR at hr1 ⊢
    rw [g1 (b + 17) (by omega) (by omega) (by omega) (by omega) (by omega), g1 (b + 19) (by omega) (by omega) (by omega) (by omega) (by omega), g1 (b + 21) (by omega) (by omega) (by omega) (by omega) (by omega), g1 (b + 23) (by omega) (by omega) (by omega) (by omega) (by omega), g1 (b + 25) (by omega) (by omega) (by omega) (by omega) (by omega), g1 (b + 27) (by omega) (by omega) (by omega) (by omega) (by omega), w1 (136 + 5 * r) (by omega) (by omega) (by omega), w1 (137 + 5 * r) (by omega) (by omega) (by omega), w1 (138 + 5 * r) (by omega) (by omega) (by omega), w1 (139 + 5 * r) (by omega) (by omega) (by omega), w1 (140 + 5 * r) (by omega) (by omega) (by omega)]
    exact hr1
