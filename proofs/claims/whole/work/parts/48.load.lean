/-! part 48: load, where it succeeds; load -/
theorem load_ok {σ X : Nat → Nat → Int32} {k S W B P N l p1 a n1 : Nat} {L1 Y1 L Y : Nat → Int32} {T : Nat → Nat} {z : (Int32 × (Nat → Nat → Int32)) ⊕ (Nat → Nat → Int32)} {C : Option ((Int32 × (Nat → Nat → Int32)) ⊕ (Nat → Nat → Int32))} (h : Rel k σ) (hR : RS σ 1 (σ 184) k S W B P N) (h7 : isT σ T l) (h8 : ∀ τ : Nat → Nat → Int32, τ 183 6 = σ 183 6 → τ 187 = σ 187 → isM τ T l) (hX : X = cM σ S p1 0 a n1 L1 Y1) (hn : 0 < n1) (hn24 : n1 ≤ 24) (hC : C = some z) (hz : finC z = some (1, X)) (hO : ∀ τ : Nat → Nat → Int32, isM τ T l → τ 184 0 = nI S → outO σ τ T l S FU C (outM FU (mM τ 0 0 L Y))) : ∃ σ1 σ2, (bi (f_X3_keep X) fun σ_4 => bi (f_X0_takeBarsOf 9 174 σ_4) fun σ_6 => vl (wr σ_6 171 2 0) fun σ_7 => some (σ_7 9 0, σ_7)) = some (nI n1, σ1) ∧ f_X8_load σ1 = some (nI n1, σ2) ∧ Rel (k + 1) σ2 := by
  have xn : ∀ a, a ≠ 171 → a ≠ 174 → a ≠ 176 → a ≠ 178 → X a = σ a := fun a q1 q2 q3 q4 => by rw [hX, cM_ne q1 q2 q3 q4]
  have x171 : X 171 2 = σ 171 2 := by rw [hX]; rfl
  have x174 : X 174 0 = nI n1 := by rw [hX]; rfl
  have hXr : Rel k X := rel_same h (fun a ha => xn a (by omega) (by omega) (by omega) (by omega)) x171 (xn 173 (by decide) (by decide) (by decide) (by decide)) (by rw [xn 183 (by decide) (by decide) (by decide) (by decide)]) (by rw [xn 183 (by decide) (by decide) (by decide) (by decide)]) (xn 184 (by decide) (by decide) (by decide) (by decide)) (xn 186 (by decide) (by decide) (by decide) (by decide)) (xn 187 (by decide) (by decide) (by decide) (by decide))
  obtain ⟨s1, e1, e2, e3, e4⟩ := push2 hXr
  obtain ⟨M7, hM7⟩ : ∃ M7, M7 = wr (wc (wc (wr (wr s1 9 0 (nI n1)) 9 1 0) 11 176 24) 13 178 24) 171 2 0 := ⟨_, rfl⟩
  have m1 : ∀ a, a ≠ 9 → a ≠ 11 → a ≠ 13 → a ≠ 171 → M7 a = s1 a := fun a q1 q2 q3 q4 => by rw [hM7, wr_ne q4, wc_ne q3, wc_ne q2, wr_ne q1, wr_ne q1]
  have mS : ∀ a, 171 < a → a ≠ 174 → a ≠ 176 → a ≠ 178 → M7 a = σ a := fun a q0 q1 q2 q3 => by rw [m1 a (by omega) (by omega) (by omega) (by omega), e3 a (by omega), xn a (by omega) q1 q2 q3]
  have hc7 : (bi (f_X3_keep X) fun σ_4 => bi (f_X0_takeBarsOf 9 174 σ_4) fun σ_6 => vl (wr σ_6 171 2 0) fun σ_7 => some (σ_7 9 0, σ_7)) = some (nI n1, M7) := by
    rw [e1, bi_some, f_X0_takeBarsOf, e3 174 (by decide), x174, vl_eq, vl_eq, num_copy (by decide), bi_some, num_copy (by decide), bi_some, bi_some, vl_eq, show 9 + 1 + 1 = 11 from rfl, show 9 + 3 + 1 = 13 from rfl, show 174 + 1 + 1 = 176 from rfl, show 174 + 3 + 1 = 178 from rfl, ← hM7]
    have : M7 9 0 = nI n1 := by rw [hM7, wr_ne (by decide), wc_ne (by decide), wc_ne (by decide), wr_atne (by decide), wr_at]
    rw [this]
  obtain ⟨τ, hτ⟩ : ∃ τ, τ = wr M7 183 0 0 := ⟨_, rfl⟩
  have t1 : ∀ a, a ≠ 183 → τ a = M7 a := fun a q => by rw [hτ, wr_ne q]
  have t183 : ∀ i, i ≠ 0 → τ 183 i = σ 183 i := fun i q => by rw [hτ, wr_atne q, mS 183 (by decide) (by decide) (by decide) (by decide)]
  have t184 : τ 184 = σ 184 := by rw [t1 184 (by decide), mS 184 (by decide) (by decide) (by decide) (by decide)]
  have hM : isM τ T l := h8 τ (t183 6 (by decide)) (by rw [t1 187 (by decide), mS 187 (by decide) (by decide) (by decide) (by decide)])
  rcases hO τ hM (by rw [t184]; exact hR.2.1.1) with ⟨z', p', q6, n', L', Y', hp, hp2, hn0, hn', hv, c1, c2, c3⟩ | ⟨z', p', a', b', n1', L1', Y1', n2, L2, Y2, hp, c1, c2, c3⟩
  · rw [hC] at c1
    rw [← Option.some.inj c1, hz] at c2
    have hXe : X = cM σ S p' 0 q6 n' L' Y' := congrArg Prod.snd (Option.some.inj c2)
    have hnn : n' = n1 := by
      have : nI n' = nI n1 := by rw [← x174, hXe]; rfl
      exact nI_inj (by omega) (by omega) this
    subst hnn
    have hsk : sk T l p' = p' := by rw [sk_eq, if_neg (fun q => hp2 q.1)]
    have hh := here8 (n := n') (L := L') (Y := Y') (p := p') hM (by have := h7.2.1; omega) (by rw [hsk]; have := h7.2.1; omega)
    rw [hsk, show ch T l p' = -1 from if_neg hp2] at hh
    have mm : ∀ a, a ≠ 183 → a ≠ 188 → a ≠ 189 → mM τ p' n' L' Y' a = M7 a := fun a q1 q2 q3 => by rw [mM_ne q1 q2 q3, t1 a q1]
    have m183 : ∀ i, i ≠ 0 → i ≠ 9 → i ≠ 10 → mM τ p' n' L' Y' 183 i = σ 183 i := fun i q1 q2 q3 => by
      rw [← t183 i q1]
      show (if i = 10 then nI p' else if i = 9 then nI n' else τ 183 i) = _
      rw [if_neg q3, if_neg q2]
    obtain ⟨σ2, f1, f2, f3, f4⟩ := e4 (mM τ p' n' L' Y') (fun a q1 q2 => by rw [mm a (by omega) (by omega) (by omega), m1 a (by omega) (by omega) (by omega) (by omega)]) (by rw [m183 4 (by decide) (by decide) (by decide), xn 183 (by decide) (by decide) (by decide) (by decide)]) (by rw [mm 184 (by decide) (by decide) (by decide), mS 184 (by decide) (by decide) (by decide) (by decide), xn 184 (by decide) (by decide) (by decide) (by decide)]) (by rw [mm 186 (by decide) (by decide) (by decide), mS 186 (by decide) (by decide) (by decide) (by decide), xn 186 (by decide) (by decide) (by decide) (by decide)])
    have s9 : σ2 183 9 = nI n' := by rw [f3 9 (by decide)]; rfl
    have s184 : σ2 184 = σ 184 := by rw [f2 184 (by decide) (by decide), mm 184 (by decide) (by decide) (by decide), mS 184 (by decide) (by decide) (by decide) (by decide)]
    have hbr := bars_run (τ := σ2) (L := L') (Y := Y') (g := upd (upd (σ 184) 2 (nI n')) 3 0) hn' s9 (fun i hi => by
      rw [f2 188 (by decide) (by decide), f2 189 (by decide) (by decide)]
      exact ⟨if_pos hi, if_pos hi⟩)
    have sF : ∀ a, a ≠ 183 → a ≠ 184 → a ≠ 186 → a ≠ 188 → a ≠ 189 → wr (ur σ2 184 (brF L' Y' (upd (upd (σ 184) 2 (nI n')) 3 0) n')) 183 6 0 a = M7 a := fun a q1 q2 q3 q4 q5 => by rw [wr_ne q1, ur_ne q2, f2 a q1 q3, mm a q1 q4 q5]
    refine ⟨M7, wr (ur σ2 184 (brF L' Y' (upd (upd (σ 184) 2 (nI n')) 3 0) n')) 183 6 0, hc7, ?_, ⟨S, W, n', 0, N, ?_⟩, f4 _ (fun a q1 q2 => ?_) ?_ ?_, ⟨0, by omega, ?_, ?_, fun i hi => absurd hi (by omega)⟩⟩
    · rw [load8 M7 L Y, ← hτ, c3, b2_some, lk8, jn_eq, if_neg n10, hh, b2_some, if_pos (show (-1 : Int32) < 0 by decide), f1, bi_some, s9, vl_eq, vl_eq, wr_row σ2, wr_ur, s184, hbr, bi_some, vl_eq, wr_atne (by decide), ur_ne (by decide), s9]
    · rw [wr_ne (by decide), ur_at]
      refine RS_load (b := 1) (L := L') (Y := Y') (RS_frame (k' := k + 1) (by omega) (fun _ _ _ => rfl) hR) hn0 hn' hv (fun a q1 q2 q3 q4 q5 => ?_) ⟨?_, ?_, ?_⟩ (fun i hi => ⟨?_, ?_⟩) (fun q q1 q2 q3 => ?_) ⟨?_, ?_⟩ (fun i hi => ⟨?_, ?_⟩)
      · rw [sF a (by omega) (by omega) (by omega) (by omega) (by omega), m1 a (by omega) (by omega) (by omega) (by omega), e2 a (by omega), xn a (by omega) (by omega) (by omega) (by omega)]
      · rw [sF 9 (by decide) (by decide) (by decide) (by decide) (by decide), hM7, wr_ne (by decide), wc_ne (by decide), wc_ne (by decide), wr_atne (by decide), wr_at]
      · rw [sF 9 (by decide) (by decide) (by decide) (by decide) (by decide), hM7, wr_ne (by decide), wc_ne (by decide), wc_ne (by decide), wr_at]
      · rw [sF 9 (by decide) (by decide) (by decide) (by decide) (by decide), hM7, wr_ne (by decide), wc_ne (by decide), wc_ne (by decide), wr_atne (by decide), wr_atne (by decide), e2 9 (by decide), xn 9 (by decide) (by decide) (by decide) (by decide)]
      · rw [sF 11 (by decide) (by decide) (by decide) (by decide) (by decide), hM7, wr_ne (by decide), wc_ne (by decide), wc_eq, cpy_at (by omega), wr_ne (by decide), wr_ne (by decide), e3 176 (by decide), hXe]
        exact if_pos hi
      · rw [sF 13 (by decide) (by decide) (by decide) (by decide) (by decide), hM7, wr_ne (by decide), wc_eq, cpy_at (by omega), wc_ne (by decide), wr_ne (by decide), wr_ne (by decide), e3 178 (by decide), hXe]
        exact if_pos hi
      · unfold brF
        rw [if_neg (by omega), if_neg (by omega), upd_ne q2, upd_ne q1]
      · unfold brF
        rw [if_neg (by omega), if_neg (by omega), upd_ne (by decide), upd_eq]
      · unfold brF
        rw [if_neg (by omega), if_neg (by omega), upd_eq]
      · unfold brF
        rw [if_pos (by omega), show 78 + i - 78 = i by omega]
      · unfold brF
        rw [if_neg (by omega), if_pos (by omega), show 102 + i - 102 = i by omega]
    · rw [wr_ne (by omega), ur_ne (by omega)]
    · rw [wr_atne (by decide), ur_ne (by decide)]
    · rw [wr_ne (by decide), ur_ne (by decide)]
    · rw [sF 171 (by decide) (by decide) (by decide) (by decide) (by decide), hM7, wr_at]; rfl
    · rw [wr_at]; rfl
  · rw [hC] at c1
    rw [← Option.some.inj c1, hz] at c2
    exact absurd (show (1 : Int32) = 0 from congrArg Prod.fst (Option.some.inj c2)) (by decide)
