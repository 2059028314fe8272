/-! part 49: load -/
theorem op_10 (k : Nat) (σ : Nat → Nat → Int32) (h : Rel k σ) (hk : k < 512) : ∃ r σ1 σ2, f_X7_load  σ = some (r, σ1) ∧ f_X8_load  σ1 = some (r, σ2) ∧ Rel (k + 1) σ2 := by
  obtain ⟨⟨S, W, B, P, N, hR⟩, -, ⟨l, hl, x1, x2, x3⟩⟩ := id h
  obtain ⟨T, hT⟩ : ∃ T : Nat → Nat, T = fun i => (σ 173 i).toNatClampNeg := ⟨_, rfl⟩
  have hTi : ∀ i, i < l → T i < 256 ∧ σ 173 i = nI (T i) ∧ σ 187 i = nI (T i) := fun i hi => by
    obtain ⟨c, c1, c2, c3⟩ := x3 i hi
    have : T i = c := by rw [hT]; show (σ 173 i).toNatClampNeg = c; rw [c2, nI_clamp (by omega)]
    rw [this]
    exact ⟨c1, c2, c3⟩
  have h7 : isT σ T l := ⟨x1, hl, fun i hi => ⟨(hTi i hi).1, (hTi i hi).2.1⟩⟩
  have h8 : ∀ τ : Nat → Nat → Int32, τ 183 6 = σ 183 6 → τ 187 = σ 187 → isM τ T l := fun τ q1 q2 => ⟨q1.trans x2, hl, fun i hi => ⟨(hTi i hi).1, by rw [q2]; exact (hTi i hi).2.2⟩⟩
  obtain ⟨q6, -, h6⟩ := x_nI (σ 171 6)
  have hO : ∀ τ : Nat → Nat → Int32, isM τ T l → τ 184 0 = nI S → outO σ τ T l S FU (lp b_X1_readChain_24 FU (0, cM σ S 0 0 q6 0 (fun _ => 0) (fun _ => 0))) (outM FU (mM τ 0 0 (fun _ => 0) (fun _ => 0))) := fun τ t1 t2 => outside h7 t1 t2 hR.1.1 hR.1.2.1 24 0 0 (fun _ => 0) (fun _ => 0) 0 q6 4095 FU rfl (Nat.zero_le _) (Nat.le_refl 0) (fun i hi => absurd hi (by omega)) (by decide) (by decide)
  have hc := chain7 (σ := σ) (S := S) h6 (fun _ => 0) (fun _ => 0)
  rcases hO σ (h8 σ rfl rfl) hR.2.1.1 with ⟨z, p1, a, n1, L1, Y1, g1, g2, g3, g4, g5, g6, g7, -⟩ | ⟨z, p1, a, b, n1, L1, Y1, n2, L2, Y2, g1, g2, g3, -⟩
  · obtain ⟨σ1, σ2, w1, w2, w3⟩ := load_ok h hR h7 h8 rfl g3 g4 g6 g7 hO
    refine ⟨nI n1, σ1, σ2, ?_, w2, w3⟩
    rw [f_X7_load, show σ 2 0 = nI S from hR.2.2.1.1, hc, g6, bi_some, g7, b2_some, if_neg n10]
    exact w1
  · have hM : isM (wr (cM σ S p1 a b n1 L1 Y1) 183 0 0) T l := h8 _ (by rw [wr_atne (by decide), cM_ne (by decide) (by decide) (by decide) (by decide)]) (by rw [wr_ne (by decide), cM_ne (by decide) (by decide) (by decide) (by decide)])
    obtain ⟨σ2, w1, w2⟩ := load_fail h h7 h8 rfl g2 g3 (hO _ hM (by rw [wr_ne (by decide), cM_ne (by decide) (by decide) (by decide) (by decide)]; exact hR.2.1.1))
    refine ⟨-10 - nI p1, cM σ S p1 a b n1 L1 Y1, σ2, ?_, w1, w2⟩
    rw [f_X7_load, show σ 2 0 = nI S from hR.2.2.1.1, hc, g2, bi_some, g3, b2_some, if_pos rfl]
    rfl
