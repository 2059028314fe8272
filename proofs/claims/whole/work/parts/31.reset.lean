/-! part 31: a fresh loom, in both -/
theorem mod_s {i S : Nat} (hS : 0 < S) : (i + 1) % S = if S ≤ i % S + 1 then 0 else i % S + 1 := by
  have h1 := Nat.div_add_mod i S
  have h2 := Nat.mod_lt i hS
  have e : (i + 1) % S = (i % S + 1) % S := by
    have e2 : i + 1 = S * (i / S) + (i % S + 1) := by omega
    rw [e2, Nat.mul_add_mod]
  rw [e]
  by_cases q : S ≤ i % S + 1
  · rw [if_pos q, show i % S + 1 = S by omega, Nat.mod_self]
  · rw [if_neg q]
    exact Nat.mod_eq_of_lt (by omega)
theorem warp_reset {o S W : Nat} (σ : Nat → Nat → Int32) (hS : 2 ≤ S) (hS8 : S ≤ 8) : f_X6_reset o (nI S) (nI W) σ = some (ur (fl (fl (wr (wr σ o 0 (nI S)) o 1 (nI W)) (o + 4) 32 0) (o + 6) 8 0) (o + 2) (fun p => if p < 32 then nI (p % S) else σ (o + 2) p)) := by
  obtain ⟨σ6, h6⟩ : ∃ σ6, σ6 = fl (fl (wr (wr σ o 0 (nI S)) o 1 (nI W)) (o + 4) 32 0) (o + 6) 8 0 := ⟨_, rfl⟩
  have g1 : σ6 (o + 2) = σ (o + 2) := by rw [h6, fl_ne (by omega), fl_ne (by omega), wr_ne (by omega), wr_ne (by omega)]
  have g2 : σ6 o 0 = nI S := by rw [h6, fl_ne (by omega), fl_ne (by omega), wr_atne (by decide), wr_at]
  have hl : lp (b_X6_reset_31 o) FU (0, 0, σ6) = some (ur σ6 (o + 2) (fun p => if p < 32 then nI (p % S) else σ (o + 2) p)) := by
    refine lp_run (fun i => (nI (i % S), nI i, ur σ6 (o + 2) (fun p => if p < i then nI (p % S) else σ (o + 2) p))) 32 (by omega) (fun i hi => ?_) ?_ ?_
    · show b_X6_reset_31 o (nI (i % S), nI i, _) = _
      have hm := Nat.mod_lt i (show S > 0 by omega)
      rw [b_X6_reset_31, if_neg (show ¬ (32 : Int32) ≤ nI i from nI_ge (b := 32) hi (by omega)), num_put (by omega) (by decide), bi_some, wr_ne (by omega), ur_ne (by omega), g2, nI_1, nI_1, wr_ur]
      have e : upd (fun p => if p < i then nI (p % S) else σ (o + 2) p) i (nI (i % S)) = (fun p => if p < i + 1 then nI (p % S) else σ (o + 2) p) := by
        funext p
        unfold upd
        by_cases e : p = i
        · subst e; rw [if_pos rfl, if_pos (by omega)]
        · rw [if_neg e]
          dsimp only
          by_cases e2 : p < i
          · rw [if_pos e2, if_pos (by omega)]
          · rw [if_neg e2, if_neg (by omega)]
      rw [e, mod_s (by omega)]
      by_cases q : S ≤ i % S + 1
      · rw [if_pos (nI_le q (by omega)), vl_eq, if_pos q]; rfl
      · rw [if_neg (nI_ge (by omega) (by omega)), vl_eq, vl_eq, if_neg q]
    · show b_X6_reset_31 o (nI (32 % S), nI 32, _) = _
      rw [b_X6_reset_31, if_pos (show (32 : Int32) ≤ nI 32 by decide)]
    · show (nI (0 % S), nI 0, _) = _
      rw [Nat.zero_mod, show (fun p => if p < 0 then nI (p % S) else σ (o + 2) p) = σ6 (o + 2) by rw [g1]; funext p; rw [if_neg (by omega)], ur_self]
      rfl
  rw [f_X6_reset, vl_eq, vl_eq, num_fill (by decide), bi_some, num_fill (by decide), bi_some, show o + 3 + 1 = o + 4 from rfl, show o + 5 + 1 = o + 6 from rfl, ← h6, hl, bi_some]
/-- a state as it is when fresh -/
def fresh (σ : Nat → Nat → Int32) (o S W : Nat) : Prop := σ (o + 1) 0 = nI S ∧ σ (o + 1) 1 = nI W ∧ σ (o + 8) 0 = 0 ∧ σ (o + 8) 1 = 0 ∧ σ (o + 8) 2 = 0 ∧ σ (o + 15) 0 = 0 ∧ (∀ e, e < 32 → σ (o + 3) e = nI (e % S) ∧ σ (o + 5) e = 0) ∧ (∀ i, i < 8 → σ (o + 7) i = 0) ∧ ∀ c, c < 10 → σ (o + 14) c = 300
theorem reset_spec {o S W : Nat} (σ : Nat → Nat → Int32) (hS : 2 ≤ S) (hS8 : S ≤ 8) : ∃ σ', f_X5_reset o (nI S) (nI W) σ = some σ' ∧ (∀ a, (a < o ∨ o + 28 ≤ a) → σ' a = σ a) ∧ fresh σ' o S W := by
  refine ⟨wr (fl (wr (wr (wr (ur (fl (fl (wr (wr σ (o + 1) 0 (nI S)) (o + 1) 1 (nI W)) (o + 5) 32 0) (o + 7) 8 0) (o + 3) (fun p => if p < 32 then nI (p % S) else σ (o + 3) p)) (o + 8) 0 0) (o + 8) 1 0) (o + 8) 2 0) (o + 14) 10 300) (o + 15) 0 0, ?_, fun a ha => ?_, ?_⟩
  · rw [f_X5_reset, warp_reset σ hS hS8, bi_some, f_X0_removeBars, vl_eq, vl_eq, bi_some, vl_eq, num_fill (by decide), bi_some, vl_eq]
  · rw [wr_ne (by omega), fl_ne (by omega), wr_ne (by omega), wr_ne (by omega), wr_ne (by omega), ur_ne (by omega), fl_ne (by omega), fl_ne (by omega), wr_ne (by omega), wr_ne (by omega)]
  · refine ⟨?_, ?_, ?_, ?_, ?_, ?_, fun e he => ⟨?_, ?_⟩, fun i hi => ?_, fun c hc => ?_⟩
    · simp (disch := omega) only [wr_ne, wr_atne, wr_at, fl_ne, ur_ne]
    · simp (disch := omega) only [wr_ne, wr_atne, wr_at, fl_ne, ur_ne]
    · simp (disch := omega) only [wr_ne, wr_atne, wr_at, fl_ne, ur_ne]
    · simp (disch := omega) only [wr_ne, wr_atne, wr_at, fl_ne, ur_ne]
    · simp (disch := omega) only [wr_ne, wr_atne, wr_at, fl_ne, ur_ne]
    · rw [wr_at]
    · simp (disch := omega) only [wr_ne, fl_ne, ur_at, if_pos he]
    · simp (disch := omega) only [wr_ne, fl_ne, ur_ne, fl_at he]
    · simp (disch := omega) only [wr_ne, fl_ne, ur_ne, fl_at hi]
    · simp (disch := omega) only [wr_ne, fl_ne, ur_ne, fl_at hc]
def bgF (S W : Nat) (f : Nat → Int32) (p : Nat) : Int32 := if 126 ≤ p ∧ p < 136 then 300 else if 6 ≤ p ∧ p < 6 + W then nI ((p - 6) % S) else if p = 1 then nI W else if p = 0 then nI S else if p < 456 then 0 else f p
theorem begin_spec {S W : Nat} (σ : Nat → Nat → Int32) (hS : 2 ≤ S) (hS8 : S ≤ 8) (hW : W ≤ 32) : f_X8_begin (nI S) (nI W) σ = some (ur σ 184 (bgF S W (σ 184))) := by
  have h1 : lp b_X8_begin_2 FU (0, σ) = some (ur σ 184 (fun p => if p < 456 then 0 else σ 184 p)) := by
    refine lp_run (fun i => (nI i, ur σ 184 (fun p => if p < i then 0 else σ 184 p))) 456 (by omega) (fun i hi => ?_) ?_ ?_
    · show b_X8_begin_2 (nI i, _) = _
      rw [b_X8_begin_2, if_neg (show ¬ (456 : Int32) ≤ nI i from nI_ge (b := 456) hi (by omega)), ix_nI hi (by decide), nI_clamp (by omega), vl_eq, vl_eq, wr_ur, nI_1]
      refine congrArg (fun f => some (Sum.inl (nI (i + 1), ur σ 184 f))) (funext fun p => ?_)
      unfold upd
      by_cases e : p = i
      · subst e; rw [if_pos rfl, if_pos (by omega)]
      · rw [if_neg e]
        dsimp only
        by_cases e2 : p < i
        · rw [if_pos e2, if_pos (by omega)]
        · rw [if_neg e2, if_neg (by omega)]
    · show b_X8_begin_2 (nI 456, _) = _
      rw [b_X8_begin_2, if_pos (show (456 : Int32) ≤ nI 456 by decide)]
    · show (nI 0, _) = _
      congr 1
      rw [show (fun p => if p < 0 then 0 else σ 184 p) = σ 184 by funext p; rw [if_neg (by omega)], ur_self]
  have h2 : ∀ g : Nat → Int32, lp (b_X8_begin_38 (nI S) (nI W)) FU (0, ur σ 184 g) = some (ur σ 184 (fun p => if 6 ≤ p ∧ p < 6 + W then nI ((p - 6) % S) else g p)) := fun g => by
    refine lp_run (fun i => (nI i, ur σ 184 (fun p => if 6 ≤ p ∧ p < 6 + i then nI ((p - 6) % S) else g p))) W (by omega) (fun i hi => ?_) ?_ ?_
    · show b_X8_begin_38 (nI S) (nI W) (nI i, _) = _
      rw [b_X8_begin_38, if_neg (nI_ge hi (by omega)), nz_ok (fun q => by have := nI_inj (b := 0) (by omega) (by decide) q; omega), show (6 : Int32) + nI i = nI (6 + i) from nI_add 6 i, ix_nI (by omega) (by decide), nI_clamp (by omega), nI_rem (by omega) (by omega), vl_eq, vl_eq, wr_ur, nI_1]
      refine congrArg (fun f => some (Sum.inl (nI (i + 1), ur σ 184 f))) (funext fun p => ?_)
      unfold upd
      by_cases e : p = 6 + i
      · subst e; rw [if_pos rfl, if_pos (by omega), show 6 + i - 6 = i by omega]
      · rw [if_neg e]
        dsimp only
        by_cases e2 : 6 ≤ p ∧ p < 6 + i
        · rw [if_pos e2, if_pos (by omega)]
        · rw [if_neg e2, if_neg (by omega)]
    · show b_X8_begin_38 (nI S) (nI W) (nI W, _) = _
      rw [b_X8_begin_38, if_pos (nI_le (Nat.le_refl W) (by omega))]
    · exact congrArg (fun f => (nI 0, ur σ 184 f)) (show (fun p => if 6 ≤ p ∧ p < 6 + 0 then nI ((p - 6) % S) else g p) = g from funext fun p => if_neg (by omega))
  have h3 : ∀ g : Nat → Int32, lp b_X8_begin_63 FU (0, ur σ 184 g) = some (ur σ 184 (fun p => if 126 ≤ p ∧ p < 136 then 300 else g p)) := fun g => by
    refine lp_run (fun i => (nI i, ur σ 184 (fun p => if 126 ≤ p ∧ p < 126 + i then 300 else g p))) 10 (by omega) (fun i hi => ?_) ?_ ?_
    · show b_X8_begin_63 (nI i, _) = _
      rw [b_X8_begin_63, if_neg (show ¬ (10 : Int32) ≤ nI i from nI_ge (b := 10) hi (by omega)), show (126 : Int32) + nI i = nI (126 + i) from nI_add 126 i, ix_nI (by omega) (by decide), nI_clamp (by omega), vl_eq, vl_eq, wr_ur, nI_1]
      refine congrArg (fun f => some (Sum.inl (nI (i + 1), ur σ 184 f))) (funext fun p => ?_)
      unfold upd
      by_cases e : p = 126 + i
      · subst e; rw [if_pos rfl, if_pos (by omega)]
      · rw [if_neg e]
        dsimp only
        by_cases e2 : 126 ≤ p ∧ p < 126 + i
        · rw [if_pos e2, if_pos (by omega)]
        · rw [if_neg e2, if_neg (by omega)]
    · show b_X8_begin_63 (nI 10, _) = _
      rw [b_X8_begin_63, if_pos (show (10 : Int32) ≤ nI 10 by decide)]
    · exact congrArg (fun f => (nI 0, ur σ 184 f)) (show (fun p => if 126 ≤ p ∧ p < 126 + 0 then 300 else g p) = g from funext fun p => if_neg (by omega))
  rw [f_X8_begin, h1, bi_some, vl_eq, vl_eq, wr_ur, wr_ur, h2, bi_some, h3, bi_some]
  rfl
theorem RS_fresh {σ : Nat → Nat → Int32} {b S W : Nat} {f : Nat → Int32} (k : Nat) (hS : 2 ≤ S) (hS8 : S ≤ 8) (hW4 : 4 ≤ W) (hW : W ≤ 32) (h : fresh σ b S W) : RS σ b (bgF S W f) k S W 0 0 0 := by
  obtain ⟨h1, h2, h3, h4, h5, h6, h7, h8, h9⟩ := h
  have z : ∀ p, (1 < p ∧ p < 6) ∨ (6 + W ≤ p ∧ p < 126) ∨ (136 ≤ p ∧ p < 456) → bgF S W f p = 0 := fun p hp => by
    unfold bgF
    rw [if_neg (by omega), if_neg (by omega), if_neg (by omega), if_neg (by omega), if_pos (by omega)]
  refine ⟨⟨hS, hS8, hW4, hW, by omega, Or.inr ⟨rfl, rfl⟩, by omega⟩, ⟨?_, ?_, z 2 (by omega), z 3 (by omega), z 5 (by omega), Or.inl (z 4 (by omega))⟩, ⟨h1, h2, h3, h4, h6, h5.trans (z 4 (by omega)).symm⟩, fun e he => ⟨?_, ?_, ⟨e % S, Nat.mod_lt e (by omega), ?_⟩, 0, by omega, z _ (by omega)⟩, fun i hi => ⟨?_, 0, by omega, z _ (by omega)⟩, fun i hi => absurd hi (by omega), fun c hc => ⟨?_, 300, by omega, ?_⟩, fun r hr => absurd hr (by omega)⟩
  · unfold bgF
    rw [if_neg (by omega), if_neg (by omega), if_neg (by omega), if_pos rfl]
  · unfold bgF
    rw [if_neg (by omega), if_neg (by omega), if_pos rfl]
  · rw [(h7 e (by omega)).1]
    unfold bgF
    rw [if_neg (by omega), if_pos (by omega), show 6 + e - 6 = e by omega]
  · rw [(h7 e (by omega)).2, z _ (by omega)]
  · unfold bgF
    rw [if_neg (by omega), if_pos (by omega), show 6 + e - 6 = e by omega]
  · rw [h8 i (by omega), z _ (by omega)]
  · rw [h9 c hc]
    unfold bgF
    rw [if_pos (by omega)]
  · unfold bgF
    rw [if_pos (by omega)]
    rfl
theorem op_0 (k : Nat) (σ : Nat → Nat → Int32) (a1 a2 : Int32) (h : Rel k σ) (hk : k < 512) : ∃ r σ1 σ2, f_X7_setLoom a1 a2 σ = some (r, σ1) ∧ f_X8_setLoom a1 a2 σ1 = some (r, σ2) ∧ Rel (k + 1) σ2 := by
  obtain ⟨⟨S0, W0, B0, P0, N0, hR⟩, -, -⟩ := id h
  rcases rng a1 2 8 (by decide) (by decide) with q | ⟨S, hS, hS8, rfl, q1, q2⟩
  · refine ⟨-1, σ, wr σ 183 0 0, ?_, ?_, rel_thr h⟩
    · rw [f_X7_setLoom, show f_X7_isBetween a1 2 8 σ = some 0 from btw_no q σ, bi_some, if_pos rfl]
    · rw [f_X8_setLoom, vl_eq, in_eq, show f_X7_isBetween a1 2 8 _ = some 0 from btw_no q _, bi_some, if_pos rfl]
  rcases rng a2 4 32 (by decide) (by decide) with q | ⟨W, hW4, hW, rfl, q3, q4⟩
  · refine ⟨-1, σ, wr σ 183 0 0, ?_, ?_, rel_thr h⟩
    · rw [f_X7_setLoom, show f_X7_isBetween (nI S) 2 8 σ = some 1 from btw_yes q1 q2 σ, bi_some, if_neg n10, show f_X7_isBetween a2 4 32 σ = some 0 from btw_no q σ, bi_some, if_pos rfl]
    · rw [f_X8_setLoom, vl_eq, in_eq, show f_X7_isBetween (nI S) 2 8 _ = some 1 from btw_yes q1 q2 _, bi_some, if_neg n10, in_eq, show f_X7_isBetween a2 4 32 _ = some 0 from btw_no q _, bi_some, if_pos rfl]
  · obtain ⟨σ1, e1, e2, e3, e4⟩ := do_act h
    obtain ⟨τ, g1, g2, g3⟩ := reset_spec (o := 1) (W := W) σ1 hS hS8
    obtain ⟨σ2, f1, f2, f3, f4, f5, f6⟩ := e4 τ (fun a ha => g2 a (by omega))
    refine ⟨σ 16 0, τ, ur σ2 184 (bgF S W (σ2 184)), ?_, ?_, f6 _ ⟨S, W, 0, 0, 0, RS_fresh (k + 1) hS hS8 hW4 hW g3⟩⟩
    · rw [f_X7_setLoom, show f_X7_isBetween (nI S) 2 8 σ = some 1 from btw_yes q1 q2 σ, bi_some, if_neg n10, show f_X7_isBetween (nI W) 4 32 σ = some 1 from btw_yes q3 q4 σ, bi_some, if_neg n10, e1, bi_some, vl_eq, g1, bi_some, e2 16 (by decide)]
    · rw [f_X8_setLoom, vl_eq, in_eq, show f_X7_isBetween (nI S) 2 8 _ = some 1 from btw_yes q1 q2 _, bi_some, if_neg n10, in_eq, show f_X7_isBetween (nI W) 4 32 _ = some 1 from btw_yes q3 q4 _, bi_some, if_neg n10, f1, bi_some, vl_eq, begin_spec σ2 hS hS8 hW, bi_some, f2, show σ 16 0 = σ 184 5 from hR.2.2.1.2.2.2.2.1.trans hR.2.1.2.2.2.2.1.symm]
theorem zx_id {σ : Nat → Nat → Int32} {n : Nat} (h : ∀ a, n ≤ a → σ a = fun _ => 0) : zx σ n = σ := by
  funext a
  unfold zx
  by_cases q : a < n
  · simp [q]
  · simp [q, h a (by omega)]
theorem init_Rel : ∃ s0 s1 s2 s3 s4 s5 m0 : Nat → Nat → Int32, f_X5_reset 1 4 8 (fun _ _ => 0) = some s0 ∧ zx s0 29 = s0 ∧ f_X5_reset 31 4 8 s0 = some s1 ∧ zx s1 59 = s1 ∧ f_X5_reset 59 4 8 s1 = some s2 ∧ zx s2 87 = s2 ∧ f_X5_reset 87 4 8 s2 = some s3 ∧ zx s3 115 = s3 ∧ f_X5_reset 115 4 8 s3 = some s4 ∧ zx s4 143 = s4 ∧ f_X5_reset 143 4 8 s4 = some s5 ∧ zx s5 171 = s5 ∧ f_X8_begin 4 8 (wr s5 183 0 0) = some m0 ∧ Rel 0 m0 := by
  obtain ⟨s0, a0, b0, c0⟩ := reset_spec (o := 1) (S := 4) (W := 8) (fun _ _ => 0) (by decide) (by decide)
  obtain ⟨s1, a1, b1, -⟩ := reset_spec (o := 31) (S := 4) (W := 8) s0 (by decide) (by decide)
  obtain ⟨s2, a2, b2, -⟩ := reset_spec (o := 59) (S := 4) (W := 8) s1 (by decide) (by decide)
  obtain ⟨s3, a3, b3, -⟩ := reset_spec (o := 87) (S := 4) (W := 8) s2 (by decide) (by decide)
  obtain ⟨s4, a4, b4, -⟩ := reset_spec (o := 115) (S := 4) (W := 8) s3 (by decide) (by decide)
  obtain ⟨s5, a5, b5, -⟩ := reset_spec (o := 143) (S := 4) (W := 8) s4 (by decide) (by decide)
  have z0 : ∀ a, 29 ≤ a → s0 a = fun _ => 0 := fun a q => b0 a (by omega)
  have z1 : ∀ a, 59 ≤ a → s1 a = fun _ => 0 := fun a q => (b1 a (by omega)).trans (z0 a (by omega))
  have z2 : ∀ a, 87 ≤ a → s2 a = fun _ => 0 := fun a q => (b2 a (by omega)).trans (z1 a (by omega))
  have z3 : ∀ a, 115 ≤ a → s3 a = fun _ => 0 := fun a q => (b3 a (by omega)).trans (z2 a (by omega))
  have z4 : ∀ a, 143 ≤ a → s4 a = fun _ => 0 := fun a q => (b4 a (by omega)).trans (z3 a (by omega))
  have z5 : ∀ a, 171 ≤ a → s5 a = fun _ => 0 := fun a q => (b5 a (by omega)).trans (z4 a (by omega))
  have w : ∀ a, a < 31 → s5 a = s0 a := fun a q => by rw [b5 a (by omega), b4 a (by omega), b3 a (by omega), b2 a (by omega), b1 a (by omega)]
  have hm := begin_spec (S := 4) (W := 8) (wr s5 183 0 0) (by decide) (by decide) (by decide)
  refine ⟨s0, s1, s2, s3, s4, s5, _, a0, zx_id z0, a1, zx_id z1, a2, zx_id z2, a3, zx_id z3, a4, zx_id z4, a5, zx_id z5, hm, ⟨4, 8, 0, 0, 0, ?_⟩, ⟨0, 0, by omega, by omega, ?_, ?_, ?_, fun i hi => absurd hi (by omega)⟩, ⟨0, by omega, ?_, ?_, fun i hi => absurd hi (by omega)⟩⟩
  · rw [ur_at]
    refine RS_fresh 0 (by omega) (by omega) (by omega) (by omega) ?_
    have hf : ∀ a, a < 29 → ur (wr s5 183 0 0) 184 (bgF 4 8 (wr s5 183 0 0 184)) a = s0 a := fun a q => by rw [ur_ne (by omega), wr_ne (by omega), w a (by omega)]
    unfold fresh
    rw [hf _ (by omega), hf _ (by omega), hf _ (by omega), hf _ (by omega), hf _ (by omega), hf _ (by omega), hf _ (by omega)]
    exact c0
  · rw [ur_ne (by decide), wr_ne (by decide), w 29 (by decide), z0 29 (by decide)]; rfl
  · rw [ur_ne (by decide), wr_ne (by decide), w 29 (by decide), z0 29 (by decide)]; rfl
  · rw [ur_ne (by decide), wr_atne (by decide), z5 183 (by decide)]; rfl
  · rw [ur_ne (by decide), wr_ne (by decide), z5 171 (by decide)]; rfl
  · rw [ur_ne (by decide), wr_atne (by decide), z5 183 (by decide)]; rfl
