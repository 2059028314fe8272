/-! part 31: a fresh loom, in both -/
theorem mod_s {i S : Nat} (hS : 0 < S) : (i + 1) % S = if S ≤ i % S + 1 then 0 else i % S + 1 := by
  have h1 := Nat.div_add_mod i S
  have h2 := Nat.mod_lt i hS
  have e : (i + 1) % S = (i % S + 1) % S := by
    have e2 : i + 1 = S * (i / S) + (i % S + 1) := by omega
    rw [e2, Nat.mul_add_mod]
  rw [e]
  by_cases q : S ≤ i % S + 1
  · rw [if_pos q, show i % S + 1 = S by omega, Nat.mod_self]
  · rw [if_neg q]
    exact Nat.mod_eq_of_lt (by omega)
theorem warp_reset {o S W : Nat} (σ : Nat → Nat → Int32) (hS : 2 ≤ S) (hS8 : S ≤ 8) : f_X6_reset o (nI S) (nI W) σ = some (ur (fl (fl (wr (wr σ o 0 (nI S)) o 1 (nI W)) (o + 4) 32 0) (o + 6) 8 0) (o + 2) (fun p => if p < 32 then nI (p % S) else σ (o + 2) p)) := by
  obtain ⟨σ6, h6⟩ : ∃ σ6, σ6 = fl (fl (wr (wr σ o 0 (nI S)) o 1 (nI W)) (o + 4) 32 0) (o + 6) 8 0 := ⟨_, rfl⟩
  have g1 : σ6 (o + 2) = σ (o + 2) := by rw [h6, fl_ne (by omega), fl_ne (by omega), wr_ne (by omega), wr_ne (by omega)]
  have g2 : σ6 o 0 = nI S := by rw [h6, fl_ne (by omega), fl_ne (by omega), wr_atne (by decide), wr_at]
  have hl : lp (b_X6_reset_31 o) FU (0, 0, σ6) = some (ur σ6 (o + 2) (fun p => if p < 32 then nI (p % S) else σ (o + 2) p)) := by
    refine lp_run (fun i => (nI (i % S), nI i, ur σ6 (o + 2) (fun p => if p < i then nI (p % S) else σ (o + 2) p))) 32 (by omega) (fun i hi => ?_) ?_ ?_
    · show b_X6_reset_31 o (nI (i % S), nI i, _) = _
      have hm := Nat.mod_lt i (show S > 0 by omega)
      rw [b_X6_reset_31, if_neg (show ¬ (32 : Int32) ≤ nI i from nI_ge (b := 32) hi (by omega)), num_put (by omega) (by decide), bi_some, wr_ne (by omega), ur_ne (by omega), g2, nI_1, nI_1, wr_ur]
      have e : upd (fun p => if p < i then nI (p % S) else σ (o + 2) p) i (nI (i % S)) = (fun p => if p < i + 1 then nI (p % S) else σ (o + 2) p) := by
        funext p
        unfold upd
        by_cases e : p = i
        · subst e; rw [if_pos rfl, if_pos (by omega)]
        · rw [if_neg e]
          dsimp only
          by_cases e2 : p < i
          · rw [if_pos e2, if_pos (by omega)]
          · rw [if_neg e2, if_neg (by omega)]
      rw [e, mod_s (by omega)]
      by_cases q : S ≤ i % S + 1
      · rw [if_pos (nI_le q (by omega)), vl_eq, if_pos q]; rfl
      · rw [if_neg (nI_ge (by omega) (by omega)), vl_eq, vl_eq, if_neg q]
    · show b_X6_reset_31 o (nI (32 % S), nI 32, _) = _
      rw [b_X6_reset_31, if_pos (show (32 : Int32) ≤ nI 32 by decide)]
    · show (nI (0 % S), nI 0, _) = _
      rw [Nat.zero_mod, show (fun p => if p < 0 then nI (p % S) else σ (o + 2) p) = σ6 (o + 2) by rw [g1]; funext p; rw [if_neg (by omega)], ur_self]
      rfl
  rw [f_X6_reset, vl_eq, vl_eq, num_fill (by decide), bi_some, num_fill (by decide), bi_some, show o + 3 + 1 = o + 4 from rfl, show o + 5 + 1 = o + 6 from rfl, ← h6, hl, bi_some]
/-- a state as it is when fresh -/
def fresh (σ : Nat → Nat → Int32) (o S W : Nat) : Prop := σ (o + 1) 0 = nI S ∧ σ (o + 1) 1 = nI W ∧ σ (o + 8) 0 = 0 ∧ σ (o + 8) 1 = 0 ∧ σ (o + 8) 2 = 0 ∧ σ (o + 15) 0 = 0 ∧ (∀ e, e < 32 → σ (o + 3) e = nI (e % S) ∧ σ (o + 5) e = 0) ∧ (∀ i, i < 8 → σ (o + 7) i = 0) ∧ ∀ c, c < 10 → σ (o + 14) c = 300
theorem reset_spec {o S W : Nat} (σ : Nat → Nat → Int32) (hS : 2 ≤ S) (hS8 : S ≤ 8) : ∃ σ', f_X5_reset o (nI S) (nI W) σ = some σ' ∧ (∀ a, (a < o ∨ o + 28 ≤ a) → σ' a = σ a) ∧ fresh σ' o S W := by
  refine ⟨wr (fl (wr (wr (wr (ur (fl (fl (wr (wr σ (o + 1) 0 (nI S)) (o + 1) 1 (nI W)) (o + 5) 32 0) (o + 7) 8 0) (o + 3) (fun p => if p < 32 then nI (p % S) else σ (o + 3) p)) (o + 8) 0 0) (o + 8) 1 0) (o + 8) 2 0) (o + 14) 10 300) (o + 15) 0 0, ?_, fun a ha => ?_, ?_⟩
  · rw [f_X5_reset, warp_reset σ hS hS8, bi_some, f_X0_removeBars, vl_eq, vl_eq, bi_some, vl_eq, num_fill (by decide), bi_some, vl_eq]
  · rw [wr_ne (by omega), fl_ne (by omega), wr_ne (by omega), wr_ne (by omega), wr_ne (by omega), ur_ne (by omega), fl_ne (by omega), fl_ne (by omega), wr_ne (by omega), wr_ne (by omega)]
  · refine ⟨?_, ?_, ?_, ?_, ?_, ?_, fun e he => ⟨?_, ?_⟩, fun i hi => ?_, fun c hc => ?_⟩
    · simp (disch := omega) only [wr_ne, wr_atne, wr_at, fl_ne, ur_ne]
    · simp (disch := omega) only [wr_ne, wr_atne, wr_at, fl_ne, ur_ne]
    · simp (disch := omega) only [wr_ne, wr_atne, wr_at, fl_ne, ur_ne]
    · simp (disch := omega) only [wr_ne, wr_atne, wr_at, fl_ne, ur_ne]
    · simp (disch := omega) only [wr_ne, wr_atne, wr_at, fl_ne, ur_ne]
    · rw [wr_at]
    · simp (disch := omega) only [wr_ne, fl_ne, ur_at, if_pos he]
    · simp (disch := omega) only [wr_ne, fl_ne, ur_ne, fl_at he]
    · simp (disch := omega) only [wr_ne, fl_ne, ur_ne, fl_at hi]
    · simp (disch := omega) only [wr_ne, fl_ne, ur_ne, fl_at hc]
def bgF (S W : Nat) (f : Nat → Int32) (p : Nat) : Int32 := if 126 ≤ p ∧ p < 136 then 300 else if 6 ≤ p ∧ p < 6 + W then nI ((p - 6) % S) else if p = 1 then nI W else if p = 0 then nI S else if p < 456 then 0 else f p
theorem RS_fresh {σ : Nat → Nat → Int32} {b S W : Nat} {f : Nat → Int32} (k : Nat) (hS : 2 ≤ S) (hS8 : S ≤ 8) (hW4 : 4 ≤ W) (hW : W ≤ 32) (h : fresh σ b S W) : RS σ b (bgF S W f) k S W 0 0 0 := by
  obtain ⟨h1, h2, h3, h4, h5, h6, h7, h8, h9⟩ := h
  have z : ∀ p, (1 < p ∧ p < 6) ∨ (6 + W ≤ p ∧ p < 126) ∨ (136 ≤ p ∧ p < 456) → bgF S W f p = 0 := fun p hp => by
    unfold bgF
    rw [if_neg (by omega), if_neg (by omega), if_neg (by omega), if_neg (by omega), if_pos (by omega)]
  refine ⟨⟨hS, hS8, hW4, hW, by omega, Or.inr ⟨rfl, rfl⟩, by omega⟩, ⟨?_, ?_, z 2 (by omega), z 3 (by omega), z 5 (by omega), Or.inl (z 4 (by omega))⟩, ⟨h1, h2, h3, h4, h6, h5.trans (z 4 (by omega)).symm⟩, fun e he => ⟨?_, ?_, ⟨e % S, Nat.mod_lt e (by omega), ?_⟩, 0, by omega, z _ (by omega)⟩, fun i hi => ⟨?_, 0, by omega, z _ (by omega)⟩, fun i hi => absurd hi (by omega), fun c hc => ⟨?_, 300, by omega, ?_⟩, fun r hr => absurd hr (by omega)⟩
  · unfold bgF
    rw [if_neg (by omega), if_neg (by omega), if_neg (by omega), if_pos rfl]
  · unfold bgF
    rw [if_neg (by omega), if_neg (by omega), if_pos rfl]
  · rw [(h7 e (by omega)).1]
    unfold bgF
    rw [if_neg (by omega), if_pos (by omega), show 6 + e - 6 = e by omega]
  · rw [(h7 e (by omega)).2, z _ (by omega)]
  · unfold bgF
    rw [if_neg (by omega), if_pos (by omega), show 6 + e - 6 = e by omega]
  · rw [h8 i (by omega), z _ (by omega)]
  · rw [h9 c hc]
    unfold bgF
    rw [if_pos (by omega)]
  · unfold bgF
    rw [if_pos (by omega)]
    rfl
theorem zx_id {σ : Nat → Nat → Int32} {n : Nat} (h : ∀ a, n ≤ a → σ a = fun _ => 0) : zx σ n = σ := by
  funext a
  unfold zx
  by_cases q : a < n
  · simp [q]
  · simp [q, h a (by omega)]
