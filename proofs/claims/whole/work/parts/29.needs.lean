/-! part 29: the next bar, needs of bars, picks left, yarn for -/
/-- the bar after, in both -/
def nbV (v : Nat → Int32) (B b : Nat) : Nat := if v 4 = 0 then (if B ≤ b + 1 then 0 else b + 1) else (if b = 0 then B - 1 else b - 1)
def pbV (v : Nat → Int32) (B b : Nat) : Nat := if v 4 = 0 then (if b = 0 then B - 1 else b - 1) else (if B ≤ b + 1 then 0 else b + 1)
theorem nbV_lt {v : Nat → Int32} {B b : Nat} (h : b < B) : nbV v B b < B := by
  unfold nbV
  split
  · split <;> omega
  · split <;> omega
theorem pbV_lt {v : Nat → Int32} {B b : Nat} (h : b < B) : pbV v B b < B := by
  unfold pbV
  split
  · split <;> omega
  · split <;> omega
theorem above_spec {σ : Nat → Nat → Int32} {o B b : Nat} (h0 : σ o 0 = nI B) (hb : b < B) (hB : B ≤ 24) : f_X0_barAbove o (nI b) σ = some (nI (if B ≤ b + 1 then 0 else b + 1)) := by
  rw [f_X0_barAbove, h0, nI_1]
  by_cases e : B ≤ b + 1
  · rw [if_pos (nI_le e (by omega)), if_pos e]; rfl
  · rw [if_neg (nI_ge (by omega) (by omega)), if_neg e]
theorem below_spec {σ : Nat → Nat → Int32} {o B b : Nat} (h0 : σ o 0 = nI B) (hb : b < B) (hB : B ≤ 24) : f_X0_barBelow o (nI b) σ = some (nI (if b = 0 then B - 1 else b - 1)) := by
  rw [f_X0_barBelow, h0]
  by_cases e : b = 0
  · subst e
    rw [if_pos (by decide), if_pos rfl, show nI B - 1 = nI (B - 1) from nI_sub (b := 1) (by omega)]
  · rw [if_neg (nI_nle (by omega) (by omega)), if_neg e, show nI b - 1 = nI (b - 1) from nI_sub (b := 1) (by omega)]
section NB
variable {σ τ : Nat → Nat → Int32} {v : Nat → Int32} {B b : Nat}
theorem after7 {o : Nat} (h0 : σ o 0 = nI B) (h2 : σ o 2 = v 4) (h4 : v 4 = 0 ∨ v 4 = 1) (hb : b < B) (hB : B ≤ 24) : f_X0_barAfter o (nI b) σ = some (nI (nbV v B b)) := by
  rw [f_X0_barAfter, h2]
  unfold nbV
  rcases h4 with e | e
  · rw [e, if_neg (by decide), above_spec h0 hb hB, bi_some, if_pos rfl]
  · rw [e, if_pos rfl, below_spec h0 hb hB, bi_some, if_neg n10]
theorem before7 {o : Nat} (h0 : σ o 0 = nI B) (h2 : σ o 2 = v 4) (h4 : v 4 = 0 ∨ v 4 = 1) (hb : b < B) (hB : B ≤ 24) : f_X0_barBefore o (nI b) σ = some (nI (pbV v B b)) := by
  rw [f_X0_barBefore, h2]
  unfold pbV
  rcases h4 with e | e
  · rw [e, if_neg (by decide), below_spec h0 hb hB, bi_some, if_pos rfl]
  · rw [e, if_pos rfl, above_spec h0 hb hB, bi_some, if_neg n10]
theorem mod_up (hb : b < B) (hB : B ≤ 24) : (nI b + 1 + nI B) - (nI b + 1 + nI B) / nI B * nI B = nI (if B ≤ b + 1 then 0 else b + 1) := by
  rw [nI_1, nI_add, nI_rem (by omega) (by omega)]
  congr 1
  rw [Nat.add_mod_right]
  split
  · rw [show b + 1 = B by omega, Nat.mod_self]
  · exact Nat.mod_eq_of_lt (by omega)
theorem add_m1 (hb : b < B) : nI b + -1 + nI B = nI (b + B - 1) := by
  have e : nI b + -1 + nI B = nI (b + B) - 1 := by
    apply Int32.toBitVec_inj.mp
    show BitVec.ofNat 32 b + (-1#32) + BitVec.ofNat 32 B = BitVec.ofNat 32 (b + B) - 1#32
    rw [BitVec.ofNat_add, BitVec.sub_eq_add_neg, BitVec.add_assoc, BitVec.add_assoc, BitVec.add_comm (-1#32)]
  rw [e]
  exact nI_sub (b := 1) (by omega)
theorem mod_dn (hb : b < B) (hB : B ≤ 24) : (nI b + -1 + nI B) - (nI b + -1 + nI B) / nI B * nI B = nI (if b = 0 then B - 1 else b - 1) := by
  rw [add_m1 hb, nI_rem (by omega) (by omega)]
  congr 1
  by_cases e : b = 0
  · subst e
    rw [if_pos rfl, show 0 + B - 1 = B - 1 by omega]
    exact Nat.mod_eq_of_lt (by omega)
  · rw [if_neg e, show b + B - 1 = b - 1 + B by omega, Nat.add_mod_right]
    exact Nat.mod_eq_of_lt (by omega)
theorem onward8 (ht : τ 184 = v) : f_X8_onward τ = some (if v 4 = 0 then 1 else -1) := by
  rw [f_X8_onward, ht]
  split <;> rfl
theorem next8 (h4 : v 4 = 0 ∨ v 4 = 1) (hb : b < B) (hB : B ≤ 24) : (nI b + (if v 4 = 0 then 1 else -1) + nI B) - (nI b + (if v 4 = 0 then 1 else -1) + nI B) / nI B * nI B = nI (nbV v B b) := by
  unfold nbV
  rcases h4 with e | e
  · rw [e, if_pos rfl, if_pos rfl]
    exact mod_up hb hB
  · rw [e, if_neg (by decide), if_neg (by decide)]
    exact mod_dn hb hB
theorem prev8 (h4 : v 4 = 0 ∨ v 4 = 1) (hb : b < B) (hB : B ≤ 24) : (nI b + -(if v 4 = 0 then 1 else -1) + nI B) - (nI b + -(if v 4 = 0 then 1 else -1) + nI B) / nI B * nI B = nI (pbV v B b) := by
  unfold pbV
  rcases h4 with e | e
  · rw [e, if_pos rfl, if_pos rfl]
    exact mod_dn hb hB
  · rw [e, if_neg (by decide), if_neg (by decide)]
    exact mod_up hb hB
end NB
def wV (v : Nat → Int32) (S W i : Nat) : Nat := wholeV (endsV v (liftV v (v (78 + i)) S) W) W
theorem wV_le (v : Nat → Int32) (S W i : Nat) : wV v S W i ≤ 2 * W := sumN_le (fun i => by
  unfold ndV
  split
  · omega
  · split <;> omega) W
theorem needs_spec {σ : Nat → Nat → Int32} {v : Nat → Int32} {k S W B P N : Nat} (hR : RS σ 1 v k S W B P N) : f_X7_readNeeds σ = some (ur σ 180 (fun p => if p < B then nI (wV v S W p) else σ 180 p)) := by
  have hB := hR.1.2.2.2.2.1
  have hl : lp b_X7_readNeeds_2 FU (0, σ) = some (ur σ 180 (fun p => if p < B then nI (wV v S W p) else σ 180 p)) := by
    refine lp_run (fun i => (nI i, ur σ 180 (fun p => if p < i then nI (wV v S W p) else σ 180 p))) B (by omega) (fun i hi => ?_) ?_ ?_
    · show b_X7_readNeeds_2 (nI i, _) = _
      have hR1 : RS (ur σ 180 (fun p => if p < i then nI (wV v S W p) else σ 180 p)) 1 v k S W B P N := RS_frame (Nat.le_refl k) (fun a _ h => ur_ne (by omega)) hR
      rw [b_X7_readNeeds_2, ur_ne (by decide), show σ 9 0 = nI B from hR.2.2.1.2.2.1, if_neg (nI_ge hi (by omega)), num_at (by omega) (by decide), bi_some, ur_ne (by decide), show σ (10 + 1) i = _ from (hR.2.2.2.2.2.1 i hi).1, show f_X6_yarnOfWholePick 2 _ _ = _ from yarn7 hR1 _, bi_some, num_put (by omega) (by decide), bi_some, vl_eq, nI_1, show 179 + 1 = 180 from rfl, wr_ur]
      refine congrArg (fun f => some (Sum.inl (nI (i + 1), ur σ 180 f))) (funext fun p => ?_)
      unfold upd
      by_cases e : p = i
      · subst e; rw [if_pos rfl, if_pos (by omega)]; rfl
      · rw [if_neg e]
        dsimp only
        by_cases e2 : p < i
        · rw [if_pos e2, if_pos (by omega)]
        · rw [if_neg e2, if_neg (by omega)]
    · show b_X7_readNeeds_2 (nI B, _) = _
      rw [b_X7_readNeeds_2, ur_ne (by decide), show σ 9 0 = nI B from hR.2.2.1.2.2.1, if_pos (nI_le (Nat.le_refl B) (by omega))]
    · show (nI 0, _) = _
      congr 1
      rw [show (fun p => if p < 0 then nI (wV v S W p) else σ 180 p) = σ 180 by funext p; rw [if_neg (by omega)], ur_self]
  rw [f_X7_readNeeds, hl, bi_some]
/-- the dye of a bar -/
def dV (v : Nat → Int32) (b : Nat) : Nat := (v (102 + b)).toNatClampNeg
theorem dV_eq {σ : Nat → Nat → Int32} {v : Nat → Int32} {k S W B P N b : Nat} (hR : RS σ 1 v k S W B P N) (hb : b < B) : v (102 + b) = nI (dV v b) ∧ dV v b < 10 := by
  obtain ⟨-, -, -, c, h1, h2⟩ := hR.2.2.2.2.2.1 b hb
  unfold dV
  rw [h2, nI_clamp (by omega)]
  exact ⟨rfl, h1⟩
def barI (v : Nat → Int32) (B P : Nat) : Nat → Nat
  | 0 => P
  | i + 1 => nbV v B (barI v B P i)
theorem barI_lt {v : Nat → Int32} {B P : Nat} (h : P < B) : ∀ i, barI v B P i < B
  | 0 => h
  | i + 1 => nbV_lt (barI_lt h i)
theorem op_25 (k : Nat) (σ : Nat → Nat → Int32) (a1 a2 : Int32) (h : Rel k σ) (hk : k < 512) : ∃ r σ1 σ2, f_X7_yarnFor a1 a2 σ = some (r, σ1) ∧ f_X8_yarnFor a1 a2 σ1 = some (r, σ2) ∧ Rel (k + 1) σ2 := by
  obtain ⟨⟨S, W, B, P, N, hR⟩, -, -⟩ := id h
  have hB := hR.1.2.2.2.2.1
  have hW := hR.1.2.2.2.1
  have h4 : σ 184 4 = 0 ∨ σ 184 4 = 1 := hR.2.1.2.2.2.2.2
  have g9 : σ 9 0 = nI B := hR.2.2.1.2.2.1
  have c2 : σ 184 2 = nI B := hR.2.1.2.2.1
  rcases rng a1 0 9 (by decide) (by decide) with q | ⟨x, -, hx, rfl, q1, q2⟩
  · refine ⟨-1, σ, wr σ 183 0 0, ?_, ?_, rel_thr h⟩
    · rw [f_X7_yarnFor, color_no q, bi_some, if_pos rfl]
    · rw [f_X8_yarnFor, vl_eq, color8_no q, bi_some, if_pos rfl]
  rcases rng a2 1 64 (by decide) (by decide) with q | ⟨y, -, hy, rfl, q3, q4⟩
  · refine ⟨-1, σ, wr σ 183 0 0, ?_, ?_, rel_thr h⟩
    · rw [f_X7_yarnFor, color_yes q1 q2, bi_some, if_neg n10, show f_X7_isBetween a2 1 64 σ = some 0 from btw_no q σ, bi_some, if_pos rfl]
    · rw [f_X8_yarnFor, vl_eq, color8_yes q1 q2, bi_some, if_neg n10, in_eq, show f_X7_isBetween a2 1 64 _ = some 0 from btw_no q _, bi_some, if_pos rfl]
  by_cases e : nI B = 0
  · refine ⟨-2, σ, wr σ 183 0 0, ?_, ?_, rel_thr h⟩
    · rw [f_X7_yarnFor, color_yes q1 q2, bi_some, if_neg n10, show f_X7_isBetween (nI y) 1 64 σ = some 1 from btw_yes q3 q4 σ, bi_some, if_neg n10, g9, if_pos e]
    · rw [f_X8_yarnFor, vl_eq, color8_yes q1 q2, bi_some, if_neg n10, in_eq, show f_X7_isBetween (nI y) 1 64 _ = some 1 from btw_yes q3 q4 _, bi_some, if_neg n10, wr_ne (by decide), c2, if_pos e]
  · have hPB : P < B := hR.1.2.2.2.2.2.1.resolve_right (fun q => e (by rw [q.1]; rfl))
    obtain ⟨σ1, hσ1⟩ : ∃ σ1, σ1 = ur σ 180 (fun p => if p < B then nI (wV (σ 184) S W p) else σ 180 p) := ⟨_, rfl⟩
    have u1 : ∀ a, a ≠ 180 → σ1 a = σ a := fun a q => by rw [hσ1, ur_ne q]
    have u2 : ∀ p, p < B → σ1 180 p = nI (wV (σ 184) S W p) := fun p q => by rw [hσ1, ur_at, if_pos q]
    have hbi := barI_lt (v := σ 184) hPB
    have kd : ∀ b, b < B → ((σ 184 (102 + b) = nI x) ↔ dV (σ 184) b = x) := fun b hb => by
      rw [(dV_eq hR hb).1]
      exact nI_eq (by have := (dV_eq hR hb).2; omega) (by omega)
    obtain ⟨ct, hct⟩ : ∃ ct : Nat → Nat, ct = fun i => if dV (σ 184) (barI (σ 184) B P i) = x then wV (σ 184) S W (barI (σ 184) B P i) else 0 := ⟨_, rfl⟩
    have h7 : lp (b_X7_yarnFor_56 (nI x) (nI y) σ1) FU (0, nI P, 0) = some (nI (sumN ct y)) := by
      refine lp_run (fun i => (nI (sumN ct i), nI (barI (σ 184) B P i), nI i)) y (by omega) (fun i hi => ?_) ?_ rfl
      · show b_X7_yarnFor_56 (nI x) (nI y) σ1 (_, nI (barI (σ 184) B P i), nI i) = _
        have hb := hbi i
        rw [b_X7_yarnFor_56, if_neg (nI_ge hi (by omega)), num_at (by omega) (by decide), bi_some, u1 _ (by decide), show σ (12 + 1) _ = _ from (hR.2.2.2.2.2.1 _ hb).2.1, jn_eq, num_at (by omega) (by decide), bi_some, show 179 + 1 = 180 from rfl, u2 _ hb, sumN, hct]
        simp only [vl_eq]
        by_cases e1 : dV (σ 184) (barI (σ 184) B P i) = x
        · rw [if_pos ((kd _ hb).mpr e1), if_pos e1, after7 (v := σ 184) (by rw [u1 9 (by decide)]; exact g9) (by rw [u1 9 (by decide)]; exact hR.2.2.1.2.2.2.2.2) h4 hb hB, bi_some, nI_add, nI_1]
          rfl
        · rw [if_neg (fun z => e1 ((kd _ hb).mp z)), if_neg e1, after7 (v := σ 184) (by rw [u1 9 (by decide)]; exact g9) (by rw [u1 9 (by decide)]; exact hR.2.2.1.2.2.2.2.2) h4 hb hB, bi_some, nI_1]
          rfl
      · show b_X7_yarnFor_56 (nI x) (nI y) σ1 (_, _, nI y) = _
        rw [b_X7_yarnFor_56, if_pos (nI_le (Nat.le_refl y) (by omega))]
    have ht : wr σ1 183 0 0 184 = σ 184 := by rw [wr_ne (by decide), u1 184 (by decide)]
    have h8 : lp (b_X8_yarnFor_49 (nI x) (nI y) (wr σ1 183 0 0)) FU (0, nI P, 0) = some (nI (sumN ct y)) := by
      refine lp_run (fun i => (nI (sumN ct i), nI (barI (σ 184) B P i), nI i)) y (by omega) (fun i hi => ?_) ?_ rfl
      · show b_X8_yarnFor_49 (nI x) (nI y) (wr σ1 183 0 0) (_, nI (barI (σ 184) B P i), nI i) = _
        have hb := hbi i
        rw [b_X8_yarnFor_49, if_neg (nI_ge hi (by omega)), ht, show (102 : Int32) + nI (barI (σ 184) B P i) = nI (102 + barI (σ 184) B P i) from nI_add 102 _, ix_nI (by omega) (by decide), nI_clamp (by omega), jn_eq, yarn8 hR ht (by omega), bi_some, sumN, hct]
        dsimp only
        rw [onward8 ht, c2]
        simp only [vl_eq, bi_some, nz_ok e]
        rw [next8 h4 hb hB]
        by_cases e1 : dV (σ 184) (barI (σ 184) B P i) = x
        · rw [if_pos ((kd _ hb).mpr e1), if_pos e1, nI_add, nI_1]
          rfl
        · rw [if_neg (fun z => e1 ((kd _ hb).mp z)), if_neg e1, show (0 : Int32) = nI 0 from rfl, nI_add, nI_1]
          rfl
      · show b_X8_yarnFor_49 (nI x) (nI y) (wr σ1 183 0 0) (_, _, nI y) = _
        rw [b_X8_yarnFor_49, if_pos (nI_le (Nat.le_refl y) (by omega))]
    refine ⟨nI (sumN ct y), σ1, wr σ1 183 0 0, ?_, ?_, ?_⟩
    · rw [f_X7_yarnFor, color_yes q1 q2, bi_some, if_neg n10, show f_X7_isBetween (nI y) 1 64 σ = some 1 from btw_yes q3 q4 σ, bi_some, if_neg n10, g9, if_neg e, needs_spec hR, bi_some, ← hσ1, vl_eq, u1 9 (by decide), show σ 9 1 = nI P from hR.2.2.1.2.2.2.1, h7, bi_some]
    · rw [f_X8_yarnFor, vl_eq, color8_yes q1 q2, bi_some, if_neg n10, in_eq, show f_X7_isBetween (nI y) 1 64 _ = some 1 from btw_yes q3 q4 _, bi_some, if_neg n10, ht, c2, if_neg e, vl_eq, show σ 184 3 = nI P from hR.2.1.2.2.2.1, h8, bi_some]
    · exact rel_free h (fun a q => by rw [wr_ne (by omega), u1 a (by omega)]) (by rw [wr_ne (by decide), u1 171 (by decide)]) (by rw [wr_ne (by decide), u1 173 (by decide)]) (by rw [wr_atne (by decide), u1 183 (by decide)]) (by rw [wr_atne (by decide), u1 183 (by decide)]) ht (by rw [wr_ne (by decide), u1 186 (by decide)]) (by rw [wr_ne (by decide), u1 187 (by decide)])
