/-! part 30: picks left -/
theorem sub_ge {a b : Nat} (ha : a < 2 ^ 30) (hb : b < 2 ^ 30) : (0 ≤ nI a - nI b) ↔ b ≤ a := by
  constructor
  · intro h
    refine Classical.byContradiction fun c => ?_
    have e : nI a - nI b = -(nI (b - a)) := by
      have e2 : nI b = nI (b - a) + nI a := by rw [nI_add]; congr 1; omega
      apply Int32.toBitVec_inj.mp
      rw [e2, Int32.toBitVec_sub, Int32.toBitVec_add, Int32.toBitVec_neg, BitVec.sub_eq_add_neg, BitVec.neg_add, BitVec.sub_eq_add_neg, BitVec.add_comm, BitVec.add_assoc, BitVec.add_comm (-(nI a).toBitVec), ← BitVec.sub_eq_add_neg, BitVec.sub_self, BitVec.add_zero]
    rw [e] at h
    have h2 := Int32.le_iff_toInt_le.mp h
    rw [Int32.toInt_neg, nI_toInt (by omega), Int.bmod_eq_of_le (by omega) (by omega)] at h2
    have h3 : Int32.toInt 0 = 0 := rfl
    omega
  · intro h
    rw [nI_sub h]
    exact nI_le (Nat.zero_le _) (by omega)
def plV (v : Nat → Int32) (S W B : Nat) : Nat → Nat → (Nat → Nat) → Nat
  | 0, _, _ => 0
  | m + 1, b, y => if y (dV v b) < wV v S W b then 0 else 1 + plV v S W B m (nbV v B b) (fun q => if q = dV v b then y q - wV v S W b else y q)
section PL
variable {σ σ0 τ0 : Nat → Nat → Int32} {v : Nat → Int32} {k S W B P N : Nat}
theorem picks7 (hR : RS σ 1 v k S W B P N) (hn : ∀ p, p < B → σ 180 p = nI (wV v S W p)) : ∀ m b y c σ', c + m = 500 → b < B → (∀ a, a ≠ 182 → σ' a = σ a) → (∀ q, q < 10 → σ' 182 q = nI (y q)) → (∀ q, q < 10 → y q < 2 ^ 30) → ∀ F, m < F → ∃ z τ, lp b_X7_picksLeft_60 F (nI b, nI c, σ') = some z ∧ (z = .inl (nI (c + plV v S W B m b y), τ) ∨ (z = .inr τ ∧ c + plV v S W B m b y = 500)) ∧ ∀ a, a ≠ 182 → τ a = σ a := by
  have hB := hR.1.2.2.2.2.1
  have hW := hR.1.2.2.2.1
  have h4 : v 4 = 0 ∨ v 4 = 1 := hR.2.1.2.2.2.2.2
  intro m
  induction m with
  | zero =>
    intro b y c σ' hc hb h1 h2 h3 F hF
    obtain ⟨G, rfl⟩ : ∃ G, F = G + 1 := ⟨F - 1, by omega⟩
    have : c = 500 := by omega
    subst this
    refine ⟨.inr σ', σ', ?_, Or.inr ⟨rfl, rfl⟩, h1⟩
    rw [lp_s, b_X7_picksLeft_60, if_pos (show (500 : Int32) ≤ nI 500 by decide), lkr]
  | succ m ih =>
    intro b y c σ' hc hb h1 h2 h3 F hF
    obtain ⟨G, rfl⟩ : ∃ G, F = G + 1 := ⟨F - 1, by omega⟩
    obtain ⟨d1, d2⟩ := dV_eq hR hb
    have w1 := wV_le v S W b
    have y1 := h3 _ d2
    rw [lp_s, b_X7_picksLeft_60, if_neg (show ¬ (500 : Int32) ≤ nI c from nI_ge (b := 500) (by omega) (by omega)), num_at (by omega) (by decide), bi_some, h1 _ (by decide), show σ (12 + 1) b = _ from (hR.2.2.2.2.2.1 b hb).2.1, d1, num_at d2 (by decide), bi_some, show 181 + 1 = 182 from rfl, h2 _ d2, num_at (by omega) (by decide), bi_some, show 179 + 1 = 180 from rfl, h1 180 (by decide), hn b hb, vl_eq, plV]
    by_cases e : y (dV v b) < wV v S W b
    · rw [if_neg (fun z => by have := (sub_ge y1 (by omega)).mp z; omega), if_pos e, lkr]
      exact ⟨_, σ', rfl, Or.inl rfl, h1⟩
    · have ha : f_X0_barAfter 9 (nI b) (wr σ' 182 (dV v b) (nI (y (dV v b) - wV v S W b))) = some (nI (nbV v B b)) := after7 (by rw [wr_ne (by decide), h1 9 (by decide)]; exact hR.2.2.1.2.2.1) (by rw [wr_ne (by decide), h1 9 (by decide)]; exact hR.2.2.1.2.2.2.2.2) h4 hb hB
      rw [if_pos ((sub_ge y1 (by omega)).mpr (by omega)), if_neg e, nI_sub (by omega), num_put d2 (by decide), bi_some, show 181 + 1 = 182 from rfl, ha, bi_some, vl_eq, nI_1, lkl]
      obtain ⟨z, τ, g1, g2, g3⟩ := ih (nbV v B b) (fun q => if q = dV v b then y q - wV v S W b else y q) (c + 1) (wr σ' 182 (dV v b) (nI (y (dV v b) - wV v S W b))) (by omega) (nbV_lt hb) (fun a q => by rw [wr_ne q, h1 a q]) (fun q hq => by
        by_cases e2 : q = dV v b
        · subst e2; rw [wr_at, if_pos rfl]
        · rw [wr_atne e2, if_neg e2, h2 q hq]) (fun q hq => by
        have := h3 q hq
        split <;> omega) G (by omega)
      refine ⟨z, τ, g1, ?_, g3⟩
      rw [← Nat.add_assoc]
      exact g2
theorem picks8 (hR : RS σ 1 v k S W B P N) (ht : τ0 184 = v) : ∀ m b y c τ', c + m = 500 → b < B → (∀ a, a ≠ 185 → τ' a = τ0 a) → (∀ q, q < 10 → τ' 185 q = nI (y q)) → (∀ q, q < 10 → y q < 2 ^ 30) → ∀ F, m < F → ∃ τ, lp b_X8_picksLeft_62 F (nI b, nI c, τ') = some (nI (c + plV v S W B m b y), τ) ∧ ∀ a, a ≠ 185 → τ a = τ0 a := by
  have hB := hR.1.2.2.2.2.1
  have hW := hR.1.2.2.2.1
  have h4 : v 4 = 0 ∨ v 4 = 1 := hR.2.1.2.2.2.2.2
  intro m
  induction m with
  | zero =>
    intro b y c τ' hc hb h1 h2 h3 F hF
    obtain ⟨G, rfl⟩ : ∃ G, F = G + 1 := ⟨F - 1, by omega⟩
    have : c = 500 := by omega
    subst this
    refine ⟨τ', ?_, h1⟩
    rw [lp_s, b_X8_picksLeft_62, if_pos (show (500 : Int32) ≤ nI 500 by decide), lkr]
    rfl
  | succ m ih =>
    intro b y c τ' hc hb h1 h2 h3 F hF
    obtain ⟨G, rfl⟩ : ∃ G, F = G + 1 := ⟨F - 1, by omega⟩
    obtain ⟨d1, d2⟩ := dV_eq hR hb
    have w1 := wV_le v S W b
    have y1 := h3 _ d2
    have ht' : τ' 184 = v := by rw [h1 184 (by decide), ht]
    have hd : nI (dV v b) = nI (dV v b) := rfl
    have hz : ¬ nI B = 0 := fun q => by have := nI_inj (b := 0) (by omega) (by decide) q; omega
    rw [lp_s, b_X8_picksLeft_62, if_neg (show ¬ (500 : Int32) ≤ nI c from nI_ge (b := 500) (by omega) (by omega)), ht', show (102 : Int32) + nI b = nI (102 + b) from nI_add 102 b, ix_nI (by omega) (by decide), nI_clamp (by omega), d1, ix_nI d2 (by decide), show f_X8_needOf (nI b) τ' = some (nI (wV v S W b)) from yarn8 hR ht' (by omega), bi_some, nI_clamp (by omega), h2 _ d2, plV]
    by_cases e : y (dV v b) < wV v S W b
    · rw [if_pos (nI_lt e (by omega)), if_pos e, lkr]
      exact ⟨τ', rfl, h1⟩
    · rw [if_neg (nI_nlt (by omega) (by omega)), if_neg e, ix_nI (by omega) (by decide), ix_nI d2 (by decide), bi_some, ix_nI d2 (by decide), nI_sub (by omega)]
      obtain ⟨τ1, hτ1⟩ : ∃ τ1, τ1 = wr τ' 185 (dV v b) (nI (y (dV v b) - wV v S W b)) := ⟨_, rfl⟩
      have ht1 : τ1 184 = v := by rw [hτ1, wr_ne (by decide), ht']
      rw [← hτ1]
      simp only [vl_eq]
      rw [onward8 ht1, bi_some, ht1, show v 2 = nI B from hR.2.1.2.2.1, nz_ok hz, next8 h4 hb hB, nI_1, lkl]
      obtain ⟨τ, g1, g2⟩ := ih (nbV v B b) (fun q => if q = dV v b then y q - wV v S W b else y q) (c + 1) τ1 (by omega) (nbV_lt hb) (fun a q => by rw [hτ1, wr_ne q, h1 a q]) (fun q hq => by
        rw [hτ1]
        by_cases e2 : q = dV v b
        · subst e2; rw [wr_at, if_pos rfl]
        · rw [wr_atne e2, if_neg e2, h2 q hq]) (fun q hq => by
        have := h3 q hq
        split <;> omega) G (by omega)
      refine ⟨τ, ?_, g2⟩
      rw [← Nat.add_assoc]
      exact g1
end PL
theorem aside_run (τ : Nat → Nat → Int32) : lp b_X8_picksLeft_26 FU (0, τ) = some (ur τ 185 (fun p => if p < 10 then τ 184 (126 + p) else τ 185 p)) := by
  refine lp_run (fun i => (nI i, ur τ 185 (fun p => if p < i then τ 184 (126 + p) else τ 185 p))) 10 (by omega) (fun i hi => ?_) ?_ ?_
  · show b_X8_picksLeft_26 (nI i, _) = _
    rw [b_X8_picksLeft_26, if_neg (show ¬ (10 : Int32) ≤ nI i from nI_ge (b := 10) hi (by omega)), show (126 : Int32) + nI i = nI (126 + i) from nI_add 126 i, ix_nI (by omega) (by decide), ix_nI hi (by decide), nI_clamp (by omega), nI_clamp (by omega), ur_ne (by decide), vl_eq, vl_eq, wr_ur, nI_1]
    refine congrArg (fun f => some (Sum.inl (nI (i + 1), ur τ 185 f))) (funext fun p => ?_)
    unfold upd
    by_cases e : p = i
    · subst e; rw [if_pos rfl, if_pos (by omega)]
    · rw [if_neg e]
      dsimp only
      by_cases e2 : p < i
      · rw [if_pos e2, if_pos (by omega)]
      · rw [if_neg e2, if_neg (by omega)]
  · show b_X8_picksLeft_26 (nI 10, _) = _
    rw [b_X8_picksLeft_26, if_pos (show (10 : Int32) ≤ nI 10 by decide)]
  · show (nI 0, _) = _
    congr 1
    rw [show (fun p => if p < 0 then τ 184 (126 + p) else τ 185 p) = τ 185 by funext p; rw [if_neg (by omega)], ur_self]
theorem op_24 (k : Nat) (σ : Nat → Nat → Int32) (h : Rel k σ) (hk : k < 512) : ∃ r σ1 σ2, f_X7_picksLeft  σ = some (r, σ1) ∧ f_X8_picksLeft  σ1 = some (r, σ2) ∧ Rel (k + 1) σ2 := by
  obtain ⟨⟨S, W, B, P, N, hR⟩, -, -⟩ := id h
  have hB := hR.1.2.2.2.2.1
  have g9 : σ 9 0 = nI B := hR.2.2.1.2.2.1
  have c2 : σ 184 2 = nI B := hR.2.1.2.2.1
  have ht : wr σ 183 0 0 184 = σ 184 := wr_ne (by decide)
  by_cases e : nI B = 0
  · refine ⟨-2, σ, wr σ 183 0 0, ?_, ?_, rel_thr h⟩
    · rw [f_X7_picksLeft, g9, if_pos e]
    · rw [f_X8_picksLeft, vl_eq, ht, c2, if_pos e]
  by_cases e2 : standV (σ 184) W N = 0
  · have hPB : P < B := hR.1.2.2.2.2.2.1.resolve_right (fun q => e (by rw [q.1]; rfl))
    obtain ⟨σn, hσn⟩ : ∃ σn, σn = ur σ 180 (fun p => if p < B then nI (wV (σ 184) S W p) else σ 180 p) := ⟨_, rfl⟩
    have n1 : ∀ a, a ≠ 180 → σn a = σ a := fun a q => by rw [hσn, ur_ne q]
    have n2 : ∀ p, p < B → σn 180 p = nI (wV (σ 184) S W p) := fun p q => by rw [hσn, ur_at, if_pos q]
    have hRn : RS σn 1 (σ 184) k S W B P N := RS_frame (Nat.le_refl k) (fun a _ q => n1 a (by omega)) hR
    obtain ⟨y, hy⟩ : ∃ y : Nat → Nat, y = fun q => (σ 184 (126 + q)).toNatClampNeg := ⟨_, rfl⟩
    have hy1 : ∀ q, q < 10 → σ 184 (126 + q) = nI (y q) ∧ y q < 2 ^ 30 := fun q hq => by
      obtain ⟨-, z, z1, z2⟩ := hR.2.2.2.2.2.2.1 q hq
      rw [hy]
      dsimp only
      rw [z2, nI_clamp (by omega)]
      exact ⟨rfl, by omega⟩
    obtain ⟨z, τ, g1, g2, g3⟩ := picks7 hRn n2 500 P y 0 (wc σn 182 15 10) rfl hPB (fun a q => wc_ne q) (fun q hq => by
      rw [wc_eq, cpy_at hq, n1 15 (by decide), show σ 15 q = σ 184 (126 + q) from (hR.2.2.2.2.2.2.1 q hq).1]
      exact (hy1 q hq).1) (fun q hq => (hy1 q hq).2) FU (by decide)
    have t1 : ∀ a, a ≠ 180 → a ≠ 182 → τ a = σ a := fun a q1 q2 => by rw [g3 a q2, n1 a q1]
    have c7 : f_X7_picksLeft σ = some (nI (plV (σ 184) S W B 500 P y), τ) := by
      rw [f_X7_picksLeft, g9, if_neg e, stand7 hR, bi_some, if_pos e2, needs_spec hR, bi_some, ← hσn, num_copy (by decide), bi_some, vl_eq, wc_ne (by decide), n1 9 (by decide), show σ 9 1 = nI P from hR.2.2.1.2.2.2.1, show lp b_X7_picksLeft_60 FU (nI P, 0, _) = _ from g1, bi_some]
      rcases g2 with q | ⟨q1, q2⟩
      · rw [q, sm_inl, Nat.zero_add]
      · rw [q1, sm_inr, show plV (σ 184) S W B 500 P y = 500 by omega]
        rfl
    have ht1 : wr τ 183 0 0 184 = σ 184 := by rw [wr_ne (by decide), t1 184 (by decide) (by decide)]
    have ht2 : ur (wr τ 183 0 0) 185 (fun p => if p < 10 then σ 184 (126 + p) else wr τ 183 0 0 185 p) 184 = σ 184 := by rw [ur_ne (by decide), ht1]
    obtain ⟨τ2, g4, g5⟩ := picks8 hR ht2 500 P y 0 _ rfl hPB (fun a _ => rfl) (fun q hq => by rw [ur_at, if_pos hq]; exact (hy1 q hq).1) (fun q hq => (hy1 q hq).2) FU (by decide)
    refine ⟨nI (plV (σ 184) S W B 500 P y), τ, τ2, c7, ?_, ?_⟩
    · rw [f_X8_picksLeft, vl_eq, ht1, c2, if_neg e, stand8 hR ht1, bi_some, if_pos e2, aside_run, ht1, bi_some, ur_ne (by decide), ht1, vl_eq, show σ 184 3 = nI P from hR.2.1.2.2.2.1, show lp b_X8_picksLeft_62 FU (nI P, 0, _) = _ from g4, b2_some, Nat.zero_add]
    · have v1 : ∀ a, a ≠ 180 → a ≠ 182 → a ≠ 183 → a ≠ 185 → τ2 a = σ a := fun a q1 q2 q3 q4 => by rw [g5 a q4, ur_ne q4, wr_ne q3, t1 a q1 q2]
      have v2 : ∀ i, i ≠ 0 → τ2 183 i = σ 183 i := fun i q => by rw [g5 183 (by decide), ur_ne (by decide), wr_atne q, t1 183 (by decide) (by decide)]
      exact rel_free h (fun a q => v1 a (by omega) (by omega) (by omega) (by omega)) (by rw [v1 171 (by decide) (by decide) (by decide) (by decide)]) (v1 173 (by decide) (by decide) (by decide) (by decide)) (v2 4 (by decide)) (v2 6 (by decide)) (v1 184 (by decide) (by decide) (by decide) (by decide)) (v1 186 (by decide) (by decide) (by decide) (by decide)) (v1 187 (by decide) (by decide) (by decide) (by decide))
  · refine ⟨-2, σ, wr σ 183 0 0, ?_, ?_, rel_thr h⟩
    · rw [f_X7_picksLeft, g9, if_neg e, stand7 hR, bi_some, if_neg e2]
    · rw [f_X8_picksLeft, vl_eq, ht, c2, if_neg e, stand8 hR ht, bi_some, if_neg e2]
