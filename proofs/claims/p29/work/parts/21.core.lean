/-! part 21: bits of sets, the order of the weft, needs, lifted shafts -/
theorem b_one : ∀ j, j < 32 → bt 1 j = decide (j = 0) := by decide +kernel
theorem b_nI {n i : Nat} (h : i < 32) : bt (nI n) i = n.testBit i := by
  show (BitVec.ofNat 32 n).getLsbD i = _
  rw [BitVec.getLsbD_ofNat, decide_eq_true h, Bool.true_and]
theorem and1 (y : Int32) : y &&& 1 = if bt y 0 = true then 1 else 0 := by
  apply b_ext
  intro i hi
  rw [b_and, b_one i hi]
  by_cases e : i = 0
  · subst e
    cases bt y 0 <;> rfl
  · rw [decide_eq_false e, Bool.and_false]
    split
    · rw [b_one i hi, decide_eq_false e]
    · rw [b_0]
theorem hs_bit {x : Int32} {i : Nat} (hi : i < 32) : ((x >>> (nI i &&& 31)) &&& 1) = if bt x i = true then 1 else 0 := by
  rw [and1, b_sshr i hi x (by decide : 0 < 32), if_pos (show i + 0 < 32 from hi)]
  rfl
theorem us_bit {x : Int32} {i : Nat} (hi : i < 32) : (usr x (nI i) &&& 1) = if bt x i = true then 1 else 0 := by
  rw [and1]
  unfold usr
  rw [b_ushr i hi x 0]
  rfl
theorem bitOf_spec {x : Int32} {i : Nat} (hi : i < 32) (σ : Nat → Nat → Int32) : f_X7_bitOf x (nI i) σ = some (if bt x i = true then 1 else 0) := by
  rw [f_X7_bitOf, us_bit hi]
theorem nI_div {a b : Nat} (ha : a < 2 ^ 31) (hb : b < 2 ^ 31) : nI a / nI b = nI (a / b) := by
  have hle : a / b ≤ a := Nat.div_le_self a b
  apply Int32.toInt_inj.mp
  rw [Int32.toInt_div, nI_toInt ha, nI_toInt hb, nI_toInt (by omega), ← Int.ofNat_tdiv]
  generalize a / b = q at hle ⊢
  exact Int.bmod_eq_of_le (by omega) (by omega)
theorem nI_rem {a b : Nat} (ha : a < 2 ^ 31) (hb : b < 2 ^ 31) : nI a - nI a / nI b * nI b = nI (a % b) := by
  rw [nI_div ha hb, nI_mul, nI_sub (Nat.div_mul_le_self a b), Nat.mod_eq_sub_div_mul]
theorem par_m {r : Nat} (hr : r < 2 ^ 31) : (nI r - nI r / 2 * 2 = 0) ↔ r % 2 = 0 := by
  rw [show nI r - nI r / 2 * 2 = nI (r % 2) from nI_rem (b := 2) hr (by decide)]
  exact nI_eq (b := 0) (by omega) (by decide)
theorem par_c {r : Nat} (hr : r < 2 ^ 31) : (nI r &&& 1 = 0) ↔ r % 2 = 0 := by
  rw [and1, b_nI (by decide), Nat.testBit_zero]
  by_cases e : r % 2 = 1
  · rw [if_pos (by simp [e])]
    exact ⟨fun q => absurd q (by decide), fun q => by omega⟩
  · rw [if_neg (by simp [e])]
    exact ⟨fun _ => by omega, fun _ => rfl⟩
theorem eA_lt {W r k : Nat} (h : k < W) : eA W r k < W := by unfold eA; split <;> omega
/-- the shafts that are lifted, with faults -/
def liftV (v : Nat → Int32) (a : Int32) : Nat → Int32
  | 0 => a
  | s + 1 => if v (70 + s) = 1 then liftV v a s &&& ((1 <<< (nI s &&& 31)) ^^^ (-1)) else if v (70 + s) = 2 then liftV v a s ||| (1 <<< (nI s &&& 31)) else liftV v a s
theorem lift7 {σ : Nat → Nat → Int32} {o S : Nat} {v : Nat → Int32} (hS : σ o 0 = nI S) (hS2 : S ≤ 8) (hf : ∀ i, i < S → σ (o + 6) i = v (70 + i)) (a : Int32) : f_X6_liftedShafts o a σ = some (liftV v a S) := by
  have hl : lp (b_X6_liftedShafts_4 o σ) FU (a, 0) = some (liftV v a S) := by
    refine lp_run (fun i => (liftV v a i, nI i)) S (by omega) (fun i hi => ?_) ?_ rfl
    · show b_X6_liftedShafts_4 o σ (_, nI i) = _
      rw [b_X6_liftedShafts_4, hS, if_neg (nI_ge hi (by omega)), num_at (by omega) (by decide), bi_some, show o + 5 + 1 = o + 6 from rfl, hf i hi]
      show _ = some (Sum.inl (liftV v a (i + 1), nI (i + 1)))
      rw [liftV, ← nI_1]
      by_cases e1 : v (70 + i) = 1
      · rw [if_pos e1, if_pos e1]; rfl
      · rw [if_neg e1, if_neg e1]
        by_cases e2 : v (70 + i) = 2
        · rw [if_pos e2, if_pos e2]; rfl
        · rw [if_neg e2, if_neg e2]; rfl
    · show b_X6_liftedShafts_4 o σ (_, nI S) = _
      rw [b_X6_liftedShafts_4, hS, if_pos (nI_le (Nat.le_refl S) (by omega))]
  rw [f_X6_liftedShafts, hl, bi_some]
/-- the ends on a set of shafts -/
def endsV (v : Nat → Int32) (a : Int32) : Nat → Int32
  | 0 => 0
  | e + 1 => endsV v a e ||| (if bt a (v (6 + e)).toNatClampNeg = true then 1 <<< (nI e &&& 31) else 0)
theorem b_end (v : Nat → Int32) (a : Int32) : ∀ W, W ≤ 32 → ∀ i, i < 32 → bt (endsV v a W) i = (decide (i < W) && bt a (v (6 + i)).toNatClampNeg) := by
  intro W
  induction W with
  | zero => intro _ i hi; rw [endsV, b_0]; simp
  | succ W ih =>
    intro hW i hi
    rw [endsV, b_or, ih (by omega) i hi]
    by_cases e : i = W
    · subst e
      rw [decide_eq_false (Nat.lt_irrefl i), Bool.false_and, Bool.false_or, decide_eq_true (Nat.lt_succ_self i), Bool.true_and]
      split
      · next q => rw [b_shl i hi 1 hi, b_one _ (by omega), q]; simp
      · next q => rw [b_0]; simp at q; rw [q]
    · have h0 : bt (if bt a (v (6 + W)).toNatClampNeg = true then (1 : Int32) <<< (nI W &&& 31) else 0) i = false := by
        split
        · rw [b_shl W (by omega) 1 hi]
          by_cases q : W ≤ i
          · rw [b_one _ (by omega), decide_eq_false (by omega : ¬ i - W = 0), Bool.and_false]
          · rw [decide_eq_false q, Bool.false_and]
        · rw [b_0]
      rw [h0, Bool.or_false]
      congr 1
      by_cases q : i < W
      · rw [decide_eq_true q, decide_eq_true (by omega)]
      · rw [decide_eq_false q, decide_eq_false (by omega)]
theorem ends7 {σ : Nat → Nat → Int32} {o W : Nat} {v : Nat → Int32} (hW : σ o 1 = nI W) (hW2 : W ≤ 32) (he : ∀ e, e < W → σ (o + 2) e = v (6 + e) ∧ ∃ s, s < 32 ∧ v (6 + e) = nI s) (a : Int32) : f_X6_endsOn o a σ = some (endsV v a W) := by
  have hl : lp (b_X6_endsOn_4 o a σ) FU (0, 0) = some (endsV v a W) := by
    refine lp_run (fun i => (endsV v a i, nI i)) W (by omega) (fun i hi => ?_) ?_ rfl
    · show b_X6_endsOn_4 o a σ (_, nI i) = _
      obtain ⟨h0, s, h1, h2⟩ := he i hi
      rw [b_X6_endsOn_4, hW, if_neg (nI_ge hi (by omega)), num_at (by omega) (by decide), bi_some, show o + 1 + 1 = o + 2 from rfl, h0, h2, bitOf_spec h1, bi_some, vl_eq, vl_eq]
      show _ = some (Sum.inl (endsV v a (i + 1), nI (i + 1)))
      rw [endsV, h2, nI_clamp (by omega), nI_1]
      cases bt a s
      · have z : ∀ y : Int32, (0 : Int32) <<< y = 0 := fun y => by
          apply Int32.toBitVec_inj.mp
          rw [Int32.toBitVec_shiftLeft]
          simp
        simp [z]
      · rfl
    · show b_X6_endsOn_4 o a σ (_, nI W) = _
      rw [b_X6_endsOn_4, hW, if_pos (nI_le (Nat.le_refl W) (by omega))]
  rw [f_X6_endsOn, hl, bi_some]
theorem all7 {σ : Nat → Nat → Int32} {o W : Nat} (hW : σ o 1 = nI W) (hW2 : W ≤ 32) : f_X6_allEnds o σ = some (aE W) := by
  rw [f_X6_allEnds, hW]
  unfold aE
  by_cases e : W = 32
  · rw [if_pos e, e]; rfl
  · rw [if_pos (show nI W < (32 : Int32) from nI_lt (b := 32) (by omega) (by decide)), if_neg e]
/-- bits outside a set -/
theorem b_not (x : Int32) {i : Nat} (hi : i < 32) : bt (x ^^^ (-1)) i = !bt x i := by rw [b_xor, b_m1 i hi, Bool.xor_true]
