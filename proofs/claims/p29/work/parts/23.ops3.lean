/-! part 23: wrong places, standing, counts, bars, the cut, the undo -/
def sumN (f : Nat → Nat) : Nat → Nat
  | 0 => 0
  | n + 1 => sumN f n + f n
theorem sumN_le {f : Nat → Nat} {c : Nat} (h : ∀ i, f i ≤ c) : ∀ n, sumN f n ≤ c * n
  | 0 => Nat.zero_le _
  | n + 1 => by
    have h1 := sumN_le h n
    have h2 := h n
    rw [sumN, Nat.mul_succ]
    omega
def wrongV (v : Nat → Int32) (W r : Nat) : Int32 := (aE W &&& (v (139 + 5 * r) ^^^ (-1))) ||| (v (138 + 5 * r) ^^^ (v (140 + 5 * r) &&& v (139 + 5 * r)))
section RF
variable {σ τ : Nat → Nat → Int32} {v : Nat → Int32} {k S W B P N : Nat}
theorem wrong7 {r : Nat} (hR : RS σ 1 v k S W B P N) (hr : r < N) : f_X2_wrongEnds 16 (nI r) σ = some (wrongV v W r) := by
  have hN := hR.1.2.2.2.2.2.2
  have hW := hR.1.2.2.2.1
  obtain ⟨-, -, h1, h2, h3, -, -, h4, h5, h6⟩ := hR.2.2.2.2.2.2.2 r hr
  rw [f_X2_wrongEnds, num_at (by omega) (by decide), bi_some, num_at (by omega) (by decide), bi_some, num_at (by omega) (by decide), bi_some, show σ (16 + 9 + 1) r = _ from h2, show σ (16 + 7 + 1) r = _ from h1, show σ (16 + 11 + 1) r = _ from h3]
  refine congrArg some (b_ext fun i hi => ?_)
  unfold wrongV
  rw [b_or, b_or, b_xor, b_xor, b_and, b_and, b_not _ hi, b_aE W hW i hi]
  have g4 := h4 i hi
  have g5 := h5 i hi
  have g6 := h6 i hi
  rw [b_aE W hW i hi] at g5 g6
  cases hw : bt (v (139 + 5 * r)) i
  · rw [hw] at g4
    cases ha : bt (v (138 + 5 * r)) i
    · by_cases q : i < W
      · simp [q]
      · have : bt (v (140 + 5 * r)) i = false := by
          cases hp : bt (v (140 + 5 * r)) i
          · rfl
          · exact absurd (of_decide_eq_true (g6 hp)) q
        simp [q, this]
    · exact absurd (g4 ha) (by decide)
  · simp
theorem allWrong7 (hR : RS σ 1 v k S W B P N) : f_X2_wrongPlaces 16 σ = some (nI (sumN (fun r => pc (wrongV v W r)) N)) := by
  have hN := hR.1.2.2.2.2.2.2
  have h5 : σ 16 0 = nI N := hR.2.2.1.2.2.2.2.1
  have hl : lp (b_X2_wrongPlaces_4 16 σ) FU (0, 0) = some (nI (sumN (fun r => pc (wrongV v W r)) N)) := by
    refine lp_run (fun i => (nI (sumN (fun r => pc (wrongV v W r)) i), nI i)) N (by omega) (fun i hi => ?_) ?_ rfl
    · show b_X2_wrongPlaces_4 16 σ (_, nI i) = _
      rw [b_X2_wrongPlaces_4, h5, if_neg (nI_ge hi (by omega)), wrong7 hR hi, bi_some, bitCount_spec, bi_some, vl_eq, vl_eq, nI_add, nI_1]
      rfl
    · show b_X2_wrongPlaces_4 16 σ (_, nI N) = _
      rw [b_X2_wrongPlaces_4, h5, if_pos (nI_le (Nat.le_refl N) (by omega))]
  rw [f_X2_wrongPlaces, hl, bi_some]
/-- nothing is missing exactly when the weft is everywhere -/
theorem miss_0 {r : Nat} (hR : RS σ 1 v k S W B P N) (hr : r < N) : aE W &&& (v (139 + 5 * r) ^^^ (-1)) = 0 ↔ v (139 + 5 * r) = aE W := by
  have hW := hR.1.2.2.2.1
  obtain ⟨-, -, -, -, -, -, -, -, h5, -⟩ := hR.2.2.2.2.2.2.2 r hr
  constructor
  · intro h
    apply b_ext
    intro i hi
    have g := congrArg (fun x => bt x i) h
    rw [b_and, b_not _ hi, b_0] at g
    have g5 := h5 i hi
    cases q : bt (v (139 + 5 * r)) i
    · rw [q] at g
      cases q2 : bt (aE W) i
      · rfl
      · rw [q2] at g; exact absurd g (by decide)
    · exact (g5 q).symm
  · intro h
    apply b_ext
    intro i hi
    rw [b_and, b_not _ hi, b_0, h]
    cases bt (aE W) i <;> rfl
def standV (v : Nat → Int32) (W N : Nat) : Int32 := if N = 0 ∨ v (139 + 5 * (N - 1)) = aE W then 0 else 1
theorem stand7 (hR : RS σ 1 v k S W B P N) : f_X2_isStanding 16 σ = some (standV v W N) := by
  have hN := hR.1.2.2.2.2.2.2
  have h5 : σ 16 0 = nI N := hR.2.2.1.2.2.2.2.1
  unfold standV
  rw [f_X2_isStanding, h5]
  by_cases e : N = 0
  · subst e; rw [if_pos (by decide), if_pos (Or.inl rfl)]
  · rw [if_neg (show ¬ nI N ≤ 0 from fun q => e (by
      rcases Nat.eq_zero_or_pos N with z | z
      · exact z
      · exact absurd q (nI_nle z (by omega)))), show nI N - 1 = nI (N - 1) from nI_sub (b := 1) (by omega), num_at (by omega) (by decide), bi_some, show σ (16 + 9 + 1) (N - 1) = _ from (hR.2.2.2.2.2.2.2 (N - 1) (by omega)).2.2.2.1]
    have hm := miss_0 hR (r := N - 1) (by omega)
    by_cases e2 : v (139 + 5 * (N - 1)) = aE W
    · rw [if_pos (hm.mpr e2), if_pos (Or.inr e2)]
    · rw [if_neg (fun q => e2 (hm.mp q)), if_neg (fun q => q.elim e e2)]
end RF
