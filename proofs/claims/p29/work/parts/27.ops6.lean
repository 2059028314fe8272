/-! part 27: ends, cells, floats -/
section RW
variable {σ τ : Nat → Nat → Int32} {v : Nat → Int32} {k S W B P N : Nat}
def tN (b : Bool) : Nat := if b = true then 1 else 0
theorem above7 {e : Nat} (hR : RS σ 1 v k S W B P N) (he : e < W) : f_X2_rowsAbove 16 (nI e) σ = some (nI (sumN (fun r => tN (bt (v (138 + 5 * r)) e)) N)) := by
  have hN := hR.1.2.2.2.2.2.2
  have hW := hR.1.2.2.2.1
  have c1 : σ 16 0 = nI N := hR.2.2.1.2.2.2.2.1
  have hl : lp (b_X2_rowsAbove_4 16 (nI e) σ) FU (0, 0) = some (nI (sumN (fun r => tN (bt (v (138 + 5 * r)) e)) N)) := by
    refine lp_run (fun i => (nI (sumN (fun r => tN (bt (v (138 + 5 * r)) e)) i), nI i)) N (by omega) (fun i hi => ?_) ?_ rfl
    · show b_X2_rowsAbove_4 16 (nI e) σ (_, nI i) = _
      rw [b_X2_rowsAbove_4, c1, if_neg (nI_ge hi (by omega)), num_at (by omega) (by decide), bi_some, show σ (16 + 7 + 1) i = _ from (hR.2.2.2.2.2.2.2 i hi).2.2.1, bitOf_spec (by omega), bi_some, vl_eq, vl_eq, nI_1, show (if bt (v (138 + 5 * i)) e = true then (1 : Int32) else 0) = nI (tN (bt (v (138 + 5 * i)) e)) by cases bt (v (138 + 5 * i)) e <;> rfl, nI_add]
      rfl
    · show b_X2_rowsAbove_4 16 (nI e) σ (_, nI N) = _
      rw [b_X2_rowsAbove_4, c1, if_pos (nI_le (Nat.le_refl N) (by omega))]
  rw [f_X2_rowsAbove, hl, bi_some]
theorem rowsWrong7 {e : Nat} (hR : RS σ 1 v k S W B P N) (he : e < W) : f_X2_rowsWrong 16 (nI e) σ = some (nI (sumN (fun r => tN (bt (wrongV v W r) e)) N)) := by
  have hN := hR.1.2.2.2.2.2.2
  have hW := hR.1.2.2.2.1
  have c1 : σ 16 0 = nI N := hR.2.2.1.2.2.2.2.1
  have hl : lp (b_X2_rowsWrong_4 16 (nI e) σ) FU (0, 0) = some (nI (sumN (fun r => tN (bt (wrongV v W r) e)) N)) := by
    refine lp_run (fun i => (nI (sumN (fun r => tN (bt (wrongV v W r) e)) i), nI i)) N (by omega) (fun i hi => ?_) ?_ rfl
    · show b_X2_rowsWrong_4 16 (nI e) σ (_, nI i) = _
      rw [b_X2_rowsWrong_4, c1, if_neg (nI_ge hi (by omega)), wrong7 hR hi, bi_some, bitOf_spec (by omega), bi_some, vl_eq, vl_eq, nI_1, show (if bt (wrongV v W i) e = true then (1 : Int32) else 0) = nI (tN (bt (wrongV v W i) e)) by cases bt (wrongV v W i) e <;> rfl, nI_add]
      rfl
    · show b_X2_rowsWrong_4 16 (nI e) σ (_, nI N) = _
      rw [b_X2_rowsWrong_4, c1, if_pos (nI_le (Nat.le_refl N) (by omega))]
  rw [f_X2_rowsWrong, hl, bi_some]
end RW
