/-! part 30: picks left -/
theorem sub_ge {a b : Nat} (ha : a < 2 ^ 30) (hb : b < 2 ^ 30) : (0 ≤ nI a - nI b) ↔ b ≤ a := by
  constructor
  · intro h
    refine Classical.byContradiction fun c => ?_
    have e : nI a - nI b = -(nI (b - a)) := by
      have e2 : nI b = nI (b - a) + nI a := by rw [nI_add]; congr 1; omega
      apply Int32.toBitVec_inj.mp
      rw [e2, Int32.toBitVec_sub, Int32.toBitVec_add, Int32.toBitVec_neg, BitVec.sub_eq_add_neg, BitVec.neg_add, BitVec.sub_eq_add_neg, BitVec.add_comm, BitVec.add_assoc, BitVec.add_comm (-(nI a).toBitVec), ← BitVec.sub_eq_add_neg, BitVec.sub_self, BitVec.add_zero]
    rw [e] at h
    have h2 := Int32.le_iff_toInt_le.mp h
    rw [Int32.toInt_neg, nI_toInt (by omega), Int.bmod_eq_of_le (by omega) (by omega)] at h2
    have h3 : Int32.toInt 0 = 0 := rfl
    omega
  · intro h
    rw [nI_sub h]
    exact nI_le (Nat.zero_le _) (by omega)
def plV (v : Nat → Int32) (S W B : Nat) : Nat → Nat → (Nat → Nat) → Nat
  | 0, _, _ => 0
  | m + 1, b, y => if y (dV v b) < wV v S W b then 0 else 1 + plV v S W B m (nbV v B b) (fun q => if q = dV v b then y q - wV v S W b else y q)
section PL
variable {σ σ0 τ0 : Nat → Nat → Int32} {v : Nat → Int32} {k S W B P N : Nat}
end PL
