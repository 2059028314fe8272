/-! part 29: the next bar, needs of bars, picks left, yarn for -/
/-- the bar after, in both -/
def nbV (v : Nat → Int32) (B b : Nat) : Nat := if v 4 = 0 then (if B ≤ b + 1 then 0 else b + 1) else (if b = 0 then B - 1 else b - 1)
def pbV (v : Nat → Int32) (B b : Nat) : Nat := if v 4 = 0 then (if b = 0 then B - 1 else b - 1) else (if B ≤ b + 1 then 0 else b + 1)
theorem nbV_lt {v : Nat → Int32} {B b : Nat} (h : b < B) : nbV v B b < B := by
  unfold nbV
  split
  · split <;> omega
  · split <;> omega
theorem pbV_lt {v : Nat → Int32} {B b : Nat} (h : b < B) : pbV v B b < B := by
  unfold pbV
  split
  · split <;> omega
  · split <;> omega
theorem above_spec {σ : Nat → Nat → Int32} {o B b : Nat} (h0 : σ o 0 = nI B) (hb : b < B) (hB : B ≤ 24) : f_X0_barAbove o (nI b) σ = some (nI (if B ≤ b + 1 then 0 else b + 1)) := by
  rw [f_X0_barAbove, h0, nI_1]
  by_cases e : B ≤ b + 1
  · rw [if_pos (nI_le e (by omega)), if_pos e]; rfl
  · rw [if_neg (nI_ge (by omega) (by omega)), if_neg e]
theorem below_spec {σ : Nat → Nat → Int32} {o B b : Nat} (h0 : σ o 0 = nI B) (hb : b < B) (hB : B ≤ 24) : f_X0_barBelow o (nI b) σ = some (nI (if b = 0 then B - 1 else b - 1)) := by
  rw [f_X0_barBelow, h0]
  by_cases e : b = 0
  · subst e
    rw [if_pos (by decide), if_pos rfl, show nI B - 1 = nI (B - 1) from nI_sub (b := 1) (by omega)]
  · rw [if_neg (nI_nle (by omega) (by omega)), if_neg e, show nI b - 1 = nI (b - 1) from nI_sub (b := 1) (by omega)]
section NB
variable {σ τ : Nat → Nat → Int32} {v : Nat → Int32} {B b : Nat}
theorem after7 {o : Nat} (h0 : σ o 0 = nI B) (h2 : σ o 2 = v 4) (h4 : v 4 = 0 ∨ v 4 = 1) (hb : b < B) (hB : B ≤ 24) : f_X0_barAfter o (nI b) σ = some (nI (nbV v B b)) := by
  rw [f_X0_barAfter, h2]
  unfold nbV
  rcases h4 with e | e
  · rw [e, if_neg (by decide), above_spec h0 hb hB, bi_some, if_pos rfl]
  · rw [e, if_pos rfl, below_spec h0 hb hB, bi_some, if_neg n10]
theorem before7 {o : Nat} (h0 : σ o 0 = nI B) (h2 : σ o 2 = v 4) (h4 : v 4 = 0 ∨ v 4 = 1) (hb : b < B) (hB : B ≤ 24) : f_X0_barBefore o (nI b) σ = some (nI (pbV v B b)) := by
  rw [f_X0_barBefore, h2]
  unfold pbV
  rcases h4 with e | e
  · rw [e, if_neg (by decide), below_spec h0 hb hB, bi_some, if_pos rfl]
  · rw [e, if_pos rfl, above_spec h0 hb hB, bi_some, if_neg n10]
theorem mod_up (hb : b < B) (hB : B ≤ 24) : (nI b + 1 + nI B) - (nI b + 1 + nI B) / nI B * nI B = nI (if B ≤ b + 1 then 0 else b + 1) := by
  rw [nI_1, nI_add, nI_rem (by omega) (by omega)]
  congr 1
  rw [Nat.add_mod_right]
  split
  · rw [show b + 1 = B by omega, Nat.mod_self]
  · exact Nat.mod_eq_of_lt (by omega)
theorem add_m1 (hb : b < B) : nI b + -1 + nI B = nI (b + B - 1) := by
  have e : nI b + -1 + nI B = nI (b + B) - 1 := by
    apply Int32.toBitVec_inj.mp
    show BitVec.ofNat 32 b + (-1#32) + BitVec.ofNat 32 B = BitVec.ofNat 32 (b + B) - 1#32
    rw [BitVec.ofNat_add, BitVec.sub_eq_add_neg, BitVec.add_assoc, BitVec.add_assoc, BitVec.add_comm (-1#32)]
  rw [e]
  exact nI_sub (b := 1) (by omega)
theorem mod_dn (hb : b < B) (hB : B ≤ 24) : (nI b + -1 + nI B) - (nI b + -1 + nI B) / nI B * nI B = nI (if b = 0 then B - 1 else b - 1) := by
  rw [add_m1 hb, nI_rem (by omega) (by omega)]
  congr 1
  by_cases e : b = 0
  · subst e
    rw [if_pos rfl, show 0 + B - 1 = B - 1 by omega]
    exact Nat.mod_eq_of_lt (by omega)
  · rw [if_neg e, show b + B - 1 = b - 1 + B by omega, Nat.add_mod_right]
    exact Nat.mod_eq_of_lt (by omega)
theorem next8 (h4 : v 4 = 0 ∨ v 4 = 1) (hb : b < B) (hB : B ≤ 24) : (nI b + (if v 4 = 0 then 1 else -1) + nI B) - (nI b + (if v 4 = 0 then 1 else -1) + nI B) / nI B * nI B = nI (nbV v B b) := by
  unfold nbV
  rcases h4 with e | e
  · rw [e, if_pos rfl, if_pos rfl]
    exact mod_up hb hB
  · rw [e, if_neg (by decide), if_neg (by decide)]
    exact mod_dn hb hB
theorem prev8 (h4 : v 4 = 0 ∨ v 4 = 1) (hb : b < B) (hB : B ≤ 24) : (nI b + -(if v 4 = 0 then 1 else -1) + nI B) - (nI b + -(if v 4 = 0 then 1 else -1) + nI B) / nI B * nI B = nI (pbV v B b) := by
  unfold pbV
  rcases h4 with e | e
  · rw [e, if_pos rfl, if_pos rfl]
    exact mod_dn hb hB
  · rw [e, if_neg (by decide), if_neg (by decide)]
    exact mod_up hb hB
end NB
def wV (v : Nat → Int32) (S W i : Nat) : Nat := wholeV (endsV v (liftV v (v (78 + i)) S) W) W
theorem wV_le (v : Nat → Int32) (S W i : Nat) : wV v S W i ≤ 2 * W := sumN_le (fun i => by
  unfold ndV
  split
  · omega
  · split <;> omega) W
/-- the dye of a bar -/
def dV (v : Nat → Int32) (b : Nat) : Nat := (v (102 + b)).toNatClampNeg
theorem dV_eq {σ : Nat → Nat → Int32} {v : Nat → Int32} {k S W B P N b : Nat} (hR : RS σ 1 v k S W B P N) (hb : b < B) : v (102 + b) = nI (dV v b) ∧ dV v b < 10 := by
  obtain ⟨-, -, -, c, h1, h2⟩ := hR.2.2.2.2.2.1 b hb
  unfold dV
  rw [h2, nI_clamp (by omega)]
  exact ⟨rfl, h1⟩
def barI (v : Nat → Int32) (B P : Nat) : Nat → Nat
  | 0 => P
  | i + 1 => nbV v B (barI v B P i)
theorem barI_lt {v : Nat → Int32} {B P : Nat} (h : P < B) : ∀ i, barI v B P i < B
  | 0 => h
  | i + 1 => nbV_lt (barI_lt h i)
