/-! part 42: the bars in a bracket, in both -/
def inM (t s F2 : Nat) (X : Nat → Nat → Int32) : Option (Int32 × (Nat → Nat → Int32)) := b2 (b2 (f_X8_readsBar X) fun r_1 σ_2 => b2 (lp b_X8_readsBars_5 F2 (r_1, σ_2)) fun z_5 σ_6 => bz z_5 <| some (z_5, σ_6)) fun r_16 σ_17 => cl8 t s r_16 σ_17
def inv (S n : Nat) (L Y : Nat → Int32) : Prop := ∀ i, i < n → (∃ x, x < 2 ^ S ∧ L i = nI x) ∧ ∃ c, c < 10 ∧ Y i = nI c
section IN
variable {σ τ : Nat → Nat → Int32} {S p q5 q6 n l t s : Nat} {L Y : Nat → Int32} {T : Nat → Nat}
theorem after59 (h : isT σ T l) (hp : p ≤ l) (i G : Nat) : afC i G (cM σ S p q5 q6 n L Y) = if ch T l (sk T l p) = 59 then lp b_X1_readChain_24 G (nI (i + 1), cM σ S (sk T l p + 1) q5 q6 n L Y) else some (.inr (.inr (cM σ S (sk T l p) q5 q6 n L Y)) : (Int32 × (Nat → Nat → Int32)) ⊕ ((Int32 × (Nat → Nat → Int32)) ⊕ (Nat → Nat → Int32))) >>= fun z => match z with | .inl x => lp b_X1_readChain_24 G x | .inr y => some y := by
  unfold afC
  rw [take7c h hp]
  by_cases e : ch T l (sk T l p) = 59
  · rw [if_pos e, if_pos e, b2_some, if_neg n10, vl_eq, nI_1, lkl]
  · rw [if_neg e, if_neg e, b2_some, if_pos rfl, lkr]
    rfl
theorem inM_0 {X Z : Nat → Nat → Int32} {F2 : Nat} (hF : 0 < F2) (h : f_X8_readsBar X = some (0, Z)) : inM t s F2 X = some (0, Z) := by
  obtain ⟨G, rfl⟩ : ∃ G, F2 = G + 1 := ⟨F2 - 1, by omega⟩
  unfold inM
  rw [h, b2_some, lp_s, b_X8_readsBars_5, if_pos rfl, lkr, b2_some, bz_ok (Or.inl rfl), b2_some, cl8, if_pos rfl]
theorem inM_1 {X : Nat → Nat → Int32} {F2 : Nat} (h8 : isM τ T l) (hp : p ≤ l) (h : f_X8_readsBar X = some (1, mM τ p n L Y)) : inM t s (F2 + 1) X = if ch T l (sk T l p) = 59 then inM t s F2 (mM τ (sk T l p + 1) n L Y) else cl8 t s 1 (mM τ (sk T l p) n L Y) := by
  unfold inM
  rw [h, b2_some, lp_s, b_X8_readsBars_5, if_neg n10, takes8 h8 hp]
  by_cases e : ch T l (sk T l p) = 59
  · rw [if_pos e, if_pos e, b2_some, if_neg n10]
    cases f_X8_readsBar (mM τ (sk T l p + 1) n L Y) with
    | none => rfl
    | some z => rfl
  · rw [if_neg e, if_neg e, b2_some, if_pos rfl, lkr, b2_some, bz_ok (Or.inr rfl), b2_some]
end IN
