/-! part 37: a bar, read -/
theorem ch_is {T : Nat → Nat} {l p c : Nat} (hT : p < l → T p < 256) (hc : c < 256) : ch T l p = nI c ↔ p < l ∧ T p = c := by
  unfold ch
  by_cases e : p < l
  · have := hT e
    rw [if_pos e]
    constructor
    · intro q; exact ⟨e, nI_inj (by omega) (by omega) q⟩
    · intro q; rw [q.2]
  · rw [if_neg e]
    constructor
    · intro q
      exact absurd (show (0 : Int32) ≤ nI c from nI_le (Nat.zero_le c) (by omega)) (by rw [← q]; decide)
    · intro q; exact absurd q.1 e
/-- behind the lift: in the class, in the reference -/
def tC (v_20 : Int32) (σ_21 : Nat → Nat → Int32) : Option (Int32 × (Nat → Nat → Int32)) := b2 (f_X1_take 99 σ_21) fun r_24 σ_25 => jn (α := Int32 → (Nat → Nat → Int32) → _) (fun k_37 => if r_24 = 0 then (k_37 0 σ_25) else (b2 (f_X1_peek σ_25) fun r_41 σ_42 => bi (f_X1_isDigit r_41 σ_42) fun r_43 => if r_43 = 0 then (some (0, σ_42)) else (b2 (f_X1_peek σ_42) fun r_44 σ_45 => vl (r_44 - 48) fun x_46 => vl (wr σ_45 171 3 ((σ_45 171 3) + 1)) fun σ_47 => k_37 x_46 σ_47))) (fun v_35 σ_36 => bi (f_X0_addLast 174 v_20 v_35 σ_36) fun σ_40 => some (1, σ_40))
def tM (r_1 : Int32) (σ_2 : Nat → Nat → Int32) : Option (Int32 × (Nat → Nat → Int32)) := b2 (f_X8_takes 99 σ_2) fun r_3 σ_4 => jn (α := Int32 → (Nat → Nat → Int32) → _) (fun k_15 => if r_3 = 0 then (k_15 0 σ_4) else (b2 (f_X8_isDigit σ_4) fun r_20 σ_21 => if r_20 = 0 then (some (0, σ_21)) else (b2 (f_X8_here σ_21) fun r_22 σ_23 => vl (r_22 - 48) fun x_24 => vl (wr σ_23 183 10 ((σ_23 183 10) + 1)) fun σ_25 => k_15 x_24 σ_25))) (fun v_13 σ_14 => ix (σ_14 183 9) 24 <| vl (wr σ_14 188 (σ_14 183 9).toNatClampNeg r_1) fun σ_17 => ix (σ_17 183 9) 24 <| vl (wr σ_17 189 (σ_17 183 9).toNatClampNeg v_13) fun σ_18 => vl (wr σ_18 183 9 ((σ_18 183 9) + 1)) fun σ_19 => some (1, σ_19))
section BR
variable {σ τ : Nat → Nat → Int32} {S p q5 q6 n l : Nat} {L Y : Nat → Int32} {T : Nat → Nat}
theorem addC (x c : Int32) (hn : n < 24) : f_X0_addLast 174 x c (cM σ S p q5 q6 n L Y) = some (cM σ S p q5 q6 (n + 1) (upd L n x) (upd Y n c)) := by
  have e0 : cM σ S p q5 q6 n L Y 174 0 = nI n := rfl
  rw [f_X0_addLast, f_X0_isFull, e0, if_pos (show nI n < 24 from nI_lt (b := 24) hn (by decide)), bi_some, if_pos rfl, num_put hn (by decide), bi_some, wr_ne (by decide), e0, num_put hn (by decide), bi_some, wr_ne (by decide), wr_ne (by decide), e0, nI_1, vl_eq, show 174 + 1 + 1 = 176 from rfl, show 174 + 3 + 1 = 178 from rfl, cM_add]
theorem addM (x c : Int32) (hn : n < 24) : (ix (mM τ p n L Y 183 9) 24 <| vl (wr (mM τ p n L Y) 188 (mM τ p n L Y 183 9).toNatClampNeg x) fun σ_17 => ix (σ_17 183 9) 24 <| vl (wr σ_17 189 (σ_17 183 9).toNatClampNeg c) fun σ_18 => vl (wr σ_18 183 9 ((σ_18 183 9) + 1)) fun σ_19 => some ((1 : Int32), σ_19)) = some (1, mM τ p (n + 1) (upd L n x) (upd Y n c)) := by
  have e0 : mM τ p n L Y 183 9 = nI n := rfl
  rw [e0, ix_nI hn (by decide), nI_clamp (by omega), vl_eq, wr_ne (by decide), e0, ix_nI hn (by decide), nI_clamp (by omega), vl_eq, wr_ne (by decide), wr_ne (by decide), e0, nI_1, vl_eq, mM_add]
theorem tail (h7 : isT σ T l) (h8 : isM τ T l) (hp : p ≤ l) (hn : n < 24) (x : Int32) : (∃ p' c, p' ≤ l ∧ c < 10 ∧ tC x (cM σ S p q5 q6 n L Y) = some (1, cM σ S p' q5 q6 (n + 1) (upd L n x) (upd Y n (nI c))) ∧ tM x (mM τ p n L Y) = some (1, mM τ p' (n + 1) (upd L n x) (upd Y n (nI c)))) ∨ ∃ p', p' ≤ l ∧ tC x (cM σ S p q5 q6 n L Y) = some (0, cM σ S p' q5 q6 n L Y) ∧ tM x (mM τ p n L Y) = some (0, mM τ p' n L Y) := by
  have hl := h7.2.1
  have hs := sk_le (T := T) hp
  unfold tC tM
  rw [take7c h7 hp, takes8 h8 hp]
  by_cases e : ch T l (sk T l p) = 99
  · have e1 := (ch_is (c := 99) (fun q => (h7.2.2 _ q).1) (by decide)).mp e
    have hp1 : sk T l p + 1 ≤ l := e1.1
    have hs1 := sk_le (T := T) hp1
    have hss := sk_sk T l (sk T l p + 1)
    rw [if_pos e, if_pos e, b2_some, b2_some, jn_eq, jn_eq, if_neg n10, if_neg n10, peek7 h7 (by omega) (by omega), b2_some, digit7 h7, bi_some, digit8 h8 hp1, b2_some]
    by_cases e2 : sk T l (sk T l p + 1) < l ∧ 48 ≤ T (sk T l (sk T l p + 1)) ∧ T (sk T l (sk T l p + 1)) ≤ 57
    · obtain ⟨d, hd⟩ : ∃ d, T (sk T l (sk T l p + 1)) = 48 + d := ⟨T (sk T l (sk T l p + 1)) - 48, by omega⟩
      have hx : nI (48 + d) - 48 = nI d := (nI_sub (b := 48) (by omega)).trans (congrArg nI (by omega))
      refine Or.inl ⟨sk T l (sk T l p + 1) + 1, d, by omega, by omega, ?_, ?_⟩
      · have pk := peek7 (S := S) (q5 := q5) (q6 := q6) (n := n) (L := L) (Y := Y) h7 (p := sk T l (sk T l p + 1)) (by omega) (by rw [hss]; omega)
        rw [hss] at pk
        rw [if_pos e2, if_neg n10, pk, b2_some, ch_at e2.1, hd, hx, vl_eq, show cM σ S (sk T l (sk T l p + 1)) q5 q6 n L Y 171 3 = nI (sk T l (sk T l p + 1)) from rfl, nI_1, cM_p, vl_eq]
        dsimp only
        rw [addC _ _ hn, bi_some]
      · have pk := here8 (n := n) (L := L) (Y := Y) h8 (p := sk T l (sk T l p + 1)) (by omega) (by rw [hss]; omega)
        rw [hss] at pk
        rw [if_pos e2, if_neg n10, pk, b2_some, ch_at e2.1, hd, hx, vl_eq, show mM τ (sk T l (sk T l p + 1)) n L Y 183 10 = nI (sk T l (sk T l p + 1)) from rfl, nI_1, mM_p, vl_eq]
        exact addM _ _ hn
    · rw [if_neg e2, if_pos rfl, if_pos rfl]
      exact Or.inr ⟨_, hs1, rfl, rfl⟩
  · rw [if_neg e, if_neg e, b2_some, b2_some, jn_eq, jn_eq, if_pos rfl, if_pos rfl]
    refine Or.inl ⟨sk T l p, 0, hs, by omega, ?_, ?_⟩
    · show (bi (f_X0_addLast 174 x 0 (cM σ S (sk T l p) q5 q6 n L Y)) fun σ_40 => some (1, σ_40)) = _
      rw [addC _ _ hn, bi_some]
      rfl
    · exact addM _ _ hn
/-- a bar: both good; both bad; or the class went on where a wrong digit stands -/
theorem bar (h7 : isT σ T l) (h8 : isM τ T l) (hS0 : τ 184 0 = nI S) (hS : 2 ≤ S) (hS8 : S ≤ 8) (hp : p ≤ l) (hn : n ≤ 24) : (∃ p' x c, n < 24 ∧ p' ≤ l ∧ x < 2 ^ S ∧ c < 10 ∧ f_X1_readBar (cM σ S p q5 q6 n L Y) = some (1, cM σ S p' q5 q6 (n + 1) (upd L n (nI x)) (upd Y n (nI c))) ∧ f_X8_readsBar (mM τ p n L Y) = some (1, mM τ p' (n + 1) (upd L n (nI x)) (upd Y n (nI c)))) ∨ (∃ p', p' ≤ l ∧ f_X1_readBar (cM σ S p q5 q6 n L Y) = some (0, cM σ S p' q5 q6 n L Y) ∧ f_X8_readsBar (mM τ p n L Y) = some (0, mM τ p' n L Y)) ∨ ∃ p' x, n < 24 ∧ p' ≤ l ∧ sk T l p' = p' ∧ (p' < l ∧ 48 ≤ T p' ∧ T p' ≤ 57) ∧ f_X1_readBar (cM σ S p q5 q6 n L Y) = some (1, cM σ S p' q5 q6 (n + 1) (upd L n x) (upd Y n 0)) ∧ f_X8_readsBar (mM τ p n L Y) = some (0, mM τ p' n L Y) := by
  have hl := h7.2.1
  have hs := sk_le (T := T) hp
  have hss := sk_sk T l p
  have hpw : 0 < 2 ^ S := Nat.two_pow_pos S
  have h256 : 2 ^ S ≤ 2 ^ 8 := Nat.pow_le_pow_right (by decide) hS8
  have c9 : mM τ p n L Y 183 9 = nI n := rfl
  have c0 : cM σ S (sk T l p) q5 q6 n L Y 174 0 = nI n := rfl
  by_cases e0 : n = 24
  · refine Or.inr (Or.inl ⟨sk T l p, hs, ?_, ?_⟩)
    · rw [f_X1_readBar, peek7 h7 (by omega) (by omega), b2_some, vl_eq, f_X0_isFull, c0, if_neg (show ¬ nI n < 24 by rw [e0]; decide), bi_some, if_neg n10]
    · rw [f_X8_readsBar, c9, if_pos (show nI n = 24 by rw [e0]; rfl), here8 h8 (by omega) (by omega), b2_some, if_pos]
      unfold ch
      split
      · next q => exact nI_le (b := 999) (by have := (h7.2.2 _ q).1; omega) (by decide)
      · decide
  have hn2 : n < 24 := by omega
  have n24 : nI n < 24 := nI_lt (b := 24) hn2 (by decide)
  have n24' : ¬ nI n = 24 := fun q => e0 (nI_inj (b := 24) (by omega) (by decide) q)
  by_cases e1 : ch T l (sk T l p) = 45
  · have e2 := (ch_is (c := 45) (fun q => (h7.2.2 _ q).1) (by decide)).mp e1
    have hC : f_X1_readBar (cM σ S p q5 q6 n L Y) = tC (nI 0) (cM σ S (sk T l p + 1) q5 q6 n L Y) := by
      rw [f_X1_readBar, peek7 h7 (by omega) (by omega), b2_some, vl_eq, f_X0_isFull, c0, if_pos n24, bi_some, if_pos rfl, jn_eq, if_pos e1, if_neg n10]
      dsimp only
      rw [jn_eq, if_neg n10, show cM σ S (sk T l p) q5 q6 n L Y 171 3 = nI (sk T l p) from rfl, nI_1, cM_p, vl_eq]
      rfl
    have hM : f_X8_readsBar (mM τ p n L Y) = tM (nI 0) (mM τ (sk T l p + 1) n L Y) := by
      rw [f_X8_readsBar, c9, if_neg n24', f_X8_readsShafts, takes8 h8 hp, if_pos e1, b2_some, if_neg n10, b2_some, if_pos (show (0 : Int32) ≤ 0 by decide)]
      rfl
    rw [hC, hM]
    rcases tail (S := S) (q5 := q5) (q6 := q6) (n := n) (L := L) (Y := Y) h7 h8 (show sk T l p + 1 ≤ l from e2.1) hn2 (nI 0) with ⟨p', c, g1, g2, g3, g4⟩ | ⟨p', g1, g3, g4⟩
    · exact Or.inl ⟨p', 0, c, hn2, g1, hpw, g2, g3, g4⟩
    · exact Or.inr (Or.inl ⟨p', g1, g3, g4⟩)
  · have pk := peek7 (S := S) (q5 := q5) (q6 := q6) (n := n) (L := L) (Y := Y) h7 (p := sk T l p) (by omega) (by rw [hss]; omega)
    rw [hss] at pk
    obtain ⟨y', p', g1, g2, g3, g4, g5, g5b, g6, g7⟩ := shafts (q5 := q5) (q6 := q6) (n := n) (L := L) (Y := Y) h7 h8 hS0 hS hS8 (l - sk T l p) (sk T l p) 0 0 rfl hs (Nat.zero_le _) (by decide) (Or.inl rfl) FU (Nat.lt_of_le_of_lt (show l - sk T l p ≤ 120 by omega) (by decide))
    rw [hss] at g5 g5b
    have hM0 : f_X8_readsBar (mM τ p n L Y) = (b2 (sm (if p' < l ∧ 48 ≤ T p' ∧ T p' ≤ 57 then Sum.inl ((-1 : Int32), mM τ p' n L Y) else Sum.inr (nI y', mM τ p' n L Y)) (fun rv => some rv) <| cur2 fun z_5 σ_6 => if z_5 = 0 then (some ((-1 : Int32), σ_6)) else (some (z_5, σ_6))) fun r_1 σ_2 => if 0 ≤ r_1 then tM r_1 σ_2 else (some (0, σ_2))) := by
      rw [f_X8_readsBar, c9, if_neg n24', f_X8_readsShafts, takes8 h8 hp, if_neg e1, b2_some, if_pos rfl, show lp b_X8_readsShafts_13 FU (0, mM τ (sk T l p) n L Y) = _ from g7, bi_some]
      rfl
    by_cases e2 : sk T l p < l ∧ 48 ≤ T (sk T l p) ∧ T (sk T l p) ≤ 47 + S
    · have hy0 := g5 rfl e2
      have hC : f_X1_readBar (cM σ S p q5 q6 n L Y) = tC (nI y') (cM σ S p' q5 q6 n L Y) := by
        rw [f_X1_readBar, peek7 h7 (by omega) (by omega), b2_some, vl_eq, f_X0_isFull, c0, if_pos n24, bi_some, if_pos rfl, jn_eq, if_neg e1, if_pos rfl, pk, b2_some, shaft7 h7 hS hS8, bi_some, if_pos e2, if_neg n10]
        dsimp only
        rw [jn_eq, if_pos rfl, f_X1_readShafts, show lp b_X1_readShafts_5 FU (0, 48, cM σ S (sk T l p) q5 q6 n L Y) = _ from g6, b2_some, b2_some]
        rfl
      by_cases e3 : p' < l ∧ 48 ≤ T p' ∧ T p' ≤ 57
      · refine Or.inr (Or.inr ⟨p', nI y', hn2, g2, g1, e3, ?_, ?_⟩)
        · rw [hC, tC, take7c h7 g2, g1, if_neg (fun q => by have := ((ch_is (c := 99) (fun q => (h7.2.2 _ q).1) (by decide)).mp q).2; omega), b2_some, jn_eq, if_pos rfl]
          dsimp only
          rw [addC _ _ hn2, bi_some]
        · rw [hM0, if_pos e3, sm_inl, b2_some, if_neg (by decide)]
      · have hM : f_X8_readsBar (mM τ p n L Y) = tM (nI y') (mM τ p' n L Y) := by
          rw [hM0, if_neg e3, sm_inr, cur2_mk, if_neg (fun q => by have := nI_inj (b := 0) (by omega) (by decide) q; omega), b2_some, if_pos (show (0 : Int32) ≤ nI y' from nI_le (Nat.zero_le _) (by omega))]
        rw [hC, hM]
        rcases tail (S := S) (q5 := q5) (q6 := q6) (n := n) (L := L) (Y := Y) h7 h8 g2 hn2 (nI y') with ⟨p2, c, w1, w2, w3, w4⟩ | ⟨p2, w1, w3, w4⟩
        · exact Or.inl ⟨p2, y', c, hn2, w1, g3, w2, w3, w4⟩
        · exact Or.inr (Or.inl ⟨p2, w1, w3, w4⟩)
    · obtain ⟨z1, z2⟩ := g5b e2
      subst z1; subst z2
      refine Or.inr (Or.inl ⟨sk T l p, hs, ?_, ?_⟩)
      · rw [f_X1_readBar, peek7 h7 (by omega) (by omega), b2_some, vl_eq, f_X0_isFull, c0, if_pos n24, bi_some, if_pos rfl, jn_eq, if_neg e1, if_pos rfl, pk, b2_some, shaft7 h7 hS hS8, bi_some, if_neg e2, if_pos rfl]
      · rw [hM0]
        by_cases e3 : sk T l p < l ∧ 48 ≤ T (sk T l p) ∧ T (sk T l p) ≤ 57
        · rw [if_pos e3, sm_inl, b2_some, if_neg (by decide)]
        · rw [if_neg e3, sm_inr, cur2_mk, if_pos (by rfl), b2_some, if_neg (by decide)]
end BR
