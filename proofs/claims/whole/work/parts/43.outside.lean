/-! part 43: the whole chain, read, in both -/
def outM (F2 : Nat) (X : Nat → Nat → Int32) : Option (Int32 × (Nat → Nat → Int32)) := b2 (f_X8_readsPart X) fun r_4 σ_5 => lp b_X8_load_20 F2 (r_4, σ_5)
section OU
variable {σ τ : Nat → Nat → Int32} {S p q5 q6 n l t s : Nat} {L Y : Nat → Int32} {T : Nat → Nat}
theorem outM_0 {X Z : Nat → Nat → Int32} {F2 : Nat} (hF : 0 < F2) (h : f_X8_readsPart X = some (0, Z)) : outM F2 X = some (0, Z) := by
  obtain ⟨G, rfl⟩ : ∃ G, F2 = G + 1 := ⟨F2 - 1, by omega⟩
  unfold outM
  rw [h, b2_some, lp_s, b_X8_load_20, if_pos rfl, lkr]
theorem outM_1 {X : Nat → Nat → Int32} {F2 : Nat} (h8 : isM τ T l) (hp : p ≤ l) (h : f_X8_readsPart X = some (1, mM τ p n L Y)) : outM (F2 + 1) X = if ch T l (sk T l p) = 59 then outM F2 (mM τ (sk T l p + 1) n L Y) else some (1, mM τ (sk T l p) n L Y) := by
  unfold outM
  rw [h, b2_some, lp_s, b_X8_load_20, if_neg n10, takes8 h8 hp]
  by_cases e : ch T l (sk T l p) = 59
  · rw [if_pos e, if_pos e, b2_some, if_neg n10]
    cases f_X8_readsPart (mM τ (sk T l p + 1) n L Y) with
    | none => rfl
    | some z => rfl
  · rw [if_neg e, if_neg e, b2_some, if_pos rfl, lkr]
theorem part8_no (h : isM τ T l) (hp : p ≤ l) (hn : numA T l p = false) : f_X8_readsPart (mM τ p n L Y) = f_X8_readsBar (mM τ (sk T l p) n L Y) := by
  rw [f_X8_readsPart, num8 h hp, b2_some, hn, if_pos (show (if false = true then (1 : Int32) else 0) = 0 from rfl)]
  cases f_X8_readsBar (mM τ (sk T l p) n L Y) with
  | none => rfl
  | some z => rfl
theorem part8_yes (h : isM τ T l) (hp : p ≤ l) (hn : numA T l p = true) (h1 : sk T l p < l) (hd : T (sk T l p) = 48 + t) (ht9 : t < 10) (h2 : sk T l (sk T l p + 1) < l) (h3 : T (sk T l (sk T l p + 1)) = 120) : f_X8_readsPart (mM τ p n L Y) = if 2 ≤ t then (if ch T l (sk T l (sk T l (sk T l p + 1) + 1)) = 40 then inM t n FU (mM τ (sk T l (sk T l (sk T l p + 1) + 1) + 1) n L Y) else some (0, mM τ (sk T l (sk T l (sk T l p + 1) + 1)) n L Y)) else some (0, mM τ (sk T l p) n L Y) := by
  have hl := h.2.1
  have hss := sk_sk T l p
  have pk := here8 (n := n) (L := L) (Y := Y) h (p := sk T l p) (by omega) (by rw [hss]; omega)
  rw [hss] at pk
  have hx : nI (48 + t) - 48 = nI t := (nI_sub (b := 48) (by omega)).trans (congrArg nI (by omega))
  have e120 : ch T l (sk T l (sk T l p + 1)) = 120 := by rw [ch_at h2, h3]; rfl
  have hR : f_X8_readsPart (mM τ p n L Y) = f_X8_readsRepeated (mM τ (sk T l p) n L Y) := by
    rw [f_X8_readsPart, num8 h hp, b2_some, hn, if_neg (show ¬ (if true = true then (1 : Int32) else 0) = 0 from n10)]
    cases f_X8_readsRepeated (mM τ (sk T l p) n L Y) with
    | none => rfl
    | some z => rfl
  rw [hR, f_X8_readsRepeated, pk, b2_some, ch_at h1, hd, hx, vl_eq]
  by_cases e5 : 2 ≤ t
  · rw [if_pos (show (2 : Int32) ≤ nI t from nI_le (a := 2) e5 (by omega)), if_pos e5, show mM τ (sk T l p) n L Y 183 10 = nI (sk T l p) from rfl, nI_1, mM_p, vl_eq, takes8 h (show sk T l p + 1 ≤ l from h1), if_pos e120, b2_some, jn_eq, if_neg n10, takes8 h (show sk T l (sk T l p + 1) + 1 ≤ l from h2)]
    by_cases e6 : ch T l (sk T l (sk T l (sk T l p + 1) + 1)) = 40
    · rw [if_pos e6, if_pos e6, b2_some, if_neg n10]
      rfl
    · rw [if_neg e6, if_neg e6, b2_some, if_pos rfl]
      rfl
  · rw [if_neg (show ¬ (2 : Int32) ≤ nI t from nI_ge (b := 2) (by omega) (by decide)), if_neg e5]
def outO (σ τ : Nat → Nat → Int32) (T : Nat → Nat) (l S F2 : Nat) (C : Option ((Int32 × (Nat → Nat → Int32)) ⊕ (Nat → Nat → Int32))) (M : Option (Int32 × (Nat → Nat → Int32))) : Prop := (∃ z p' q6 n' L' Y', p' ≤ l ∧ ¬ p' < l ∧ 0 < n' ∧ n' ≤ 24 ∧ inv S n' L' Y' ∧ C = some z ∧ finC z = some (1, cM σ S p' 0 q6 n' L' Y') ∧ M = some (1, mM τ p' n' L' Y')) ∨ ∃ z p' q5 q6 n1 L1 Y1 n2 L2 Y2, p' ≤ l ∧ C = some z ∧ finC z = some (0, cM σ S p' q5 q6 n1 L1 Y1) ∧ (M = some (0, mM τ p' n2 L2 Y2) ∨ (M = some (1, mM τ p' n2 L2 Y2) ∧ p' < l ∧ sk T l p' = p'))
theorem outside (h7 : isT σ T l) (h8 : isM τ T l) (hS0 : τ 184 0 = nI S) (hS : 2 ≤ S) (hS8 : S ≤ 8) : ∀ m p n (L Y : Nat → Int32) i q6 G F2, n + m = 24 → p ≤ l → i ≤ n → inv S n L Y → m < G → m + 1 < F2 → outO σ τ T l S F2 (lp b_X1_readChain_24 (G + 1) (nI i, cM σ S p 0 q6 n L Y)) (outM F2 (mM τ p n L Y)) := by
  intro m
  induction m using Nat.strongRecOn with
  | ind m ih =>
    intro p n L Y i q6 G F2 hnm hp hi hv hG hF
    have hs := sk_le (T := T) hp
    obtain ⟨F3, rfl⟩ : ∃ F3, F2 = F3 + 1 := ⟨F2 - 1, by omega⟩
    have good : ∀ p' n' (L' Y' : Nat → Int32) i' q' G', p' ≤ l → n < n' → n' ≤ 24 → inv S n' L' Y' → i' + 1 ≤ n' → 24 + 1 < n' + G' → f_X8_readsPart (mM τ p n L Y) = some (1, mM τ p' n' L' Y') → outO σ τ T l S (F3 + 1) (afC i' G' (cM σ S p' 0 q' n' L' Y')) (outM (F3 + 1) (mM τ p n L Y)) := fun p' n' L' Y' i' q' G' g1 g2 g3 g4 g5 g6 g7 => by
      have hs' := sk_le (T := T) g1
      rw [outM_1 h8 g1 g7, after59 h7 g1]
      by_cases e : ch T l (sk T l p') = 59
      · have e1 := (ch_is (c := 59) (fun q => (h7.2.2 _ q).1) (by decide)).mp e
        obtain ⟨G2, rfl⟩ : ∃ G2, G' = G2 + 1 := ⟨G' - 1, by omega⟩
        rw [if_pos e, if_pos e]
        exact ih (24 - n') (by omega) (sk T l p' + 1) n' L' Y' (i' + 1) q' G2 F3 (by omega) e1.1 (by omega) g4 (by omega) (by omega)
      · rw [if_neg e, if_neg e]
        have hf := fin_out (S := S) (q6 := q') (n := n') (L := L') (Y := Y') (p := sk T l p') h7 hs'
        rw [sk_sk] at hf
        by_cases e2 : sk T l p' < l
        · rw [if_pos e2] at hf
          exact Or.inr ⟨_, sk T l p', 0, q', n', L', Y', n', L', Y', hs', rfl, hf, Or.inr ⟨rfl, e2, sk_sk T l p'⟩⟩
        · rw [if_neg e2] at hf
          exact Or.inl ⟨_, sk T l p', q', n', L', Y', hs', e2, by omega, g3, g4, rfl, hf, rfl⟩
    cases hn : numA T l p with
    | false =>
      have ho := open_no (S := S) (n := n) (L := L) (Y := Y) (q6 := q6) h7 hp hn
      have hM := part8_no (n := n) (L := L) (Y := Y) h8 hp hn
      rcases bar (q5 := 0) (q6 := q6) (n := n) (L := L) (Y := Y) h7 h8 hS0 hS hS8 hs (by omega) with ⟨p', x, c, w0, g1, gx, gc, g2, g3⟩ | ⟨p', g1, g2, g3⟩ | ⟨p', x, w0, g1, g4, g5, g2, g3⟩
      · have hC := part7 (G := G) (Or.inr trivial : 0 = 0 ∨ True) (show i < 120 by omega) ho g2
        rw [close_out, b2_some, if_neg n10] at hC
        rw [hC]
        exact good p' (n + 1) _ _ i q6 G g1 (by omega) (by omega) (inv_add hv gx gc) (by omega) (by omega) (hM.trans g3)
      · rw [part7f (by omega) ho g2, outM_0 (by omega) (hM.trans g3)]
        exact Or.inr ⟨_, p', 0, q6, n, L, Y, n, L, Y, g1, rfl, rfl, Or.inl rfl⟩
      · have hC := part7 (G := G) (Or.inr trivial : 0 = 0 ∨ True) (show i < 120 by omega) ho g2
        rw [close_out, b2_some, if_neg n10] at hC
        have ha := after59 (σ := σ) (S := S) (q5 := 0) (q6 := q6) (n := n + 1) (L := upd L n x) (Y := upd Y n 0) (p := p') h7 g1 i G
        rw [g4, if_neg (show ¬ ch T l p' = 59 from fun q => by
          have := ((ch_is (c := 59) (fun q => (h7.2.2 _ q).1) (by decide)).mp q).2
          omega)] at ha
        have hf := fin_out (S := S) (q6 := q6) (n := n + 1) (L := upd L n x) (Y := upd Y n 0) h7 g1
        rw [g4, if_pos g5.1] at hf
        rw [hC.trans ha, outM_0 (by omega) (hM.trans g3)]
        exact Or.inr ⟨_, p', 0, q6, n + 1, _, _, n, L, Y, g1, rfl, hf, Or.inl rfl⟩
    | true =>
      obtain ⟨t, ht9, k1, k2, k3, k4, ho⟩ := open_yes (S := S) (n := n) (L := L) (Y := Y) (q6 := q6) h7 hp hn
      have hM := part8_yes (n := n) (L := L) (Y := Y) h8 hp hn k1 k2 ht9 k3 k4
      have hbad : ∀ X, f_X1_openBrackets (cM σ S p 0 q6 n L Y) = some (0, X) → lp b_X1_readChain_24 (G + 1) (nI i, cM σ S p 0 q6 n L Y) = some (.inl (0, X)) := fun X hX => by
        rw [lp_s, b_X1_readChain_24, if_neg (show ¬ (120 : Int32) ≤ nI i from nI_ge (b := 120) (by omega) (by decide)), hX, b2_some, if_pos rfl, lkr]
      by_cases e5 : 2 ≤ t
      · have hs3 := sk_le (T := T) (show sk T l (sk T l p + 1) + 1 ≤ l from k3)
        rw [if_pos e5] at ho hM
        by_cases e6 : ch T l (sk T l (sk T l (sk T l p + 1) + 1)) = 40
        · have e7 := (ch_is (c := 40) (fun q => (h7.2.2 _ q).1) (by decide)).mp e6
          rw [if_pos e6] at ho hM
          have hsame : lp b_X1_readChain_24 (G + 1) (nI i, cM σ S p 0 q6 n L Y) = lp b_X1_readChain_24 (G + 1) (nI i, cM σ S (sk T l (sk T l (sk T l p + 1) + 1) + 1) t n n L Y) := by
            rw [lp_s, lp_s, b_X1_readChain_24, b_X1_readChain_24, if_neg (show ¬ (120 : Int32) ≤ nI i from nI_ge (b := 120) (by omega) (by decide)), if_neg (show ¬ (120 : Int32) ≤ nI i from nI_ge (b := 120) (by omega) (by decide)), ho, open_in (by omega) ht9, b2_some]
          rw [hsame]
          rcases inside (s := n) h7 h8 hS0 hS hS8 e5 ht9 m (sk T l (sk T l (sk T l p + 1) + 1) + 1) n L Y i G FU hnm (Nat.le_refl n) e7.1 hi hv hG (Nat.lt_of_le_of_lt (show m + 1 ≤ 25 by omega) (by decide)) with ⟨p2, n2, L2, Y2, i2, G2, w1, w2, w3, w4, w5, w6, w7, w8⟩ | ⟨z, p2, a, b, n1, L1, Y1, n2, L2, Y2, w1, w2, w3, w4⟩
          · rw [w7]
            exact good p2 n2 L2 Y2 i2 n G2 w1 w2 w3 w4 w5 w6 (hM.trans w8)
          · rw [w2, outM_0 (by omega) (hM.trans w4)]
            exact Or.inr ⟨z, p2, a, b, n1, L1, Y1, n2, L2, Y2, w1, rfl, w3, Or.inl rfl⟩
        · rw [if_neg e6] at ho hM
          rw [hbad _ ho, outM_0 (by omega) hM]
          exact Or.inr ⟨_, _, t, n, n, L, Y, n, L, Y, hs3, rfl, rfl, Or.inl rfl⟩
      · rw [if_neg e5] at ho hM
        rw [hbad _ ho, outM_0 (by omega) hM]
        exact Or.inr ⟨_, _, 0, q6, n, L, Y, n, L, Y, hs, rfl, rfl, Or.inl rfl⟩
end OU
