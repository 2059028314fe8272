/-! part 42: the bars in a bracket, in both -/
def inM (t s F2 : Nat) (X : Nat → Nat → Int32) : Option (Int32 × (Nat → Nat → Int32)) := b2 (b2 (f_X8_readsBar X) fun r_1 σ_2 => b2 (lp b_X8_readsBars_5 F2 (r_1, σ_2)) fun z_5 σ_6 => bz z_5 <| some (z_5, σ_6)) fun r_16 σ_17 => cl8 t s r_16 σ_17
def inv (S n : Nat) (L Y : Nat → Int32) : Prop := ∀ i, i < n → (∃ x, x < 2 ^ S ∧ L i = nI x) ∧ ∃ c, c < 10 ∧ Y i = nI c
section IN
variable {σ τ : Nat → Nat → Int32} {S p q5 q6 n l t s : Nat} {L Y : Nat → Int32} {T : Nat → Nat}
theorem after59 (h : isT σ T l) (hp : p ≤ l) (i G : Nat) : afC i G (cM σ S p q5 q6 n L Y) = if ch T l (sk T l p) = 59 then lp b_X1_readChain_24 G (nI (i + 1), cM σ S (sk T l p + 1) q5 q6 n L Y) else some (.inr (cM σ S (sk T l p) q5 q6 n L Y)) := by
  unfold afC
  rw [take7c h hp]
  by_cases e : ch T l (sk T l p) = 59
  · rw [if_pos e, if_pos e, b2_some, if_neg n10, vl_eq, nI_1, lkl]
  · rw [if_neg e, if_neg e, b2_some, if_pos rfl, lkr]
theorem inM_0 {X Z : Nat → Nat → Int32} {F2 : Nat} (hF : 0 < F2) (h : f_X8_readsBar X = some (0, Z)) : inM t s F2 X = some (0, Z) := by
  obtain ⟨G, rfl⟩ : ∃ G, F2 = G + 1 := ⟨F2 - 1, by omega⟩
  unfold inM
  rw [h, b2_some, lp_s, b_X8_readsBars_5, if_pos rfl, lkr, b2_some, bz_ok (Or.inl rfl), b2_some, cl8, if_pos rfl]
theorem inM_1 {X : Nat → Nat → Int32} {F2 : Nat} (h8 : isM τ T l) (hp : p ≤ l) (h : f_X8_readsBar X = some (1, mM τ p n L Y)) : inM t s (F2 + 1) X = if ch T l (sk T l p) = 59 then inM t s F2 (mM τ (sk T l p + 1) n L Y) else cl8 t s 1 (mM τ (sk T l p) n L Y) := by
  unfold inM
  rw [h, b2_some, lp_s, b_X8_readsBars_5, if_neg n10, takes8 h8 hp]
  by_cases e : ch T l (sk T l p) = 59
  · rw [if_pos e, if_pos e, b2_some, if_neg n10]
    cases f_X8_readsBar (mM τ (sk T l p + 1) n L Y) with
    | none => rfl
    | some z => rfl
  · rw [if_neg e, if_neg e, b2_some, if_pos rfl, lkr, b2_some, bz_ok (Or.inr rfl), b2_some]
theorem part7 (h5 : t = 0 ∨ True) {i G : Nat} {X X1 X2 : Nat → Nat → Int32} (hi : i < 120) (ho : f_X1_openBrackets X = some (1, X1)) (hb : f_X1_readBar X1 = some (1, X2)) : lp b_X1_readChain_24 (G + 1) (nI i, X) = bi (b2 (f_X1_closeBrackets X2) fun r_33 σ_34 => if r_33 = 0 then (some (.inr (.inl (0, σ_34)))) else (b2 (f_X1_take 59 σ_34) fun r_35 σ_36 => if r_35 = 0 then (some (.inr (.inr σ_36))) else (vl (nI i + 1) fun x_37 => some (.inl (x_37, σ_36))))) (lk (lp b_X1_readChain_24 G)) := by
  rw [lp_s, b_X1_readChain_24, if_neg (show ¬ (120 : Int32) ≤ nI i from nI_ge (b := 120) hi (by decide)), ho, b2_some, if_neg n10, hb, b2_some, if_neg n10]
theorem part7f {i G : Nat} {X X1 X2 : Nat → Nat → Int32} (hi : i < 120) (ho : f_X1_openBrackets X = some (1, X1)) (hb : f_X1_readBar X1 = some (0, X2)) : lp b_X1_readChain_24 (G + 1) (nI i, X) = some (.inl (0, X2)) := by
  rw [lp_s, b_X1_readChain_24, if_neg (show ¬ (120 : Int32) ≤ nI i from nI_ge (b := 120) hi (by decide)), ho, b2_some, if_neg n10, hb, b2_some, if_pos rfl, lkr]
theorem inv_add {x c : Nat} (h : inv S n L Y) (hx : x < 2 ^ S) (hc : c < 10) : inv S (n + 1) (upd L n (nI x)) (upd Y n (nI c)) := fun i hi => by
  by_cases e : i = n
  · subst e
    rw [upd_eq, upd_eq]
    exact ⟨⟨x, hx, rfl⟩, c, hc, rfl⟩
  · rw [upd_ne e, upd_ne e]
    exact h i (by omega)
theorem inv_rep {d m : Nat} (h : inv S n L Y) (hd : 0 < d) (hn : n = s + d) : inv S m (rpL L s d n) (rpL Y s d n) := fun i _ => by
  unfold rpL
  by_cases e : i < n
  · rw [if_pos e, if_pos e]
    exact h i e
  · rw [if_neg e, if_neg e]
    have := Nat.mod_lt (i - s) hd
    exact h _ (by omega)
theorem inside (h7 : isT σ T l) (h8 : isM τ T l) (hS0 : τ 184 0 = nI S) (hS : 2 ≤ S) (hS8 : S ≤ 8) (ht : 2 ≤ t) (ht9 : t < 10) : ∀ m p n (L Y : Nat → Int32) i G F2, n + m = 24 → s ≤ n → p ≤ l → i ≤ n → inv S n L Y → m < G → m + 1 < F2 → (∃ p' n' L' Y' i' G', p' ≤ l ∧ n < n' ∧ n' ≤ 24 ∧ inv S n' L' Y' ∧ i' + 1 ≤ n' ∧ 24 + 1 < n' + G' ∧ lp b_X1_readChain_24 (G + 1) (nI i, cM σ S p t s n L Y) = afC i' G' (cM σ S p' 0 s n' L' Y') ∧ inM t s F2 (mM τ p n L Y) = some (1, mM τ p' n' L' Y')) ∨ ∃ z p' q5 q6 n1 L1 Y1 n2 L2 Y2, p' ≤ l ∧ lp b_X1_readChain_24 (G + 1) (nI i, cM σ S p t s n L Y) = some z ∧ finC z = some (0, cM σ S p' q5 q6 n1 L1 Y1) ∧ inM t s F2 (mM τ p n L Y) = some (0, mM τ p' n2 L2 Y2) := by
  intro m
  induction m with
  | zero =>
    intro p n L Y i G F2 hnm hsn hp hi hv hG hF
    rcases bar (q5 := t) (q6 := s) (n := n) (L := L) (Y := Y) h7 h8 hS0 hS hS8 hp (by omega) with ⟨p', x, c, q, -⟩ | ⟨p', g1, g2, g3⟩ | ⟨p', x, q, -⟩
    · omega
    · exact Or.inr ⟨_, p', t, s, n, L, Y, n, L, Y, g1, part7f (by omega) (open_in (by omega) ht9) g2, rfl, inM_0 (by omega) g3⟩
    · omega
  | succ m ih =>
    intro p n L Y i G F2 hnm hsn hp hi hv hG hF
    rcases bar (q5 := t) (q6 := s) (n := n) (L := L) (Y := Y) h7 h8 hS0 hS hS8 hp (by omega) with ⟨p', x, c, -, g1, gx, gc, g2, g3⟩ | ⟨p', g1, g2, g3⟩ | ⟨p', x, -, g1, g4, g5, g2, g3⟩
    · obtain ⟨F3, rfl⟩ : ∃ F3, F2 = F3 + 1 := ⟨F2 - 1, by omega⟩
      have hv' := inv_add hv gx gc
      have hs := sk_le (T := T) g1
      have hC := part7 (G := G) (Or.inr trivial : t = 0 ∨ True) (show i < 120 by omega) (open_in (σ := σ) (S := S) (p := p) (n := n) (L := L) (Y := Y) (t := t) (s := s) (by omega) ht9) g2
      rw [close_in (d := n + 1 - s) h7 g1 (by omega) ht9 (by omega) (by omega) (by omega)] at hC
      rw [inM_1 h8 g1 g3, hC]
      by_cases e : ch T l (sk T l p') = 59
      · have e1 := (ch_is (c := 59) (fun q => (h7.2.2 _ q).1) (by decide)).mp e
        have ne : ¬ ch T l (sk T l p') = 41 := fun q => by rw [q] at e; exact absurd e (by decide)
        have ha := after59 (σ := σ) (S := S) (q5 := t) (q6 := s) (n := n + 1) (L := upd L n (nI x)) (Y := upd Y n (nI c)) (p := sk T l p') h7 hs i G
        rw [sk_sk, if_pos e] at ha
        obtain ⟨G', rfl⟩ : ∃ G', G = G' + 1 := ⟨G - 1, by omega⟩
        rw [if_pos e, if_neg ne, b2_some, if_neg n10, show bi (b2 (f_X1_take 59 (cM σ S (sk T l p') t s (n + 1) (upd L n (nI x)) (upd Y n (nI c)))) _) _ = _ from ha]
        rcases ih (sk T l p' + 1) (n + 1) (upd L n (nI x)) (upd Y n (nI c)) (i + 1) G' F3 (by omega) (by omega) e1.1 (by omega) hv' (by omega) (by omega) with ⟨p2, n2, L2, Y2, i2, G2, w1, w2, w3, w4, w5, w6, w7, w8⟩ | w
        · exact Or.inl ⟨p2, n2, L2, Y2, i2, G2, w1, by omega, w3, w4, w5, w6, w7, w8⟩
        · exact Or.inr w
      · have hcl := close8 (p := sk T l p') (n := n + 1) (L := upd L n (nI x)) (Y := upd Y n (nI c)) (s := s) (t := t) (d := n + 1 - s) h8 hs (by omega) ht9 (by omega) (by omega) (by omega)
        rw [sk_sk] at hcl
        rw [if_neg e, hcl]
        by_cases e2 : ch T l (sk T l p') = 41
        · have e3 := (ch_is (c := 41) (fun q => (h7.2.2 _ q).1) (by decide)).mp e2
          rw [if_pos e2, if_pos e2]
          by_cases e4 : s + (n + 1 - s) * t ≤ 24
          · rw [if_pos e4, if_pos e4, b2_some, if_neg n10]
            have hd1 : (n + 1 - s) ≤ (n + 1 - s) * t := Nat.le_mul_of_pos_right _ (by omega)
            exact Or.inl ⟨sk T l p' + 1, s + (n + 1 - s) * t, _, _, i, G, e3.1, by omega, e4, inv_rep hv' (by omega) (by omega), by omega, by omega, rfl, rfl⟩
          · rw [if_neg e4, if_neg e4, b2_some, if_pos rfl, lkr]
            exact Or.inr ⟨_, sk T l p', t, s, n + 1, _, _, n + 1, _, _, hs, rfl, rfl, rfl⟩
        · have ha := after59 (σ := σ) (S := S) (q5 := t) (q6 := s) (n := n + 1) (L := upd L n (nI x)) (Y := upd Y n (nI c)) (p := sk T l p') h7 hs i G
          rw [sk_sk, if_neg e] at ha
          rw [if_neg e2, if_neg e2, b2_some, if_neg n10, show bi (b2 (f_X1_take 59 (cM σ S (sk T l p') t s (n + 1) (upd L n (nI x)) (upd Y n (nI c)))) _) _ = _ from ha]
          exact Or.inr ⟨_, sk T l p', t, s, n + 1, _, _, n + 1, _, _, hs, rfl, fin_in (by omega) ht9, rfl⟩
    · exact Or.inr ⟨_, p', t, s, n, L, Y, n, L, Y, g1, part7f (by omega) (open_in (by omega) ht9) g2, rfl, inM_0 (by omega) g3⟩
    · have hC := part7 (G := G) (Or.inr trivial : t = 0 ∨ True) (show i < 120 by omega) (open_in (σ := σ) (S := S) (p := p) (n := n) (L := L) (Y := Y) (t := t) (s := s) (by omega) ht9) g2
      have hch : ch T l p' = nI (T p') := ch_at g5.1
      have ne : ∀ c : Nat, (c < 48 ∨ 57 < c) → c < 256 → ¬ ch T l p' = nI c := fun c hc hc2 q => by
        have := ((ch_is (c := c) (fun q => (h7.2.2 _ q).1) hc2).mp q).2
        omega
      have ha := after59 (σ := σ) (S := S) (q5 := t) (q6 := s) (n := n + 1) (L := upd L n x) (Y := upd Y n 0) (p := p') h7 g1 i G
      rw [g4, if_neg (show ¬ ch T l p' = 59 from ne 59 (by omega) (by omega))] at ha
      rw [close_in (d := n + 1 - s) h7 g1 (by omega) ht9 (by omega) (by omega) (by omega), g4, if_neg (show ¬ ch T l p' = 41 from ne 41 (by omega) (by omega)), b2_some, if_neg n10] at hC
      exact Or.inr ⟨_, p', t, s, n + 1, _, _, n, L, Y, g1, hC.trans ha, fin_in (by omega) ht9, inM_0 (by omega) g3⟩
end IN
