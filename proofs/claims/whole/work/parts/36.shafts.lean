/-! part 36: the shafts of a bar, a bar -/
theorem btw_ch {T : Nat → Nat} {l p a b : Nat} (hT : p < l → T p < 256) (ha : a < 2 ^ 31) (hb : b < 2 ^ 31) (σ : Nat → Nat → Int32) : f_X7_isBetween (ch T l p) (nI a) (nI b) σ = some (if p < l ∧ a ≤ T p ∧ T p ≤ b then 1 else 0) := by
  unfold ch
  by_cases e : p < l
  · have := hT e
    rw [if_pos e]
    by_cases e1 : a ≤ T p
    · by_cases e2 : T p ≤ b
      · rw [if_pos ⟨e, e1, e2⟩]
        exact btw_yes (nI_nlt e1 (by omega)) (nI_nlt e2 (by omega)) σ
      · rw [if_neg (fun q => e2 q.2.2)]
        exact btw_no (Or.inr (nI_lt (by omega) (by omega))) σ
    · rw [if_neg (fun q => e1 q.2.1)]
      exact btw_no (Or.inl (nI_lt (by omega) ha)) σ
  · rw [if_neg e, if_neg (fun q => e q.1)]
    refine btw_no (Or.inl ?_) σ
    have : (0 : Int32) ≤ nI a := nI_le (Nat.zero_le a) ha
    exact Int32.lt_of_lt_of_le (by decide) this
theorem ch_at {T : Nat → Nat} {l p : Nat} (h : p < l) : ch T l p = nI (T p) := if_pos h
theorem or_bit : ∀ d, d < 8 → ∀ y, y < 2 ^ d → nI y ||| (1 <<< (nI d &&& 31)) = nI (y + 2 ^ d) := by decide +kernel
theorem shr_bit : ∀ d, d < 8 → ∀ y, y < 256 → ((nI y >>> (nI d &&& 31) = 0) ↔ y < 2 ^ d) := by decide +kernel
section SH
variable {σ τ : Nat → Nat → Int32} {S q5 q6 n l : Nat} {L Y : Nat → Int32} {T : Nat → Nat}
theorem shaft7 {p : Nat} (h : isT σ T l) (hS : 2 ≤ S) (hS8 : S ≤ 8) (x : Nat) : f_X1_isShaft (ch T l x) (cM σ S p q5 q6 n L Y) = some (if x < l ∧ 48 ≤ T x ∧ T x ≤ 47 + S then 1 else 0) := by
  rw [f_X1_isShaft, show cM σ S p q5 q6 n L Y 171 4 = nI S from rfl, show (48 : Int32) + nI S - 1 = nI (47 + S) by rw [show (48 : Int32) + nI S = nI (48 + S) from nI_add 48 S, show nI (48 + S) - 1 = nI (48 + S - 1) from nI_sub (b := 1) (by omega)]; congr 1; omega, show f_X7_isBetween (ch T l x) 48 (nI (47 + S)) _ = _ from btw_ch (a := 48) (fun e => (h.2.2 x e).1) (by omega) (by omega) _, bi_some]
theorem digit7 {p : Nat} (h : isT σ T l) (x : Nat) : f_X1_isDigit (ch T l x) (cM σ S p q5 q6 n L Y) = some (if x < l ∧ 48 ≤ T x ∧ T x ≤ 57 then 1 else 0) := by
  rw [f_X1_isDigit, show f_X7_isBetween (ch T l x) 48 57 _ = _ from btw_ch (a := 48) (b := 57) (fun e => (h.2.2 x e).1) (by omega) (by omega) _, bi_some]
theorem digit8 {p : Nat} (h : isM τ T l) (hp : p ≤ l) : f_X8_isDigit (mM τ p n L Y) = some (if sk T l p < l ∧ 48 ≤ T (sk T l p) ∧ T (sk T l p) ≤ 57 then 1 else 0, mM τ (sk T l p) n L Y) := by
  have := h.2.1
  have := sk_le (T := T) hp
  rw [f_X8_isDigit, here8 h (by omega) (by omega), b2_some, in_eq, show f_X7_isBetween (ch T l (sk T l p)) 48 57 _ = _ from btw_ch (a := 48) (b := 57) (fun e => (h.2.2 _ e).1) (by omega) (by omega) _, bi_some]
theorem shafts (h7 : isT σ T l) (h8 : isM τ T l) (hS0 : τ 184 0 = nI S) (hS : 2 ≤ S) (hS8 : S ≤ 8) : ∀ m p y m0, l - p = m → p ≤ l → m0 ≤ S → y < 2 ^ m0 → (m0 = 0 ∨ 2 ^ (m0 - 1) ≤ y) → ∀ F, m < F → ∃ y' p', sk T l p' = p' ∧ p' ≤ l ∧ y' < 2 ^ S ∧ y ≤ y' ∧ (m0 = 0 → (sk T l p < l ∧ 48 ≤ T (sk T l p) ∧ T (sk T l p) ≤ 47 + S) → 0 < y') ∧ (¬ (sk T l p < l ∧ 48 ≤ T (sk T l p) ∧ T (sk T l p) ≤ 47 + S) → p' = sk T l p ∧ y' = y) ∧ lp b_X1_readShafts_5 F (nI y, nI (48 + m0), cM σ S p q5 q6 n L Y) = some (nI y', cM σ S p' q5 q6 n L Y) ∧ lp b_X8_readsShafts_13 F (nI y, mM τ p n L Y) = some (if p' < l ∧ 48 ≤ T p' ∧ T p' ≤ 57 then .inl (-1, mM τ p' n L Y) else .inr (nI y', mM τ p' n L Y)) := by
  have hl := h7.2.1
  intro m
  induction m using Nat.strongRecOn with
  | ind m ih =>
    intro p y m0 hm hp hm0 hy hy2 F hF
    obtain ⟨G, rfl⟩ : ∃ G, F = G + 1 := ⟨F - 1, by omega⟩
    have hs1 := sk_ge T l p
    have hs2 := sk_le (T := T) hp
    have hss := sk_sk T l p
    have hyS : y < 2 ^ S := Nat.lt_of_lt_of_le hy (Nat.pow_le_pow_right (by decide) hm0)
    have h256 : 2 ^ S ≤ 2 ^ 8 := Nat.pow_le_pow_right (by decide) hS8
    have pk : f_X1_peek (cM σ S (sk T l p) q5 q6 n L Y) = some (ch T l (sk T l p), cM σ S (sk T l p) q5 q6 n L Y) := by
      have := peek7 (S := S) (q5 := q5) (q6 := q6) (n := n) (L := L) (Y := Y) h7 (p := sk T l p) (by omega) (by rw [hss]; omega)
      rw [hss] at this
      exact this
    have hr8 : f_X8_here (mM τ (sk T l p) n L Y) = some (ch T l (sk T l p), mM τ (sk T l p) n L Y) := by
      have := here8 (n := n) (L := L) (Y := Y) h8 (p := sk T l p) (by omega) (by rw [hss]; omega)
      rw [hss] at this
      exact this
    by_cases e0 : l ≤ p
    · have e1 : sk T l p = p := by rw [sk_eq, if_neg (fun q => by omega)]
      refine ⟨y, p, e1, hp, hyS, Nat.le_refl y, fun _ q => by omega, fun _ => ⟨e1.symm, rfl⟩, ?_, ?_⟩
      · rw [lp_s, b_X1_readShafts_5, show cM σ S p q5 q6 n L Y 171 2 = nI l from h7.1, show cM σ S p q5 q6 n L Y 171 3 = nI p from rfl, if_pos (nI_le e0 (by omega)), lkr]
      · rw [lp_s, b_X8_readsShafts_13, digit8 h8 hp, b2_some, e1, if_neg (show ¬ (p < l ∧ 48 ≤ T p ∧ T p ≤ 57) from fun q => by omega), if_pos rfl, lkr, if_neg (show ¬ (p < l ∧ 48 ≤ T p ∧ T p ≤ 57) from fun q => by omega)]
    by_cases e1 : sk T l p < l ∧ 48 ≤ T (sk T l p) ∧ T (sk T l p) ≤ 47 + S
    · obtain ⟨d, hd⟩ : ∃ d, T (sk T l p) = 48 + d := ⟨T (sk T l p) - 48, by omega⟩
      have hd8 : d < S := by omega
      have hch : ch T l (sk T l p) = nI (48 + d) := by rw [ch_at e1.1, hd]
      have hx : nI (48 + d) - 48 = nI d := (nI_sub (b := 48) (by omega)).trans (congrArg nI (by omega))
      have hin : f_X8_isShaft (nI d) (mM τ (sk T l p) n L Y) = some 1 := by
        rw [f_X8_isShaft, in_eq, show mM τ (sk T l p) n L Y 184 0 = nI S from hS0, show nI S - 1 = nI (S - 1) from nI_sub (b := 1) (by omega), show f_X7_isBetween (nI d) 0 (nI (S - 1)) _ = some 1 from btw_yes (nI_nlt (Nat.zero_le d) (by omega)) (nI_nlt (by omega) (by omega)) _, bi_some]
      by_cases e2 : d < m0
      · have hny : ¬ y < 2 ^ d := fun q => by
          rcases hy2 with z | z
          · omega
          · have := Nat.pow_le_pow_right (show 0 < 2 by decide) (show d ≤ m0 - 1 by omega)
            omega
        refine ⟨y, sk T l p, hss, hs2, hyS, Nat.le_refl y, fun q => by omega, fun q => absurd e1 q, ?_, ?_⟩
        · rw [lp_s, b_X1_readShafts_5, show cM σ S p q5 q6 n L Y 171 2 = nI l from h7.1, show cM σ S p q5 q6 n L Y 171 3 = nI p from rfl, if_neg (nI_ge (by omega) (by omega)), peek7 h7 (by omega) (by omega), b2_some, shaft7 h7 hS hS8, bi_some, if_pos e1, if_neg n10, pk, b2_some, hch, if_pos (nI_lt (by omega) (by omega)), lkr]
        · rw [lp_s, b_X8_readsShafts_13, digit8 h8 hp, b2_some, if_pos (show sk T l p < l ∧ 48 ≤ T (sk T l p) ∧ T (sk T l p) ≤ 57 from ⟨e1.1, by omega, by omega⟩), if_neg n10, hr8, b2_some, vl_eq, hch, hx, hin, bi_some, if_neg n10, if_neg (fun q => hny ((shr_bit d (by omega) y (by omega)).mp q)), lkr, if_pos (show sk T l p < l ∧ 48 ≤ T (sk T l p) ∧ T (sk T l p) ≤ 57 from ⟨e1.1, by omega, by omega⟩)]
      · have hyd : y < 2 ^ d := Nat.lt_of_lt_of_le hy (Nat.pow_le_pow_right (by decide) (by omega))
        have hpow : 2 ^ (d + 1) = 2 * 2 ^ d := Nat.pow_succ'
        obtain ⟨y', p', g1, g2, g3, g4, g5, -, g6, g7⟩ := ih (l - (sk T l p + 1)) (by omega) (sk T l p + 1) (y + 2 ^ d) (d + 1) rfl (by omega) (by omega) (by omega) (Or.inr (by rw [show d + 1 - 1 = d by omega]; omega)) G (by omega)
        have hpos : 0 < 2 ^ d := Nat.two_pow_pos d
        refine ⟨y', p', g1, g2, g3, by omega, fun _ _ => by omega, fun q => absurd e1 q, ?_, ?_⟩
        · rw [lp_s, b_X1_readShafts_5, show cM σ S p q5 q6 n L Y 171 2 = nI l from h7.1, show cM σ S p q5 q6 n L Y 171 3 = nI p from rfl, if_neg (nI_ge (by omega) (by omega)), peek7 h7 (by omega) (by omega), b2_some, shaft7 h7 hS hS8, bi_some, if_pos e1, if_neg n10, pk, b2_some, hch, if_neg (nI_nlt (by omega) (by omega)), pk, b2_some, hch, hx, or_bit d (by omega) y hyd, vl_eq, pk, b2_some, hch, vl_eq, vl_eq, nI_1, show cM σ S (sk T l p) q5 q6 n L Y 171 3 = nI (sk T l p) from rfl, nI_1, cM_p, lkl, show 48 + d + 1 = 48 + (d + 1) from rfl]
          exact g6
        · rw [lp_s, b_X8_readsShafts_13, digit8 h8 hp, b2_some, if_pos (show sk T l p < l ∧ 48 ≤ T (sk T l p) ∧ T (sk T l p) ≤ 57 from ⟨e1.1, by omega, by omega⟩), if_neg n10, hr8, b2_some, vl_eq, hch, hx, hin, bi_some, if_neg n10, if_pos ((shr_bit d (by omega) y (by omega)).mpr hyd), vl_eq, vl_eq, or_bit d (by omega) y hyd, show mM τ (sk T l p) n L Y 183 10 = nI (sk T l p) from rfl, nI_1, mM_p, lkl]
          exact g7
    · refine ⟨y, sk T l p, hss, hs2, hyS, Nat.le_refl y, fun _ q => absurd q e1, fun _ => ⟨rfl, rfl⟩, ?_, ?_⟩
      · rw [lp_s, b_X1_readShafts_5, show cM σ S p q5 q6 n L Y 171 2 = nI l from h7.1, show cM σ S p q5 q6 n L Y 171 3 = nI p from rfl, if_neg (nI_ge (by omega) (by omega)), peek7 h7 (by omega) (by omega), b2_some, shaft7 h7 hS hS8, bi_some, if_neg e1, if_pos rfl, lkr]
      · rw [lp_s, b_X8_readsShafts_13, digit8 h8 hp, b2_some]
        by_cases e2 : sk T l p < l ∧ 48 ≤ T (sk T l p) ∧ T (sk T l p) ≤ 57
        · obtain ⟨d, hd⟩ : ∃ d, T (sk T l p) = 48 + d := ⟨T (sk T l p) - 48, by omega⟩
          have hx : nI (48 + d) - 48 = nI d := (nI_sub (b := 48) (by omega)).trans (congrArg nI (by omega))
          have hin : f_X8_isShaft (nI d) (mM τ (sk T l p) n L Y) = some 0 := by
            rw [f_X8_isShaft, in_eq, show mM τ (sk T l p) n L Y 184 0 = nI S from hS0, show nI S - 1 = nI (S - 1) from nI_sub (b := 1) (by omega), show f_X7_isBetween (nI d) 0 (nI (S - 1)) _ = some 0 from btw_no (Or.inr (nI_lt (by omega) (by omega))) _, bi_some]
          rw [if_pos e2, if_neg n10, hr8, b2_some, vl_eq, ch_at e2.1, hd, hx, hin, bi_some, if_pos rfl, lkr, if_pos (by omega)]
        · rw [if_neg e2, if_pos rfl, lkr, if_neg e2]
end SH
