/-! part 38: numbers ahead, and what is repeated -/
section NR
variable {σ τ : Nat → Nat → Int32} {S p q5 q6 n l : Nat} {L Y : Nat → Int32} {T : Nat → Nat}
/-- a number stands here: a digit and an x behind it -/
def numA (T : Nat → Nat) (l p : Nat) : Bool := decide (sk T l p < l ∧ 48 ≤ T (sk T l p) ∧ T (sk T l p) ≤ 57) && decide (ch T l (sk T l (sk T l p + 1)) = 120)
theorem num7 (h : isT σ T l) (hp : p ≤ l) : f_X1_isNumberAhead (cM σ S p q5 q6 n L Y) = some (if numA T l p = true then 1 else 0, cM σ S (sk T l p) q5 q6 n L Y) := by
  have hl := h.2.1
  have hs := sk_le (T := T) hp
  unfold numA
  rw [f_X1_isNumberAhead, peek7 h (by omega) (by omega), b2_some, digit7 h, bi_some]
  by_cases e : sk T l p < l ∧ 48 ≤ T (sk T l p) ∧ T (sk T l p) ≤ 57
  · have hs1 := sk_le (T := T) (show sk T l p + 1 ≤ l from e.1)
    rw [if_pos e, if_neg n10, show cM σ S (sk T l p) q5 q6 n L Y 171 3 = nI (sk T l p) from rfl, nI_1, behind7 (cM_T h) (by omega), bi_some, char7 (cM_T h) (by omega), bi_some, decide_eq_true e, Bool.true_and]
    by_cases e2 : ch T l (sk T l (sk T l p + 1)) = 120
    · rw [if_pos e2, if_pos (decide_eq_true e2)]
    · rw [if_neg e2, if_neg (by rw [decide_eq_false e2]; decide)]
  · rw [if_neg e, if_pos rfl, decide_eq_false e, Bool.false_and, if_neg (by decide)]
theorem num_in {τ' : Nat → Nat → Int32} (h : isM τ' T l) : ∀ m p, l - p = m → p < 2 ^ 30 → ∀ F, m < F → lp (b_X8_isNumber_16 τ') F (nI p) = some (nI (sk T l p)) := by
  obtain ⟨h1, h2, h3⟩ := h
  intro m
  induction m with
  | zero =>
    intro p hp hp2 F hF
    obtain ⟨G, rfl⟩ : ∃ G, F = G + 1 := ⟨F - 1, by omega⟩
    rw [lp_s, b_X8_isNumber_16, h1, if_pos (nI_le (by omega) (by omega)), lkr, sk_eq, if_neg (fun q => by omega)]
  | succ m ih =>
    intro p hp hp2 F hF
    obtain ⟨G, rfl⟩ : ∃ G, F = G + 1 := ⟨F - 1, by omega⟩
    obtain ⟨g1, g2⟩ := h3 p (by omega)
    rw [lp_s, b_X8_isNumber_16, h1, if_neg (nI_ge (by omega) (by omega)), ix_nI (by omega) (by decide), nI_clamp (by omega), g2, sk_eq]
    by_cases e : T p = 32
    · rw [if_pos (by rw [e]; rfl), vl_eq, nI_1, lkl, if_pos ⟨by omega, e⟩]
      exact ih (p + 1) (by omega) (by omega) G (by omega)
    · rw [if_neg (show ¬ nI (T p) = 32 from fun q => e (nI_inj (b := 32) (by omega) (by decide) q)), lkr, if_neg (fun q => e q.2)]
theorem num8 (h : isM τ T l) (hp : p ≤ l) : f_X8_isNumber (mM τ p n L Y) = some (if numA T l p = true then 1 else 0, mM τ (sk T l p) n L Y) := by
  have hl := h.2.1
  have hs := sk_le (T := T) hp
  unfold numA
  rw [f_X8_isNumber, digit8 h hp, b2_some]
  by_cases e : sk T l p < l ∧ 48 ≤ T (sk T l p) ∧ T (sk T l p) ≤ 57
  · have hs1 := sk_le (T := T) (show sk T l p + 1 ≤ l from e.1)
    rw [if_pos e, if_neg n10, show mM τ (sk T l p) n L Y 183 10 = nI (sk T l p) from rfl, nI_1, vl_eq, num_in (mM_T h) (l - (sk T l p + 1)) (sk T l p + 1) rfl (by omega) FU (Nat.lt_of_le_of_lt (show l - (sk T l p + 1) ≤ 120 by omega) (by decide)), bi_some, show mM τ (sk T l p) n L Y 183 6 = nI l from h.1, decide_eq_true e, Bool.true_and]
    unfold ch
    by_cases e1 : sk T l (sk T l p + 1) < l
    · rw [if_neg (nI_ge e1 (by omega)), ix_nI (by omega) (by decide), nI_clamp (by omega), show mM τ (sk T l p) n L Y 187 (sk T l (sk T l p + 1)) = _ from (h.2.2 _ e1).2, if_pos e1]
      by_cases e2 : nI (T (sk T l (sk T l p + 1))) = 120
      · rw [if_pos e2, if_pos (decide_eq_true e2)]
      · rw [if_neg e2, if_neg (by rw [decide_eq_false e2]; decide)]
    · rw [if_pos (nI_le (by omega) (by omega)), if_neg e1, if_neg (by decide)]
  · rw [if_neg e, if_pos rfl, decide_eq_false e, Bool.false_and, if_neg (by decide)]
/-- a list that goes on with its part from s, of length d -/
def rpL (L : Nat → Int32) (s d n : Nat) (i : Nat) : Int32 := if i < n then L i else L (s + (i - s) % d)
theorem cM_cong {L' Y' : Nat → Int32} (h1 : ∀ i, i < n → L i = L' i) (h2 : ∀ i, i < n → Y i = Y' i) : cM σ S p q5 q6 n L Y = cM σ S p q5 q6 n L' Y' := by
  unfold cM
  congr 1
  funext a
  by_cases e1 : a = 171
  · rw [if_pos e1, if_pos e1]
  rw [if_neg e1, if_neg e1]
  by_cases e2 : a = 174
  · rw [if_pos e2, if_pos e2]
  rw [if_neg e2, if_neg e2]
  by_cases e3 : a = 176
  · rw [if_pos e3, if_pos e3]
    funext i
    by_cases e : i < n
    · rw [if_pos e, if_pos e, h1 i e]
    · rw [if_neg e, if_neg e]
  rw [if_neg e3, if_neg e3]
  by_cases e4 : a = 178
  · rw [if_pos e4, if_pos e4]
    funext i
    by_cases e : i < n
    · rw [if_pos e, if_pos e, h2 i e]
    · rw [if_neg e, if_neg e]
  rw [if_neg e4, if_neg e4]
theorem rep_row {s d t : Nat} (hd : 0 < d) (hn : n = s + d) : ∀ m y c, y + m = n → s ≤ y → (c - s) % d = y - s → n ≤ c → c + m ≤ 24 → ∀ F, m < F → lp (b_X0_repeatFrom_31 174 (nI n)) F (nI y, cM σ S p q5 q6 c (rpL L s d n) (rpL Y s d n)) = some (cM σ S p q5 q6 (c + m) (rpL L s d n) (rpL Y s d n)) := by
  intro m
  induction m with
  | zero =>
    intro y c hy hs hc hnc h24 F hF
    obtain ⟨G, rfl⟩ : ∃ G, F = G + 1 := ⟨F - 1, by omega⟩
    have : y = n := by omega
    subst this
    rw [lp_s, b_X0_repeatFrom_31, if_pos (nI_le (Nat.le_refl y) (by omega)), lkr]
    rfl
  | succ m ih =>
    intro y c hy hs hc hnc h24 F hF
    obtain ⟨G, rfl⟩ : ∃ G, F = G + 1 := ⟨F - 1, by omega⟩
    have hL : ∀ f : Nat → Int32, rpL f s d n c = f y := fun f => by
      unfold rpL
      rw [if_neg (by omega), hc, show s + (y - s) = y by omega]
    have hr1 : cM σ S p q5 q6 c (rpL L s d n) (rpL Y s d n) 176 y = rpL L s d n c := by
      rw [hL]
      show (if y < c then rpL L s d n y else σ 176 y) = _
      rw [if_pos (by omega)]
      unfold rpL
      rw [if_pos (by omega)]
    have hr2 : cM σ S p q5 q6 c (rpL L s d n) (rpL Y s d n) 178 y = rpL Y s d n c := by
      rw [hL]
      show (if y < c then rpL Y s d n y else σ 178 y) = _
      rw [if_pos (by omega)]
      unfold rpL
      rw [if_pos (by omega)]
    rw [lp_s, b_X0_repeatFrom_31, if_neg (nI_ge (by omega) (by omega)), num_at (by omega) (by decide), bi_some, num_at (by omega) (by decide), bi_some, show 174 + 1 + 1 = 176 from rfl, show 174 + 3 + 1 = 178 from rfl, hr1, hr2, addC _ _ (by omega), bi_some, upd_self, upd_self, vl_eq, nI_1, lkl, show c + (m + 1) = c + 1 + m by omega]
    by_cases hm : m = 0
    · subst hm
      obtain ⟨G', rfl⟩ : ∃ G', G = G' + 1 := ⟨G - 1, by omega⟩
      rw [lp_s, b_X0_repeatFrom_31, if_pos (nI_le (by omega) (by omega)), lkr]
    · refine ih (y + 1) (c + 1) (by omega) (by omega) ?_ (by omega) (by omega) G (by omega)
      rw [show c + 1 - s = c - s + 1 by omega, mod_s hd, hc, if_neg (by omega)]
      omega
end NR
