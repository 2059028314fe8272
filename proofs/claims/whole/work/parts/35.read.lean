/-! part 35: the readers: letters, spaces, memories -/
def ch (T : Nat → Nat) (l p : Nat) : Int32 := if p < l then nI (T p) else -1
def skf (T : Nat → Nat) (l : Nat) : Nat → Nat → Nat
  | 0, p => p
  | m + 1, p => if p < l ∧ T p = 32 then skf T l m (p + 1) else p
def sk (T : Nat → Nat) (l p : Nat) : Nat := skf T l (l - p) p
theorem sk_eq (T : Nat → Nat) (l p : Nat) : sk T l p = if p < l ∧ T p = 32 then sk T l (p + 1) else p := by
  unfold sk
  by_cases h : p < l
  · rw [show l - p = (l - (p + 1)) + 1 by omega, skf]
  · rw [show l - p = 0 by omega, skf, if_neg (fun q => h q.1)]
theorem sk_ind (T : Nat → Nat) (l : Nat) : ∀ m p, l - p = m → p ≤ sk T l p ∧ (p ≤ l → sk T l p ≤ l) ∧ ¬ (sk T l p < l ∧ T (sk T l p) = 32) := by
  intro m
  induction m with
  | zero =>
    intro p hp
    rw [sk_eq, if_neg (fun q => by omega)]
    exact ⟨Nat.le_refl p, fun h => h, fun q => by omega⟩
  | succ m ih =>
    intro p hp
    rw [sk_eq]
    by_cases h : p < l ∧ T p = 32
    · rw [if_pos h]
      obtain ⟨h1, h2, h3⟩ := ih (p + 1) (by omega)
      exact ⟨by omega, fun _ => h2 (by omega), h3⟩
    · rw [if_neg h]
      exact ⟨Nat.le_refl p, fun h => h, h⟩
theorem sk_ge (T : Nat → Nat) (l p : Nat) : p ≤ sk T l p := (sk_ind T l _ p rfl).1
theorem sk_le {T : Nat → Nat} {l p : Nat} (h : p ≤ l) : sk T l p ≤ l := (sk_ind T l _ p rfl).2.1 h
theorem sk_sk (T : Nat → Nat) (l p : Nat) : sk T l (sk T l p) = sk T l p := by
  rw [sk_eq, if_neg (sk_ind T l _ p rfl).2.2]
def isT (σ : Nat → Nat → Int32) (T : Nat → Nat) (l : Nat) : Prop := σ 171 2 = nI l ∧ l ≤ 120 ∧ ∀ i, i < l → T i < 256 ∧ σ 173 i = nI (T i)
def isM (σ : Nat → Nat → Int32) (T : Nat → Nat) (l : Nat) : Prop := σ 183 6 = nI l ∧ l ≤ 120 ∧ ∀ i, i < l → T i < 256 ∧ σ 187 i = nI (T i)
theorem behind {σ : Nat → Nat → Int32} {T : Nat → Nat} {l : Nat} (h : isT σ T l) : ∀ m p, l - p = m → p < 2 ^ 30 → ∀ F, m < F → lp (b_X1_placeBehindSpaces_2 σ) F (nI p) = some (nI (sk T l p)) := by
  obtain ⟨h1, h2, h3⟩ := h
  intro m
  induction m with
  | zero =>
    intro p hp hp2 F hF
    obtain ⟨G, rfl⟩ : ∃ G, F = G + 1 := ⟨F - 1, by omega⟩
    rw [lp_s, b_X1_placeBehindSpaces_2, h1, if_pos (nI_le (by omega) (by omega)), lkr, sk_eq, if_neg (fun q => by omega)]
  | succ m ih =>
    intro p hp hp2 F hF
    obtain ⟨G, rfl⟩ : ∃ G, F = G + 1 := ⟨F - 1, by omega⟩
    obtain ⟨g1, g2⟩ := h3 p (by omega)
    rw [lp_s, b_X1_placeBehindSpaces_2, h1, if_neg (nI_ge (by omega) (by omega)), num_at (by omega) (by decide), bi_some, show σ (172 + 1) p = _ from g2, sk_eq]
    by_cases e : T p = 32
    · rw [if_pos (by rw [e]; rfl), vl_eq, nI_1, lkl, if_pos ⟨by omega, e⟩]
      exact ih (p + 1) (by omega) (by omega) G (by omega)
    · rw [if_neg (show ¬ nI (T p) = 32 from fun q => e (nI_inj (b := 32) (by omega) (by decide) q)), lkr, if_neg (fun q => e q.2)]
theorem behind7 {σ : Nat → Nat → Int32} {T : Nat → Nat} {l p : Nat} (h : isT σ T l) (hp : p < 2 ^ 30) : f_X1_placeBehindSpaces (nI p) σ = some (nI (sk T l p)) := by
  have := h.2.1
  rw [f_X1_placeBehindSpaces, behind h (l - p) p rfl hp FU (Nat.lt_of_le_of_lt (show l - p ≤ 120 by omega) (by decide)), bi_some]
theorem char7 {σ : Nat → Nat → Int32} {T : Nat → Nat} {l p : Nat} (h : isT σ T l) (hp : p < 2 ^ 30) : f_X1_characterAt (nI p) σ = some (ch T l p) := by
  obtain ⟨h1, h2, h3⟩ := h
  rw [f_X1_characterAt, h1]
  unfold ch
  by_cases e : p < l
  · rw [if_neg (nI_ge e (by omega)), num_at (by omega) (by decide), bi_some, show σ (172 + 1) p = _ from (h3 p e).2, if_pos e]
  · rw [if_pos (nI_le (by omega) (by omega)), if_neg e]
/-- the class's memory while it reads -/
def cM (σ : Nat → Nat → Int32) (S p q5 q6 n : Nat) (L Y : Nat → Int32) : Nat → Nat → Int32 := fun a => if a = 171 then (fun i => if i = 3 then nI p else if i = 4 then nI S else if i = 5 then nI q5 else if i = 6 then nI q6 else σ 171 i) else if a = 174 then (fun i => if i = 0 then nI n else if i = 1 then 0 else σ 174 i) else if a = 176 then (fun i => if i < n then L i else σ 176 i) else if a = 178 then (fun i => if i < n then Y i else σ 178 i) else σ a
/-- the reference's -/
def mM (σ : Nat → Nat → Int32) (p n : Nat) (L Y : Nat → Int32) : Nat → Nat → Int32 := fun a => if a = 183 then (fun i => if i = 10 then nI p else if i = 9 then nI n else σ 183 i) else if a = 188 then (fun i => if i < n then L i else σ 188 i) else if a = 189 then (fun i => if i < n then Y i else σ 189 i) else σ a
section CM
variable {σ : Nat → Nat → Int32} {S p q5 q6 n : Nat} {L Y : Nat → Int32} {T : Nat → Nat} {l : Nat}
theorem cM_ne {a : Nat} (h1 : a ≠ 171) (h2 : a ≠ 174) (h3 : a ≠ 176) (h4 : a ≠ 178) : cM σ S p q5 q6 n L Y a = σ a := by
  unfold cM
  rw [if_neg h1, if_neg h2, if_neg h3, if_neg h4]
theorem cM_p (p' : Nat) : wr (cM σ S p q5 q6 n L Y) 171 3 (nI p') = cM σ S p' q5 q6 n L Y := by
  funext a
  by_cases h : a = 171
  · subst h
    rw [wr_eq]
    funext i
    unfold upd cM
    by_cases e : i = 3
    · rw [if_pos e, if_pos rfl, if_pos e]
    · rw [if_neg e, if_pos rfl, if_neg e, if_pos rfl, if_neg e]
  · rw [wr_ne h]
    unfold cM
    rw [if_neg h, if_neg h]
theorem cM_5 (p' : Nat) : wr (cM σ S p q5 q6 n L Y) 171 5 (nI p') = cM σ S p p' q6 n L Y := by
  funext a
  by_cases h : a = 171
  · subst h
    rw [wr_eq]
    funext i
    unfold upd cM
    by_cases e : i = 5
    · subst e; rfl
    · rw [if_neg e, if_pos rfl, if_pos rfl]
      simp only [if_neg e]
  · rw [wr_ne h]
    unfold cM
    rw [if_neg h, if_neg h]
theorem cM_6 (p' : Nat) : wr (cM σ S p q5 q6 n L Y) 171 6 (nI p') = cM σ S p q5 p' n L Y := by
  funext a
  by_cases h : a = 171
  · subst h
    rw [wr_eq]
    funext i
    unfold upd cM
    by_cases e : i = 6
    · subst e; rfl
    · rw [if_neg e, if_pos rfl, if_pos rfl]
      simp only [if_neg e]
  · rw [wr_ne h]
    unfold cM
    rw [if_neg h, if_neg h]
theorem row_up (f : Nat → Int32) (g : Nat → Int32) (n : Nat) (x : Int32) : upd (fun i => if i < n then f i else g i) n x = fun i => if i < n + 1 then upd f n x i else g i := by
  funext i
  unfold upd
  by_cases e : i = n
  · rw [if_pos e, if_pos (by omega), if_pos e]
  · rw [if_neg e]
    dsimp only
    by_cases e2 : i < n
    · rw [if_pos e2, if_pos (by omega), if_neg e]
    · rw [if_neg e2, if_neg (by omega)]
theorem cM_add (x c : Int32) : wr (wr (wr (cM σ S p q5 q6 n L Y) 176 n x) 178 n c) 174 0 (nI (n + 1)) = cM σ S p q5 q6 (n + 1) (upd L n x) (upd Y n c) := by
  funext a
  by_cases h1 : a = 174
  · subst h1
    rw [wr_eq, wr_ne (by decide), wr_ne (by decide)]
    funext i
    unfold upd
    by_cases e : i = 0
    · subst e; rfl
    · rw [if_neg e]
      show (if i = 0 then nI n else if i = 1 then 0 else σ 174 i) = (if i = 0 then nI (n + 1) else if i = 1 then 0 else σ 174 i)
      rw [if_neg e, if_neg e]
  · rw [wr_ne h1]
    by_cases h2 : a = 178
    · subst h2
      rw [wr_eq, wr_ne (by decide)]
      exact row_up Y (σ 178) n c
    · rw [wr_ne h2]
      by_cases h3 : a = 176
      · subst h3
        rw [wr_eq]
        exact row_up L (σ 176) n x
      · rw [wr_ne h3]
        unfold cM
        rw [if_neg h1, if_neg h2, if_neg h3, if_neg h1, if_neg h2, if_neg h3]
theorem cM_T (h : isT σ T l) : isT (cM σ S p q5 q6 n L Y) T l := by
  obtain ⟨h1, h2, h3⟩ := h
  exact ⟨h1, h2, fun i hi => by rw [cM_ne (by decide) (by decide) (by decide) (by decide)]; exact h3 i hi⟩
theorem mM_ne {a : Nat} (h1 : a ≠ 183) (h2 : a ≠ 188) (h3 : a ≠ 189) : mM σ p n L Y a = σ a := by
  unfold mM
  rw [if_neg h1, if_neg h2, if_neg h3]
theorem mM_p (p' : Nat) : wr (mM σ p n L Y) 183 10 (nI p') = mM σ p' n L Y := by
  funext a
  by_cases h : a = 183
  · subst h
    rw [wr_eq]
    funext i
    unfold upd mM
    by_cases e : i = 10
    · rw [if_pos e, if_pos rfl, if_pos e]
    · rw [if_neg e, if_pos rfl, if_neg e, if_pos rfl, if_neg e]
  · rw [wr_ne h]
    unfold mM
    rw [if_neg h, if_neg h]
theorem mM_add (x c : Int32) : wr (wr (wr (mM σ p n L Y) 188 n x) 189 n c) 183 9 (nI (n + 1)) = mM σ p (n + 1) (upd L n x) (upd Y n c) := by
  funext a
  by_cases h1 : a = 183
  · subst h1
    rw [wr_eq, wr_ne (by decide), wr_ne (by decide)]
    funext i
    unfold upd
    by_cases e : i = 9
    · subst e; rfl
    · rw [if_neg e]
      show (if i = 10 then nI p else if i = 9 then nI n else σ 183 i) = (if i = 10 then nI p else if i = 9 then nI (n + 1) else σ 183 i)
      rw [if_neg e, if_neg e]
  · rw [wr_ne h1]
    by_cases h2 : a = 189
    · subst h2
      rw [wr_eq, wr_ne (by decide)]
      exact row_up Y (σ 189) n c
    · rw [wr_ne h2]
      by_cases h3 : a = 188
      · subst h3
        rw [wr_eq]
        exact row_up L (σ 188) n x
      · rw [wr_ne h3]
        unfold mM
        rw [if_neg h1, if_neg h2, if_neg h3, if_neg h1, if_neg h2, if_neg h3]
theorem mM_T (h : isM σ T l) : isM (mM σ p n L Y) T l := by
  obtain ⟨h1, h2, h3⟩ := h
  exact ⟨h1, h2, fun i hi => by rw [mM_ne (by decide) (by decide) (by decide)]; exact h3 i hi⟩
/-- looking ahead and taking, in the class -/
theorem peek7 (h : isT σ T l) (hp : p < 2 ^ 30) (hp2 : sk T l p < 2 ^ 30) : f_X1_peek (cM σ S p q5 q6 n L Y) = some (ch T l (sk T l p), cM σ S (sk T l p) q5 q6 n L Y) := by
  rw [f_X1_peek, show cM σ S p q5 q6 n L Y 171 3 = nI p from rfl, behind7 (cM_T h) hp, bi_some, vl_eq, cM_p, show cM σ S (sk T l p) q5 q6 n L Y 171 3 = nI (sk T l p) from rfl, char7 (cM_T h) hp2, bi_some]
theorem take7c {c : Int32} (h : isT σ T l) (hp : p ≤ l) : f_X1_take c (cM σ S p q5 q6 n L Y) = some (if ch T l (sk T l p) = c then ((1 : Int32), cM σ S (sk T l p + 1) q5 q6 n L Y) else (0, cM σ S (sk T l p) q5 q6 n L Y)) := by
  have := h.2.1
  have := sk_le (T := T) hp
  rw [f_X1_take, peek7 h (by omega) (by omega), b2_some]
  by_cases e : ch T l (sk T l p) = c
  · rw [if_pos e, if_pos e, show cM σ S (sk T l p) q5 q6 n L Y 171 3 = nI (sk T l p) from rfl, nI_1, cM_p, vl_eq]
  · rw [if_neg e, if_neg e]
/-- and in the reference -/
theorem here_in (h : isM σ T l) : ∀ m p, l - p = m → p < 2 ^ 30 → ∀ F, m < F → lp b_X8_here_0 F (mM σ p n L Y) = some (mM σ (sk T l p) n L Y) := by
  obtain ⟨h1, h2, h3⟩ := h
  intro m
  induction m with
  | zero =>
    intro p hp hp2 F hF
    obtain ⟨G, rfl⟩ : ∃ G, F = G + 1 := ⟨F - 1, by omega⟩
    rw [lp_s, b_X8_here_0, show mM σ p n L Y 183 6 = nI l from h1, show mM σ p n L Y 183 10 = nI p from rfl, if_pos (nI_le (by omega) (by omega)), lkr, sk_eq, if_neg (fun q => by omega)]
  | succ m ih =>
    intro p hp hp2 F hF
    obtain ⟨G, rfl⟩ : ∃ G, F = G + 1 := ⟨F - 1, by omega⟩
    obtain ⟨g1, g2⟩ := h3 p (by omega)
    rw [lp_s, b_X8_here_0, show mM σ p n L Y 183 6 = nI l from h1, show mM σ p n L Y 183 10 = nI p from rfl, if_neg (nI_ge (by omega) (by omega)), ix_nI (by omega) (by decide), nI_clamp (by omega), show mM σ p n L Y 187 p = _ from g2, sk_eq]
    by_cases e : T p = 32
    · rw [if_pos (by rw [e]; rfl), vl_eq, nI_1, mM_p, lkl, if_pos ⟨by omega, e⟩]
      exact ih (p + 1) (by omega) (by omega) G (by omega)
    · rw [if_neg (show ¬ nI (T p) = 32 from fun q => e (nI_inj (b := 32) (by omega) (by decide) q)), lkr, if_neg (fun q => e q.2)]
theorem here8 (h : isM σ T l) (hp : p < 2 ^ 30) (hp2 : sk T l p < 2 ^ 30) : f_X8_here (mM σ p n L Y) = some (ch T l (sk T l p), mM σ (sk T l p) n L Y) := by
  have h2 := h.2.1
  rw [f_X8_here, here_in h (l - p) p rfl hp FU (Nat.lt_of_le_of_lt (show l - p ≤ 120 by omega) (by decide)), bi_some, show mM σ (sk T l p) n L Y 183 6 = nI l from h.1, show mM σ (sk T l p) n L Y 183 10 = nI (sk T l p) from rfl]
  unfold ch
  by_cases e : sk T l p < l
  · rw [if_neg (nI_ge e (by omega)), ix_nI (by omega) (by decide), nI_clamp (by omega), show mM σ (sk T l p) n L Y 187 (sk T l p) = _ from (h.2.2 _ e).2, if_pos e]
  · rw [if_pos (nI_le (by omega) (by omega)), if_neg e]
theorem takes8 {c : Int32} (h : isM σ T l) (hp : p ≤ l) : f_X8_takes c (mM σ p n L Y) = some (if ch T l (sk T l p) = c then ((1 : Int32), mM σ (sk T l p + 1) n L Y) else (0, mM σ (sk T l p) n L Y)) := by
  have := h.2.1
  have := sk_le (T := T) hp
  rw [f_X8_takes, here8 h (by omega) (by omega), b2_some]
  simp only [vl_eq]
  rw [show mM σ (sk T l p) n L Y 183 10 = nI (sk T l p) from rfl]
  by_cases e : ch T l (sk T l p) = c
  · rw [if_pos e, if_neg n10, bz_ok (Or.inr rfl), nI_1, mM_p, if_pos e]
  · rw [if_neg e, if_pos rfl, bz_ok (Or.inl rfl), show nI (sk T l p) + 0 = nI (sk T l p) from nI_add _ 0, mM_p, if_neg e]
end CM
