/-! part 16: the mirrored programs' words, and the rows of numbers -/
theorem bi_some {α β : Type _} (x : α) (f : α → Option β) : bi (some x) f = f x := rfl
theorem b2_some {α1 α2 β : Type _} (x1 : α1) (x2 : α2) (f : α1 → α2 → Option β) : b2 (some (x1, x2)) f = f x1 x2 := rfl
theorem b3_some {α1 α2 α3 β : Type _} (x1 : α1) (x2 : α2) (x3 : α3) (f : α1 → α2 → α3 → Option β) : b3 (some (x1, x2, x3)) f = f x1 x2 x3 := rfl
theorem b4_some {α1 α2 α3 α4 β : Type _} (x1 : α1) (x2 : α2) (x3 : α3) (x4 : α4) (f : α1 → α2 → α3 → α4 → Option β) : b4 (some (x1, x2, x3, x4)) f = f x1 x2 x3 x4 := rfl
theorem vl_eq {α β : Sort _} (a : α) (f : α → β) : vl a f = f a := rfl
theorem jn_eq {α β : Sort _} (b : α → β) (k : α) : jn b k = b k := rfl
theorem ix_nI {β : Type _} {j n : Nat} (h : j < n) (hn : n < 2 ^ 31) (k : Option β) : ix (nI j) n k = k := if_neg (nI_in h hn)
theorem ix_of {β : Type _} {i : Int32} {j n : Nat} (e : i = nI j) (h : j < n) (hn : n < 2 ^ 31) (k : Option β) : ix i n k = k := by subst e; exact ix_nI h hn k
theorem nz_ok {β : Type _} {i : Int32} (h : ¬ i = 0) (k : Option β) : nz i k = k := if_neg h
theorem bz_ok {β : Type _} {i : Int32} (h : i = 0 ∨ i = 1) (k : Option β) : bz i k = k := if_pos h
theorem sm_inl {α β γ : Type _} (x : α) (f : α → γ) (g : β → γ) : sm (.inl x) f g = f x := rfl
theorem sm_inr {α β γ : Type _} (y : β) (f : α → γ) (g : β → γ) : sm (.inr y) f g = g y := rfl
theorem cur2_mk {β1 β2 γ : Type _} (g : β1 → β2 → γ) (x : β1) (y : β2) : cur2 g (x, y) = g x y := rfl
theorem lp_at {α β : Type _} {f : α → Option (α ⊕ β)} (st : Nat → α) (n : Nat) {y : β} (hs : ∀ i, i < n → f (st i) = some (.inl (st (i + 1)))) (he : f (st n) = some (.inr y)) : ∀ m i F, i + m = n → m < F → lp f F (st i) = some y := by
  intro m
  induction m with
  | zero =>
    intro i F hi hF
    obtain ⟨G, rfl⟩ : ∃ G, F = G + 1 := ⟨F - 1, by omega⟩
    have : i = n := by omega
    subst this
    show bi (f (st i)) (lk (lp f G)) = some y
    rw [he]; rfl
  | succ m ih =>
    intro i F hi hF
    obtain ⟨G, rfl⟩ : ∃ G, F = G + 1 := ⟨F - 1, by omega⟩
    show bi (f (st i)) (lk (lp f G)) = some y
    rw [hs i (by omega)]
    exact ih (i + 1) G (by omega) (by omega)
/-- a loop of n rounds: its states st 0 .. st n -/
theorem lp_run {α β : Type _} {f : α → Option (α ⊕ β)} (st : Nat → α) (n : Nat) {y : β} (hn : n < 4096) (hs : ∀ i, i < n → f (st i) = some (.inl (st (i + 1)))) (he : f (st n) = some (.inr y)) {x : α} (hx : st 0 = x) : lp f FU x = some y := by
  subst hx
  exact lp_at st n hs he n 0 FU (by omega) hn
theorem nI_mul (a b : Nat) : nI a * nI b = nI (a * b) := by
  apply Int32.toBitVec_inj.mp
  show BitVec.ofNat 32 a * BitVec.ofNat 32 b = BitVec.ofNat 32 (a * b)
  rw [BitVec.ofNat_mul]
theorem nI_sub {a b : Nat} (h : b ≤ a) : nI a - nI b = nI (a - b) := by
  have e : nI a = nI (a - b) + nI b := by rw [nI_add]; congr 1; omega
  rw [e]
  apply Int32.toBitVec_inj.mp
  rw [Int32.toBitVec_sub, Int32.toBitVec_add, BitVec.add_sub_cancel]
theorem nI_inj {a b : Nat} (ha : a < 2 ^ 31) (hb : b < 2 ^ 31) (h : nI a = nI b) : a = b := (nI_eq ha hb).mp h
/-- writes and reads -/
theorem upd_eq (f : Nat → Int32) (k : Nat) (x : Int32) : upd f k x k = x := if_pos rfl
theorem upd_ne {f : Nat → Int32} {k j : Nat} (h : j ≠ k) (x : Int32) : upd f k x j = f j := if_neg h
theorem wr_at (σ : Nat → Nat → Int32) (o k : Nat) (v : Int32) : wr σ o k v o k = v := by rw [wr_eq, upd_eq]
theorem wr_atne {σ : Nat → Nat → Int32} {o k j : Nat} {v : Int32} (h : j ≠ k) : wr σ o k v o j = σ o j := by rw [wr_eq, upd_ne h]
theorem wc_eq (σ : Nat → Nat → Int32) (o a n : Nat) : wc σ o a n o = va_cpy (σ a) (σ o) 0 0 n := if_pos rfl
theorem wc_ne {σ : Nat → Nat → Int32} {o a n b : Nat} (h : b ≠ o) : wc σ o a n b = σ b := if_neg h
theorem cpy_at {f g : Nat → Int32} {n i : Nat} (h : i < n) : va_cpy f g 0 0 n i = f i := by
  unfold va_cpy
  rw [if_pos ⟨by omega, by omega⟩]
  congr 1; omega
/-- a row filled up to n -/
def fl (σ : Nat → Nat → Int32) (o n : Nat) (v : Int32) : Nat → Nat → Int32 := fun a => if a = o then (fun k => if k < n then v else σ o k) else σ a
theorem fl_ne {σ : Nat → Nat → Int32} {o n b : Nat} {v : Int32} (h : b ≠ o) : fl σ o n v b = σ b := if_neg h
theorem fl_at {σ : Nat → Nat → Int32} {o n k : Nat} {v : Int32} (h : k < n) : fl σ o n v o k = v := by unfold fl; rw [if_pos rfl, if_pos h]
theorem fl_0 (σ : Nat → Nat → Int32) (o : Nat) (v : Int32) : fl σ o 0 v = σ := by
  funext a
  unfold fl
  by_cases h : a = o
  · subst h; rw [if_pos rfl]; funext k; rw [if_neg (by omega)]
  · rw [if_neg h]
theorem fl_succ (σ : Nat → Nat → Int32) (o n : Nat) (v : Int32) : wr (fl σ o n v) o n v = fl σ o (n + 1) v := by
  funext a
  by_cases h : a = o
  · subst h
    rw [wr_eq]
    funext k
    unfold upd fl
    rw [if_pos rfl, if_pos rfl]
    by_cases hk : k = n
    · rw [if_pos hk, if_pos (by omega)]
    · rw [if_neg hk]
      by_cases h2 : k < n
      · rw [if_pos h2, if_pos (by omega)]
      · rw [if_neg h2, if_neg (by omega)]
  · rw [wr_ne h, fl_ne h, fl_ne h]
/-- the rows of numbers: Numbers' own methods -/
theorem num_at {o n k : Nat} {σ : Nat → Nat → Int32} (h : k < n) (hn : n < 2 ^ 31) : f_X4_at o n (nI k) σ = some (σ (o + 1) k) := by
  unfold f_X4_at
  rw [if_neg (nI_pos (by omega)), if_neg (nI_ge h hn), ix_nI h hn, nI_clamp (by omega)]
theorem num_put {o n k : Nat} {σ : Nat → Nat → Int32} {v : Int32} (h : k < n) (hn : n < 2 ^ 31) : f_X4_put o n (nI k) v σ = some (wr σ (o + 1) k v) := by
  unfold f_X4_put
  rw [if_neg (nI_pos (by omega)), if_neg (nI_ge h hn), ix_nI h hn, nI_clamp (by omega)]
  rfl
theorem num_fill {o n : Nat} {σ : Nat → Nat → Int32} {v : Int32} (hn : n < 4096) : f_X4_putAll o n v σ = some (fl σ (o + 1) n v) := by
  unfold f_X4_putAll
  rw [lp_run (fun i => (nI i, fl σ (o + 1) i v)) n (y := fl σ (o + 1) n v) hn ?_ ?_ (by show (nI 0, fl σ (o + 1) 0 v) = _; rw [fl_0]; rfl)]
  · rfl
  · intro i hi
    show b_X4_putAll_2 o n v (nI i, fl σ (o + 1) i v) = _
    rw [b_X4_putAll_2, if_neg (nI_ge hi (by omega)), ix_nI hi (by omega), nI_clamp (by omega), vl_eq, vl_eq, fl_succ, nI_1]
  · show b_X4_putAll_2 o n v (nI n, fl σ (o + 1) n v) = _
    rw [b_X4_putAll_2, if_pos (nI_le (Nat.le_refl n) (by omega))]
theorem num_copy {o o2 n : Nat} {σ : Nat → Nat → Int32} (hn : n < 2 ^ 31) : f_X4_copyFrom o n o2 n σ = some (wc σ (o + 1) (o2 + 1) n) := by
  unfold f_X4_copyFrom
  have e : imin (nI n) (nI n) = nI n := by unfold imin; split <;> rfl
  rw [e]
  unfold cg
  rw [if_pos ⟨nI_pos hn, by rw [nI_clamp hn]; omega, by rw [nI_clamp hn]; omega⟩, nI_clamp hn]
  rfl
/-- places of a state that count: row, place -/
def lvp (j i : Nat) : Prop := (j = 1 ∧ i < 2) ∨ (j = 3 ∧ i < 32) ∨ (j = 5 ∧ i < 32) ∨ (j = 7 ∧ i < 8) ∨ (j = 8 ∧ i < 3) ∨ (j = 10 ∧ i < 24) ∨ (j = 12 ∧ i < 24) ∨ (j = 14 ∧ i < 10) ∨ (j = 15 ∧ i < 1) ∨ (j = 17 ∧ i < 64) ∨ (j = 19 ∧ i < 64) ∨ (j = 21 ∧ i < 64) ∨ (j = 23 ∧ i < 64) ∨ (j = 25 ∧ i < 64) ∨ (j = 27 ∧ i < 64)
def cpP (o o2 : Nat) (σ σ' : Nat → Nat → Int32) (P : Nat → Nat → Prop) : Prop := (∀ a, (a < o ∨ o + 28 ≤ a) → σ' a = σ a) ∧ ∀ j i, P j i → σ' (o + j) i = σ (o2 + j) i
theorem cp_wc {o o2 j n : Nat} {σ σ' : Nat → Nat → Int32} {P : Nat → Nat → Prop} (h : cpP o o2 σ σ' P) (hd : o2 + 28 ≤ o ∨ o + 28 ≤ o2) (hj : j < 28) : cpP o o2 σ (wc σ' (o + j) (o2 + j) n) (fun j' i => (j' = j ∧ i < n) ∨ (j' ≠ j ∧ P j' i)) := by
  refine ⟨fun a ha => ?_, fun j' i hp => ?_⟩
  · rw [wc_ne (by omega)]; exact h.1 a ha
  · rcases hp with ⟨rfl, hi⟩ | ⟨hne, hp⟩
    · rw [wc_eq, cpy_at hi, h.1 (o2 + j') (by omega)]
    · rw [wc_ne (by omega)]; exact h.2 j' i hp
theorem cp_wr {o o2 j k : Nat} {σ σ' : Nat → Nat → Int32} {P : Nat → Nat → Prop} (h : cpP o o2 σ σ' P) (hd : o2 + 28 ≤ o ∨ o + 28 ≤ o2) (hj : j < 28) : cpP o o2 σ (wr σ' (o + j) k (σ' (o2 + j) k)) (fun j' i => (j' = j ∧ i = k) ∨ P j' i) := by
  refine ⟨fun a ha => ?_, fun j' i hp => ?_⟩
  · rw [wr_ne (by omega)]; exact h.1 a ha
  · by_cases e : j' = j
    · subst e
      by_cases e2 : i = k
      · subst e2; rw [wr_at, h.1 (o2 + j') (by omega)]
      · rw [wr_atne e2]
        rcases hp with q | q
        · exact absurd q.2 e2
        · exact h.2 j' i q
    · rw [wr_ne (by omega)]
      rcases hp with q | q
      · exact absurd q.1 e
      · exact h.2 j' i q
theorem cp_wx {o o2 j k : Nat} {v : Int32} {σ σ' : Nat → Nat → Int32} {P : Nat → Nat → Prop} (h : cpP o o2 σ σ' P) (hj : j < 28) : cpP o o2 σ (wr σ' (o + j) k v) (fun j' i => ¬ (j' = j ∧ i = k) ∧ P j' i) := by
  refine ⟨fun a ha => ?_, fun j' i hp => ?_⟩
  · rw [wr_ne (by omega)]; exact h.1 a ha
  · by_cases e : j' = j
    · subst e
      rw [wr_atne (fun q => hp.1 ⟨rfl, q⟩)]
      exact h.2 j' i hp.2
    · rw [wr_ne (by omega)]
      exact h.2 j' i hp.2
/-- a state's copy -/
theorem st_copy {o o2 : Nat} (σ : Nat → Nat → Int32) (hd : o2 + 28 ≤ o ∨ o + 28 ≤ o2) : ∃ σ', f_X5_copyFrom o o2 σ = some σ' ∧ cpP o o2 σ σ' lvp := by
  have h0 : cpP o o2 σ σ (fun _ _ => False) := ⟨fun _ _ => rfl, fun _ _ h => h.elim⟩
  have h1 := cp_wr (j := 1) (k := 0) h0 hd (by decide)
  have h2 := cp_wr (j := 1) (k := 1) h1 hd (by decide)
  have h3 := cp_wc (j := 3) (n := 32) h2 hd (by decide)
  have h4 := cp_wc (j := 5) (n := 32) h3 hd (by decide)
  have h5 := cp_wc (j := 7) (n := 8) h4 hd (by decide)
  have h6 := cp_wr (j := 8) (k := 0) h5 hd (by decide)
  have h7 := cp_wx (j := 8) (k := 1) (v := 0) h6 (by decide)
  have h8 := cp_wc (j := 10) (n := 24) h7 hd (by decide)
  have h9 := cp_wc (j := 12) (n := 24) h8 hd (by decide)
  have h10 := cp_wr (j := 8) (k := 1) h9 hd (by decide)
  have h11 := cp_wr (j := 8) (k := 2) h10 hd (by decide)
  have h12 := cp_wc (j := 14) (n := 10) h11 hd (by decide)
  have h13 := cp_wr (j := 15) (k := 0) h12 hd (by decide)
  have h14 := cp_wc (j := 17) (n := 64) h13 hd (by decide)
  have h15 := cp_wc (j := 19) (n := 64) h14 hd (by decide)
  have h16 := cp_wc (j := 21) (n := 64) h15 hd (by decide)
  have h17 := cp_wc (j := 23) (n := 64) h16 hd (by decide)
  have h18 := cp_wc (j := 25) (n := 64) h17 hd (by decide)
  have h19 := cp_wc (j := 27) (n := 64) h18 hd (by decide)
  refine ⟨_, ?_, h19.1, fun j i hl => h19.2 j i ?_⟩
  · rw [f_X5_copyFrom, f_X6_copyFrom, vl_eq, vl_eq, num_copy (by decide), bi_some, num_copy (by decide), bi_some, num_copy (by decide), bi_some, bi_some, f_X0_copyFrom, f_X0_takeBarsOf, vl_eq, vl_eq, num_copy (by decide), bi_some, num_copy (by decide), bi_some, bi_some, vl_eq, vl_eq, bi_some, num_copy (by decide), bi_some, f_X2_copyFrom, vl_eq, num_copy (by decide), bi_some, num_copy (by decide), bi_some, num_copy (by decide), bi_some, num_copy (by decide), bi_some, num_copy (by decide), bi_some, num_copy (by decide), bi_some, bi_some]
  · unfold lvp at hl
    rcases hl with ⟨rfl, hi⟩ | ⟨rfl, hi⟩ | ⟨rfl, hi⟩ | ⟨rfl, hi⟩ | ⟨rfl, hi⟩ | ⟨rfl, hi⟩ | ⟨rfl, hi⟩ | ⟨rfl, hi⟩ | ⟨rfl, hi⟩ | ⟨rfl, hi⟩ | ⟨rfl, hi⟩ | ⟨rfl, hi⟩ | ⟨rfl, hi⟩ | ⟨rfl, hi⟩ | ⟨rfl, hi⟩ <;> first | (simp [hi]; done) | (simp; omega)
