/-! part 33: the weft laid, the pick, weave -/
def uS (ab : Int32) (W r i : Nat) : Nat := sumN (fun k => ndV ab W r k) i
def lyR (ab : Int32) (W r y : Nat) : Nat → Nat → Nat
  | 0, i => i
  | m + 1, i => if uS ab W r (i + 1) ≤ y then lyR ab W r y m (i + 1) else i
def wfM (W r : Nat) : Nat → Int32
  | 0 => 0
  | i + 1 => wfM W r i ||| (1 <<< (nI (eA W r i) &&& 31))
theorem nd_le (ab : Int32) (W r i : Nat) : ndV ab W r i ≤ 2 := by
  unfold ndV
  split
  · omega
  · split <;> omega
theorem uS_le (ab : Int32) (W r i : Nat) : uS ab W r i ≤ 2 * i := sumN_le (nd_le ab W r) i
theorem ly_sp (ab : Int32) (W r y : Nat) : ∀ m i, uS ab W r i ≤ y → i ≤ lyR ab W r y m i ∧ lyR ab W r y m i ≤ i + m ∧ uS ab W r (lyR ab W r y m i) ≤ y
  | 0, i, h => ⟨Nat.le_refl _, Nat.le_refl _, h⟩
  | m + 1, i, h => by
    rw [lyR]
    by_cases e : uS ab W r (i + 1) ≤ y
    · rw [if_pos e]
      obtain ⟨h1, h2, h3⟩ := ly_sp ab W r y m (i + 1) e
      exact ⟨by omega, by omega, h3⟩
    · rw [if_neg e]
      exact ⟨Nat.le_refl _, by omega, h⟩
theorem b_wf {W r : Nat} (hW : W ≤ 32) : ∀ i, i ≤ W → ∀ j, j < 32 → bt (wfM W r i) j = decide (j < W ∧ eA W r j < i) := by
  intro i
  induction i with
  | zero => intro _ j hj; rw [wfM, b_0]; simp
  | succ i ih =>
    intro hi j hj
    have he : eA W r i < W := eA_lt (by omega)
    rw [wfM, b_or, ih (by omega) j hj, b_shl _ (by omega) 1 hj]
    have h1 : (decide (eA W r i ≤ j) && bt 1 (j - eA W r i)) = decide (j = eA W r i) := by
      by_cases q : eA W r i ≤ j
      · rw [decide_eq_true q, b_one _ (by omega), Bool.true_and]
        by_cases q2 : j = eA W r i
        · rw [decide_eq_true q2, decide_eq_true (by omega)]
        · rw [decide_eq_false q2, decide_eq_false (by omega)]
      · rw [decide_eq_false q, decide_eq_false (by omega), Bool.false_and]
    rw [h1]
    have hinv : j = eA W r i ↔ (j < W ∧ eA W r j = i) := by
      unfold eA at he ⊢
      constructor
      · intro q; rw [q]; split <;> (constructor <;> omega)
      · rintro ⟨q1, q2⟩
        revert q2
        split <;> intro q2 <;> omega
    by_cases q : j = eA W r i
    · have := hinv.mp q
      rw [decide_eq_true q, Bool.or_true, decide_eq_true (by omega)]
    · rw [decide_eq_false q, Bool.or_false]
      have q2 : ¬ (j < W ∧ eA W r j = i) := fun z => q (hinv.mpr z)
      by_cases q3 : j < W ∧ eA W r j < i
      · rw [decide_eq_true q3, decide_eq_true (by omega)]
      · rw [decide_eq_false q3, decide_eq_false (by omega)]
theorem eA_eA {W r i : Nat} (h : i < W) : eA W r (eA W r i) = i := by
  unfold eA
  split <;> omega
/-- a row's use is what its weft needed -/
theorem us_row {ab : Int32} {W r m : Nat} (hW : W ≤ 32) (hm : m ≤ W) : ∀ n, n ≤ W → usV (ab &&& wfM W r m) (wfM W r m) W r n = uS ab W r (if n ≤ m then n else m) := by
  have hb : ∀ i, i < W → bt (wfM W r m) (eA W r i) = decide (i < m) := fun i hi => by
    have he := eA_lt (r := r) hi
    rw [b_wf hW m hm _ (by omega), eA_eA hi]
    by_cases q : i < m
    · rw [decide_eq_true q, decide_eq_true ⟨he, q⟩]
    · rw [decide_eq_false q, decide_eq_false (fun z => q z.2)]
  intro n
  induction n with
  | zero => intro _; rw [if_pos (Nat.zero_le m)]; rfl
  | succ n ih =>
    intro hn
    have := ih (by omega)
    rw [usV, this, hb n (by omega)]
    by_cases q : n < m
    · rw [if_pos (by omega), if_pos (decide_eq_true q), if_pos (show n + 1 ≤ m by omega)]
      show _ = uS ab W r n + ndV ab W r n
      congr 1
      unfold ndV
      by_cases q0 : n = 0
      · rw [if_pos q0, if_pos q0]
      · rw [if_neg q0, if_neg q0, b_and, b_and, hb n (by omega), hb (n - 1) (by omega), decide_eq_true q, decide_eq_true (show n - 1 < m by omega), Bool.and_true, Bool.and_true]
    · rw [decide_eq_false q, if_neg (show ¬ false = true by decide), if_neg (show ¬ n + 1 ≤ m by omega), Nat.add_zero]
      congr 1
      split <;> omega
theorem or_0 (x : Int32) : x ||| 0 = x := by
  apply b_ext
  intro i hi
  rw [b_or, b_0, Bool.or_false]
theorem upd_upd (f : Nat → Int32) (k : Nat) (x y : Int32) : upd (upd f k x) k y = upd f k y := by
  funext p
  unfold upd
  split <;> rfl
section LW
variable {σ σ2 : Nat → Nat → Int32} {v : Nat → Int32} {k S W B P N : Nat}
/-- the side before, as the class keeps it -/
def sdB (ab : Int32) (W r : Nat) : Nat → Int32
  | 0 => -1
  | i + 1 => if bt ab (eA W r i) = true then 1 else 0
theorem lay7 {ab v2 : Int32} {r y : Nat} (h1 : σ 2 1 = nI W) (hW : W ≤ 32) (hy : y < 2 ^ 30) (hv2 : v2 = if r % 2 = 0 then 1 else 0) : ∀ m i, i + m = W → uS ab W r i ≤ y → ∀ F, m < F → lp (b_X5_layWeft_25 1 ab (nI y) σ v2) F (wfM W r i, nI (uS ab W r i), sdB ab W r i, nI i) = some (wfM W r (lyR ab W r y m i), nI (uS ab W r (lyR ab W r y m i))) := by
  intro m
  induction m with
  | zero =>
    intro i hi hu F hF
    obtain ⟨G, rfl⟩ : ∃ G, F = G + 1 := ⟨F - 1, by omega⟩
    have : i = W := by omega
    subst this
    rw [lp_s, b_X5_layWeft_25, show σ (1 + 1) 1 = nI i from h1, if_pos (nI_le (Nat.le_refl i) (by omega)), lkr]
    rfl
  | succ m ih =>
    intro i hi hu F hF
    obtain ⟨G, rfl⟩ : ∃ G, F = G + 1 := ⟨F - 1, by omega⟩
    have he := eA_lt (r := r) (show i < W by omega)
    have hs : uS ab W r (i + 1) = uS ab W r i + ndV ab W r i := rfl
    have hv : (if v2 = 0 then nI W - 1 - nI i else nI i) = nI (eA W r i) := by
      unfold eA
      rw [hv2]
      by_cases e : r % 2 = 0
      · rw [if_pos e, if_neg n10, if_pos e]
      · rw [if_neg e, if_pos rfl, if_neg e, show nI W - 1 = nI (W - 1) from nI_sub (b := 1) (by omega), nI_sub (by omega)]
    have hn : (if nI i = 0 then (1 : Int32) else if (if bt ab (eA W r i) = true then (1 : Int32) else 0) = sdB ab W r i then 1 else 2) = nI (ndV ab W r i) := by
      unfold ndV
      cases i with
      | zero => rfl
      | succ i =>
        rw [if_neg (fun q => by have := nI_inj (b := 0) (by omega) (by decide) q; omega), if_neg (Nat.succ_ne_zero i), sdB, show i + 1 - 1 = i from rfl]
        cases bt ab (eA W r (i + 1)) <;> cases bt ab (eA W r i) <;> rfl
    have h2 := nd_le ab W r i
    rw [lp_s, b_X5_layWeft_25, show σ (1 + 1) 1 = nI W from h1, if_neg (nI_ge (by omega) (by omega)), vl_eq, hv, bitOf_spec (by omega), bi_some, vl_eq, hn, nI_sub hu, lyR]
    by_cases e : uS ab W r (i + 1) ≤ y
    · rw [if_pos (nI_le (by omega) (by omega)), if_pos e, vl_eq, vl_eq, vl_eq, nI_add, nI_1, lkl, ← hs]
      exact ih (i + 1) (by omega) e G (by omega)
    · rw [if_neg (nI_ge (by omega) (by omega)), if_neg e, lkr]
end LW
