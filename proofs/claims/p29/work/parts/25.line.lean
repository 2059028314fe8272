/-! part 25: floats along a line, in both ways -/
def pv (s : Nat → Nat) : Nat → Nat
  | 0 => 2
  | i + 1 => s i
def rn (s : Nat → Nat) : Nat → Nat
  | 0 => 0
  | i + 1 => if s i = 2 then 0 else if s i = pv s i then rn s i + 1 else 1
def mx (s : Nat → Nat) : Nat → Nat
  | 0 => 0
  | i + 1 => max (mx s i) (rn s (i + 1))
def c7 (s : Nat → Nat) (m : Nat) : Nat → Nat
  | 0 => 0
  | i + 1 => c7 s m i + (if rn s (i + 1) = m then 1 else 0)
def b8 (s : Nat → Nat) (b : Nat) : Nat → Nat
  | 0 => b
  | i + 1 => if s i = pv s i ∧ ¬ s i = 2 then b8 s b i else max (b8 s b i) (rn s i)
def c8 (s : Nat → Nat) (m c : Nat) : Nat → Nat
  | 0 => c
  | i + 1 => if s i = pv s i ∧ ¬ s i = 2 then c8 s m c i else c8 s m c i + (if rn s i < m then 0 else 1)
theorem rn_le (s : Nat → Nat) : ∀ i, rn s i ≤ i
  | 0 => Nat.le_refl _
  | i + 1 => by
    have := rn_le s i
    rw [rn]
    split
    · omega
    · split <;> omega
theorem mx_le (s : Nat → Nat) : ∀ i, mx s i ≤ i
  | 0 => Nat.le_refl _
  | i + 1 => by
    have h1 := mx_le s i
    have h2 := rn_le s (i + 1)
    rw [mx]
    omega
theorem c7_le (s : Nat → Nat) (m : Nat) : ∀ i, c7 s m i ≤ i
  | 0 => Nat.le_refl _
  | i + 1 => by
    have h1 := c7_le s m i
    rw [c7]
    split <;> omega
theorem b8_mx (s : Nat → Nat) (b : Nat) : ∀ i, max (b8 s b i) (rn s i) = max b (mx s i)
  | 0 => rfl
  | i + 1 => by
    have h := b8_mx s b i
    rw [b8, mx, rn]
    by_cases h1 : s i = 2
    · rw [if_neg (fun q => q.2 h1), if_pos h1]; omega
    · rw [if_neg h1]
      by_cases h2 : s i = pv s i
      · rw [if_pos ⟨h2, h1⟩, if_pos h2]; omega
      · rw [if_neg (fun q => h2 q.1), if_neg h2]; omega
theorem c8_c7 (s : Nat → Nat) {m : Nat} (hm : 0 < m) (c : Nat) : ∀ i, c8 s m c i + (if rn s i < m then 0 else 1) = c + c7 s m i
  | 0 => by
    rw [c8, rn, c7, if_pos hm]
  | i + 1 => by
    have h := c8_c7 s hm c i
    rw [c8, c7, rn]
    by_cases h1 : s i = 2
    · rw [if_neg (fun q => q.2 h1), if_pos h1, if_pos hm, if_neg (show ¬ 0 = m by omega)]; omega
    · rw [if_neg h1]
      by_cases h2 : s i = pv s i
      · rw [if_pos ⟨h2, h1⟩, if_pos h2]
        split at h <;> split <;> split <;> omega
      · rw [if_neg (fun q => h2 q.1), if_neg h2, ← Nat.add_assoc, ← h]
        congr 1
        split <;> split <;> omega
theorem b8_le (s : Nat → Nat) (b i : Nat) : b8 s b i ≤ b + i := by
  have h1 := b8_mx s b i
  have h2 := mx_le s i
  omega
def mk (σ : Nat → Nat → Int32) (c b : Nat) : Nat → Nat → Int32 := wr (wr σ 183 11 (nI c)) 183 12 (nI b)
theorem mk_ne {σ : Nat → Nat → Int32} {c b a : Nat} (h : a ≠ 183) : mk σ c b a = σ a := by unfold mk; rw [wr_ne h, wr_ne h]
theorem mk_o {σ : Nat → Nat → Int32} {c b i : Nat} (h1 : i ≠ 11) (h2 : i ≠ 12) : mk σ c b 183 i = σ 183 i := by unfold mk; rw [wr_atne h2, wr_atne h1]
theorem mk_11 (σ : Nat → Nat → Int32) (c b : Nat) : mk σ c b 183 11 = nI c := by unfold mk; rw [wr_atne (by decide), wr_at]
theorem mk_12 (σ : Nat → Nat → Int32) (c b : Nat) : mk σ c b 183 12 = nI b := by unfold mk; rw [wr_at]
theorem mk_w (σ : Nat → Nat → Int32) (c b c' b' : Nat) : wr (wr (mk σ c b) 183 11 (nI c')) 183 12 (nI b') = mk σ c' b' := by
  funext a
  by_cases h : a = 183
  · subst h
    funext i
    unfold mk
    by_cases h2 : i = 12
    · subst h2; rw [wr_at, wr_at]
    · by_cases h1 : i = 11
      · subst h1; rw [wr_atne h2, wr_at, wr_atne h2, wr_at]
      · rw [wr_atne h2, wr_atne h1, wr_atne h2, wr_atne h1, wr_atne h2, wr_atne h1]
  · unfold mk
    rw [wr_ne h, wr_ne h, wr_ne h, wr_ne h, wr_ne h, wr_ne h]
/-- the class's walk along a line -/
def clS (s : Nat) : Int32 := if s = 2 then -1 else nI s
theorem clS_2 : ∀ s, s ≤ 2 → ((clS s = -1) ↔ s = 2) := by decide +kernel
theorem clS_eq : ∀ s, s ≤ 2 → ∀ t, t ≤ 2 → ((clS s = clS t) ↔ s = t) := by decide +kernel
theorem run_spec {s : Nat → Nat} (hs2 : ∀ i, s i ≤ 2) (i : Nat) (σ : Nat → Nat → Int32) (o : Nat) : f_X2_runWith o (clS (s i)) (clS (pv s i)) (nI (rn s i)) σ = some (nI (rn s (i + 1))) := by
  have hp2 : pv s i ≤ 2 := by
    cases i with
    | zero => exact Nat.le_refl 2
    | succ i => exact hs2 i
  have k1 := clS_eq (s i) (hs2 i) (pv s i) hp2
  have k2 := clS_2 (s i) (hs2 i)
  rw [f_X2_runWith, rn]
  by_cases h2 : s i = 2
  · rw [if_pos (k2.mpr h2), if_pos h2]; rfl
  · rw [if_neg (fun q => h2 (k2.mp q)), if_neg h2]
    by_cases h3 : s i = pv s i
    · rw [if_pos (k1.mpr h3), if_pos h3, nI_1]
    · rw [if_neg (fun q => h3 (k1.mp q)), if_neg h3]; rfl
theorem imax_nI {a b : Nat} (ha : a < 2 ^ 31) (hb : b < 2 ^ 31) : imax (nI a) (nI b) = nI (max a b) := by
  unfold imax
  by_cases h : a < b
  · rw [if_pos (nI_lt h hb), show max a b = b by omega]
  · rw [if_neg (nI_nlt (by omega) ha), show max a b = a by omega]
theorem long7 {σ : Nat → Nat → Int32} {a1 a2 : Int32} {s : Nat → Nat} {n : Nat} (hn : n ≤ 64) (hs2 : ∀ i, s i ≤ 2) (hs : ∀ i, i < n → f_X2_sideAlong 16 a1 a2 (nI i) σ = some (clS (s i))) : f_X2_longestFloat 16 a1 a2 (nI n) σ = some (nI (mx s n)) := by
  have hl : lp (b_X2_longestFloat_12 16 a1 a2 (nI n) σ) FU (0, 0, (-1), 0) = some (nI (mx s n)) := by
    refine lp_run (fun i => (nI (mx s i), nI (rn s i), clS (pv s i), nI i)) n (by omega) (fun i hi => ?_) ?_ rfl
    · show b_X2_longestFloat_12 16 a1 a2 (nI n) σ (_, _, _, nI i) = _
      have h1 := mx_le s i
      have h2 := rn_le s (i + 1)
      rw [b_X2_longestFloat_12, if_neg (nI_ge hi (by omega)), hs i hi, bi_some, run_spec hs2, bi_some, vl_eq, vl_eq, imax_nI (by omega) (by omega), nI_1]
      rfl
    · show b_X2_longestFloat_12 16 a1 a2 (nI n) σ (_, _, _, nI n) = _
      rw [b_X2_longestFloat_12, if_pos (nI_le (Nat.le_refl n) (by omega))]
  rw [f_X2_longestFloat, hl, bi_some]
theorem floats7 {σ : Nat → Nat → Int32} {a1 a2 : Int32} {s : Nat → Nat} {n m : Nat} (hn : n ≤ 64) (hm : m < 2 ^ 31) (hs2 : ∀ i, s i ≤ 2) (hs : ∀ i, i < n → f_X2_sideAlong 16 a1 a2 (nI i) σ = some (clS (s i))) : f_X2_floatsIn 16 a1 a2 (nI n) (nI m) σ = some (nI (c7 s m n)) := by
  have hl : lp (b_X2_floatsIn_12 16 a1 a2 (nI n) (nI m) σ) FU (0, 0, (-1), 0) = some (nI (c7 s m n)) := by
    refine lp_run (fun i => (nI (c7 s m i), nI (rn s i), clS (pv s i), nI i)) n (by omega) (fun i hi => ?_) ?_ rfl
    · show b_X2_floatsIn_12 16 a1 a2 (nI n) (nI m) σ (_, _, _, nI i) = _
      have h2 := rn_le s (i + 1)
      rw [b_X2_floatsIn_12, if_neg (nI_ge hi (by omega)), hs i hi, bi_some, run_spec hs2, bi_some]
      by_cases e : rn s (i + 1) = m
      · rw [if_pos (by rw [e]), vl_eq, vl_eq, nI_1, nI_1, c7, if_pos e]; rfl
      · rw [if_neg (fun q => e (nI_inj (by omega) hm q)), vl_eq, nI_1, c7, if_neg e]; rfl
    · show b_X2_floatsIn_12 16 a1 a2 (nI n) (nI m) σ (_, _, _, nI n) = _
      rw [b_X2_floatsIn_12, if_pos (nI_le (Nat.le_refl n) (by omega))]
  rw [f_X2_floatsIn, hl, bi_some]
