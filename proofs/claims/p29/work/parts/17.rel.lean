/-! part 17: what the class's memory and the reference's have to do with each other -/
def aE (W : Nat) : Int32 := if W = 32 then -1 else (1 <<< (nI W &&& 31)) - 1
theorem b_aE : ∀ W, W ≤ 32 → ∀ i, i < 32 → bt (aE W) i = decide (i < W) := by decide +kernel
def sbs (x y : Int32) : Prop := ∀ i, i < 32 → bt x i = true → bt y i = true
/-- the end that the weft comes to as the k-th one in row r -/
def eA (W r k : Nat) : Nat := if r % 2 = 0 then k else W - 1 - k
/-- what the k-th end needs -/
def ndV (ab : Int32) (W r k : Nat) : Nat := if k = 0 then 1 else if bt ab (eA W r k) = bt ab (eA W r (k - 1)) then 1 else 2
/-- what a row used, as the reference counts it -/
def usV (ab wf : Int32) (W r : Nat) : Nat → Nat
  | 0 => 0
  | k + 1 => usV ab wf W r k + (if bt wf (eA W r k) = true then ndV ab W r k else 0)
def RR (σ : Nat → Nat → Int32) (b : Nat) (v : Nat → Int32) (W r : Nat) : Prop :=
  σ (b + 17) r = v (136 + 5 * r) ∧ σ (b + 19) r = v (137 + 5 * r) ∧ σ (b + 23) r = v (138 + 5 * r) ∧ σ (b + 25) r = aE W &&& (v (139 + 5 * r) ^^^ (-1)) ∧ σ (b + 27) r = v (140 + 5 * r) ∧ σ (b + 21) r = nI (usV (v (138 + 5 * r)) (v (139 + 5 * r)) W r W) ∧ (∃ c, c < 10 ∧ v (136 + 5 * r) = nI c) ∧ sbs (v (138 + 5 * r)) (v (139 + 5 * r)) ∧ sbs (v (139 + 5 * r)) (aE W) ∧ sbs (v (140 + 5 * r)) (aE W)
/-- the state at b of the class, and the reference's numbers v: the same loom -/
def RS (σ : Nat → Nat → Int32) (b : Nat) (v : Nat → Int32) (k S W B P N : Nat) : Prop :=
  (2 ≤ S ∧ S ≤ 8 ∧ 4 ≤ W ∧ W ≤ 32 ∧ B ≤ 24 ∧ (P < B ∨ (B = 0 ∧ P = 0)) ∧ N ≤ 64) ∧
  (v 0 = nI S ∧ v 1 = nI W ∧ v 2 = nI B ∧ v 3 = nI P ∧ v 5 = nI N ∧ (v 4 = 0 ∨ v 4 = 1)) ∧
  (σ (b + 1) 0 = nI S ∧ σ (b + 1) 1 = nI W ∧ σ (b + 8) 0 = nI B ∧ σ (b + 8) 1 = nI P ∧ σ (b + 15) 0 = nI N ∧ σ (b + 8) 2 = v 4) ∧
  (∀ e, e < W → σ (b + 3) e = v (6 + e) ∧ σ (b + 5) e = v (38 + e) ∧ (∃ s, s < S ∧ v (6 + e) = nI s) ∧ ∃ c, c < 10 ∧ v (38 + e) = nI c) ∧
  (∀ i, i < S → σ (b + 7) i = v (70 + i) ∧ ∃ f, f < 3 ∧ v (70 + i) = nI f) ∧
  (∀ i, i < B → σ (b + 10) i = v (78 + i) ∧ σ (b + 12) i = v (102 + i) ∧ (∃ x, x < 2 ^ S ∧ v (78 + i) = nI x) ∧ ∃ c, c < 10 ∧ v (102 + i) = nI c) ∧
  (∀ c, c < 10 → σ (b + 14) c = v (126 + c) ∧ ∃ y, y < 20000 + 5000 * k ∧ v (126 + c) = nI y) ∧
  ∀ r, r < N → RR σ b v W r
theorem RR_cong {σ σ' : Nat → Nat → Int32} {b b' : Nat} {v v' : Nat → Int32} {W r : Nat} (hr : r < 64) (e1 : ∀ j i, lvp j i → σ' (b' + j) i = σ (b + j) i) (e2 : ∀ q, q < 456 → v' q = v q) (h : RR σ b v W r) : RR σ' b' v' W r := by
  unfold RR at h ⊢
  rw [e1 17 r (by unfold lvp; omega), e1 19 r (by unfold lvp; omega), e1 21 r (by unfold lvp; omega), e1 23 r (by unfold lvp; omega), e1 25 r (by unfold lvp; omega), e1 27 r (by unfold lvp; omega), e2 _ (by omega), e2 _ (by omega), e2 _ (by omega), e2 _ (by omega), e2 _ (by omega)]
  exact h
theorem RS_cong {σ σ' : Nat → Nat → Int32} {b b' : Nat} {v v' : Nat → Int32} {k k' S W B P N : Nat} (e1 : ∀ j i, lvp j i → σ' (b' + j) i = σ (b + j) i) (e2 : ∀ q, q < 456 → v' q = v q) (hk : k ≤ k') (h : RS σ b v k S W B P N) : RS σ' b' v' k' S W B P N := by
  obtain ⟨d, hv, hc, he, hf, hb, hy, hr⟩ := h
  obtain ⟨d1, d2, d3, d4, d5, d6, d7⟩ := d
  refine ⟨⟨d1, d2, d3, d4, d5, d6, d7⟩, ?_, ?_, fun e h1 => ?_, fun i h1 => ?_, fun i h1 => ?_, fun c h1 => ?_, fun r h1 => RR_cong (by omega) e1 e2 (hr r h1)⟩
  · rw [e2 0 (by omega), e2 1 (by omega), e2 2 (by omega), e2 3 (by omega), e2 4 (by omega), e2 5 (by omega)]; exact hv
  · rw [e1 1 0 (by unfold lvp; omega), e1 1 1 (by unfold lvp; omega), e1 8 0 (by unfold lvp; omega), e1 8 1 (by unfold lvp; omega), e1 8 2 (by unfold lvp; omega), e1 15 0 (by unfold lvp; omega), e2 4 (by omega)]; exact hc
  · rw [e1 3 e (by unfold lvp; omega), e1 5 e (by unfold lvp; omega), e2 _ (by omega), e2 _ (by omega)]; exact he e h1
  · rw [e1 7 i (by unfold lvp; omega), e2 _ (by omega)]; exact hf i h1
  · rw [e1 10 i (by unfold lvp; omega), e1 12 i (by unfold lvp; omega), e2 _ (by omega), e2 _ (by omega)]; exact hb i h1
  · rw [e1 14 c (by unfold lvp; omega), e2 _ (by omega)]
    obtain ⟨h2, y, h3, h4⟩ := hy c h1
    exact ⟨h2, y, by omega, h4⟩
theorem RS_frame {σ σ' : Nat → Nat → Int32} {v : Nat → Int32} {b k k' S W B P N : Nat} (hk : k ≤ k') (e1 : ∀ a, b ≤ a → a < b + 28 → σ' a = σ a) (h : RS σ b v k S W B P N) : RS σ' b v k' S W B P N := RS_cong (fun j i hj => by rw [e1 _ (by omega) (by unfold lvp at hj; omega)]) (fun _ _ => rfl) hk h
/-- a row of the memory put -/
def ur (σ : Nat → Nat → Int32) (o : Nat) (f : Nat → Int32) : Nat → Nat → Int32 := fun a => if a = o then f else σ a
theorem ur_at (σ : Nat → Nat → Int32) (o : Nat) (f : Nat → Int32) : ur σ o f o = f := if_pos rfl
theorem ur_ne {σ : Nat → Nat → Int32} {o a : Nat} {f : Nat → Int32} (h : a ≠ o) : ur σ o f a = σ a := if_neg h
theorem ur_self (σ : Nat → Nat → Int32) (o : Nat) : ur σ o (σ o) = σ := by
  funext a
  by_cases h : a = o
  · subst h; rw [ur_at]
  · rw [ur_ne h]
theorem wr_ur (σ : Nat → Nat → Int32) (o k : Nat) (f : Nat → Int32) (v : Int32) : wr (ur σ o f) o k v = ur σ o (upd f k v) := by
  funext a
  by_cases h : a = o
  · subst h; rw [wr_eq, ur_at, ur_at]
  · rw [wr_ne h, ur_ne h, ur_ne h]
theorem wr_row (σ : Nat → Nat → Int32) (o k : Nat) (v : Int32) : wr σ o k v = ur σ o (upd (σ o) k v) := rfl
/-- the history's keeping -/
theorem keep_spec {σ : Nat → Nat → Int32} {nx kp : Nat} (hn : nx < 5) (hk : kp ≤ 5) (h1 : σ 29 1 = nI nx) (h2 : σ 29 2 = nI kp) : ∃ σ1, f_X3_keep σ = some σ1 ∧ (∀ a, a ≠ 29 → (a < 31 + 28 * nx ∨ 59 + 28 * nx ≤ a) → σ1 a = σ a) ∧ (∀ j i, lvp j i → σ1 (31 + 28 * nx + j) i = σ (1 + j) i) ∧ σ1 29 1 = nI (if nx = 4 then 0 else nx + 1) ∧ σ1 29 2 = nI (if kp = 5 then 5 else kp + 1) := by
  obtain ⟨σ', e1, e2, e3⟩ := st_copy (o := 31 + 28 * nx) (o2 := 1) σ (by omega)
  have g1 : σ' 29 = σ 29 := e2 29 (by omega)
  refine ⟨wr (wr σ' 29 1 (nI (if nx = 4 then 0 else nx + 1))) 29 2 (nI (if kp = 5 then 5 else kp + 1)), ?_, fun a ha hb => ?_, fun j i hj => ?_, ?_, ?_⟩
  · have hv : (if 5 ≤ σ' 29 1 + 1 then (0 : Int32) else σ' 29 1 + 1) = nI (if nx = 4 then 0 else nx + 1) := by
      rw [g1, h1, nI_1]
      by_cases e : nx = 4
      · subst e; rfl
      · rw [if_neg e, if_neg (show ¬ (5 : Int32) ≤ nI (nx + 1) from nI_ge (b := 5) (by omega) (by omega))]
    have hw : imin (nI kp + 1) 5 = nI (if kp = 5 then 5 else kp + 1) := by
      rw [nI_1]
      unfold imin
      by_cases e : kp = 5
      · subst e; rfl
      · rw [if_neg e, if_neg (show ¬ (5 : Int32) < nI (kp + 1) from nI_nlt (a := 5) (by omega) (by omega))]
    rw [f_X3_keep, ix_of h1 hn (by decide), h1, nI_clamp (by omega), e1, bi_some, hv, vl_eq, vl_eq, vl_eq, wr_atne (by decide), g1, h2, hw]
  · rw [wr_ne ha, wr_ne ha]; exact e2 a (by omega)
  · rw [wr_ne (by omega), wr_ne (by omega)]; exact e3 j i hj
  · rw [wr_atne (by decide), wr_at]
  · rw [wr_at]
