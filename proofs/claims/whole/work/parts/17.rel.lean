/-! part 17: what the class's memory and the reference's have to do with each other -/
def aE (W : Nat) : Int32 := if W = 32 then -1 else (1 <<< (nI W &&& 31)) - 1
theorem b_aE : ∀ W, W ≤ 32 → ∀ i, i < 32 → bt (aE W) i = decide (i < W) := by decide +kernel
def sbs (x y : Int32) : Prop := ∀ i, i < 32 → bt x i = true → bt y i = true
/-- the end that the weft comes to as the k-th one in row r -/
def eA (W r k : Nat) : Nat := if r % 2 = 0 then k else W - 1 - k
/-- what the k-th end needs -/
def ndV (ab : Int32) (W r k : Nat) : Nat := if k = 0 then 1 else if bt ab (eA W r k) = bt ab (eA W r (k - 1)) then 1 else 2
/-- what a row used, as the reference counts it -/
def usV (ab wf : Int32) (W r : Nat) : Nat → Nat
  | 0 => 0
  | k + 1 => usV ab wf W r k + (if bt wf (eA W r k) = true then ndV ab W r k else 0)
def RR (σ : Nat → Nat → Int32) (b : Nat) (v : Nat → Int32) (W r : Nat) : Prop :=
  σ (b + 17) r = v (136 + 5 * r) ∧ σ (b + 19) r = v (137 + 5 * r) ∧ σ (b + 23) r = v (138 + 5 * r) ∧ σ (b + 25) r = aE W &&& (v (139 + 5 * r) ^^^ (-1)) ∧ σ (b + 27) r = v (140 + 5 * r) ∧ σ (b + 21) r = nI (usV (v (138 + 5 * r)) (v (139 + 5 * r)) W r W) ∧ (∃ c, c < 10 ∧ v (136 + 5 * r) = nI c) ∧ sbs (v (138 + 5 * r)) (v (139 + 5 * r)) ∧ sbs (v (139 + 5 * r)) (aE W) ∧ sbs (v (140 + 5 * r)) (aE W)
/-- the state at b of the class, and the reference's numbers v: the same loom -/
def RS (σ : Nat → Nat → Int32) (b : Nat) (v : Nat → Int32) (k S W B P N : Nat) : Prop :=
  (2 ≤ S ∧ S ≤ 8 ∧ 4 ≤ W ∧ W ≤ 32 ∧ B ≤ 24 ∧ (P < B ∨ (B = 0 ∧ P = 0)) ∧ N ≤ 64) ∧
  (v 0 = nI S ∧ v 1 = nI W ∧ v 2 = nI B ∧ v 3 = nI P ∧ v 5 = nI N ∧ (v 4 = 0 ∨ v 4 = 1)) ∧
  (σ (b + 1) 0 = nI S ∧ σ (b + 1) 1 = nI W ∧ σ (b + 8) 0 = nI B ∧ σ (b + 8) 1 = nI P ∧ σ (b + 15) 0 = nI N ∧ σ (b + 8) 2 = v 4) ∧
  (∀ e, e < W → σ (b + 3) e = v (6 + e) ∧ σ (b + 5) e = v (38 + e) ∧ (∃ s, s < S ∧ v (6 + e) = nI s) ∧ ∃ c, c < 10 ∧ v (38 + e) = nI c) ∧
  (∀ i, i < S → σ (b + 7) i = v (70 + i) ∧ ∃ f, f < 3 ∧ v (70 + i) = nI f) ∧
  (∀ i, i < B → σ (b + 10) i = v (78 + i) ∧ σ (b + 12) i = v (102 + i) ∧ (∃ x, x < 2 ^ S ∧ v (78 + i) = nI x) ∧ ∃ c, c < 10 ∧ v (102 + i) = nI c) ∧
  (∀ c, c < 10 → σ (b + 14) c = v (126 + c) ∧ ∃ y, y < 20000 + 5000 * k ∧ v (126 + c) = nI y) ∧
  ∀ r, r < N → RR σ b v W r
theorem RR_cong {σ σ' : Nat → Nat → Int32} {b b' : Nat} {v v' : Nat → Int32} {W r : Nat} (hr : r < 64) (e1 : ∀ j i, lvp j i → σ' (b' + j) i = σ (b + j) i) (e2 : ∀ q, q < 456 → v' q = v q) (h : RR σ b v W r) : RR σ' b' v' W r := by
  unfold RR at h ⊢
  rw [e1 17 r (by unfold lvp; omega), e1 19 r (by unfold lvp; omega), e1 21 r (by unfold lvp; omega), e1 23 r (by unfold lvp; omega), e1 25 r (by unfold lvp; omega), e1 27 r (by unfold lvp; omega), e2 _ (by omega), e2 _ (by omega), e2 _ (by omega), e2 _ (by omega), e2 _ (by omega)]
  exact h
theorem RS_cong {σ σ' : Nat → Nat → Int32} {b b' : Nat} {v v' : Nat → Int32} {k k' S W B P N : Nat} (e1 : ∀ j i, lvp j i → σ' (b' + j) i = σ (b + j) i) (e2 : ∀ q, q < 456 → v' q = v q) (hk : k ≤ k') (h : RS σ b v k S W B P N) : RS σ' b' v' k' S W B P N := by
  obtain ⟨d, hv, hc, he, hf, hb, hy, hr⟩ := h
  obtain ⟨d1, d2, d3, d4, d5, d6, d7⟩ := d
  refine ⟨⟨d1, d2, d3, d4, d5, d6, d7⟩, ?_, ?_, fun e h1 => ?_, fun i h1 => ?_, fun i h1 => ?_, fun c h1 => ?_, fun r h1 => RR_cong (by omega) e1 e2 (hr r h1)⟩
  · rw [e2 0 (by omega), e2 1 (by omega), e2 2 (by omega), e2 3 (by omega), e2 4 (by omega), e2 5 (by omega)]; exact hv
  · rw [e1 1 0 (by unfold lvp; omega), e1 1 1 (by unfold lvp; omega), e1 8 0 (by unfold lvp; omega), e1 8 1 (by unfold lvp; omega), e1 8 2 (by unfold lvp; omega), e1 15 0 (by unfold lvp; omega), e2 4 (by omega)]; exact hc
  · rw [e1 3 e (by unfold lvp; omega), e1 5 e (by unfold lvp; omega), e2 _ (by omega), e2 _ (by omega)]; exact he e h1
  · rw [e1 7 i (by unfold lvp; omega), e2 _ (by omega)]; exact hf i h1
  · rw [e1 10 i (by unfold lvp; omega), e1 12 i (by unfold lvp; omega), e2 _ (by omega), e2 _ (by omega)]; exact hb i h1
  · rw [e1 14 c (by unfold lvp; omega), e2 _ (by omega)]
    obtain ⟨h2, y, h3, h4⟩ := hy c h1
    exact ⟨h2, y, by omega, h4⟩
def HR (k : Nat) (σ : Nat → Nat → Int32) : Prop := ∃ nx kp, nx < 5 ∧ kp ≤ 5 ∧ σ 29 1 = nI nx ∧ σ 29 2 = nI kp ∧ σ 183 4 = nI kp ∧ ∀ i, i < kp → ∃ S W B P N, RS σ (31 + 28 * ((nx + 5 - kp + i) % 5)) (fun q => σ 186 (456 * i + q)) k S W B P N
def TX (σ : Nat → Nat → Int32) : Prop := ∃ l, l ≤ 120 ∧ σ 171 2 = nI l ∧ σ 183 6 = nI l ∧ ∀ i, i < l → ∃ c, c < 256 ∧ σ 173 i = nI c ∧ σ 187 i = nI c
def Rel (k : Nat) (σ : Nat → Nat → Int32) : Prop := (∃ S W B P N, RS σ 1 (σ 184) k S W B P N) ∧ HR k σ ∧ TX σ
theorem HR_cong {k k' : Nat} {σ σ' : Nat → Nat → Int32} (hk : k ≤ k') (e1 : ∀ a, 29 ≤ a → a < 171 → σ' a = σ a) (e2 : σ' 183 4 = σ 183 4) (e3 : σ' 186 = σ 186) (h : HR k σ) : HR k' σ' := by
  obtain ⟨nx, kp, h1, h2, h3, h4, h5, h6⟩ := h
  refine ⟨nx, kp, h1, h2, by rw [e1 29 (by omega) (by omega)]; exact h3, by rw [e1 29 (by omega) (by omega)]; exact h4, by rw [e2]; exact h5, fun i hi => ?_⟩
  obtain ⟨S, W, B, P, N, h7⟩ := h6 i hi
  exact ⟨S, W, B, P, N, RS_cong (fun j i hj => by rw [e1 _ (by omega) (by unfold lvp at hj; omega)]) (fun q _ => by rw [e3]) hk h7⟩
theorem TX_cong {σ σ' : Nat → Nat → Int32} (e1 : σ' 171 2 = σ 171 2) (e2 : σ' 183 6 = σ 183 6) (e3 : σ' 173 = σ 173) (e4 : σ' 187 = σ 187) (h : TX σ) : TX σ' := by
  obtain ⟨l, h1, h2, h3, h4⟩ := h
  exact ⟨l, h1, by rw [e1]; exact h2, by rw [e2]; exact h3, fun i hi => by rw [e3, e4]; exact h4 i hi⟩
theorem RS_frame {σ σ' : Nat → Nat → Int32} {v : Nat → Int32} {b k k' S W B P N : Nat} (hk : k ≤ k') (e1 : ∀ a, b ≤ a → a < b + 28 → σ' a = σ a) (h : RS σ b v k S W B P N) : RS σ' b v k' S W B P N := RS_cong (fun j i hj => by rw [e1 _ (by omega) (by unfold lvp at hj; omega)]) (fun _ _ => rfl) hk h
theorem Rel_step {k : Nat} {σ : Nat → Nat → Int32} (h : Rel k σ) : Rel (k + 1) σ := by
  obtain ⟨⟨S, W, B, P, N, h1⟩, h2, h3⟩ := h
  exact ⟨⟨S, W, B, P, N, RS_frame (by omega) (fun _ _ _ => rfl) h1⟩, HR_cong (by omega) (fun _ _ _ => rfl) rfl rfl h2, h3⟩
/-- a row of the memory put -/
def ur (σ : Nat → Nat → Int32) (o : Nat) (f : Nat → Int32) : Nat → Nat → Int32 := fun a => if a = o then f else σ a
theorem ur_at (σ : Nat → Nat → Int32) (o : Nat) (f : Nat → Int32) : ur σ o f o = f := if_pos rfl
theorem ur_ne {σ : Nat → Nat → Int32} {o a : Nat} {f : Nat → Int32} (h : a ≠ o) : ur σ o f a = σ a := if_neg h
theorem ur_self (σ : Nat → Nat → Int32) (o : Nat) : ur σ o (σ o) = σ := by
  funext a
  by_cases h : a = o
  · subst h; rw [ur_at]
  · rw [ur_ne h]
theorem wr_ur (σ : Nat → Nat → Int32) (o k : Nat) (f : Nat → Int32) (v : Int32) : wr (ur σ o f) o k v = ur σ o (upd f k v) := by
  funext a
  by_cases h : a = o
  · subst h; rw [wr_eq, ur_at, ur_at]
  · rw [wr_ne h, ur_ne h, ur_ne h]
theorem wr_row (σ : Nat → Nat → Int32) (o k : Nat) (v : Int32) : wr σ o k v = ur σ o (upd (σ o) k v) := rfl
/-- the history's keeping -/
theorem keep_spec {σ : Nat → Nat → Int32} {nx kp : Nat} (hn : nx < 5) (hk : kp ≤ 5) (h1 : σ 29 1 = nI nx) (h2 : σ 29 2 = nI kp) : ∃ σ1, f_X3_keep σ = some σ1 ∧ (∀ a, a ≠ 29 → (a < 31 + 28 * nx ∨ 59 + 28 * nx ≤ a) → σ1 a = σ a) ∧ (∀ j i, lvp j i → σ1 (31 + 28 * nx + j) i = σ (1 + j) i) ∧ σ1 29 1 = nI (if nx = 4 then 0 else nx + 1) ∧ σ1 29 2 = nI (if kp = 5 then 5 else kp + 1) := by
  obtain ⟨σ', e1, e2, e3⟩ := st_copy (o := 31 + 28 * nx) (o2 := 1) σ (by omega)
  have g1 : σ' 29 = σ 29 := e2 29 (by omega)
  refine ⟨wr (wr σ' 29 1 (nI (if nx = 4 then 0 else nx + 1))) 29 2 (nI (if kp = 5 then 5 else kp + 1)), ?_, fun a ha hb => ?_, fun j i hj => ?_, ?_, ?_⟩
  · have hv : (if 5 ≤ σ' 29 1 + 1 then (0 : Int32) else σ' 29 1 + 1) = nI (if nx = 4 then 0 else nx + 1) := by
      rw [g1, h1, nI_1]
      by_cases e : nx = 4
      · subst e; rfl
      · rw [if_neg e, if_neg (show ¬ (5 : Int32) ≤ nI (nx + 1) from nI_ge (b := 5) (by omega) (by omega))]
    have hw : imin (nI kp + 1) 5 = nI (if kp = 5 then 5 else kp + 1) := by
      rw [nI_1]
      unfold imin
      by_cases e : kp = 5
      · subst e; rfl
      · rw [if_neg e, if_neg (show ¬ (5 : Int32) < nI (kp + 1) from nI_nlt (a := 5) (by omega) (by omega))]
    rw [f_X3_keep, ix_of h1 hn (by decide), h1, nI_clamp (by omega), e1, bi_some, hv, vl_eq, vl_eq, vl_eq, wr_atne (by decide), g1, h2, hw]
  · rw [wr_ne ha, wr_ne ha]; exact e2 a (by omega)
  · rw [wr_ne (by omega), wr_ne (by omega)]; exact e3 j i hj
  · rw [wr_atne (by decide), wr_at]
  · rw [wr_at]
/-- the reference's keeping -/
theorem act_row {σ : Nat → Nat → Int32} {kp : Nat} (hk : kp < 5) (h1 : σ 183 4 = nI kp) : lp b_X8_act_51 FU (0, σ) = some (ur σ 186 (fun p => if 456 * kp ≤ p ∧ p < 456 * kp + 456 then σ 184 (p - 456 * kp) else σ 186 p)) := by
  refine lp_run (fun i => (nI i, ur σ 186 (fun p => if 456 * kp ≤ p ∧ p < 456 * kp + i then σ 184 (p - 456 * kp) else σ 186 p))) 456 (by omega) (fun i hi => ?_) ?_ ?_
  · show b_X8_act_51 (nI i, _) = _
    rw [b_X8_act_51, if_neg (show ¬ (456 : Int32) ≤ nI i from nI_ge (b := 456) hi (by omega)), ix_nI hi (by omega), ur_ne (by decide), h1, ur_ne (by decide), show (456 : Int32) * nI kp + nI i = nI (456 * kp + i) by rw [show (456 : Int32) = nI 456 from rfl, nI_mul, nI_add], ix_nI (by omega) (by omega), nI_clamp (by omega), nI_clamp (by omega), vl_eq, vl_eq, wr_ur, nI_1]
    refine congrArg (fun f => some (Sum.inl (nI (i + 1), ur σ 186 f))) (funext fun p => ?_)
    unfold upd
    by_cases e : p = 456 * kp + i
    · rw [if_pos e, if_pos (by omega)]; congr 1; omega
    · rw [if_neg e]
      dsimp only
      by_cases e2 : 456 * kp ≤ p ∧ p < 456 * kp + i
      · rw [if_pos e2, if_pos (by omega)]
      · rw [if_neg e2, if_neg (by omega)]
  · show b_X8_act_51 (nI 456, _) = _
    rw [b_X8_act_51, if_pos (show (456 : Int32) ≤ nI 456 from nI_le (a := 456) (Nat.le_refl 456) (by omega))]
  · show (nI 0, _) = _
    congr 1
    rw [show (fun p => if 456 * kp ≤ p ∧ p < 456 * kp + 0 then σ 184 (p - 456 * kp) else σ 186 p) = σ 186 by funext p; rw [if_neg (by omega)], ur_self]
theorem act_shift (σ : Nat → Nat → Int32) : lp b_X8_act_10 FU (0, σ) = some (ur σ 186 (fun p => if p < 1824 then σ 186 (p + 456) else σ 186 p)) := by
  refine lp_run (fun i => (nI i, ur σ 186 (fun p => if p < i then σ 186 (p + 456) else σ 186 p))) 1824 (by omega) (fun i hi => ?_) ?_ ?_
  · show b_X8_act_10 (nI i, _) = _
    rw [b_X8_act_10, if_neg (show ¬ (1824 : Int32) ≤ nI i from nI_ge (b := 1824) hi (by omega)), show nI i + 456 = nI (i + 456) by rw [show (456 : Int32) = nI 456 from rfl, nI_add], ix_nI (by omega) (by omega), ix_nI (by omega) (by omega), nI_clamp (by omega), nI_clamp (by omega), vl_eq, vl_eq, wr_ur, ur_at, nI_1]
    refine congrArg (fun f => some (Sum.inl (nI (i + 1), ur σ 186 f))) (funext fun p => ?_)
    unfold upd
    by_cases e : p = i
    · subst e; rw [if_pos rfl, if_neg (by omega), if_pos (by omega)]
    · rw [if_neg e]
      dsimp only
      by_cases e2 : p < i
      · rw [if_pos e2, if_pos (by omega)]
      · rw [if_neg e2, if_neg (by omega)]
  · show b_X8_act_10 (nI 1824, _) = _
    rw [b_X8_act_10, if_pos (show (1824 : Int32) ≤ nI 1824 from nI_le (a := 1824) (Nat.le_refl 1824) (by omega))]
  · show (nI 0, _) = _
    congr 1
    rw [show (fun p => if p < 0 then σ 186 (p + 456) else σ 186 p) = σ 186 by funext p; rw [if_neg (by omega)], ur_self]
theorem act_spec {σ : Nat → Nat → Int32} {kp : Nat} (hk : kp ≤ 5) (h1 : σ 183 4 = nI kp) : ∃ σ1, f_X8_act σ = some σ1 ∧ (∀ a, a ≠ 183 → a ≠ 186 → σ1 a = σ a) ∧ (∀ i, i ≠ 4 → σ1 183 i = σ 183 i) ∧ σ1 183 4 = nI (if kp = 5 then 5 else kp + 1) ∧ ((kp < 5 ∧ (∀ q, q < 456 → σ1 186 (456 * kp + q) = σ 184 q) ∧ ∀ p, p < 456 * kp → σ1 186 p = σ 186 p) ∨ (kp = 5 ∧ (∀ q, q < 456 → σ1 186 (456 * 4 + q) = σ 184 q) ∧ ∀ p, p < 1824 → σ1 186 p = σ 186 (p + 456))) := by
  by_cases e : kp = 5
  · subst e
    rw [f_X8_act, jn_eq, if_pos (by rw [h1]; rfl), act_shift, bi_some, vl_eq, ur_ne (by decide), h1, show nI 5 - 1 = nI 4 from rfl]
    dsimp only
    rw [act_row (kp := 4) (by decide) (by rw [wr_at]), bi_some, vl_eq]
    refine ⟨_, rfl, fun a h2 h3 => ?_, fun i hi => ?_, ?_, Or.inr ⟨rfl, fun q hq => ?_, fun p hp => ?_⟩⟩
    · rw [wr_ne h2, ur_ne h3, wr_ne h2, ur_ne h3]
    · rw [wr_atne hi, ur_ne (by decide), wr_atne hi, ur_ne (by decide)]
    · rw [wr_at, ur_ne (by decide), wr_at]; rfl
    · rw [wr_ne (by decide), ur_at, if_pos (by omega), wr_ne (by decide), ur_ne (by decide), show 456 * 4 + q - 456 * 4 = q by omega]
    · rw [wr_ne (by decide), ur_at, if_neg (by omega), wr_ne (by decide), ur_at, if_pos hp]
  · rw [f_X8_act, jn_eq, if_neg (show ¬ σ 183 4 = (5 : Int32) from fun q => e (nI_inj (b := 5) (by omega) (by omega) (h1.symm.trans q)))]
    dsimp only
    rw [act_row (kp := kp) (by omega) h1, bi_some, vl_eq]
    refine ⟨_, rfl, fun a h2 h3 => ?_, fun i hi => ?_, ?_, Or.inl ⟨by omega, fun q hq => ?_, fun p hp => ?_⟩⟩
    · rw [wr_ne h2, ur_ne h3]
    · rw [wr_atne hi, ur_ne (by decide)]
    · rw [wr_at, ur_ne (by decide), h1, nI_1, if_neg e]
    · rw [wr_ne (by decide), ur_at, if_pos (by omega)]; congr 1; omega
    · rw [wr_ne (by decide), ur_at, if_neg (by omega)]
/-- what every action does first, in both -/
theorem push {k : Nat} {σ : Nat → Nat → Int32} (h : Rel k σ) : ∃ σ1, f_X3_keep σ = some σ1 ∧ (∀ a, a < 29 → σ1 a = σ a) ∧ (∀ a, 171 ≤ a → σ1 a = σ a) ∧ ∀ τ1 : Nat → Nat → Int32, (∀ a, 29 ≤ a → τ1 a = σ1 a) → ∃ σ2, f_X8_act (wr τ1 183 0 0) = some σ2 ∧ (∀ a, a < 29 → σ2 a = τ1 a) ∧ σ2 184 = σ 184 ∧ (∀ a, 171 ≤ a → a ≠ 183 → a ≠ 186 → σ2 a = σ a) ∧ (∀ i, i ≠ 0 → i ≠ 4 → σ2 183 i = σ 183 i) ∧ ∀ τ2 : Nat → Nat → Int32, (∀ a, 29 ≤ a → a ≠ 184 → τ2 a = σ2 a) → HR (k + 1) τ2 ∧ TX τ2 := by
  obtain ⟨⟨S0, W0, B0, P0, N0, hR⟩, ⟨nx, kp, hn, hk, h1, h2, h3, h4⟩, hT⟩ := h
  obtain ⟨σ1, e1, e2, e3, e4, e5⟩ := keep_spec hn hk h1 h2
  obtain ⟨nx', hx1, hx2⟩ : ∃ y, y = (if nx = 4 then 0 else nx + 1) ∧ ((nx = 4 ∧ y = 0) ∨ (nx < 4 ∧ y = nx + 1)) := ⟨_, rfl, by split <;> omega⟩
  obtain ⟨kp', hy1, hy2⟩ : ∃ y, y = (if kp = 5 then 5 else kp + 1) ∧ ((kp = 5 ∧ y = 5) ∨ (kp < 5 ∧ y = kp + 1)) := ⟨_, rfl, by split <;> omega⟩
  rw [← hx1] at e4
  rw [← hy1] at e5
  refine ⟨σ1, e1, fun a ha => e2 a (by omega) (by omega), fun a ha => e2 a (by omega) (by omega), fun τ1 ht => ?_⟩
  have t183 : ∀ i, i ≠ 0 → wr τ1 183 0 0 183 i = σ 183 i := fun i hi => by rw [wr_atne hi, ht 183 (by omega), e2 183 (by omega) (by omega)]
  obtain ⟨σ2, f1, f2, f3, f4, f5⟩ := act_spec (σ := wr τ1 183 0 0) hk (by rw [t183 4 (by decide)]; exact h3)
  rw [← hy1] at f4
  have g2 : ∀ a, a ≠ 183 → a ≠ 186 → σ2 a = τ1 a := fun a q1 q2 => by rw [f2 a q1 q2, wr_ne q1]
  have g3 : ∀ a, 171 ≤ a → a ≠ 183 → a ≠ 186 → σ2 a = σ a := fun a q0 q1 q2 => by rw [g2 a q1 q2, ht a (by omega), e2 a (by omega) (by omega)]
  refine ⟨σ2, f1, fun a ha => g2 a (by omega) (by omega), g3 184 (by omega) (by omega) (by omega), g3, fun i q1 q2 => by rw [f3 i q2, t183 i q1], fun τ2 hu => ⟨⟨nx', kp', by omega, by omega, by rw [hu 29 (by omega) (by omega), g2 29 (by omega) (by omega), ht 29 (by omega)]; exact e4, by rw [hu 29 (by omega) (by omega), g2 29 (by omega) (by omega), ht 29 (by omega)]; exact e5, by rw [hu 183 (by omega) (by omega)]; exact f4, fun i hi => ?_⟩, TX_cong (by rw [hu 171 (by omega) (by omega), g3 171 (by omega) (by omega) (by omega)]) (by rw [hu 183 (by omega) (by omega), f3 6 (by decide), t183 6 (by decide)]) (by rw [hu 173 (by omega) (by omega), g3 173 (by omega) (by omega) (by omega)]) (by rw [hu 187 (by omega) (by omega), g3 187 (by omega) (by omega) (by omega)]) hT⟩⟩
  have u1 : ∀ a, 29 ≤ a → a < 171 → τ2 a = σ1 a := fun a q1 q2 => by rw [hu a q1 (by omega), g2 a (by omega) (by omega), ht a q1]
  have hnew : ∀ j i, lvp j i → τ2 (31 + 28 * nx + j) i = σ (1 + j) i := fun j i hj => by rw [u1 _ (by omega) (by unfold lvp at hj; omega)]; exact e3 j i hj
  have hold : ∀ y, y < 5 → y ≠ nx → ∀ j i, lvp j i → τ2 (31 + 28 * y + j) i = σ (31 + 28 * y + j) i := fun y q1 q2 j i hj => by
    unfold lvp at hj
    rw [u1 _ (by omega) (by omega), e2 _ (by omega) (by omega)]
  have w1 : wr τ1 183 0 0 184 = σ 184 := by rw [wr_ne (by decide), ht 184 (by omega), e2 184 (by omega) (by omega)]
  have w2 : wr τ1 183 0 0 186 = σ 186 := by rw [wr_ne (by decide), ht 186 (by omega), e2 186 (by omega) (by omega)]
  have v1 : τ2 186 = σ2 186 := hu 186 (by omega) (by omega)
  rcases f5 with ⟨k5, q1, q2⟩ | ⟨k5, q1, q2⟩
  · by_cases e : i = kp
    · subst e
      have ea : (nx' + 5 - kp' + i) % 5 = nx := by omega
      rw [ea]
      exact ⟨S0, W0, B0, P0, N0, RS_cong hnew (fun q hq => by rw [v1, q1 q hq, w1]) (by omega) hR⟩
    · obtain ⟨S, W, B, P, N, h7⟩ := h4 i (by omega)
      have ea : (nx' + 5 - kp' + i) % 5 = (nx + 5 - kp + i) % 5 := by omega
      rw [ea]
      refine ⟨S, W, B, P, N, RS_cong (hold _ (by omega) (by omega)) (fun q hq => by show τ2 186 (456 * i + q) = σ 186 (456 * i + q); rw [v1, q2 _ (by omega), w2]) (by omega) h7⟩
  · subst k5
    by_cases e : i = 4
    · subst e
      have ea : (nx' + 5 - kp' + 4) % 5 = nx := by omega
      rw [ea]
      exact ⟨S0, W0, B0, P0, N0, RS_cong hnew (fun q hq => by rw [v1, q1 q hq, w1]) (by omega) hR⟩
    · obtain ⟨S, W, B, P, N, h7⟩ := h4 (i + 1) (by omega)
      have ea : (nx' + 5 - kp' + i) % 5 = (nx + 5 - 5 + (i + 1)) % 5 := by omega
      rw [ea]
      refine ⟨S, W, B, P, N, RS_cong (hold _ (by omega) (by omega)) (fun q hq => by show τ2 186 (456 * i + q) = σ 186 (456 * (i + 1) + q); rw [v1, q2 _ (by omega), w2]; congr 1; omega) (by omega) h7⟩
