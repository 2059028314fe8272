/-! part 45: picks, and their taking back -/
theorem RS_live {σ : Nat → Nat → Int32} {b k S W B P N : Nat} {v v' : Nat → Int32} (h : RS σ b v k S W B P N) (e : ∀ q, q < 136 + 5 * N → v' q = v q) : RS σ b v' k S W B P N := by
  obtain ⟨d, hv, hc, he, hf, hb, hy, hr⟩ := h
  obtain ⟨d1, d2, d3, d4, d5, d6, d7⟩ := d
  refine ⟨⟨d1, d2, d3, d4, d5, d6, d7⟩, ?_, ?_, fun j h1 => ?_, fun i h1 => ?_, fun i h1 => ?_, fun c h1 => ?_, fun r h1 => ?_⟩
  · rw [e 0 (by omega), e 1 (by omega), e 2 (by omega), e 3 (by omega), e 4 (by omega), e 5 (by omega)]; exact hv
  · rw [e 4 (by omega)]; exact hc
  · rw [e _ (by omega), e _ (by omega)]; exact he j h1
  · rw [e _ (by omega)]; exact hf i h1
  · rw [e _ (by omega), e _ (by omega)]; exact hb i h1
  · rw [e _ (by omega)]; exact hy c h1
  · unfold RR
    rw [e _ (by omega), e _ (by omega), e _ (by omega), e _ (by omega), e _ (by omega)]
    exact hr r h1
/-- the yarn on the present bar's bobbin -/
def yP (v : Nat → Int32) (P : Nat) : Nat := (v (126 + dV v P)).toNatClampNeg
def pkV (v : Nat → Int32) (S W B P N : Nat) : Nat → Int32 := pickV v S W B P N (yP v P)
section PI
variable {σ σ0 τ : Nat → Nat → Int32} {v : Nat → Int32} {k k' S W B P N : Nat}
theorem yP_eq (h : RS σ 1 v k S W B P N) (hP : P < B) (hk : k ≤ 512) : v (126 + dV v P) = nI (yP v P) ∧ yP v P < 20000 + 5000 * k := by
  obtain ⟨d1, d2⟩ := dV_eq h hP
  obtain ⟨-, y, y1, y2⟩ := h.2.2.2.2.2.2.1 _ d2
  have e : yP v P = y := by unfold yP; rw [y2, nI_clamp (by omega)]
  rw [e]
  exact ⟨y2, y1⟩
theorem pick_st (h : RS σ 1 v k S W B P N) (hP : P < B) (hN : N < 64) (hk : k ≤ 512) : ∃ σ', f_X5_makePick 1 σ = some σ' ∧ RS σ' 1 (pkV v S W B P N) k S W B (nbV v B P) (N + 1) ∧ ∀ a, 29 ≤ a → σ' a = σ a := by
  obtain ⟨y1, y2⟩ := yP_eq h hP hk
  exact pick7 h hP hN y1 y2 hk
theorem pb_nb {w : Nat → Int32} {b : Nat} (h4 : w 4 = v 4) (hb : b < B) : pbV w B (nbV v B b) = b := by
  unfold pbV nbV
  rw [h4]
  by_cases q : v 4 = 0
  · rw [if_pos q, if_pos q]
    by_cases q2 : B ≤ b + 1
    · rw [if_pos q2, if_pos rfl]; omega
    · rw [if_neg q2, if_neg (by omega)]; omega
  · rw [if_neg q, if_neg q]
    by_cases q2 : b = 0
    · rw [if_pos q2, if_pos (by omega)]; omega
    · rw [if_neg q2, if_neg (by omega)]; omega
theorem pk_lo {q : Nat} (h3 : q ≠ 3) (h5 : q ≠ 5) (hd : q ≠ 126 + dV v P) (hq : q < 136 + 5 * N) : pkV v S W B P N q = v q := by
  unfold pkV pickV
  simp (disch := omega) only [upd_ne]
/-- what a pick uses -/
def uP (v : Nat → Int32) (S W P N : Nat) : Nat := uS (abV v S W P) W N (myV v S W P N (yP v P))
theorem uP_le (h : RS σ 1 v k S W B P N) : uP v S W P N ≤ yP v P := (ly_sp (abV v S W P) W N (yP v P) W 0 (Nat.zero_le _)).2.2
theorem us_pick (h : RS σ 1 v k S W B P N) (hP : P < B) : usV (pkV v S W B P N (138 + 5 * N)) (pkV v S W B P N (139 + 5 * N)) W N W = uP v S W P N := by
  have hW := h.1.2.2.2.1
  obtain ⟨-, d2⟩ := dV_eq h hP
  obtain ⟨l1, l2, l3⟩ := ly_sp (abV v S W P) W N (yP v P) W 0 (Nat.zero_le _)
  have hm : myV v S W P N (yP v P) ≤ W := by unfold myV; omega
  have e1 : pkV v S W B P N (138 + 5 * N) = abV v S W P &&& wfM W N (myV v S W P N (yP v P)) := by
    unfold pkV pickV
    simp (disch := omega) only [upd_ne, upd_eq]
  have e2 : pkV v S W B P N (139 + 5 * N) = wfM W N (myV v S W P N (yP v P)) := by
    unfold pkV pickV
    simp (disch := omega) only [upd_ne, upd_eq]
  rw [e1, e2, us_row (ab := abV v S W P) (r := N) hW hm W (Nat.le_refl W)]
  unfold uP
  congr 1
  split <;> omega
theorem pk_y (h : RS σ 1 v k S W B P N) (hP : P < B) : pkV v S W B P N (126 + dV v P) = nI (yP v P - uP v S W P N) := by
  obtain ⟨-, d2⟩ := dV_eq h hP
  unfold pkV pickV
  simp (disch := omega) only [upd_ne, upd_eq]
  rfl
/-- a pick taken back -/
theorem back1 (h : RS σ0 1 v k S W B P N) (hP : P < B) (hN : N < 64) (hk : k ≤ k') (hk2 : k' ≤ 512) (hτ : RS τ 1 (pkV v S W B P N) k' S W B (nbV v B P) (N + 1)) : ∃ τ', f_X5_takeOutLastRow 1 τ = some τ' ∧ RS τ' 1 v k' S W B P N ∧ ∀ a, 29 ≤ a → τ' a = τ a := by
  obtain ⟨d1, d2⟩ := dV_eq h hP
  obtain ⟨y1, y2⟩ := yP_eq h hP (by omega)
  have hu := uP_le h
  have hc : pkV v S W B P N (136 + 5 * N) = nI (dV v P) := by
    unfold pkV pickV
    simp (disch := omega) only [upd_ne, upd_eq]
  have h4 : pkV v S W B P N 4 = v 4 := pk_lo (by decide) (by decide) (by omega) (by omega)
  have e := take7 hτ (nbV_lt hP) d2 hc (pk_y h hP)
  rw [us_pick h hP, pb_nb h4 hP, Nat.sub_add_cancel hu] at e
  refine ⟨_, e, RS_live (RS_take (b := 1) (c := dV v P) (y := yP v P) (n := N) (P' := P) hτ d2 (by omega) (by omega) hP) (fun q hq => ?_), fun a ha => by rw [wr_ne (by omega), wr_ne (by omega), wr_ne (by omega)]⟩
  by_cases q3 : q = 3
  · rw [q3, upd_eq]; exact h.2.1.2.2.2.1
  by_cases q5 : q = 5
  · rw [q5, upd_ne (by decide), upd_eq]; exact h.2.1.2.2.2.2.1
  by_cases qd : q = 126 + dV v P
  · rw [upd_ne q3, upd_ne q5, qd, upd_eq]; exact y1
  · rw [upd_ne q3, upd_ne q5, upd_ne qd, pk_lo q3 q5 qd hq]
end PI
/-- c picks, each where one can be made -/
def PK (S W B : Nat) : Nat → (Nat → Int32) → Nat → Nat → (Nat → Int32) → Nat → Nat → Prop
  | 0, v, P, N, v', P', N' => v' = v ∧ P' = P ∧ N' = N
  | c + 1, v, P, N, v', P', N' => N < 64 ∧ standV v W N = 0 ∧ PK S W B c (pkV v S W B P N) (nbV v B P) (N + 1) v' P' N'
theorem PK_ex {k S W B : Nat} (hk : k ≤ 512) : ∀ m (σ0 : Nat → Nat → Int32) (v : Nat → Int32) P N, RS σ0 1 v k S W B P N → P < B → ∃ c v' P' N', c ≤ m ∧ PK S W B c v P N v' P' N' ∧ (c = m ∨ N' = 64 ∨ ¬ standV v' W N' = 0) ∧ (0 < m → N < 64 → standV v W N = 0 → 0 < c) := by
  intro m
  induction m with
  | zero =>
    intro σ0 v P N h hP
    exact ⟨0, v, P, N, Nat.le_refl _, ⟨rfl, rfl, rfl⟩, Or.inl rfl, fun q => absurd q (Nat.lt_irrefl 0)⟩
  | succ m ih =>
    intro σ0 v P N h hP
    have hN := h.1.2.2.2.2.2.2
    by_cases q1 : N < 64
    · by_cases q2 : standV v W N = 0
      · obtain ⟨σ1, -, g2, -⟩ := pick_st h hP q1 hk
        obtain ⟨c, v', P', N', c1, c2, c3, -⟩ := ih σ1 _ _ _ g2 (nbV_lt hP)
        refine ⟨c + 1, v', P', N', by omega, ⟨q1, q2, c2⟩, ?_, fun _ _ _ => Nat.succ_pos c⟩
        rcases c3 with z | z
        · exact Or.inl (by omega)
        · exact Or.inr z
      · exact ⟨0, v, P, N, Nat.zero_le _, ⟨rfl, rfl, rfl⟩, Or.inr (Or.inr q2), fun _ _ z => absurd z q2⟩
    · exact ⟨0, v, P, N, Nat.zero_le _, ⟨rfl, rfl, rfl⟩, Or.inr (Or.inl (by omega)), fun _ z => absurd z q1⟩
theorem PK_run {k S W B : Nat} (hk : k ≤ 512) {v' : Nat → Int32} {P' N' t : Nat} (ht : t ≤ 64) : ∀ c (v : Nat → Int32) P N, PK S W B c v P N v' P' N' → P < B → ∀ σ : Nat → Nat → Int32, RS σ 1 v k S W B P N → ∀ i, i + c ≤ t → (i + c = t ∨ N' = 64 ∨ ¬ standV v' W N' = 0) → ∃ σ' : Nat → Nat → Int32, RS σ' 1 v' k S W B P' N' ∧ (∀ a, 29 ≤ a → σ' a = σ a) ∧ ∀ F, c < F → lp (b_X7_weave_70 (nI t)) F (nI i, σ) = some (nI (i + c), σ') := by
  intro c
  induction c with
  | zero =>
    intro v P N hp hP σ h i hi hs
    obtain ⟨rfl, rfl, rfl⟩ := hp
    have hN := h.1.2.2.2.2.2.2
    have c1 : σ 16 0 = nI N' := h.2.2.1.2.2.2.2.1
    refine ⟨σ, h, fun _ _ => rfl, fun F hF => ?_⟩
    obtain ⟨G, rfl⟩ : ∃ G, F = G + 1 := ⟨F - 1, by omega⟩
    rw [lp_s, b_X7_weave_70]
    by_cases e0 : i = t
    · rw [e0, if_pos (nI_le (Nat.le_refl t) (by omega)), lkr]
      rfl
    rw [if_neg (nI_ge (by omega) (by omega)), f_X2_isFull, c1]
    by_cases e1 : N' = 64
    · rw [if_neg (show ¬ nI N' < 64 by rw [e1]; decide), bi_some, if_neg n10, lkr]
      rfl
    · have e2 : ¬ standV v' W N' = 0 := by
        rcases hs with z | z | z
        · exact absurd z e0
        · exact absurd z e1
        · exact z
      rw [if_pos (show nI N' < 64 from nI_lt (b := 64) (by omega) (by decide)), bi_some, if_pos rfl, stand7 h, bi_some, if_neg e2, lkr]
      rfl
  | succ c ih =>
    intro v P N hp hP σ h i hi hs
    obtain ⟨q1, q2, q3⟩ := hp
    have c1 : σ 16 0 = nI N := h.2.2.1.2.2.2.2.1
    obtain ⟨σ1, g1, g2, g3⟩ := pick_st h hP q1 hk
    obtain ⟨σ', i1, i2, i3⟩ := ih _ _ _ q3 (nbV_lt hP) σ1 g2 (i + 1) (by omega) (by rw [show i + 1 + c = i + (c + 1) by omega]; exact hs)
    refine ⟨σ', i1, fun a ha => by rw [i2 a ha, g3 a ha], fun F hF => ?_⟩
    obtain ⟨G, rfl⟩ : ∃ G, F = G + 1 := ⟨F - 1, by omega⟩
    rw [lp_s, b_X7_weave_70, if_neg (nI_ge (by omega) (by omega)), f_X2_isFull, c1, if_pos (show nI N < 64 from nI_lt (b := 64) q1 (by decide)), bi_some, if_pos rfl, stand7 h, bi_some, if_pos q2, g1, bi_some, vl_eq, nI_1, lkl, i3 G (by omega), show i + 1 + c = i + (c + 1) by omega]
theorem PK_back {k k' S W B : Nat} (hk : k ≤ k') (hk2 : k' ≤ 512) {v' : Nat → Int32} {P' N' t : Nat} (ht : t ≤ 64) : ∀ c (σ0 : Nat → Nat → Int32) (v : Nat → Int32) P N, PK S W B c v P N v' P' N' → P < B → RS σ0 1 v k S W B P N → ∀ τ : Nat → Nat → Int32, RS τ 1 v' k' S W B P' N' → ∀ i, i + c ≤ t → ∃ τ' : Nat → Nat → Int32, RS τ' 1 v k' S W B P N ∧ (∀ a, 29 ≤ a → τ' a = τ a) ∧ ∀ F, lp (b_X7_takeOut_55 (nI t)) (F + c) (nI i, τ) = lp (b_X7_takeOut_55 (nI t)) F (nI (i + c), τ') := by
  intro c
  induction c with
  | zero =>
    intro σ0 v P N hp hP h τ hτ i hi
    obtain ⟨rfl, rfl, rfl⟩ := hp
    exact ⟨τ, hτ, fun _ _ => rfl, fun F => rfl⟩
  | succ c ih =>
    intro σ0 v P N hp hP h τ hτ i hi
    obtain ⟨q1, q2, q3⟩ := hp
    obtain ⟨σ1, g1, g2, g3⟩ := pick_st h hP q1 (by omega)
    obtain ⟨τ1, i1, i2, i3⟩ := ih σ1 _ _ _ q3 (nbV_lt hP) g2 τ hτ i (by omega)
    obtain ⟨τ', j1, j2, j3⟩ := back1 h hP q1 hk hk2 i1
    refine ⟨τ', j2, fun a ha => by rw [j3 a ha, i2 a ha], fun F => ?_⟩
    rw [show F + (c + 1) = (F + 1) + c by omega, i3, lp_s, b_X7_takeOut_55, if_neg (nI_ge (by omega) (by omega)), j1, bi_some, vl_eq, nI_1, lkl, show i + c + 1 = i + (c + 1) by omega]
/-- sums of numbers -/
theorem i_ar (a b c : Int32) : a + b + c = a + c + b := by rw [Int32.add_assoc, Int32.add_comm b, ← Int32.add_assoc]
theorem i_ac {a b c : Int32} (h : a + c = b + c) : a = b := by
  have h2 := congrArg Int32.toBitVec h
  rw [Int32.toBitVec_add, Int32.toBitVec_add] at h2
  have h3 := congrArg (fun x => x - c.toBitVec) h2
  simp only [BitVec.add_sub_cancel] at h3
  exact Int32.toBitVec_inj.mp h3
theorem sI_succ (f : Nat → Int32) (n : Nat) : sI f (n + 1) = sI f n + f n := rfl
theorem sI_upd {f g : Nat → Int32} {c0 : Nat} : ∀ {n : Nat}, c0 < n → (∀ c, c < n → c ≠ c0 → g c = f c) → sI g n + f c0 = sI f n + g c0
  | 0, h, _ => absurd h (Nat.not_lt_zero _)
  | n + 1, h, e => by
    rw [sI, sI]
    by_cases q : c0 = n
    · subst q
      rw [sI_c (n := c0) (f := g) (g := f) (fun i hi => e i (by omega) (by omega)), i_ar]
    · have := sI_upd (f := f) (g := g) (n := n) (by omega) (fun c hc hn => e c (by omega) hn)
      rw [e n (by omega) (fun z => q z.symm), i_ar, this, i_ar]
section YC
variable {σ : Nat → Nat → Int32} {v : Nat → Int32} {k S W B P N : Nat}
theorem yT_pick (h : RS σ 1 v k S W B P N) (hP : P < B) (hk : k ≤ 512) : yT (pkV v S W B P N) W (N + 1) = yT v W N := by
  obtain ⟨d1, d2⟩ := dV_eq h hP
  obtain ⟨y1, y2⟩ := yP_eq h hP hk
  have hu := uP_le h
  have e := sI_upd (f := fun c => v (126 + c)) (g := fun c => pkV v S W B P N (126 + c)) d2 (fun c hc hn => pk_lo (by omega) (by omega) (by omega) (by omega))
  rw [y1, pk_y h hP] at e
  have e2 : nI (yP v P) = nI (uP v S W P N) + nI (yP v P - uP v S W P N) := by rw [nI_add]; congr 1; omega
  rw [e2, ← Int32.add_assoc] at e
  have e3 := i_ac e
  unfold yT
  rw [sI_succ _ N, us_pick h hP, ← e3, sI_c (n := N) (g := fun r => nI (usV (v (138 + 5 * r)) (v (139 + 5 * r)) W r W)) (fun r hr => by
    show nI (usV (pkV v S W B P N (138 + 5 * r)) (pkV v S W B P N (139 + 5 * r)) W r W) = _
    rw [pk_lo (by omega) (by omega) (by omega) (by omega), pk_lo (by omega) (by omega) (by omega) (by omega)])]
  rw [← Int32.add_assoc, i_ar]
theorem FW_pick (h : RS σ 1 v k S W B P N) (hP : P < B) (hw : FW v W N) (hs : standV v W N = 0) : FW (pkV v S W B P N) W (N + 1) := fun r hr => by
  obtain ⟨d1, d2⟩ := dV_eq h hP
  rw [pk_lo (by omega) (by omega) (by omega) (by omega)]
  by_cases q : r + 1 < N
  · exact hw r q
  · have e : r = N - 1 := by omega
    unfold standV at hs
    by_cases z : N = 0 ∨ v (139 + 5 * (N - 1)) = aE W
    · rcases z with z | z
      · omega
      · rw [e]; exact z
    · rw [if_neg z] at hs
      exact absurd hs n10
end YC
theorem PK_inv {k S W B : Nat} (hk : k ≤ 512) {v' : Nat → Int32} {P' N' : Nat} : ∀ c (σ0 : Nat → Nat → Int32) (v : Nat → Int32) P N, PK S W B c v P N v' P' N' → P < B → RS σ0 1 v k S W B P N → FW v W N → N' = N + c ∧ FW v' W N' ∧ P' < B ∧ yT v' W N' = yT v W N := by
  intro c
  induction c with
  | zero =>
    intro σ0 v P N hp hP h hw
    obtain ⟨rfl, rfl, rfl⟩ := hp
    exact ⟨rfl, hw, hP, rfl⟩
  | succ c ih =>
    intro σ0 v P N hp hP h hw
    obtain ⟨q1, q2, q3⟩ := hp
    obtain ⟨σ1, g1, g2, g3⟩ := pick_st h hP q1 hk
    obtain ⟨i1, i2, i3, i4⟩ := ih σ1 _ _ _ q3 (nbV_lt hP) g2 (FW_pick h hP hw q2)
    exact ⟨by omega, i2, i3, by rw [i4, yT_pick h hP hk]⟩
