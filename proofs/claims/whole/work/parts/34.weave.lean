/-! part 34: the pick in both, weave -/
section PK
variable {σ σ' σ2 : Nat → Nat → Int32} {b : Nat} {v : Nat → Int32} {k S W B P N : Nat}
theorem RS_pick {c y u P' : Nat} {ab wf pl : Int32} (h : RS σ b v k S W B P N) (hN : N < 64) (hc0 : c < 10) (hy0 : y < 20000 + 5000 * k) (hP : P' < B) (g1 : u = usV (ab &&& wf) wf W N W) (g2 : sbs wf (aE W)) (g3 : sbs pl (aE W)) : RS (wr (wr (wr (wr (wr (wr (wr (wr (wr σ (b + 17) N (nI c)) (b + 19) N (nI P)) (b + 27) N pl) (b + 23) N (ab &&& wf)) (b + 25) N (aE W &&& (wf ^^^ (-1)))) (b + 21) N (nI u)) (b + 14) c (nI y)) (b + 15) 0 (nI (N + 1))) (b + 8) 1 (nI P')) b (upd (upd (upd (upd (upd (upd (upd (upd v (126 + c) (nI y)) (136 + 5 * N) (nI c)) (137 + 5 * N) (nI P)) (138 + 5 * N) (ab &&& wf)) (139 + 5 * N) wf) (140 + 5 * N) pl) 5 (nI (N + 1))) 3 (nI P')) k S W B P' (N + 1) := by
  obtain ⟨d, hv, hc, he, hf, hb, hy, hr⟩ := h
  obtain ⟨d1, d4, d6, d3, d5, d7, d2⟩ := d
  refine ⟨⟨d1, d4, d6, d3, d5, Or.inl hP, by omega⟩, ?_, ?_, fun e h1 => ?_, fun i h1 => ?_, fun i h1 => ?_, fun j h1 => ?_, fun r h1 => ?_⟩
  · simp (disch := omega) only [upd_ne, upd_eq]
    exact ⟨hv.1, hv.2.1, hv.2.2.1, trivial, trivial, hv.2.2.2.2.2⟩
  · simp (disch := omega) only [wr_ne, wr_atne, wr_at, upd_ne, upd_eq]
    exact ⟨hc.1, hc.2.1, hc.2.2.1, trivial, trivial, hc.2.2.2.2.2⟩
  · simp (disch := omega) only [wr_ne, wr_atne, wr_at, upd_ne, upd_eq]
    exact he e h1
  · simp (disch := omega) only [wr_ne, wr_atne, wr_at, upd_ne, upd_eq]
    exact hf i h1
  · simp (disch := omega) only [wr_ne, wr_atne, wr_at, upd_ne, upd_eq]
    exact hb i h1
  · by_cases e : j = c
    · subst e
      simp (disch := omega) only [wr_ne, wr_atne, wr_at, upd_ne, upd_eq]
      exact ⟨trivial, y, hy0, rfl⟩
    · simp (disch := omega) only [wr_ne, wr_atne, wr_at, upd_ne, upd_eq]
      exact hy j h1
  · unfold RR
    by_cases e : r = N
    · subst e
      simp (disch := omega) only [wr_ne, wr_atne, wr_at, upd_ne, upd_eq]
      refine ⟨trivial, trivial, trivial, trivial, trivial, by rw [g1], ⟨c, hc0, rfl⟩, fun i hi q => ?_, g2, g3⟩
      rw [b_and] at q
      exact (Bool.and_eq_true_iff.mp q).2
    · simp (disch := omega) only [wr_ne, wr_atne, wr_at, upd_ne, upd_eq]
      exact hr r (by omega)
theorem ends_c {v v' : Nat → Int32} {a : Int32} : ∀ {n : Nat}, (∀ e, e < n → v' (6 + e) = v (6 + e)) → endsV v' a n = endsV v a n
  | 0, _ => rfl
  | n + 1, h => by rw [endsV, endsV, ends_c (fun e he => h e (by omega)), h n (by omega)]
theorem ends_sbs (v : Nat → Int32) (a : Int32) {W : Nat} (hW : W ≤ 32) : sbs (endsV v a W) (aE W) := fun i hi q => by
  rw [b_end v a W hW i hi] at q
  rw [b_aE W hW i hi]
  exact (Bool.and_eq_true_iff.mp q).1
theorem wf_sbs {W r m : Nat} (hW : W ≤ 32) (hm : m ≤ W) : sbs (wfM W r m) (aE W) := fun i hi q => by
  rw [b_wf hW m hm i hi] at q
  rw [b_aE W hW i hi]
  exact decide_eq_true (of_decide_eq_true q).1
/-- the bar's ends, lifted; how far the weft comes -/
def abV (v : Nat → Int32) (S W P : Nat) : Int32 := endsV v (liftV v (v (78 + P)) S) W
def myV (v : Nat → Int32) (S W P N y : Nat) : Nat := lyR (abV v S W P) W N y W 0
def pickV (v : Nat → Int32) (S W B P N y : Nat) : Nat → Int32 := upd (upd (upd (upd (upd (upd (upd (upd v (126 + dV v P) (nI (y - uS (abV v S W P) W N (myV v S W P N y)))) (136 + 5 * N) (nI (dV v P))) (137 + 5 * N) (nI P)) (138 + 5 * N) (abV v S W P &&& wfM W N (myV v S W P N y))) (139 + 5 * N) (wfM W N (myV v S W P N y))) (140 + 5 * N) (endsV v (v (78 + P)) W)) 5 (nI (N + 1))) 3 (nI (nbV v B P))
theorem pick7 {y : Nat} (h : RS σ 1 v k S W B P N) (hPB : P < B) (hN : N < 64) (hy : v (126 + dV v P) = nI y) (hy2 : y < 20000 + 5000 * k) (hk : k ≤ 512) : ∃ σ', f_X5_makePick 1 σ = some σ' ∧ RS σ' 1 (pickV v S W B P N y) k S W B (nbV v B P) (N + 1) ∧ ∀ a, 29 ≤ a → σ' a = σ a := by
  have hW := h.1.2.2.2.1
  have hB := h.1.2.2.2.2.1
  obtain ⟨d1, d2⟩ := dV_eq h hPB
  obtain ⟨l1, l2, l3⟩ := ly_sp (abV v S W P) W N y W 0 (Nat.zero_le y)
  have hm : myV v S W P N y ≤ W := by unfold myV; omega
  have hu : uS (abV v S W P) W N (myV v S W P N y) ≤ y := l3
  have hen : ∀ σ'' : Nat → Nat → Int32, (∀ a, a < 9 → σ'' a = σ a) → ∀ a, f_X6_endsOn 2 a σ'' = some (endsV v a W) := fun σ'' hs a => by
    refine ends7 (o := 2) (by rw [hs 2 (by decide)]; exact h.2.2.1.2.1) hW (fun e he => ?_) a
    obtain ⟨q1, -, ⟨s, s1, s2⟩, -⟩ := h.2.2.2.1 e he
    exact ⟨by rw [hs _ (by decide)]; exact q1, s, by have := h.1.2.1; omega, s2⟩
  have hli : ∀ σ'' : Nat → Nat → Int32, (∀ a, a < 9 → σ'' a = σ a) → ∀ a, f_X6_liftedShafts 2 a σ'' = some (liftV v a S) := fun σ'' hs a => lift7 (by rw [hs 2 (by decide)]; exact h.2.2.1.1) h.1.2.1 (fun i hi => by rw [hs _ (by decide)]; exact (h.2.2.2.2.1 i hi).1) a
  have hla : ∀ σ'' : Nat → Nat → Int32, σ'' 2 1 = nI W → f_X5_layWeft 1 (nI N) (abV v S W P) (nI y) σ'' = some (wr (wr (wr σ'' 24 N (abV v S W P &&& wfM W N (myV v S W P N y))) 26 N (aE W &&& (wfM W N (myV v S W P N y) ^^^ (-1)))) 22 N (nI (uS (abV v S W P) W N (myV v S W P N y)))) := fun σ'' hs => by
    have e := lay7 (ab := abV v S W P) (r := N) (y := y) (v2 := if N % 2 = 0 then 1 else 0) hs hW (by omega) rfl W 0 (by omega) (Nat.zero_le y) FU (Nat.lt_of_le_of_lt hW (by decide))
    have hv : (if nI N &&& 1 = 0 then (1 : Int32) else 0) = if N % 2 = 0 then 1 else 0 := by
      have := par_c (r := N) (by omega)
      by_cases q : N % 2 = 0
      · rw [if_pos (this.mpr q), if_pos q]
      · rw [if_neg (fun z => q (this.mp z)), if_neg q]
    rw [f_X5_layWeft, hv, vl_eq, show lp (b_X5_layWeft_25 1 (abV v S W P) (nI y) σ'' (if N % 2 = 0 then 1 else 0)) FU (0, 0, (-1), 0) = _ from e, b2_some, num_put hN (by decide), bi_some, show f_X6_allEnds (1 + 1) _ = some (aE W) from all7 (by rw [wr_ne (by decide)]; exact hs) hW, bi_some, num_put hN (by decide), bi_some, num_put hN (by decide), bi_some]
    rfl
  refine ⟨_, ?_, RS_pick (c := dV v P) (y := y - uS (abV v S W P) W N (myV v S W P N y)) (u := uS (abV v S W P) W N (myV v S W P N y)) (P' := nbV v B P) (ab := abV v S W P) (wf := wfM W N (myV v S W P N y)) (pl := endsV v (v (78 + P)) W) h hN d2 (by omega) (nbV_lt hPB) ?_ (wf_sbs hW hm) (ends_sbs v _ hW), fun a ha => ?_⟩
  · rw [f_X5_makePick, show σ (1 + 15) 0 = nI N from h.2.2.1.2.2.2.2.1, vl_eq, show σ (1 + 8) 1 = nI P from h.2.2.1.2.2.2.1, num_at (by omega) (by decide), bi_some, show σ (1 + 11 + 1) P = _ from (h.2.2.2.2.2.1 P hPB).2.1, d1, num_at (by omega) (by decide), bi_some, show σ (1 + 9 + 1) P = _ from (h.2.2.2.2.2.1 P hPB).1, num_put hN (by decide), bi_some, wr_ne (by decide), show σ (1 + 8) 1 = nI P from h.2.2.1.2.2.2.1, num_put hN (by decide), bi_some, show f_X6_endsOn (1 + 1) _ _ = _ from hen _ (fun a ha => by rw [wr_ne (by omega), wr_ne (by omega)]) _, bi_some, num_put hN (by decide), bi_some, show f_X6_liftedShafts (1 + 1) _ _ = _ from hli _ (fun a ha => by rw [wr_ne (by omega), wr_ne (by omega), wr_ne (by omega)]) _, bi_some, show f_X6_endsOn (1 + 1) _ _ = _ from hen _ (fun a ha => by rw [wr_ne (by omega), wr_ne (by omega), wr_ne (by omega)]) _, bi_some, num_at d2 (by decide), bi_some, wr_ne (by decide), wr_ne (by decide), wr_ne (by decide), show σ (1 + 13 + 1) (dV v P) = _ from (h.2.2.2.2.2.2.1 _ d2).1, hy, show endsV v (liftV v (v (78 + P)) S) W = abV v S W P from rfl, hla _ (by rw [wr_ne (by decide), wr_ne (by decide), wr_ne (by decide)]; exact h.2.2.1.2.1), bi_some, num_at d2 (by decide), bi_some, num_at hN (by decide), bi_some, show (wr _ 22 N (nI (uS (abV v S W P) W N (myV v S W P N y)))) (1 + 20 + 1) N = _ from wr_at _ _ _ _, wr_ne (by decide), wr_ne (by decide), wr_ne (by decide), wr_ne (by decide), wr_ne (by decide), wr_ne (by decide), show σ (1 + 13 + 1) (dV v P) = _ from (h.2.2.2.2.2.2.1 _ d2).1, hy, nI_sub hu, num_put d2 (by decide), bi_some, vl_eq, nI_1, show ∀ τ : Nat → Nat → Int32, τ (1 + 8) = σ 9 → f_X0_barAfter (1 + 8) (τ (1 + 8) 1) τ = some (nI (nbV v B P)) from fun τ ht => by
      rw [ht, show σ 9 1 = nI P from h.2.2.1.2.2.2.1]
      exact after7 (by rw [ht]; exact h.2.2.1.2.2.1) (by rw [ht]; exact h.2.2.1.2.2.2.2.2) h.2.1.2.2.2.2.2 hPB hB, bi_some, vl_eq]
    · simp (disch := omega) only [wr_ne]
  · have := us_row (ab := abV v S W P) (r := N) hW hm W (Nat.le_refl W)
    rw [this]
    congr 1
    split <;> omega
  · simp (disch := omega) only [wr_ne]
theorem upd_self (f : Nat → Int32) (k : Nat) : upd f k (f k) = f := by
  funext p
  unfold upd
  split
  · next q => rw [q]
  · rfl
theorem pick8 {y : Nat} (h : RS σ 1 v k S W B P N) (hPB : P < B) (hN : N < 64) (hy : v (126 + dV v P) = nI y) (hy2 : y < 20000 + 5000 * k) (hk : k ≤ 512) : f_X8_pick (ur σ2 184 v) = some (ur σ2 184 (pickV v S W B P N y)) := by
  have hW := h.1.2.2.2.1
  have hB := h.1.2.2.2.2.1
  have hS := h.1.2.1
  obtain ⟨d1, d2⟩ := dV_eq h hPB
  obtain ⟨l1, l2, l3⟩ := ly_sp (abV v S W P) W N y W 0 (Nat.zero_le y)
  have hz : ¬ nI B = 0 := fun q => by have := nI_inj (b := 0) (by omega) (by decide) q; omega
  have e := lay8 (σ2 := σ2) (ab := abV v S W P) (r := N) (c := dV v P) (y := y) (f := v) h.2.1.2.1 hW (by omega) hN d2 W 0 (by omega) (Nat.zero_le y) FU (Nat.lt_of_le_of_lt (show W + 1 ≤ 33 by omega) (by decide))
  have e0 : upd v (126 + dV v P) (nI (y - uS (abV v S W P) W N 0)) = v := by
    show upd v (126 + dV v P) (nI y) = v
    rw [← hy, upd_self]
  rw [e0, show lyR (abV v S W P) W N y W 0 = myV v S W P N y from rfl] at e
  have hA : f_X8_endsOn (liftV v (v (78 + P)) S) (ur σ2 184 v) = some (abV v S W P) := endsBar8 h (ur_at _ _ _) _
  have hL : f_X8_lifted (v (78 + P)) (ur σ2 184 v) = some (liftV v (v (78 + P)) S) := liftBar8 h (ur_at _ _ _) _
  have k0 : (136 : Int32) + 5 * nI N = nI (136 + 5 * N) := by rw [show (5 : Int32) = nI 5 from rfl, show (136 : Int32) = nI 136 from rfl, nI_mul, nI_add]
  have k1 : nI (136 + 5 * N) + 0 = nI (136 + 5 * N) := nI_add _ 0
  have k2 : nI (136 + 5 * N) + 1 = nI (137 + 5 * N) := (nI_add (136 + 5 * N) 1).trans (congrArg nI (by omega))
  have k3 : nI (136 + 5 * N) + 2 = nI (138 + 5 * N) := (nI_add (136 + 5 * N) 2).trans (congrArg nI (by omega))
  have k4 : nI (136 + 5 * N) + 3 = nI (139 + 5 * N) := (nI_add (136 + 5 * N) 3).trans (congrArg nI (by omega))
  have k5 : nI (136 + 5 * N) + 4 = nI (140 + 5 * N) := (nI_add (136 + 5 * N) 4).trans (congrArg nI (by omega))
  have n78 : (78 : Int32) + nI P = nI (78 + P) := nI_add 78 P
  have n102 : (102 : Int32) + nI P = nI (102 + P) := nI_add 102 P
  rw [f_X8_pick, ur_at, show v 3 = nI P from h.2.1.2.2.2.1, show v 5 = nI N from h.2.1.2.2.2.2.1]
  simp only [vl_eq]
  rw [n102, ix_nI (by omega) (by decide), nI_clamp (by omega), d1, n78, ix_nI (by omega) (by decide), nI_clamp (by omega), hL, bi_some, hA, bi_some, show lp (b_X8_pick_52 (nI N) (nI (dV v P)) (abV v S W P)) FU (0, 1, 0, ur σ2 184 v) = _ from e, b2_some, k0, k1, k2, k3, k4, k5, ix_nI (by omega) (by decide), ix_nI (by omega) (by decide), ix_nI (by omega) (by decide), ix_nI (by omega) (by decide), ix_nI (by omega) (by decide)]
  have hE : ∀ (w : Nat → Int32) (a : Int32), (∀ q, q < 78 → w q = v q) → f_X8_endsOn a (ur σ2 184 w) = some (endsV v a W) := fun w a hw => by
    have e1 : f_X8_endsOn a (ur σ2 184 w) = some (endsV (ur σ2 184 w 184) a W) := ends8 (by rw [ur_at, hw 1 (by decide)]; exact h.2.1.2.1) hW (fun e he => by
      obtain ⟨s, s1, s2⟩ := (h.2.2.2.1 e he).2.2.1
      exact ⟨s, by omega, by rw [ur_at, hw _ (by omega)]; exact s2⟩) a
    rw [e1, ur_at, ends_c (v := v) (fun e he => hw _ (by omega))]
  simp (disch := omega) only [nI_clamp, wr_ur, ur_at, upd_ne]
  rw [hE _ _ (fun q hq => by simp (disch := omega) only [upd_ne]), bi_some, ix_nI (show 140 + 5 * N < 456 by omega) (by decide), show v 5 = nI N from h.2.1.2.2.2.2.1, nI_1]
  obtain ⟨w, hw⟩ : ∃ w, w = upd (upd (upd (upd (upd (upd (upd v (126 + dV v P) (nI (y - uS (abV v S W P) W N (myV v S W P N y)))) (136 + 5 * N) (nI (dV v P))) (137 + 5 * N) (nI P)) (138 + 5 * N) (abV v S W P &&& wfM W N (myV v S W P N y))) (139 + 5 * N) (wfM W N (myV v S W P N y))) (140 + 5 * N) (endsV v (v (78 + P)) W)) 5 (nI (N + 1)) := ⟨_, rfl⟩
  have w4 : w 4 = v 4 := by rw [hw]; simp (disch := omega) only [upd_ne]
  have w2 : w 2 = nI B := by rw [hw]; simp (disch := omega) only [upd_ne]; exact h.2.1.2.2.1
  have w3 : w 3 = nI P := by rw [hw]; simp (disch := omega) only [upd_ne]; exact h.2.1.2.2.2.1
  have hfin : (bi (f_X8_onward (ur σ2 184 w)) fun r_73 => bi (f_X8_step r_73 (ur σ2 184 w)) fun σ_75 => some σ_75) = some (ur σ2 184 (upd w 3 (nI (nbV v B P)))) := by
    rw [onward8 (ur_at σ2 184 w), bi_some, f_X8_step, ur_at, w4, w2, w3, nz_ok hz, next8 h.2.1.2.2.2.2.2 hPB hB, wr_ur, vl_eq, bi_some]
  rw [hw] at hfin
  unfold pickV
  exact hfin
end PK
theorem weave_run {k S W B t : Nat} (ht : t ≤ 64) (hk : k ≤ 512) : ∀ m i (σ : Nat → Nat → Int32) (v : Nat → Int32) P N, i + m = t → RS σ 1 v k S W B P N → P < B → ∀ F, m < F → ∃ σ' v' P' N' j, lp (b_X7_weave_70 (nI t)) F (nI i, σ) = some (nI j, σ') ∧ RS σ' 1 v' k S W B P' N' ∧ (∀ a, 29 ≤ a → σ' a = σ a) ∧ ∀ σ2, lp (b_X8_weave_56 (nI t)) F (nI i, ur σ2 184 v) = some (nI j, ur σ2 184 v') := by
  intro m
  induction m with
  | zero =>
    intro i σ v P N hi h hP F hF
    obtain ⟨G, rfl⟩ : ∃ G, F = G + 1 := ⟨F - 1, by omega⟩
    have : i = t := by omega
    subst this
    refine ⟨σ, v, P, N, i, ?_, h, fun _ _ => rfl, fun σ2 => ?_⟩
    · rw [lp_s, b_X7_weave_70, if_pos (nI_le (Nat.le_refl i) (by omega)), lkr]
    · rw [lp_s, b_X8_weave_56, if_pos (nI_le (Nat.le_refl i) (by omega)), lkr]
  | succ m ih =>
    intro i σ v P N hi h hP F hF
    obtain ⟨G, rfl⟩ : ∃ G, F = G + 1 := ⟨F - 1, by omega⟩
    have hN := h.1.2.2.2.2.2.2
    have c1 : σ 16 0 = nI N := h.2.2.1.2.2.2.2.1
    have c5 : v 5 = nI N := h.2.1.2.2.2.2.1
    have hs8 : ∀ σ2 : Nat → Nat → Int32, f_X8_stands (ur σ2 184 v) = some (standV v W N) := fun σ2 => stand8 h (ur_at _ _ _)
    by_cases e1 : N = 64
    · refine ⟨σ, v, P, N, i, ?_, h, fun _ _ => rfl, fun σ2 => ?_⟩
      · rw [lp_s, b_X7_weave_70, if_neg (nI_ge (by omega) (by omega)), f_X2_isFull, c1, if_neg (show ¬ nI N < 64 by rw [e1]; decide), bi_some, if_neg n10, lkr]
      · rw [lp_s, b_X8_weave_56, if_neg (nI_ge (by omega) (by omega)), hs8, bi_some, ur_at, c5, if_pos (show (64 : Int32) ≤ nI N by rw [e1]; decide), ite_self, lkr]
    have hf : nI N < 64 := nI_lt (b := 64) (by omega) (by decide)
    have hf2 : ¬ (64 : Int32) ≤ nI N := nI_ge (b := 64) (by omega) (by decide)
    by_cases e2 : standV v W N = 0
    · obtain ⟨d1, d2⟩ := dV_eq h hP
      obtain ⟨-, y, y1, y2⟩ := h.2.2.2.2.2.2.1 _ d2
      obtain ⟨σ1, p1, p2, p3⟩ := pick7 h hP (by omega) y2 y1 hk
      obtain ⟨σ', v', P', N', j, g1, g2, g3, g4⟩ := ih (i + 1) σ1 _ _ _ (by omega) p2 (nbV_lt hP) G (by omega)
      refine ⟨σ', v', P', N', j, ?_, g2, fun a ha => by rw [g3 a ha, p3 a ha], fun σ2 => ?_⟩
      · rw [lp_s, b_X7_weave_70, if_neg (nI_ge (by omega) (by omega)), f_X2_isFull, c1, if_pos hf, bi_some, if_pos rfl, stand7 h, bi_some, if_pos e2, p1, bi_some, vl_eq, nI_1, lkl]
        exact g1
      · rw [lp_s, b_X8_weave_56, if_neg (nI_ge (by omega) (by omega)), hs8, bi_some, if_pos e2, ur_at, c5, if_neg hf2, pick8 h hP (by omega) y2 y1 hk, bi_some, vl_eq, nI_1, lkl]
        exact g4 σ2
    · refine ⟨σ, v, P, N, i, ?_, h, fun _ _ => rfl, fun σ2 => ?_⟩
      · rw [lp_s, b_X7_weave_70, if_neg (nI_ge (by omega) (by omega)), f_X2_isFull, c1, if_pos hf, bi_some, if_pos rfl, stand7 h, bi_some, if_neg e2, lkr]
      · rw [lp_s, b_X8_weave_56, if_neg (nI_ge (by omega) (by omega)), hs8, bi_some, if_neg e2, lkr]
theorem op_11 (k : Nat) (σ : Nat → Nat → Int32) (a1 : Int32) (h : Rel k σ) (hk : k < 512) : ∃ r σ1 σ2, f_X7_weave a1 σ = some (r, σ1) ∧ f_X8_weave a1 σ1 = some (r, σ2) ∧ Rel (k + 1) σ2 := by
  obtain ⟨⟨S, W, B, P, N, hR⟩, -, -⟩ := id h
  have hN := hR.1.2.2.2.2.2.2
  have c1 : σ 16 0 = nI N := hR.2.2.1.2.2.2.2.1
  have c2 : σ 184 5 = nI N := hR.2.1.2.2.2.2.1
  have c3 : σ 9 0 = nI B := hR.2.2.1.2.2.1
  have c4 : σ 184 2 = nI B := hR.2.1.2.2.1
  have ht : wr σ 183 0 0 184 = σ 184 := wr_ne (by decide)
  rcases rng a1 1 64 (by decide) (by decide) with q | ⟨t, ht1, ht64, rfl, q1, q2⟩
  · refine ⟨-1, σ, wr σ 183 0 0, ?_, ?_, rel_thr h⟩
    · rw [f_X7_weave, show f_X7_isBetween a1 1 64 σ = some 0 from btw_no q σ, bi_some, if_pos rfl]
    · rw [f_X8_weave, vl_eq, in_eq, show f_X7_isBetween a1 1 64 _ = some 0 from btw_no q _, bi_some, if_pos rfl]
  by_cases e : nI B = 0
  · refine ⟨-2, σ, wr σ 183 0 0, ?_, ?_, rel_thr h⟩
    · rw [f_X7_weave, show f_X7_isBetween (nI t) 1 64 σ = some 1 from btw_yes q1 q2 σ, bi_some, if_neg n10, c3, if_pos e]
    · rw [f_X8_weave, vl_eq, in_eq, show f_X7_isBetween (nI t) 1 64 _ = some 1 from btw_yes q1 q2 _, bi_some, if_neg n10, ht, c4, if_pos e]
  by_cases e2 : standV (σ 184) W N = 0
  · by_cases e3 : N = 64
    · refine ⟨-3, σ, wr σ 183 0 0, ?_, ?_, rel_thr h⟩
      · rw [f_X7_weave, show f_X7_isBetween (nI t) 1 64 σ = some 1 from btw_yes q1 q2 σ, bi_some, if_neg n10, c3, if_neg e, stand7 hR, bi_some, if_pos e2, f_X2_isFull, c1, if_neg (show ¬ nI N < 64 by rw [e3]; decide), bi_some, if_neg n10]
      · rw [f_X8_weave, vl_eq, in_eq, show f_X7_isBetween (nI t) 1 64 _ = some 1 from btw_yes q1 q2 _, bi_some, if_neg n10, ht, c4, if_neg e, stand8 hR ht, bi_some, if_pos e2, c2, if_pos (show nI N = 64 by rw [e3]; rfl)]
    · have hPB : P < B := hR.1.2.2.2.2.2.1.resolve_right (fun q => e (by rw [q.1]; rfl))
      obtain ⟨σ1, e1, u2, u3, u4⟩ := do_act h
      have hR1 : RS σ1 1 (σ 184) (k + 1) S W B P N := RS_frame (by omega) (fun a _ q => u2 a (by omega)) hR
      obtain ⟨σ', v', P', N', j, g1, g2, g3, g4⟩ := weave_run ht64 (by omega) t 0 σ1 (σ 184) P N (by omega) hR1 hPB FU (Nat.lt_of_le_of_lt ht64 (by decide))
      obtain ⟨σ2, f1, f2, f3, f4, f5, f6⟩ := u4 σ' g3
      have g4' : lp (b_X8_weave_56 (nI t)) FU (0, σ2) = some (nI j, ur σ2 184 v') := by
        have := g4 σ2
        rw [← f2, ur_self] at this
        exact this
      have ht' : wr σ' 183 0 0 184 = σ 184 := by rw [wr_ne (by decide), g3 184 (by decide), u3 184 (by decide)]
      refine ⟨nI j, σ', ur σ2 184 v', ?_, ?_, f6 _ ⟨S, W, B, P', N', g2⟩⟩
      · rw [f_X7_weave, show f_X7_isBetween (nI t) 1 64 σ = some 1 from btw_yes q1 q2 σ, bi_some, if_neg n10, c3, if_neg e, stand7 hR, bi_some, if_pos e2, f_X2_isFull, c1, if_pos (show nI N < 64 from nI_lt (b := 64) (by omega) (by decide)), bi_some, if_pos rfl, e1, bi_some, show lp (b_X7_weave_70 (nI t)) FU (0, σ1) = _ from g1, b2_some]
      · rw [f_X8_weave, vl_eq, in_eq, show f_X7_isBetween (nI t) 1 64 _ = some 1 from btw_yes q1 q2 _, bi_some, if_neg n10, ht', c4, if_neg e, stand8 hR ht', bi_some, if_pos e2, c2, if_neg (show ¬ nI N = 64 from fun q => e3 (nI_inj (b := 64) (by omega) (by decide) q)), f1, bi_some, g4', b2_some]
  · refine ⟨-2, σ, wr σ 183 0 0, ?_, ?_, rel_thr h⟩
    · rw [f_X7_weave, show f_X7_isBetween (nI t) 1 64 σ = some 1 from btw_yes q1 q2 σ, bi_some, if_neg n10, c3, if_neg e, stand7 hR, bi_some, if_neg e2]
    · rw [f_X8_weave, vl_eq, in_eq, show f_X7_isBetween (nI t) 1 64 _ = some 1 from btw_yes q1 q2 _, bi_some, if_neg n10, ht, c4, if_neg e, stand8 hR ht, bi_some, if_neg e2]
