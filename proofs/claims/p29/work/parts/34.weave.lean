/-! part 34: the pick in both, weave -/
section PK
variable {σ σ' σ2 : Nat → Nat → Int32} {b : Nat} {v : Nat → Int32} {k S W B P N : Nat}
theorem RS_pick {c y u P' : Nat} {ab wf pl : Int32} (h : RS σ b v k S W B P N) (hN : N < 64) (hc0 : c < 10) (hy0 : y < 20000 + 5000 * k) (hP : P' < B) (g1 : u = usV (ab &&& wf) wf W N W) (g2 : sbs wf (aE W)) (g3 : sbs pl (aE W)) : RS (wr (wr (wr (wr (wr (wr (wr (wr (wr σ (b + 17) N (nI c)) (b + 19) N (nI P)) (b + 27) N pl) (b + 23) N (ab &&& wf)) (b + 25) N (aE W &&& (wf ^^^ (-1)))) (b + 21) N (nI u)) (b + 14) c (nI y)) (b + 15) 0 (nI (N + 1))) (b + 8) 1 (nI P')) b (upd (upd (upd (upd (upd (upd (upd (upd v (126 + c) (nI y)) (136 + 5 * N) (nI c)) (137 + 5 * N) (nI P)) (138 + 5 * N) (ab &&& wf)) (139 + 5 * N) wf) (140 + 5 * N) pl) 5 (nI (N + 1))) 3 (nI P')) k S W B P' (N + 1) := by
  obtain ⟨d, hv, hc, he, hf, hb, hy, hr⟩ := h
  obtain ⟨d1, d4, d6, d3, d5, d7, d2⟩ := d
  refine ⟨⟨d1, d4, d6, d3, d5, Or.inl hP, by omega⟩, ?_, ?_, fun e h1 => ?_, fun i h1 => ?_, fun i h1 => ?_, fun j h1 => ?_, fun r h1 => ?_⟩
  · simp (disch := omega) only [upd_ne, upd_eq]
    exact ⟨hv.1, hv.2.1, hv.2.2.1, trivial, trivial, hv.2.2.2.2.2⟩
  · simp (disch := omega) only [wr_ne, wr_atne, wr_at, upd_ne, upd_eq]
    exact ⟨hc.1, hc.2.1, hc.2.2.1, trivial, trivial, hc.2.2.2.2.2⟩
  · simp (disch := omega) only [wr_ne, wr_atne, wr_at, upd_ne, upd_eq]
    exact he e h1
  · simp (disch := omega) only [wr_ne, wr_atne, wr_at, upd_ne, upd_eq]
    exact hf i h1
  · simp (disch := omega) only [wr_ne, wr_atne, wr_at, upd_ne, upd_eq]
    exact hb i h1
  · by_cases e : j = c
    · subst e
      simp (disch := omega) only [wr_ne, wr_atne, wr_at, upd_ne, upd_eq]
      exact ⟨trivial, y, hy0, rfl⟩
    · simp (disch := omega) only [wr_ne, wr_atne, wr_at, upd_ne, upd_eq]
      exact hy j h1
  · unfold RR
    by_cases e : r = N
    · subst e
      simp (disch := omega) only [wr_ne, wr_atne, wr_at, upd_ne, upd_eq]
      refine ⟨trivial, trivial, trivial, trivial, trivial, by rw [g1], ⟨c, hc0, rfl⟩, fun i hi q => ?_, g2, g3⟩
      rw [b_and] at q
      exact (Bool.and_eq_true_iff.mp q).2
    · simp (disch := omega) only [wr_ne, wr_atne, wr_at, upd_ne, upd_eq]
      exact hr r (by omega)
theorem ends_c {v v' : Nat → Int32} {a : Int32} : ∀ {n : Nat}, (∀ e, e < n → v' (6 + e) = v (6 + e)) → endsV v' a n = endsV v a n
  | 0, _ => rfl
  | n + 1, h => by rw [endsV, endsV, ends_c (fun e he => h e (by omega)), h n (by omega)]
theorem ends_sbs (v : Nat → Int32) (a : Int32) {W : Nat} (hW : W ≤ 32) : sbs (endsV v a W) (aE W) := fun i hi q => by
  rw [b_end v a W hW i hi] at q
  rw [b_aE W hW i hi]
  exact (Bool.and_eq_true_iff.mp q).1
theorem wf_sbs {W r m : Nat} (hW : W ≤ 32) (hm : m ≤ W) : sbs (wfM W r m) (aE W) := fun i hi q => by
  rw [b_wf hW m hm i hi] at q
  rw [b_aE W hW i hi]
  exact decide_eq_true (of_decide_eq_true q).1
/-- the bar's ends, lifted; how far the weft comes -/
def abV (v : Nat → Int32) (S W P : Nat) : Int32 := endsV v (liftV v (v (78 + P)) S) W
def myV (v : Nat → Int32) (S W P N y : Nat) : Nat := lyR (abV v S W P) W N y W 0
def pickV (v : Nat → Int32) (S W B P N y : Nat) : Nat → Int32 := upd (upd (upd (upd (upd (upd (upd (upd v (126 + dV v P) (nI (y - uS (abV v S W P) W N (myV v S W P N y)))) (136 + 5 * N) (nI (dV v P))) (137 + 5 * N) (nI P)) (138 + 5 * N) (abV v S W P &&& wfM W N (myV v S W P N y))) (139 + 5 * N) (wfM W N (myV v S W P N y))) (140 + 5 * N) (endsV v (v (78 + P)) W)) 5 (nI (N + 1))) 3 (nI (nbV v B P))
theorem pick7 {y : Nat} (h : RS σ 1 v k S W B P N) (hPB : P < B) (hN : N < 64) (hy : v (126 + dV v P) = nI y) (hy2 : y < 20000 + 5000 * k) (hk : k ≤ 512) : ∃ σ', f_X5_makePick 1 σ = some σ' ∧ RS σ' 1 (pickV v S W B P N y) k S W B (nbV v B P) (N + 1) ∧ ∀ a, 29 ≤ a → σ' a = σ a := by
  have hW := h.1.2.2.2.1
  have hB := h.1.2.2.2.2.1
  obtain ⟨d1, d2⟩ := dV_eq h hPB
  obtain ⟨l1, l2, l3⟩ := ly_sp (abV v S W P) W N y W 0 (Nat.zero_le y)
  have hm : myV v S W P N y ≤ W := by unfold myV; omega
  have hu : uS (abV v S W P) W N (myV v S W P N y) ≤ y := l3
  have hen : ∀ σ'' : Nat → Nat → Int32, (∀ a, a < 9 → σ'' a = σ a) → ∀ a, f_X6_endsOn 2 a σ'' = some (endsV v a W) := fun σ'' hs a => by
    refine ends7 (o := 2) (by rw [hs 2 (by decide)]; exact h.2.2.1.2.1) hW (fun e he => ?_) a
    obtain ⟨q1, -, ⟨s, s1, s2⟩, -⟩ := h.2.2.2.1 e he
    exact ⟨by rw [hs _ (by decide)]; exact q1, s, by have := h.1.2.1; omega, s2⟩
  have hli : ∀ σ'' : Nat → Nat → Int32, (∀ a, a < 9 → σ'' a = σ a) → ∀ a, f_X6_liftedShafts 2 a σ'' = some (liftV v a S) := fun σ'' hs a => lift7 (by rw [hs 2 (by decide)]; exact h.2.2.1.1) h.1.2.1 (fun i hi => by rw [hs _ (by decide)]; exact (h.2.2.2.2.1 i hi).1) a
  have hla : ∀ σ'' : Nat → Nat → Int32, σ'' 2 1 = nI W → f_X5_layWeft 1 (nI N) (abV v S W P) (nI y) σ'' = some (wr (wr (wr σ'' 24 N (abV v S W P &&& wfM W N (myV v S W P N y))) 26 N (aE W &&& (wfM W N (myV v S W P N y) ^^^ (-1)))) 22 N (nI (uS (abV v S W P) W N (myV v S W P N y)))) := fun σ'' hs => by
    have e := lay7 (ab := abV v S W P) (r := N) (y := y) (v2 := if N % 2 = 0 then 1 else 0) hs hW (by omega) rfl W 0 (by omega) (Nat.zero_le y) FU (Nat.lt_of_le_of_lt hW (by decide))
    have hv : (if nI N &&& 1 = 0 then (1 : Int32) else 0) = if N % 2 = 0 then 1 else 0 := by
      have := par_c (r := N) (by omega)
      by_cases q : N % 2 = 0
      · rw [if_pos (this.mpr q), if_pos q]
      · rw [if_neg (fun z => q (this.mp z)), if_neg q]
    rw [f_X5_layWeft, hv, vl_eq, show lp (b_X5_layWeft_25 1 (abV v S W P) (nI y) σ'' (if N % 2 = 0 then 1 else 0)) FU (0, 0, (-1), 0) = _ from e, b2_some, num_put hN (by decide), bi_some, show f_X6_allEnds (1 + 1) _ = some (aE W) from all7 (by rw [wr_ne (by decide)]; exact hs) hW, bi_some, num_put hN (by decide), bi_some, num_put hN (by decide), bi_some]
    rfl
  refine ⟨_, ?_, RS_pick (c := dV v P) (y := y - uS (abV v S W P) W N (myV v S W P N y)) (u := uS (abV v S W P) W N (myV v S W P N y)) (P' := nbV v B P) (ab := abV v S W P) (wf := wfM W N (myV v S W P N y)) (pl := endsV v (v (78 + P)) W) h hN d2 (by omega) (nbV_lt hPB) ?_ (wf_sbs hW hm) (ends_sbs v _ hW), fun a ha => ?_⟩
  · rw [f_X5_makePick, show σ (1 + 15) 0 = nI N from h.2.2.1.2.2.2.2.1, vl_eq, show σ (1 + 8) 1 = nI P from h.2.2.1.2.2.2.1, num_at (by omega) (by decide), bi_some, show σ (1 + 11 + 1) P = _ from (h.2.2.2.2.2.1 P hPB).2.1, d1, num_at (by omega) (by decide), bi_some, show σ (1 + 9 + 1) P = _ from (h.2.2.2.2.2.1 P hPB).1, num_put hN (by decide), bi_some, wr_ne (by decide), show σ (1 + 8) 1 = nI P from h.2.2.1.2.2.2.1, num_put hN (by decide), bi_some, show f_X6_endsOn (1 + 1) _ _ = _ from hen _ (fun a ha => by rw [wr_ne (by omega), wr_ne (by omega)]) _, bi_some, num_put hN (by decide), bi_some, show f_X6_liftedShafts (1 + 1) _ _ = _ from hli _ (fun a ha => by rw [wr_ne (by omega), wr_ne (by omega), wr_ne (by omega)]) _, bi_some, show f_X6_endsOn (1 + 1) _ _ = _ from hen _ (fun a ha => by rw [wr_ne (by omega), wr_ne (by omega), wr_ne (by omega)]) _, bi_some, num_at d2 (by decide), bi_some, wr_ne (by decide), wr_ne (by decide), wr_ne (by decide), show σ (1 + 13 + 1) (dV v P) = _ from (h.2.2.2.2.2.2.1 _ d2).1, hy, show endsV v (liftV v (v (78 + P)) S) W = abV v S W P from rfl, hla _ (by rw [wr_ne (by decide), wr_ne (by decide), wr_ne (by decide)]; exact h.2.2.1.2.1), bi_some, num_at d2 (by decide), bi_some, num_at hN (by decide), bi_some, show (wr _ 22 N (nI (uS (abV v S W P) W N (myV v S W P N y)))) (1 + 20 + 1) N = _ from wr_at _ _ _ _, wr_ne (by decide), wr_ne (by decide), wr_ne (by decide), wr_ne (by decide), wr_ne (by decide), wr_ne (by decide), show σ (1 + 13 + 1) (dV v P) = _ from (h.2.2.2.2.2.2.1 _ d2).1, hy, nI_sub hu, num_put d2 (by decide), bi_some, vl_eq, nI_1, show ∀ τ : Nat → Nat → Int32, τ (1 + 8) = σ 9 → f_X0_barAfter (1 + 8) (τ (1 + 8) 1) τ = some (nI (nbV v B P)) from fun τ ht => by
      rw [ht, show σ 9 1 = nI P from h.2.2.1.2.2.2.1]
      exact after7 (by rw [ht]; exact h.2.2.1.2.2.1) (by rw [ht]; exact h.2.2.1.2.2.2.2.2) h.2.1.2.2.2.2.2 hPB hB, bi_some, vl_eq]
    · simp (disch := omega) only [wr_ne]
  · have := us_row (ab := abV v S W P) (r := N) hW hm W (Nat.le_refl W)
    rw [this]
    congr 1
    split <;> omega
  · simp (disch := omega) only [wr_ne]
theorem upd_self (f : Nat → Int32) (k : Nat) : upd f k (f k) = f := by
  funext p
  unfold upd
  split
  · next q => rw [q]
  · rfl
end PK
