/-! part 39: the repeat, in both -/
def mM2 (σ : Nat → Nat → Int32) (p n c : Nat) (L Y : Nat → Int32) : Nat → Nat → Int32 := fun a => if a = 183 then (fun i => if i = 10 then nI p else if i = 9 then nI n else σ 183 i) else if a = 188 then (fun i => if i < c then L i else σ 188 i) else if a = 189 then (fun i => if i < c then Y i else σ 189 i) else σ a
section RP
variable {σ τ : Nat → Nat → Int32} {S p q5 q6 n l : Nat} {L Y : Nat → Int32} {T : Nat → Nat}
theorem mM2_n : mM2 τ p n n L Y = mM τ p n L Y := rfl
theorem mM2_9 (c : Nat) : wr (mM2 τ p n c L Y) 183 9 (nI c) = mM τ p c L Y := by
  funext a
  by_cases h : a = 183
  · subst h
    rw [wr_eq]
    funext i
    unfold upd mM mM2
    by_cases e : i = 9
    · subst e; rfl
    · rw [if_neg e, if_pos rfl, if_pos rfl]
      simp only [if_neg e]
  · rw [wr_ne h]
    unfold mM mM2
    rw [if_neg h, if_neg h]
theorem mM2_add {c : Nat} (x y : Int32) : wr (wr (mM2 τ p n c L Y) 188 c x) 189 c y = mM2 τ p n (c + 1) (upd L c x) (upd Y c y) := by
  funext a
  by_cases h2 : a = 189
  · subst h2
    rw [wr_eq, wr_ne (by decide)]
    exact row_up Y (τ 189) c y
  · rw [wr_ne h2]
    by_cases h3 : a = 188
    · subst h3
      rw [wr_eq]
      exact row_up L (τ 188) c x
    · rw [wr_ne h3]
      unfold mM2
      rw [if_neg h2, if_neg h3, if_neg h2, if_neg h3]
theorem mM2_cong {L' Y' : Nat → Int32} {c : Nat} (h1 : ∀ i, i < c → L i = L' i) (h2 : ∀ i, i < c → Y i = Y' i) : mM2 τ p n c L Y = mM2 τ p n c L' Y' := by
  unfold mM2
  funext a
  by_cases e1 : a = 183
  · rw [if_pos e1, if_pos e1]
  rw [if_neg e1, if_neg e1]
  by_cases e3 : a = 188
  · rw [if_pos e3, if_pos e3]
    funext i
    by_cases e : i < c
    · rw [if_pos e, if_pos e, h1 i e]
    · rw [if_neg e, if_neg e]
  rw [if_neg e3, if_neg e3]
  by_cases e4 : a = 189
  · rw [if_pos e4, if_pos e4]
    funext i
    by_cases e : i < c
    · rw [if_pos e, if_pos e, h2 i e]
    · rw [if_neg e, if_neg e]
  rw [if_neg e4, if_neg e4]
theorem repeat7 {s d t : Nat} (hd : 0 < d) (hn : n = s + d) (hn24 : n ≤ 24) (ht : 1 ≤ t) (ht9 : t < 10) : f_X0_repeatFrom 174 (nI s) (nI t) (cM σ S p q5 q6 n L Y) = some (if s + d * t ≤ 24 then ((1 : Int32), cM σ S p q5 q6 (s + d * t) (rpL L s d n) (rpL Y s d n)) else (0, cM σ S p q5 q6 n L Y)) := by
  have e0 : cM σ S p q5 q6 n L Y = cM σ S p q5 q6 n (rpL L s d n) (rpL Y s d n) := cM_cong (fun i hi => by unfold rpL; rw [if_pos hi]) (fun i hi => by unfold rpL; rw [if_pos hi])
  have e1 : nI s + (nI n - nI s) * nI t = nI (s + d * t) := by
    rw [nI_sub (by omega), nI_mul, nI_add, show n - s = d by omega]
  rw [f_X0_repeatFrom, show cM σ S p q5 q6 n L Y 174 0 = nI n from rfl, vl_eq, e1]
  have hdt : d * t ≤ 24 * 9 := Nat.mul_le_mul (by omega) (by omega)
  by_cases e : s + d * t ≤ 24
  · have hl : lp (b_X0_repeatFrom_22 174 (nI s) (nI t) (nI n)) FU (1, cM σ S p q5 q6 n L Y) = some (cM σ S p q5 q6 (s + d * t) (rpL L s d n) (rpL Y s d n)) := by
      refine lp_run (fun j => (nI (1 + j), cM σ S p q5 q6 (s + d * (1 + j)) (rpL L s d n) (rpL Y s d n))) (t - 1) (by omega) (fun j hj => ?_) ?_ ?_
      · show b_X0_repeatFrom_22 174 (nI s) (nI t) (nI n) (nI (1 + j), _) = _
        have hm : d * (1 + j + 1) ≤ d * t := Nat.mul_le_mul_left d (by omega)
        have hm2 : d ≤ d * (1 + j) := Nat.le_mul_of_pos_right d (by omega)
        have hx : d * (1 + j + 1) = d * (1 + j) + d := Nat.mul_succ d (1 + j)
        rw [b_X0_repeatFrom_22, if_neg (nI_ge (by omega) (by omega)), rep_row (t := t) hd hn d s (s + d * (1 + j)) (by omega) (Nat.le_refl s) (by rw [show s + d * (1 + j) - s = d * (1 + j) by omega, Nat.mul_mod_right, Nat.sub_self]) (by omega) (by omega) FU (Nat.lt_of_le_of_lt (show d ≤ 24 by omega) (by decide)), bi_some, vl_eq, nI_1]
        show some (Sum.inl (nI (1 + j + 1), cM σ S p q5 q6 (s + d * (1 + j) + d) _ _)) = some (Sum.inl (nI (1 + (j + 1)), cM σ S p q5 q6 (s + d * (1 + (j + 1))) _ _))
        rw [show s + d * (1 + (j + 1)) = s + d * (1 + j) + d by rw [show 1 + (j + 1) = 1 + j + 1 by omega, hx]; omega]
        rfl
      · show b_X0_repeatFrom_22 174 (nI s) (nI t) (nI n) (nI (1 + (t - 1)), _) = _
        rw [b_X0_repeatFrom_22, if_pos (nI_le (by omega) (by omega))]
        show some (Sum.inr (cM σ S p q5 q6 (s + d * (1 + (t - 1))) _ _)) = _
        rw [show 1 + (t - 1) = t by omega]
      · show (nI (1 + 0), cM σ S p q5 q6 (s + d * (1 + 0)) _ _) = _
        rw [e0, show s + d * (1 + 0) = n by omega]
        rfl
    rw [if_pos (show nI (s + d * t) ≤ 24 from nI_le (b := 24) e (by decide)), if_pos e, hl, bi_some]
  · rw [if_neg (show ¬ nI (s + d * t) ≤ 24 from nI_ge (a := 24) (by omega) (by omega)), if_neg e]
theorem repeat8 {s d t : Nat} (hd : 0 < d) (hn : n = s + d) (ht : 1 ≤ t) (ht9 : t < 10) (h24 : s + d * t ≤ 24) : lp (b_X8_readsRepeated_113 (nI t) (nI s) (nI d)) FU (nI d, mM τ p n L Y) = some (mM2 τ p n (s + d * t) (rpL L s d n) (rpL Y s d n)) := by
  have hdt : d ≤ d * t := Nat.le_mul_of_pos_right d (by omega)
  refine lp_run (fun j => (nI (d + j), mM2 τ p n (n + j) (rpL L s d n) (rpL Y s d n))) (d * t - d) (by omega) (fun j hj => ?_) ?_ ?_
  · show b_X8_readsRepeated_113 (nI t) (nI s) (nI d) (nI (d + j), _) = _
    have hL : ∀ f : Nat → Int32, rpL f s d n (n + j) = rpL f s d n (s + j) := fun f => by
      unfold rpL
      rw [if_neg (by omega), show n + j - s = j + d by omega, Nat.add_mod_right]
      by_cases q : s + j < n
      · rw [if_pos q, Nat.mod_eq_of_lt (by omega)]
      · rw [if_neg q, show s + j - s = j by omega]
    have g1 : nI s + nI (d + j) - nI d = nI (s + j) := by
      rw [nI_add, nI_sub (by omega)]
      congr 1; omega
    have g2 : nI s + nI (d + j) = nI (n + j) := by
      rw [nI_add]
      congr 1; omega
    have r1 : mM2 τ p n (n + j) (rpL L s d n) (rpL Y s d n) 188 (s + j) = rpL L s d n (n + j) := by
      rw [hL]
      exact if_pos (by omega)
    have r2 : mM2 τ p n (n + j) (rpL L s d n) (rpL Y s d n) 189 (s + j) = rpL Y s d n (n + j) := by
      rw [hL]
      exact if_pos (by omega)
    rw [b_X8_readsRepeated_113, nI_mul, if_neg (nI_ge (by rw [Nat.mul_comm]; omega) (by rw [Nat.mul_comm]; omega)), g1, g2, ix_nI (by omega) (by decide), ix_nI (by omega) (by decide), nI_clamp (by omega), nI_clamp (by omega), vl_eq, ix_nI (by omega) (by decide), ix_nI (by omega) (by decide), wr_ne (by decide), r1, r2, vl_eq, mM2_add, upd_self, upd_self, vl_eq, nI_1]
    rfl
  · show b_X8_readsRepeated_113 (nI t) (nI s) (nI d) (nI (d + (d * t - d)), _) = _
    rw [b_X8_readsRepeated_113, nI_mul, if_pos (nI_le (by rw [Nat.mul_comm]; omega) (by omega))]
    show some (Sum.inr (mM2 τ p n (n + (d * t - d)) _ _)) = _
    rw [show n + (d * t - d) = s + d * t by omega]
  · show (nI (d + 0), mM2 τ p n (n + 0) _ _) = _
    rw [show mM τ p n L Y = mM2 τ p n n (rpL L s d n) (rpL Y s d n) from mM2_cong (c := n) (L := L) (Y := Y) (fun i hi => by unfold rpL; rw [if_pos hi]) (fun i hi => by unfold rpL; rw [if_pos hi])]
    rfl
end RP
