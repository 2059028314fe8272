/-! part 40: brackets, in the class -/
section BK
variable {σ : Nat → Nat → Int32} {S p n l : Nat} {L Y : Nat → Int32} {T : Nat → Nat}
theorem open_in {t s : Nat} (ht : 0 < t) (ht9 : t < 10) : f_X1_openBrackets (cM σ S p t s n L Y) = some (1, cM σ S p t s n L Y) := by
  rw [f_X1_openBrackets, if_neg (show ¬ cM σ S p t s n L Y 171 5 = 0 from fun q => by have := nI_inj (a := t) (b := 0) (by omega) (by decide) q; omega)]
theorem open_no {q6 : Nat} (h : isT σ T l) (hp : p ≤ l) (hn : numA T l p = false) : f_X1_openBrackets (cM σ S p 0 q6 n L Y) = some (1, cM σ S (sk T l p) 0 q6 n L Y) := by
  rw [f_X1_openBrackets, if_pos (show cM σ S p 0 q6 n L Y 171 5 = 0 from rfl), num7 h hp, b2_some, hn, if_pos (show (if false = true then (1 : Int32) else 0) = 0 from rfl)]
/-- a number stands ahead: how it goes on, in both, from the place of its digit -/
theorem open_yes {q6 : Nat} (h : isT σ T l) (hp : p ≤ l) (hn : numA T l p = true) : ∃ t, t < 10 ∧ sk T l p < l ∧ T (sk T l p) = 48 + t ∧ sk T l (sk T l p + 1) < l ∧ T (sk T l (sk T l p + 1)) = 120 ∧ f_X1_openBrackets (cM σ S p 0 q6 n L Y) = some (if 2 ≤ t then (if ch T l (sk T l (sk T l (sk T l p + 1) + 1)) = 40 then ((1 : Int32), cM σ S (sk T l (sk T l (sk T l p + 1) + 1) + 1) t n n L Y) else (0, cM σ S (sk T l (sk T l (sk T l p + 1) + 1)) t n n L Y)) else (0, cM σ S (sk T l p) 0 q6 n L Y)) := by
  have hl := h.2.1
  have hs := sk_le (T := T) hp
  have hss := sk_sk T l p
  have hn0 := hn
  unfold numA at hn
  obtain ⟨e, e3⟩ := Bool.and_eq_true_iff.mp hn
  have e := of_decide_eq_true e
  have e3 := of_decide_eq_true e3
  have hp1 : sk T l p + 1 ≤ l := e.1
  have hs1 := sk_le (T := T) hp1
  have e4 := (ch_is (c := 120) (fun q => (h.2.2 _ q).1) (by decide)).mp e3
  obtain ⟨d, hd⟩ : ∃ d, T (sk T l p) = 48 + d := ⟨T (sk T l p) - 48, by omega⟩
  have hx : nI (48 + d) - 48 = nI d := (nI_sub (b := 48) (by omega)).trans (congrArg nI (by omega))
  have pk := peek7 (S := S) (q5 := 0) (q6 := q6) (n := n) (L := L) (Y := Y) h (p := sk T l p) (by omega) (by rw [hss]; omega)
  rw [hss] at pk
  refine ⟨d, by omega, e.1, hd, e4.1, e4.2, ?_⟩
  rw [f_X1_openBrackets, if_pos (show cM σ S p 0 q6 n L Y 171 5 = 0 from rfl), num7 h hp, b2_some, hn0, if_pos rfl, if_neg n10, pk, b2_some, ch_at e.1, hd, hx, vl_eq]
  by_cases e5 : 2 ≤ d
  · rw [if_pos (show (2 : Int32) ≤ nI d from nI_le (a := 2) e5 (by omega)), if_pos e5, show cM σ S (sk T l p) 0 q6 n L Y 171 3 = nI (sk T l p) from rfl, nI_1, cM_p, vl_eq, cM_5, vl_eq, show cM σ S (sk T l p + 1) d q6 n L Y 174 0 = nI n from rfl, cM_6, vl_eq, take7c h hp1, if_pos e3, b2_some, if_neg n10, take7c h (show sk T l (sk T l p + 1) + 1 ≤ l from e4.1)]
    by_cases e6 : ch T l (sk T l (sk T l (sk T l p + 1) + 1)) = 40
    · rw [if_pos e6, b2_some, if_neg n10]
    · rw [if_neg e6, b2_some, if_pos rfl]
  · rw [if_neg (show ¬ (2 : Int32) ≤ nI d from nI_ge (b := 2) (by omega) (by decide)), if_neg e5]
theorem close_out {q6 : Nat} : f_X1_closeBrackets (cM σ S p 0 q6 n L Y) = some (1, cM σ S p 0 q6 n L Y) := by
  rw [f_X1_closeBrackets, if_pos (show cM σ S p 0 q6 n L Y 171 5 = 0 from rfl)]
theorem close_in {t s d : Nat} (h : isT σ T l) (hp : p ≤ l) (ht : 1 ≤ t) (ht9 : t < 10) (hd : 0 < d) (hn : n = s + d) (hn24 : n ≤ 24) : f_X1_closeBrackets (cM σ S p t s n L Y) = some (if ch T l (sk T l p) = 41 then (if s + d * t ≤ 24 then ((1 : Int32), cM σ S (sk T l p + 1) 0 s (s + d * t) (rpL L s d n) (rpL Y s d n)) else (0, cM σ S (sk T l p) t s n L Y)) else (1, cM σ S (sk T l p) t s n L Y)) := by
  have hl := h.2.1
  have hs := sk_le (T := T) hp
  have hss := sk_sk T l p
  rw [f_X1_closeBrackets, if_neg (show ¬ cM σ S p t s n L Y 171 5 = 0 from fun q => by have := nI_inj (a := t) (b := 0) (by omega) (by decide) q; omega), peek7 h (by omega) (by omega), b2_some]
  by_cases e : ch T l (sk T l p) = 41
  · rw [if_pos e, if_pos e, show cM σ S (sk T l p) t s n L Y 171 6 = nI s from rfl, show cM σ S (sk T l p) t s n L Y 171 5 = nI t from rfl, repeat7 hd hn hn24 ht ht9]
    by_cases e2 : s + d * t ≤ 24
    · have e3 := take7c (σ := σ) (S := S) (q5 := 0) (q6 := s) (n := s + d * t) (L := rpL L s d n) (Y := rpL Y s d n) (c := 41) h hs
      rw [hss, if_pos e] at e3
      rw [if_pos e2, if_pos e2, b2_some, if_neg n10, show (0 : Int32) = nI 0 from rfl, cM_5, vl_eq, e3, b2_some]
    · rw [if_neg e2, if_neg e2, b2_some, if_pos rfl]
  · rw [if_neg e, if_neg e]
end BK
