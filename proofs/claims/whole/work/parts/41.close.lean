/-! part 41: the closing of a bracket, in the reference; ends of reading -/
/-- what the reference does behind the bars in a bracket -/
def cl8 (t s : Nat) (r_16 : Int32) (σ_17 : Nat → Nat → Int32) : Option (Int32 × (Nat → Nat → Int32)) := if r_16 = 0 then (some (0, σ_17)) else (b2 (f_X8_here σ_17) fun r_18 σ_19 => if r_18 = 41 then (if (nI s + (nI t * ((σ_19 183 9) - nI s))) ≤ 24 then (vl (wr σ_19 183 10 ((σ_19 183 10) + 1)) fun σ_20 => vl ((σ_20 183 9) - nI s) fun x_21 => bi (lp (b_X8_readsRepeated_113 (nI t) (nI s) x_21) FU (x_21, σ_20)) fun σ_24 => vl (wr σ_24 183 9 (nI s + (nI t * x_21))) fun σ_40 => some (1, σ_40)) else (some (0, σ_19))) else (some (0, σ_19)))
/-- how the class's reading ends -/
def finC (yy : (Int32 × (Nat → Nat → Int32)) ⊕ (Nat → Nat → Int32)) : Option (Int32 × (Nat → Nat → Int32)) := sm yy (fun rv => some rv) fun σ_8 => if (σ_8 171 5) = 0 then (b2 (f_X1_peek σ_8) fun r_44 σ_45 => if r_44 = (-1) then (some (1, σ_45)) else (some (0, σ_45))) else (some (0, σ_8))
/-- what the class does behind a part: the semicolon, and on -/
def afC (i G : Nat) (X : Nat → Nat → Int32) : Option ((Int32 × (Nat → Nat → Int32)) ⊕ (Nat → Nat → Int32)) := bi (b2 (f_X1_take 59 X) fun r_35 σ_36 => if r_35 = 0 then (some (.inr (.inr σ_36))) else (vl (nI i + 1) fun x_37 => some (.inl (x_37, σ_36)))) (lk (lp b_X1_readChain_24 G))
section CL
variable {σ τ : Nat → Nat → Int32} {S p q5 q6 n l : Nat} {L Y : Nat → Int32} {T : Nat → Nat}
theorem close8 {t s d : Nat} (h : isM τ T l) (hp : p ≤ l) (ht : 1 ≤ t) (ht9 : t < 10) (hd : 0 < d) (hn : n = s + d) (hn24 : n ≤ 24) : cl8 t s 1 (mM τ p n L Y) = some (if ch T l (sk T l p) = 41 then (if s + d * t ≤ 24 then ((1 : Int32), mM τ (sk T l p + 1) (s + d * t) (rpL L s d n) (rpL Y s d n)) else (0, mM τ (sk T l p) n L Y)) else (0, mM τ (sk T l p) n L Y)) := by
  have hl := h.2.1
  have hs := sk_le (T := T) hp
  have hdt : d * t ≤ 24 * 9 := Nat.mul_le_mul (by omega) (by omega)
  have e1 : nI s + nI t * (nI n - nI s) = nI (s + d * t) := by
    rw [nI_sub (by omega), nI_mul, nI_add, show n - s = d by omega, Nat.mul_comm]
  unfold cl8
  rw [if_neg n10, here8 h (by omega) (by omega), b2_some]
  by_cases e : ch T l (sk T l p) = 41
  · rw [if_pos e, if_pos e, show mM τ (sk T l p) n L Y 183 9 = nI n from rfl, e1]
    by_cases e2 : s + d * t ≤ 24
    · rw [if_pos (show nI (s + d * t) ≤ 24 from nI_le (b := 24) e2 (by decide)), if_pos e2, show mM τ (sk T l p) n L Y 183 10 = nI (sk T l p) from rfl, nI_1, mM_p, vl_eq, show mM τ (sk T l p + 1) n L Y 183 9 = nI n from rfl, nI_sub (by omega), show n - s = d by omega, vl_eq, repeat8 hd hn ht ht9 e2, bi_some, nI_mul, nI_add, show s + t * d = s + d * t by rw [Nat.mul_comm], mM2_9, vl_eq]
    · rw [if_neg (show ¬ nI (s + d * t) ≤ 24 from nI_ge (a := 24) (by omega) (by omega)), if_neg e2]
  · rw [if_neg e, if_neg e]
/-- the class fails here -/
theorem fin_in {t : Nat} (ht : 0 < t) (ht9 : t < 10) : finC (.inr (cM σ S p t q6 n L Y)) = some (0, cM σ S p t q6 n L Y) := by
  unfold finC
  rw [sm_inr, if_neg (show ¬ cM σ S p t q6 n L Y 171 5 = 0 from fun q => by have := nI_inj (a := t) (b := 0) (by omega) (by decide) q; omega)]
theorem fin_out (h : isT σ T l) (hp : p ≤ l) : finC (.inr (cM σ S p 0 q6 n L Y)) = some (if sk T l p < l then ((0 : Int32), cM σ S (sk T l p) 0 q6 n L Y) else (1, cM σ S (sk T l p) 0 q6 n L Y)) := by
  have hl := h.2.1
  have hs := sk_le (T := T) hp
  unfold finC
  rw [sm_inr, if_pos (show cM σ S p 0 q6 n L Y 171 5 = 0 from rfl), peek7 h (by omega) (by omega), b2_some]
  by_cases e : sk T l p < l
  · have hne : ¬ ch T l (sk T l p) = -1 := fun q => by
      rw [ch_at e] at q
      exact absurd (show (0 : Int32) ≤ nI (T (sk T l p)) from nI_le (Nat.zero_le _) (by have := (h.2.2 _ e).1; omega)) (by rw [q]; decide)
    rw [if_neg hne, if_pos e]
  · rw [if_pos (show ch T l (sk T l p) = -1 from if_neg e), if_neg e]
end CL
