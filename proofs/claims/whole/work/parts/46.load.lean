/-! part 46: load, where it fails -/
def lk8 (z_8 : Int32) (σ_9 : Nat → Nat → Int32) : Option (Int32 × (Nat → Nat → Int32)) := jn (α := (Nat → Nat → Int32) → _) (fun k_57 => if z_8 = 0 then (k_57 σ_9) else (b2 (f_X8_here σ_9) fun r_59 σ_60 => if r_59 < 0 then (bi (f_X8_act σ_60) fun σ_62 => vl (wr σ_62 184 2 (σ_62 183 9)) fun σ_63 => vl (wr σ_63 184 3 0) fun σ_64 => bi (lp (b_X8_load_83) FU (0, σ_64)) fun σ_67 => vl (wr σ_67 183 6 0) fun σ_83 => some (σ_83 183 9, σ_83)) else (k_57 σ_60))) (fun σ_56 => some ((-10) - (σ_56 183 10), σ_56))
theorem load8 (X : Nat → Nat → Int32) (L Y : Nat → Int32) : f_X8_load X = b2 (outM FU (mM (wr X 183 0 0) 0 0 L Y)) lk8 := by
  rw [f_X8_load]
  simp only [vl_eq]
  rw [start8 _ L Y]
  unfold outM
  rw [b2_b2]
  rfl
theorem load_fail {σ X : Nat → Nat → Int32} {k S l p1 a b n1 : Nat} {L1 Y1 L Y : Nat → Int32} {T : Nat → Nat} {z : (Int32 × (Nat → Nat → Int32)) ⊕ (Nat → Nat → Int32)} {C : Option ((Int32 × (Nat → Nat → Int32)) ⊕ (Nat → Nat → Int32))} (h : Rel k σ) (h7 : isT σ T l) (h8 : ∀ τ : Nat → Nat → Int32, τ 183 6 = σ 183 6 → τ 187 = σ 187 → isM τ T l) (hX : X = cM σ S p1 a b n1 L1 Y1) (hC : C = some z) (hz : finC z = some (0, X)) (hO : outO σ (wr X 183 0 0) T l S FU C (outM FU (mM (wr X 183 0 0) 0 0 L Y))) : ∃ σ2, f_X8_load X = some (-10 - nI p1, σ2) ∧ Rel (k + 1) σ2 := by
  have xn : ∀ a, a ≠ 171 → a ≠ 174 → a ≠ 176 → a ≠ 178 → X a = σ a := fun a q1 q2 q3 q4 => by rw [hX, cM_ne q1 q2 q3 q4]
  have hrel : ∀ p n (L Y : Nat → Int32), Rel (k + 1) (mM (wr X 183 0 0) p n L Y) := fun p n L Y => by
    refine rel_free h (fun a ha => ?_) ?_ ?_ ?_ ?_ ?_ ?_ ?_
    · rw [mM_ne (by omega) (by omega) (by omega), wr_ne (by omega), xn a (by omega) (by omega) (by omega) (by omega)]
    · rw [mM_ne (by decide) (by decide) (by decide), wr_ne (by decide), hX]; rfl
    · rw [mM_ne (by decide) (by decide) (by decide), wr_ne (by decide), xn 173 (by decide) (by decide) (by decide) (by decide)]
    · show wr X 183 0 0 183 4 = _
      rw [wr_atne (by decide), xn 183 (by decide) (by decide) (by decide) (by decide)]
    · show wr X 183 0 0 183 6 = _
      rw [wr_atne (by decide), xn 183 (by decide) (by decide) (by decide) (by decide)]
    · rw [mM_ne (by decide) (by decide) (by decide), wr_ne (by decide), xn 184 (by decide) (by decide) (by decide) (by decide)]
    · rw [mM_ne (by decide) (by decide) (by decide), wr_ne (by decide), xn 186 (by decide) (by decide) (by decide) (by decide)]
    · rw [mM_ne (by decide) (by decide) (by decide), wr_ne (by decide), xn 187 (by decide) (by decide) (by decide) (by decide)]
  have hM : isM (wr X 183 0 0) T l := h8 _ (by rw [wr_atne (by decide), xn 183 (by decide) (by decide) (by decide) (by decide)]) (by rw [wr_ne (by decide), xn 187 (by decide) (by decide) (by decide) (by decide)])
  rcases hO with ⟨z', p', q6, n', L', Y', -, -, -, -, -, e1, e2, -⟩ | ⟨z', p', a', b', n1', L1', Y1', n2, L2, Y2, hp, e1, e2, e3⟩
  · rw [hC] at e1
    rw [← Option.some.inj e1, hz] at e2
    exact absurd (show (0 : Int32) = 1 from congrArg Prod.fst (Option.some.inj e2)) (by decide)
  · rw [hC] at e1
    rw [← Option.some.inj e1, hz] at e2
    have e4 : nI p1 = nI p' := by
      have := congrFun (congrFun (congrArg Prod.snd (Option.some.inj e2)) 171) 3
      rw [hX] at this
      exact this
    rw [load8 X L Y, e4]
    rcases e3 with e3 | ⟨e3, e5, e6⟩
    · rw [e3, b2_some, lk8, jn_eq, if_pos rfl]
      exact ⟨_, rfl, hrel p' n2 L2 Y2⟩
    · have hh := here8 (n := n2) (L := L2) (Y := Y2) (p := p') hM (by have := h7.2.1; omega) (by rw [e6]; have := h7.2.1; omega)
      rw [e6, ch_at e5] at hh
      rw [e3, b2_some, lk8, jn_eq, if_neg n10, hh, b2_some, if_neg (nI_pos (by have := (h7.2.2 _ e5).1; omega))]
      exact ⟨_, rfl, hrel p' n2 L2 Y2⟩
