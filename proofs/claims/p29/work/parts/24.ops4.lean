/-! part 24: the cut, the undo, a bar's numbers -/
/-- what a whole pick needs -/
theorem fb_ct_cut {p : Nat → Bool} {m n : Nat} (hmn : m ≤ n) (h : ∀ i, m ≤ i → i < n → p i = false) : fb_ct p n = fb_ct p m := by
  obtain ⟨d, rfl⟩ : ∃ d, n = m + d := ⟨n - m, by omega⟩
  rw [fb_ct_split, fb_ct_zero.mpr (fun i hi => h (m + i) (by omega) (by omega)), Nat.add_zero]
def wholeV (ab : Int32) (W : Nat) : Nat := sumN (fun i => ndV ab W 0 i) W
theorem whole_ct (ab : Int32) (W : Nat) : ∀ m, sumN (fun i => ndV ab W 0 i) (m + 1) = m + 1 + fb_ct (fun i => bt ab i ^^ bt ab (i + 1)) m := by
  intro m
  induction m with
  | zero => rfl
  | succ m ih =>
    rw [sumN, ih, fb_ct_succ]
    rw [show ndV ab W 0 (m + 1) = if bt ab (m + 1) = bt ab m then 1 else 2 from rfl]
    cases bt ab (m + 1) <;> cases bt ab m <;> simp <;> omega
theorem bar7 {ab : Int32} {W : Nat} (h0 : 4 ≤ W) (hW : W ≤ 32) : W + pc ((ab ^^^ usr ab 1) &&& usr (aE W) 1) = wholeV ab W := by
  obtain ⟨m, rfl⟩ : ∃ m, W = m + 1 := ⟨W - 1, by omega⟩
  unfold wholeV
  rw [whole_ct]
  congr 1
  have u : ∀ x i, bt (usr x 1) i = bt x (1 + i) := fun x i => b_ushr 1 (by decide) x i
  have hb : ∀ i, i < 32 → bt ((ab ^^^ usr ab 1) &&& usr (aE (m + 1)) 1) i = (decide (i < m) && (bt ab i ^^ bt ab (i + 1))) := fun i hi => by
    rw [b_and, b_xor, u, u, Nat.add_comm 1 i]
    by_cases q : i < m
    · rw [b_aE _ hW _ (by omega), decide_eq_true q, decide_eq_true (by omega), Bool.and_true, Bool.true_and]
    · have : bt (aE (m + 1)) (i + 1) = false := by
        by_cases q2 : i + 1 < 32
        · rw [b_aE _ hW _ q2, decide_eq_false (by omega)]
        · exact b_big (by omega)
      rw [this, decide_eq_false q, Bool.and_false, Bool.false_and]
  unfold pc
  rw [fb_ct_cong hb, fb_ct_cut (m := m) (by omega) (fun i h1 _ => by rw [decide_eq_false (by omega), Bool.false_and])]
  exact fb_ct_cong (fun i hi => by rw [decide_eq_true hi, Bool.true_and])
section RB
variable {σ τ : Nat → Nat → Int32} {v : Nat → Int32} {k S W B P N : Nat}
theorem liftBar7 {b : Nat} (hR : RS σ b v k S W B P N) (a : Int32) : f_X6_liftedShafts (b + 1) a σ = some (liftV v a S) := lift7 hR.2.2.1.1 hR.1.2.1 (fun i hi => (hR.2.2.2.2.1 i hi).1) a
theorem endsBar7 {b : Nat} (hR : RS σ b v k S W B P N) (a : Int32) : f_X6_endsOn (b + 1) a σ = some (endsV v a W) := ends7 hR.2.2.1.2.1 hR.1.2.2.2.1 (fun e he => ⟨(hR.2.2.2.1 e he).1, by
  obtain ⟨s, h1, h2⟩ := (hR.2.2.2.1 e he).2.2.1
  exact ⟨s, by have := hR.1.2.1; omega, h2⟩⟩) a
theorem yarn7 {b : Nat} (hR : RS σ b v k S W B P N) (a : Int32) : f_X6_yarnOfWholePick (b + 1) a σ = some (nI (wholeV (endsV v (liftV v a S) W) W)) := by
  rw [f_X6_yarnOfWholePick, liftBar7 hR, bi_some, endsBar7 hR, bi_some, all7 hR.2.2.1.2.1 hR.1.2.2.2.1, bi_some, vl_eq, bitCount_spec, bi_some, show σ (b + 1) 1 = nI W from hR.2.2.1.2.1, nI_add, bar7 hR.1.2.2.1 hR.1.2.2.2.1]
end RB
