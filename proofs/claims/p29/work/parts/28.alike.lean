/-! part 28: rows that are alike, repeats, different rows -/
theorem lp_s {α β : Type _} (f : α → Option (α ⊕ β)) (G : Nat) (x : α) : lp f (G + 1) x = bi (f x) (lk (lp f G)) := rfl
theorem lkl {α β : Type _} (g : α → Option β) (x : α) : bi (some (Sum.inl x : α ⊕ β)) (lk g) = g x := rfl
theorem lkr {α β : Type _} (g : α → Option β) (y : β) : bi (some (Sum.inr y : α ⊕ β)) (lk g) = some y := rfl
def aV (v : Nat → Int32) (r q : Nat) : Int32 := if v (136 + 5 * r) = v (136 + 5 * q) then (if v (138 + 5 * r) = v (138 + 5 * q) then (if v (139 + 5 * r) = v (139 + 5 * q) then 1 else 0) else 0) else 0
section AL
variable {σ τ : Nat → Nat → Int32} {v : Nat → Int32} {k S W B P N : Nat}
theorem miss_inj {x y a : Int32} (hx : sbs x a) (hy : sbs y a) : a &&& (x ^^^ (-1)) = a &&& (y ^^^ (-1)) ↔ x = y := by
  constructor
  · intro h
    apply b_ext
    intro i hi
    have g := congrArg (fun x => bt x i) h
    simp only [b_and, b_not _ hi] at g
    have g1 := hx i hi
    have g2 := hy i hi
    cases p : bt x i <;> cases q : bt y i
    · rfl
    · rw [p, q, g2 q] at g; exact absurd g (by decide)
    · rw [p, q, g1 p] at g; exact absurd g (by decide)
    · rfl
  · intro h; rw [h]
theorem like7 {r q : Nat} (hR : RS σ 1 v k S W B P N) (hr : r < N) (hq : q < N) : f_X2_areAlike 16 (nI r) (nI q) σ = some (aV v r q) := by
  have hN := hR.1.2.2.2.2.2.2
  obtain ⟨r1, -, r3, r4, -, -, -, -, r7, -⟩ := hR.2.2.2.2.2.2.2 r hr
  obtain ⟨s1, -, s3, s4, -, -, -, -, s7, -⟩ := hR.2.2.2.2.2.2.2 q hq
  rw [f_X2_areAlike, num_at (by omega) (by decide), num_at (by omega) (by decide), num_at (by omega) (by decide), num_at (by omega) (by decide), num_at (by omega) (by decide), num_at (by omega) (by decide), bi_some, bi_some, bi_some, bi_some, bi_some, bi_some, show σ (16 + 1 + 1) r = _ from r1, show σ (16 + 1 + 1) q = _ from s1, show σ (16 + 7 + 1) r = _ from r3, show σ (16 + 7 + 1) q = _ from s3, show σ (16 + 9 + 1) r = _ from r4, show σ (16 + 9 + 1) q = _ from s4]
  have hm := miss_inj r7 s7
  unfold aV
  by_cases e1 : v (136 + 5 * r) = v (136 + 5 * q)
  · rw [if_pos e1, if_pos e1]
    by_cases e2 : v (138 + 5 * r) = v (138 + 5 * q)
    · rw [if_pos e2, if_pos e2]
      by_cases e3 : v (139 + 5 * r) = v (139 + 5 * q)
      · rw [if_pos (hm.mpr e3), if_pos e3]
      · rw [if_neg (fun z => e3 (hm.mp z)), if_neg e3]
    · rw [if_neg e2, if_neg e2]
  · rw [if_neg e1, if_neg e1]
/-- is there one alike among m rows from j on -/
def exV (v : Nat → Int32) (i : Nat) : Nat → Nat → Bool
  | _, 0 => false
  | j, m + 1 => if aV v i j = 0 then exV v i (j + 1) m else true
theorem has7 (hR : RS σ 1 v k S W B P N) {i : Nat} (hi : i < N) : ∀ m j, j + m = i → ∀ F, m < F → lp (b_X2_hasAlikeBefore_2 16 (nI i) σ) F (nI j) = some (if exV v i j m = true then .inl 1 else .inr ()) := by
  have hN := hR.1.2.2.2.2.2.2
  intro m
  induction m with
  | zero =>
    intro j hj F hF
    obtain ⟨G, rfl⟩ : ∃ G, F = G + 1 := ⟨F - 1, by omega⟩
    have : j = i := by omega
    subst this
    rw [lp_s, b_X2_hasAlikeBefore_2, if_pos (nI_le (Nat.le_refl _) (by omega)), lkr]
    rfl
  | succ m ih =>
    intro j hj F hF
    obtain ⟨G, rfl⟩ : ∃ G, F = G + 1 := ⟨F - 1, by omega⟩
    have e := ih (j + 1) (by omega) G (by omega)
    rw [lp_s, b_X2_hasAlikeBefore_2, if_neg (nI_ge (by omega) (by omega)), like7 hR hi (by omega), bi_some, exV]
    by_cases q : aV v i j = 0
    · rw [if_pos q, if_pos q, vl_eq, nI_1, lkl, e]
    · rw [if_neg q, if_neg q, lkr]
      rfl
end AL
