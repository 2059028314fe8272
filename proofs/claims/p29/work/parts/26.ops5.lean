/-! part 26: rows, ends, cells, floats -/
def sideV (v : Nat → Int32) (r e : Nat) : Nat := if bt (v (139 + 5 * r)) e = true then (if bt (v (138 + 5 * r)) e = true then 1 else 0) else 2
theorem sideV_le (v : Nat → Int32) (r e : Nat) : sideV v r e ≤ 2 := by
  unfold sideV
  split
  · split <;> omega
  · omega
section SD
variable {σ τ : Nat → Nat → Int32} {v : Nat → Int32} {k S W B P N : Nat}
theorem b_miss {r e : Nat} (hR : RS σ 1 v k S W B P N) (he : e < W) : bt (aE W &&& (v (139 + 5 * r) ^^^ (-1))) e = !bt (v (139 + 5 * r)) e := by
  have hW := hR.1.2.2.2.1
  rw [b_and, b_not _ (by omega), b_aE W hW e (by omega), decide_eq_true he, Bool.true_and]
theorem side7 {r e : Nat} (hR : RS σ 1 v k S W B P N) (hr : r < N) (he : e < W) : f_X2_sideAt 16 (nI r) (nI e) σ = some (clS (sideV v r e)) := by
  have hN := hR.1.2.2.2.2.2.2
  have hW := hR.1.2.2.2.1
  obtain ⟨-, -, h1, h2, -⟩ := hR.2.2.2.2.2.2.2 r hr
  rw [f_X2_sideAt, num_at (by omega) (by decide), bi_some, show σ (16 + 9 + 1) r = _ from h2, bitOf_spec (by omega), bi_some, num_at (by omega) (by decide), bi_some, show σ (16 + 7 + 1) r = _ from h1, bitOf_spec (by omega), b_miss hR he]
  unfold sideV
  cases bt (v (139 + 5 * r)) e <;> cases bt (v (138 + 5 * r)) e <;> rfl
/-- a line: direction 0 along an end, 1 along a row -/
def lineV (v : Nat → Int32) (d n x : Nat) (i : Nat) : Nat := if n ≤ i then 2 else if d = 0 then sideV v i x else sideV v x i
theorem lineV_le (v : Nat → Int32) (d n x i : Nat) : lineV v d n x i ≤ 2 := by
  unfold lineV
  split
  · omega
  · split <;> exact sideV_le _ _ _
theorem along7 {d x i : Nat} (hR : RS σ 1 v k S W B P N) (hd : d < 2) (hx : x < (if d = 0 then W else N)) (hi : i < (if d = 0 then N else W)) : f_X2_sideAlong 16 (nI d) (nI x) (nI i) σ = some (clS (lineV v d (if d = 0 then N else W) x i)) := by
  have hN := hR.1.2.2.2.2.2.2
  have hW := hR.1.2.2.2.1
  rw [f_X2_sideAlong]
  unfold lineV
  rw [if_neg (Nat.not_le.mpr hi)]
  by_cases e : d = 0
  · subst e
    rw [if_pos rfl] at hx hi
    rw [if_pos (by decide), if_pos rfl, side7 hR hi hx, bi_some]
  · rw [if_neg e] at hx hi
    rw [if_neg (show ¬ nI d = 0 from fun q => e (nI_inj (b := 0) (by omega) (by decide) q)), if_neg e, side7 hR hx hi, bi_some]
theorem pc_all {W : Nat} (hW : W ≤ 32) : pc (aE W) = W := by
  unfold pc
  rw [fb_ct_cong (fun i hi => b_aE W hW i hi), fb_ct_cut (m := W) hW (fun i h _ => decide_eq_false (by omega))]
  exact fb_ct_all.mpr (fun i hi => decide_eq_true hi)
theorem pc_miss {x : Int32} {W : Nat} (hW : W ≤ 32) (h : sbs x (aE W)) : pc x + pc (aE W &&& (x ^^^ (-1))) = W := by
  have e := fb_ct_or (p := bt x) (q := bt (aE W &&& (x ^^^ (-1)))) (n := 32) (fun i hi q => by
    rw [b_and, b_not _ hi, q.1] at q
    have := q.2
    simp at this)
  have e2 : fb_ct (fun i => bt x i || bt (aE W &&& (x ^^^ (-1))) i) 32 = pc (aE W) := fb_ct_cong (fun i hi => by
    rw [b_and, b_not _ hi]
    have := h i hi
    cases q : bt x i
    · simp
    · rw [this q]; rfl)
  rw [e2, pc_all hW] at e
  unfold pc
  exact e.symm
end SD
