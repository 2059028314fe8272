/-! part 22: counts of bits, in both ways -/
def pc (x : Int32) : Nat := fb_ct (bt x) 32
theorem nI_and {a b : Nat} : nI a &&& nI b = nI (a &&& b) := by
  apply b_ext
  intro i hi
  rw [b_and, b_nI hi, b_nI hi, b_nI hi, Nat.testBit_and]
theorem nI_usr {n k : Nat} (hn : n < 2 ^ 32) (hk : k < 32) : usr (nI n) (nI k) = nI (n / 2 ^ k) := by
  apply b_ext
  intro i hi
  unfold usr
  rw [b_ushr k hk, b_nI hi, Nat.testBit_div_two_pow]
  by_cases h : k + i < 32
  · rw [b_nI h, Nat.add_comm]
  · rw [b_big (by omega)]
    exact (Nat.testBit_lt_two_pow (Nat.lt_of_lt_of_le hn (Nat.pow_le_pow_right (by decide) (by omega)))).symm
theorem spl {a m c K : Nat} (ha : a < 256) (hc : c < 256) : (a + 256 * m) &&& (c + 256 * K) = (a &&& c) + 256 * (m &&& K) := by
  have hac : a &&& c < 2 ^ 8 := Nat.lt_of_le_of_lt Nat.and_le_left ha
  apply Nat.eq_of_testBit_eq
  intro i
  rw [Nat.testBit_and, Nat.add_comm a, Nat.add_comm c, Nat.add_comm (a &&& c), show (256 : Nat) = 2 ^ 8 from rfl, Nat.testBit_two_pow_mul_add _ ha, Nat.testBit_two_pow_mul_add _ hc, Nat.testBit_two_pow_mul_add _ hac]
  by_cases h : i < 8
  · rw [if_pos h, if_pos h, if_pos h, Nat.testBit_and]
  · rw [if_neg h, if_neg h, if_neg h, Nat.testBit_and]
theorem m1a : ∀ a, a < 256 → ∀ b, b < 2 → (a / 2 + 128 * b) &&& 85 = a / 2 &&& 85 := by decide +kernel
theorem m2a : ∀ a, a < 256 → ∀ b, b < 4 → (a / 4 + 64 * b) &&& 51 = a / 4 &&& 51 := by decide +kernel
theorem m3a : ∀ a, a < 69 → ∀ b, b < 16 → (a + a / 16 + 16 * b) &&& 15 = (a + a / 16) &&& 15 := by decide +kernel
def g1 (a : Nat) : Nat := a - (a / 2 &&& 85)
def g2 (a : Nat) : Nat := (g1 a &&& 51) + (g1 a / 4 &&& 51)
def g3 (a : Nat) : Nat := (g2 a + g2 a / 16) &&& 15
theorem g1b : ∀ a, a < 256 → (a / 2 &&& 85) ≤ a ∧ g1 a < 256 := by decide +kernel
theorem g2b : ∀ a, a < 256 → g2 a < 69 ∧ g2 a % 16 ≤ 4 := by decide +kernel
theorem g3b : ∀ a, a < 256 → g3 a ≤ 8 ∧ g3 a = fb_ct (fun i => a.testBit i) 8 := by decide +kernel
theorem s1 {a m K : Nat} (ha : a < 256) : (a + 256 * m) / 2 &&& (85 + 256 * K) = (a / 2 &&& 85) + 256 * (m / 2 &&& K) := by
  rw [show (a + 256 * m) / 2 = (a / 2 + 128 * (m % 2)) + 256 * (m / 2) by omega, spl (by omega) (by decide), m1a a ha _ (by omega)]
theorem s2 {a m K : Nat} (ha : a < 256) : (a + 256 * m) / 4 &&& (51 + 256 * K) = (a / 4 &&& 51) + 256 * (m / 4 &&& K) := by
  rw [show (a + 256 * m) / 4 = (a / 4 + 64 * (m % 4)) + 256 * (m / 4) by omega, spl (by omega) (by decide), m2a a ha _ (by omega)]
theorem s3 {a m K : Nat} (ha : a < 69) (hm : m % 16 ≤ 4) : ((a + 256 * m) + (a + 256 * m) / 16) &&& (15 + 256 * K) = ((a + a / 16) &&& 15) + 256 * ((m + m / 16) &&& K) := by
  rw [show (a + 256 * m) + (a + 256 * m) / 16 = (a + a / 16 + 16 * (m % 16)) + 256 * (m + m / 16) by omega, spl (by omega) (by decide), m3a a ha _ (by omega)]
theorem four (n : Nat) (h : n < 2 ^ 32) : ∃ a b c d, a < 256 ∧ b < 256 ∧ c < 256 ∧ d < 256 ∧ n = a + 256 * (b + 256 * (c + 256 * d)) := ⟨n % 256, n / 256 % 256, n / 65536 % 256, n / 16777216, by omega, by omega, by omega, by omega, by omega⟩
theorem tb0 {a m i : Nat} (ha : a < 256) (hi : i < 8) : (a + 256 * m).testBit i = a.testBit i := by
  rw [Nat.add_comm, show (256 : Nat) = 2 ^ 8 from rfl, Nat.testBit_two_pow_mul_add _ ha, if_pos hi]
theorem tb1 {a m i : Nat} (ha : a < 256) : (a + 256 * m).testBit (8 + i) = m.testBit i := by
  rw [Nat.add_comm, show (256 : Nat) = 2 ^ 8 from rfl, Nat.testBit_two_pow_mul_add _ ha, if_neg (by omega), show 8 + i - 8 = i by omega]
theorem pc_nI {a b c d : Nat} (ha : a < 256) (hb : b < 256) (hc : c < 256) (hd : d < 256) : pc (nI (a + 256 * (b + 256 * (c + 256 * d)))) = g3 a + (g3 b + (g3 c + g3 d)) := by
  have e : ∀ n, fb_ct (bt (nI n)) 32 = fb_ct (fun i => n.testBit i) (8 + (8 + (8 + 8))) := fun n => fb_ct_cong (fun k hk => b_nI hk)
  unfold pc
  rw [e, fb_ct_split, fb_ct_split, fb_ct_split, (g3b a ha).2, (g3b b hb).2, (g3b c hc).2, (g3b d hd).2]
  rw [fb_ct_cong (p := fun i => (a + 256 * (b + 256 * (c + 256 * d))).testBit i) (fun k hk => tb0 ha hk)]
  rw [fb_ct_cong (n := 8) (p := fun k => (a + 256 * (b + 256 * (c + 256 * d))).testBit (8 + k)) (q := fun k => b.testBit k) (fun k hk => by rw [tb1 ha, tb0 hb hk])]
  rw [fb_ct_cong (n := 8) (p := fun k => (a + 256 * (b + 256 * (c + 256 * d))).testBit (8 + (8 + k))) (q := fun k => c.testBit k) (fun k hk => by rw [tb1 ha, tb1 hb, tb0 hc hk])]
  rw [fb_ct_cong (n := 8) (p := fun k => (a + 256 * (b + 256 * (c + 256 * d))).testBit (8 + (8 + (8 + k)))) (q := fun k => d.testBit k) (fun k hk => by rw [tb1 ha, tb1 hb, tb1 hc])]
theorem swar {a b c d : Nat} (ha : a < 256) (hb : b < 256) (hc : c < 256) (hd : d < 256) (σ : Nat → Nat → Int32) : f_J6_bitCount (nI (a + 256 * (b + 256 * (c + 256 * d)))) σ = some (nI (g3 a + (g3 b + (g3 c + g3 d)))) := by
  have e1 : (a + 256 * (b + 256 * (c + 256 * d))) / 2 &&& 1431655765 = (a / 2 &&& 85) + 256 * ((b / 2 &&& 85) + 256 * ((c / 2 &&& 85) + 256 * (d / 2 &&& 85))) := by
    rw [show (1431655765 : Nat) = 85 + 256 * (85 + 256 * (85 + 256 * 85)) from rfl, s1 ha, s1 hb, s1 hc]
  obtain ⟨la, ua⟩ := g1b a ha
  obtain ⟨lb, ub⟩ := g1b b hb
  obtain ⟨lc, uc⟩ := g1b c hc
  obtain ⟨ld, ud⟩ := g1b d hd
  have e2 : a + 256 * (b + 256 * (c + 256 * d)) - ((a / 2 &&& 85) + 256 * ((b / 2 &&& 85) + 256 * ((c / 2 &&& 85) + 256 * (d / 2 &&& 85)))) = g1 a + 256 * (g1 b + 256 * (g1 c + 256 * g1 d)) := by
    unfold g1
    omega
  have e3 : ((g1 a + 256 * (g1 b + 256 * (g1 c + 256 * g1 d))) &&& 858993459) + ((g1 a + 256 * (g1 b + 256 * (g1 c + 256 * g1 d))) / 4 &&& 858993459) = g2 a + 256 * (g2 b + 256 * (g2 c + 256 * g2 d)) := by
    rw [show (858993459 : Nat) = 51 + 256 * (51 + 256 * (51 + 256 * 51)) from rfl, s2 ua, s2 ub, s2 uc, spl ua (by decide), spl ub (by decide), spl uc (by decide)]
    unfold g2
    omega
  obtain ⟨va, ka⟩ := g2b a ha
  obtain ⟨vb, kb⟩ := g2b b hb
  obtain ⟨vc, kc⟩ := g2b c hc
  obtain ⟨vd, kd⟩ := g2b d hd
  have e4 : ((g2 a + 256 * (g2 b + 256 * (g2 c + 256 * g2 d))) + (g2 a + 256 * (g2 b + 256 * (g2 c + 256 * g2 d))) / 16) &&& 252645135 = g3 a + 256 * (g3 b + 256 * (g3 c + 256 * g3 d)) := by
    rw [show (252645135 : Nat) = 15 + 256 * (15 + 256 * (15 + 256 * 15)) from rfl, s3 va (by omega), s3 vb (by omega), s3 vc kd]
    rfl
  have wa := (g3b a ha).1
  have wb := (g3b b hb).1
  have wc := (g3b c hc).1
  have wd := (g3b d hd).1
  have h1 : usr (nI (a + 256 * (b + 256 * (c + 256 * d)))) 1 = nI ((a + 256 * (b + 256 * (c + 256 * d))) / 2) := nI_usr (k := 1) (by omega) (by decide)
  have h2 : usr (nI (g1 a + 256 * (g1 b + 256 * (g1 c + 256 * g1 d)))) 2 = nI ((g1 a + 256 * (g1 b + 256 * (g1 c + 256 * g1 d))) / 4) := nI_usr (k := 2) (by omega) (by decide)
  have h3 : usr (nI (g2 a + 256 * (g2 b + 256 * (g2 c + 256 * g2 d)))) 4 = nI ((g2 a + 256 * (g2 b + 256 * (g2 c + 256 * g2 d))) / 16) := nI_usr (k := 4) (by omega) (by decide)
  rw [f_J6_bitCount, h1, show (1431655765 : Int32) = nI 1431655765 from rfl, nI_and, e1, nI_sub (by omega), e2, vl_eq, h2, show (858993459 : Int32) = nI 858993459 from rfl, nI_and, nI_and, nI_add, e3, vl_eq, h3, nI_add, show (252645135 : Int32) = nI 252645135 from rfl, nI_and, e4, vl_eq]
  generalize g3 a = A at *
  generalize g3 b = B at *
  generalize g3 c = C at *
  generalize g3 d = D at *
  have h4 : usr (nI (A + 256 * (B + 256 * (C + 256 * D)))) 8 = nI (B + 256 * (C + 256 * D)) := (nI_usr (k := 8) (by omega) (by decide)).trans (congrArg nI (by omega))
  have h5 : usr (nI (A + 256 * (B + 256 * (C + 256 * D)) + (B + 256 * (C + 256 * D)))) 16 = nI (C + D + 256 * D) := (nI_usr (k := 16) (by omega) (by decide)).trans (congrArg nI (by omega))
  rw [h4, nI_add, vl_eq, h5, nI_add, vl_eq, show (63 : Int32) = nI (2 ^ 6 - 1) from rfl, nI_and, Nat.and_two_pow_sub_one_eq_mod]
  refine congrArg (fun n => some (nI n)) ?_
  omega
theorem x_nI (x : Int32) : ∃ n, n < 2 ^ 32 ∧ x = nI n := ⟨x.toBitVec.toNat, x.toBitVec.isLt, Int32.toBitVec_inj.mp (by
  show x.toBitVec = BitVec.ofNat 32 x.toBitVec.toNat
  rw [BitVec.ofNat_toNat, BitVec.setWidth_eq])⟩
theorem bitCount_spec (x : Int32) (σ : Nat → Nat → Int32) : f_J6_bitCount x σ = some (nI (pc x)) := by
  obtain ⟨n, hn, rfl⟩ := x_nI x
  obtain ⟨a, b, c, d, ha, hb, hc, hd, rfl⟩ := four n hn
  rw [swar ha hb hc hd, pc_nI ha hb hc hd]
theorem pc_le (x : Int32) : pc x ≤ 32 := fb_ct_le _ _
theorem pc_0 {x : Int32} : pc x = 0 ↔ x = 0 := by
  unfold pc
  rw [fb_ct_zero]
  constructor
  · intro h
    apply b_ext
    intro i hi
    rw [h i hi, b_0]
  · rintro rfl k _
    exact b_0 k
theorem low : ∀ n : Nat, 0 < n → ∃ j q, n = 2 ^ (j + 1) * q + 2 ^ j := by
  intro n
  induction n using Nat.strongRecOn with
  | ind n ih =>
    intro h
    by_cases e : n % 2 = 1
    · exact ⟨0, n / 2, by omega⟩
    · obtain ⟨j, q, hq⟩ := ih (n / 2) (by omega) (by omega)
      refine ⟨j + 1, q, ?_⟩
      have e2 : n = 2 * (n / 2) := by omega
      rw [e2, hq, Nat.mul_add, ← Nat.mul_assoc, ← Nat.pow_succ', ← Nat.pow_succ']
theorem kern {x : Int32} (h : ¬ x = 0) : pc (x &&& (x - 1)) + 1 = pc x := by
  obtain ⟨n, hn, rfl⟩ := x_nI x
  have hp : 0 < n := Nat.pos_of_ne_zero (fun q => h (by rw [q]; rfl))
  obtain ⟨j, q, hq⟩ := low n hp
  have hj : 2 ^ j < 2 ^ (j + 1) := Nat.pow_lt_pow_right (by decide) (by omega)
  have h0 : 0 < 2 ^ j := Nat.two_pow_pos j
  have hj2 : j < 32 := by
    refine Classical.byContradiction fun c => ?_
    have := Nat.pow_le_pow_right (show 0 < 2 by decide) (show 32 ≤ j by omega)
    omega
  have e1 : nI n - 1 = nI (2 ^ (j + 1) * q + (2 ^ j - 1)) := by
    rw [show nI n - 1 = nI (n - 1) from nI_sub (b := 1) hp]
    congr 1; omega
  have b1 : ∀ i, n.testBit i = if i < j + 1 then decide (j = i) else q.testBit (i - (j + 1)) := fun i => by
    rw [hq, Nat.testBit_two_pow_mul_add _ hj, Nat.testBit_two_pow]
  have b2 : ∀ i, (2 ^ (j + 1) * q + (2 ^ j - 1)).testBit i = if i < j + 1 then decide (i < j) else q.testBit (i - (j + 1)) := fun i => by
    rw [Nat.testBit_two_pow_mul_add _ (by omega), Nat.testBit_two_pow_sub_one]
  have hb : ∀ i, i < 32 → bt (nI n &&& (nI n - 1)) i = if i = j then false else bt (nI n) i := fun i hi => by
    rw [b_and, e1, b_nI hi, b_nI hi, b1, b2]
    by_cases q1 : i = j
    · subst q1; rw [if_pos rfl, if_pos (by omega), if_pos (by omega), decide_eq_false (Nat.lt_irrefl i), Bool.and_false]
    · rw [if_neg q1]
      by_cases q2 : i < j + 1
      · rw [if_pos q2, if_pos q2, decide_eq_false (show ¬ j = i by omega), Bool.false_and]
      · rw [if_neg q2, if_neg q2, Bool.and_self]
  have := fb_ct_upd (bt (nI n)) false hj2
  unfold pc
  rw [fb_ct_cong hb]
  rw [show bt (nI n) j = true by rw [b_nI hj2, b1, if_pos (by omega), decide_eq_true rfl]] at this
  simpa using this
