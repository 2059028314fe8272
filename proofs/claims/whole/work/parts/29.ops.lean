/-! part 29 (DRAFT): what the law needs of the two programs -/
def Rel : Nat → (Nat → Nat → Int32) → Prop := sorry
theorem Rel_step {k : Nat} {σ : Nat → Nat → Int32} (h : Rel k σ) : Rel (k + 1) σ := sorry
theorem op_0 (k : Nat) (σ : Nat → Nat → Int32) (a1 a2 : Int32) (h : Rel k σ) (hk : k < 512) : ∃ r σ1 σ2, f_X7_setLoom a1 a2 σ = some (r, σ1) ∧ f_X8_setLoom a1 a2 σ1 = some (r, σ2) ∧ Rel (k + 1) σ2 := sorry
theorem op_1 (k : Nat) (σ : Nat → Nat → Int32) (a1 a2 a3 : Int32) (h : Rel k σ) (hk : k < 512) : ∃ r σ1 σ2, f_X7_setEnd a1 a2 a3 σ = some (r, σ1) ∧ f_X8_setEnd a1 a2 a3 σ1 = some (r, σ2) ∧ Rel (k + 1) σ2 := sorry
theorem op_2 (k : Nat) (σ : Nat → Nat → Int32) (a1 a2 : Int32) (h : Rel k σ) (hk : k < 512) : ∃ r σ1 σ2, f_X7_setFault a1 a2 σ = some (r, σ1) ∧ f_X8_setFault a1 a2 σ1 = some (r, σ2) ∧ Rel (k + 1) σ2 := sorry
theorem op_3 (k : Nat) (σ : Nat → Nat → Int32) (a1 a2 : Int32) (h : Rel k σ) (hk : k < 512) : ∃ r σ1 σ2, f_X7_addBar a1 a2 σ = some (r, σ1) ∧ f_X8_addBar a1 a2 σ1 = some (r, σ2) ∧ Rel (k + 1) σ2 := sorry
theorem op_4 (k : Nat) (σ : Nat → Nat → Int32) (a1 a2 a3 : Int32) (h : Rel k σ) (hk : k < 512) : ∃ r σ1 σ2, f_X7_setBar a1 a2 a3 σ = some (r, σ1) ∧ f_X8_setBar a1 a2 a3 σ1 = some (r, σ2) ∧ Rel (k + 1) σ2 := sorry
theorem op_5 (k : Nat) (σ : Nat → Nat → Int32) (a1 : Int32) (h : Rel k σ) (hk : k < 512) : ∃ r σ1 σ2, f_X7_setDirection a1 σ = some (r, σ1) ∧ f_X8_setDirection a1 σ1 = some (r, σ2) ∧ Rel (k + 1) σ2 := sorry
theorem op_6 (k : Nat) (σ : Nat → Nat → Int32) (a1 : Int32) (h : Rel k σ) (hk : k < 512) : ∃ r σ1 σ2, f_X7_turnTo a1 σ = some (r, σ1) ∧ f_X8_turnTo a1 σ1 = some (r, σ2) ∧ Rel (k + 1) σ2 := sorry
theorem op_7 (k : Nat) (σ : Nat → Nat → Int32) (a1 a2 : Int32) (h : Rel k σ) (hk : k < 512) : ∃ r σ1 σ2, f_X7_wind a1 a2 σ = some (r, σ1) ∧ f_X8_wind a1 a2 σ1 = some (r, σ2) ∧ Rel (k + 1) σ2 := sorry
theorem op_8 (k : Nat) (σ : Nat → Nat → Int32) (a1 : Int32) (h : Rel k σ) (hk : k < 512) : ∃ r σ1 σ2, f_X7_append a1 σ = some (r, σ1) ∧ f_X8_append a1 σ1 = some (r, σ2) ∧ Rel (k + 1) σ2 := sorry
theorem op_9 (k : Nat) (σ : Nat → Nat → Int32) (h : Rel k σ) (hk : k < 512) : ∃ r σ1 σ2, f_X7_clearText  σ = some (r, σ1) ∧ f_X8_clearText  σ1 = some (r, σ2) ∧ Rel (k + 1) σ2 := sorry
theorem op_10 (k : Nat) (σ : Nat → Nat → Int32) (h : Rel k σ) (hk : k < 512) : ∃ r σ1 σ2, f_X7_load  σ = some (r, σ1) ∧ f_X8_load  σ1 = some (r, σ2) ∧ Rel (k + 1) σ2 := sorry
theorem op_11 (k : Nat) (σ : Nat → Nat → Int32) (a1 : Int32) (h : Rel k σ) (hk : k < 512) : ∃ r σ1 σ2, f_X7_weave a1 σ = some (r, σ1) ∧ f_X8_weave a1 σ1 = some (r, σ2) ∧ Rel (k + 1) σ2 := sorry
theorem op_12 (k : Nat) (σ : Nat → Nat → Int32) (a1 : Int32) (h : Rel k σ) (hk : k < 512) : ∃ r σ1 σ2, f_X7_takeOut a1 σ = some (r, σ1) ∧ f_X8_takeOut a1 σ1 = some (r, σ2) ∧ Rel (k + 1) σ2 := sorry
theorem op_13 (k : Nat) (σ : Nat → Nat → Int32) (h : Rel k σ) (hk : k < 512) : ∃ r σ1 σ2, f_X7_cutOff  σ = some (r, σ1) ∧ f_X8_cutOff  σ1 = some (r, σ2) ∧ Rel (k + 1) σ2 := sorry
theorem op_14 (k : Nat) (σ : Nat → Nat → Int32) (h : Rel k σ) (hk : k < 512) : ∃ r σ1 σ2, f_X7_undo  σ = some (r, σ1) ∧ f_X8_undo  σ1 = some (r, σ2) ∧ Rel (k + 1) σ2 := sorry
theorem op_15 (k : Nat) (σ : Nat → Nat → Int32) (a1 : Int32) (h : Rel k σ) (hk : k < 512) : ∃ r σ2, f_X7_count a1 σ = some r ∧ f_X8_count a1 σ = some (r, σ2) ∧ Rel (k + 1) σ2 := sorry
theorem op_16 (k : Nat) (σ : Nat → Nat → Int32) (a1 a2 : Int32) (h : Rel k σ) (hk : k < 512) : ∃ r σ2, f_X7_end a1 a2 σ = some r ∧ f_X8_end a1 a2 σ = some (r, σ2) ∧ Rel (k + 1) σ2 := sorry
theorem op_17 (k : Nat) (σ : Nat → Nat → Int32) (a1 a2 : Int32) (h : Rel k σ) (hk : k < 512) : ∃ r σ2, f_X7_bar a1 a2 σ = some r ∧ f_X8_bar a1 a2 σ = some (r, σ2) ∧ Rel (k + 1) σ2 := sorry
theorem op_18 (k : Nat) (σ : Nat → Nat → Int32) (a1 : Int32) (h : Rel k σ) (hk : k < 512) : ∃ r σ2, f_X7_yarn a1 σ = some r ∧ f_X8_yarn a1 σ = some (r, σ2) ∧ Rel (k + 1) σ2 := sorry
theorem op_19 (k : Nat) (σ : Nat → Nat → Int32) (a1 a2 : Int32) (h : Rel k σ) (hk : k < 512) : ∃ r σ2, f_X7_row a1 a2 σ = some r ∧ f_X8_row a1 a2 σ = some (r, σ2) ∧ Rel (k + 1) σ2 := sorry
theorem op_20 (k : Nat) (σ : Nat → Nat → Int32) (a1 a2 a3 : Int32) (h : Rel k σ) (hk : k < 512) : ∃ r σ2, f_X7_cell a1 a2 a3 σ = some r ∧ f_X8_cell a1 a2 a3 σ = some (r, σ2) ∧ Rel (k + 1) σ2 := sorry
theorem op_21 (k : Nat) (σ : Nat → Nat → Int32) (a1 a2 : Int32) (h : Rel k σ) (hk : k < 512) : ∃ r σ2, f_X7_floats a1 a2 σ = some r ∧ f_X8_floats a1 a2 σ = some (r, σ2) ∧ Rel (k + 1) σ2 := sorry
theorem op_22 (k : Nat) (σ : Nat → Nat → Int32) (h : Rel k σ) (hk : k < 512) : ∃ r σ2, f_X7_repeat  σ = some r ∧ f_X8_repeat  σ = some (r, σ2) ∧ Rel (k + 1) σ2 := sorry
theorem op_23 (k : Nat) (σ : Nat → Nat → Int32) (h : Rel k σ) (hk : k < 512) : ∃ r σ2, f_X7_differentRows  σ = some r ∧ f_X8_differentRows  σ = some (r, σ2) ∧ Rel (k + 1) σ2 := sorry
theorem op_24 (k : Nat) (σ : Nat → Nat → Int32) (h : Rel k σ) (hk : k < 512) : ∃ r σ1 σ2, f_X7_picksLeft  σ = some (r, σ1) ∧ f_X8_picksLeft  σ1 = some (r, σ2) ∧ Rel (k + 1) σ2 := sorry
theorem op_25 (k : Nat) (σ : Nat → Nat → Int32) (a1 a2 : Int32) (h : Rel k σ) (hk : k < 512) : ∃ r σ1 σ2, f_X7_yarnFor a1 a2 σ = some (r, σ1) ∧ f_X8_yarnFor a1 a2 σ1 = some (r, σ2) ∧ Rel (k + 1) σ2 := sorry
theorem init_Rel : ∃ s0 s1 s2 s3 s4 s5 m0 : Nat → Nat → Int32, f_X5_reset 1 4 8 (fun _ _ => 0) = some s0 ∧ zx s0 29 = s0 ∧ f_X5_reset 31 4 8 s0 = some s1 ∧ zx s1 59 = s1 ∧ f_X5_reset 59 4 8 s1 = some s2 ∧ zx s2 87 = s2 ∧ f_X5_reset 87 4 8 s2 = some s3 ∧ zx s3 115 = s3 ∧ f_X5_reset 115 4 8 s3 = some s4 ∧ zx s4 143 = s4 ∧ f_X5_reset 143 4 8 s4 = some s5 ∧ zx s5 171 = s5 ∧ f_X8_begin 4 8 (wr s5 183 0 0) = some m0 ∧ Rel 0 m0 := sorry
