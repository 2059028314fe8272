/-! 07.reader: mirrored programs and contracts (written by wip/p29/gen.py) -/
def b_X1_placeBehindSpaces_2 (σ : Nat → Nat → Int32) : Int32 → Option ((Int32) ⊕ (Int32))
  | y_1 => if (σ 171 2) ≤ y_1 then (some (.inr y_1)) else (bi (f_X4_at 172 120 y_1 σ) fun r_13 => if r_13 = 32 then (vl (y_1 + 1) fun x_14 => some (.inl x_14)) else (some (.inr y_1)))
def f_X1_placeBehindSpaces (a1 : Int32) (σ : Nat → Nat → Int32) : Option Int32 := bi (lp (b_X1_placeBehindSpaces_2 σ) FU a1) fun z_2 => some z_2
set_option maxHeartbeats 4000000 in
set_option maxRecDepth 100000 in
theorem c_X1_placeBehindSpaces (l : Launch) (D : va_G) (cI cS : ClassId) (Z : Nat) (K : Nat → Nat) (hL : ly K 171 lyReader) (a1 : Int32) (σ : Nat → Nat → Int32) (r : Int32) (hf : f_X1_placeBehindSpaces a1 σ = some r) : Met l yX1_placeBehindSpaces (wsT yX1_placeBehindSpaces cX1_placeBehindSpaces 3 (some .int)) { frames := 1, cells := 0, slots := 0, locals := 21 } (Pm D cI cS Z K [.ref (Z + 171), .int a1] σ) (Qi D cI cS Z K r σ) 0 0 (aZ Z) := by
  refine mm_met (lv := [(0, .ref (Z + 171)), (1, .int a1)]) (by decide) (Nat.le_of_ble_eq_true rfl) rfl ?_
  intro p e s m args below meth c ls hx hb hr hml hts hown hlocks hG hl hI hS
  have hown : s.vm.findClass RX1 = some m.cls := hown
  rw [f_X1_placeBehindSpaces] at hf
  refine lv_iload_n hx hb dX1_placeBehindSpaces_0 rfl (lv_at hl 1 rfl) ?_
  refine lv_istore_n (lv' := [(2, .int a1), (0, .ref (Z + 171)), (1, .int a1)]) hx hb dX1_placeBehindSpaces_1 rfl hl (by decide) rfl (fun ls hl => ?_)
  have L_4 : ∀ (nn : Nat) (y_1 : Int32) (z_2 : Int32), lp (b_X1_placeBehindSpaces_2 σ) nn y_1 = some z_2 → (∀ (H : Heap) (locs : List Loc) (ls : Array Slot), fI D cI cS Z K σ H → va_S (aZ Z) s.heap H locs → lv_has ls 3 [(2, .int z_2)] → W p l e { frames := 1, cells := 0, slots := 0, locals := 21 } s m args below meth c H locs 0 0 (MQ below (Qi D cI cS Z K r σ) args s 0 0 (aZ Z)) (F0 m 29 ls [])) → ∀ (H : Heap) (locs : List Loc) (ls : Array Slot), fI D cI cS Z K σ H → va_S (aZ Z) s.heap H locs → lv_has ls 3 [(0, .ref (Z + 171)), (2, .int y_1)] → W p l e { frames := 1, cells := 0, slots := 0, locals := 21 } s m args below meth c H locs 0 0 (MQ below (Qi D cI cS Z K r σ) args s 0 0 (aZ Z)) (F0 m 2 ls []) := by
    intro nn
    induction nn with
    | zero =>
      intro y_1 z_2 hq
      exact (lp_0 hq).elim
    | succ nn ih_5 =>
      intro y_1 z_2 hq kn_7 H locs ls hI hS hl
      obtain ⟨wb_3, hf, hk_6⟩ := lp_e hq
      rw [b_X1_placeBehindSpaces_2] at hf
      have ih_5 := fun (y_1 : Int32) q => ih_5 y_1 z_2 q kn_7
      refine lv_iload_n hx hb dX1_placeBehindSpaces_2 rfl (lv_at hl 1 rfl) ?_
      refine lv_aload_n hx hb dX1_placeBehindSpaces_3 rfl (lv_at hl 0 rfl) ?_
      refine gX1_27 hx hb hts hown hG hI hL dX1_placeBehindSpaces_4 ?_
      refine lv_icmp_ge (tgt := 29) hx hb dX1_placeBehindSpaces_7 (by decide) (fun c_16 => ?_) (fun c_16 => ?_)
      · have hf := pos_e c_16 hf
        obtain rfl := so_e hf
        obtain rfl := lk_r hk_6
        exact kn_7 _ _ _ hI hS (lv_sub hl [1] rfl)
      · have hf := neg_e c_16 hf
        refine lv_aload_n hx hb dX1_placeBehindSpaces_10 rfl (lv_at hl 0 rfl) ?_
        refine gX1_14 (o' := 172) hx hb hts hown hG hI hL rfl dX1_placeBehindSpaces_11 ?_
        refine lv_iload_n hx hb dX1_placeBehindSpaces_14 rfl (lv_at hl 1 rfl) ?_
        obtain ⟨r_13, hr_13, hf⟩ := bi_e hf
        refine kX1_105 hx hb hml hts hown hG hI hS hl.1 (ly_sub_1_text hL) (As := [.int y_1]) (c_X4_at l D cI cS Z K 172 120 (ly_sub_1_text hL) y_1 σ _ hr_13) ⟨(Nat.le_of_ble_eq_true rfl), (Nat.le_of_ble_eq_true rfl)⟩ rfl (Nat.le_of_ble_eq_true rfl) ⟨(Nat.le_of_ble_eq_true rfl), (Nat.le_of_ble_eq_true rfl)⟩ dX1_placeBehindSpaces_15 (fun H locs hI hS => ?_)
        refine lv_bipush (v := 32) hx hb dX1_placeBehindSpaces_18 (by decide) ?_
        refine lv_icmp_ne (tgt := 29) hx hb dX1_placeBehindSpaces_20 (by decide) (fun c_15 => ?_) (fun c_15 => ?_)
        · have hf := neg_e c_15 hf
          obtain rfl := so_e hf
          obtain rfl := lk_r hk_6
          exact kn_7 _ _ _ hI hS (lv_sub hl [1] rfl)
        · have hf := pos_e c_15 hf
          obtain ⟨x_14, ex_14, hf⟩ := vl_e hf
          refine lv_iinc (v := x_14) (lv' := [(2, .int x_14), (0, .ref (Z + 171))]) hx hb dX1_placeBehindSpaces_23 hl (k := 1) rfl (by rw [ex_14]; rfl) (by decide) rfl (fun ls hl => ?_)
          refine lv_goto (tgt := 2) hx hb dX1_placeBehindSpaces_26 (by decide) ?_
          obtain rfl := so_e hf
          exact ih_5 x_14 hk_6 _ _ _ hI hS (lv_sub hl [1, 0] rfl)
  obtain ⟨z_2, hy, hf⟩ := bi_e hf
  refine L_4 FU a1 _ hy ?_ _ _ _ hI hS (lv_sub hl [1, 0] rfl)
  clear L_4
  intro H locs ls hI hS hl
  refine lv_iload_n hx hb dX1_placeBehindSpaces_29 rfl (lv_at hl 0 rfl) ?_
  obtain rfl := so_e hf
  exact mm_ret hx hb hr hlocks rfl hI hS dX1_placeBehindSpaces_30
def f_X1_characterAt (a1 : Int32) (σ : Nat → Nat → Int32) : Option Int32 := if (σ 171 2) ≤ a1 then (some (-1)) else (bi (f_X4_at 172 120 a1 σ) fun r_1 => some r_1)
set_option maxHeartbeats 4000000 in
set_option maxRecDepth 100000 in
theorem c_X1_characterAt (l : Launch) (D : va_G) (cI cS : ClassId) (Z : Nat) (K : Nat → Nat) (hL : ly K 171 lyReader) (a1 : Int32) (σ : Nat → Nat → Int32) (r : Int32) (hf : f_X1_characterAt a1 σ = some r) : Met l yX1_characterAt (wsT yX1_characterAt cX1_characterAt 2 (some .int)) { frames := 1, cells := 0, slots := 0, locals := 21 } (Pm D cI cS Z K [.ref (Z + 171), .int a1] σ) (Qi D cI cS Z K r σ) 0 0 (aZ Z) := by
  refine mm_met (lv := [(0, .ref (Z + 171)), (1, .int a1)]) (by decide) (Nat.le_of_ble_eq_true rfl) rfl ?_
  intro p e s m args below meth c ls hx hb hr hml hts hown hlocks hG hl hI hS
  have hown : s.vm.findClass RX1 = some m.cls := hown
  rw [f_X1_characterAt] at hf
  refine lv_iload_n hx hb dX1_characterAt_0 rfl (lv_at hl 1 rfl) ?_
  refine lv_aload_n hx hb dX1_characterAt_1 rfl (lv_at hl 0 rfl) ?_
  refine gX1_27 hx hb hts hown hG hI hL dX1_characterAt_2 ?_
  refine lv_icmp_ge (tgt := 19) hx hb dX1_characterAt_5 (by decide) (fun c_2 => ?_) (fun c_2 => ?_)
  · have hf := pos_e c_2 hf
    refine lv_iconst (v := (-1)) hx hb dX1_characterAt_19 (by decide) ?_
    obtain rfl := so_e hf
    exact mm_ret hx hb hr hlocks rfl hI hS dX1_characterAt_20
  · have hf := neg_e c_2 hf
    refine lv_aload_n hx hb dX1_characterAt_8 rfl (lv_at hl 0 rfl) ?_
    refine gX1_14 (o' := 172) hx hb hts hown hG hI hL rfl dX1_characterAt_9 ?_
    refine lv_iload_n hx hb dX1_characterAt_12 rfl (lv_at hl 1 rfl) ?_
    obtain ⟨r_1, hr_1, hf⟩ := bi_e hf
    refine kX1_105 hx hb hml hts hown hG hI hS hl.1 (ly_sub_1_text hL) (As := [.int a1]) (c_X4_at l D cI cS Z K 172 120 (ly_sub_1_text hL) a1 σ _ hr_1) ⟨(Nat.le_of_ble_eq_true rfl), (Nat.le_of_ble_eq_true rfl)⟩ rfl (Nat.le_of_ble_eq_true rfl) ⟨(Nat.le_of_ble_eq_true rfl), (Nat.le_of_ble_eq_true rfl)⟩ dX1_characterAt_13 (fun H locs hI hS => ?_)
    refine lv_goto (tgt := 20) hx hb dX1_characterAt_16 (by decide) ?_
    obtain rfl := so_e hf
    exact mm_ret hx hb hr hlocks rfl hI hS dX1_characterAt_20
def f_X1_peek  (σ : Nat → Nat → Int32) : Option (Int32 × (Nat → Nat → Int32)) := bi (f_X1_placeBehindSpaces (σ 171 3) σ) fun r_1 => vl (wr σ 171 3 r_1) fun σ_2 => bi (f_X1_characterAt (σ_2 171 3) σ_2) fun r_3 => some (r_3, σ_2)
set_option maxHeartbeats 4000000 in
set_option maxRecDepth 100000 in
theorem c_X1_peek (l : Launch) (D : va_G) (cI cS : ClassId) (Z : Nat) (K : Nat → Nat) (hL : ly K 171 lyReader) (σ : Nat → Nat → Int32) (r : Int32) (σ' : Nat → Nat → Int32) (hf : f_X1_peek σ = some (r, σ')) : Met l yX1_peek (wsT yX1_peek cX1_peek 1 (some .int)) { frames := 2, cells := 0, slots := 0, locals := 43 } (Pm D cI cS Z K [.ref (Z + 171)] σ) (Qi D cI cS Z K r σ') 0 0 (aZ Z) := by
  refine mm_met (lv := [(0, .ref (Z + 171))]) (by decide) (Nat.le_of_ble_eq_true rfl) rfl ?_
  intro p e s m args below meth c ls hx hb hr hml hts hown hlocks hG hl hI hS
  have hown : s.vm.findClass RX1 = some m.cls := hown
  rw [f_X1_peek] at hf
  refine lv_aload_n hx hb dX1_peek_0 rfl (lv_at hl 0 rfl) ?_
  refine lv_aload_n hx hb dX1_peek_1 rfl (lv_at hl 0 rfl) ?_
  refine lv_aload_n hx hb dX1_peek_2 rfl (lv_at hl 0 rfl) ?_
  refine gX1_42 hx hb hts hown hG hI hL dX1_peek_3 ?_
  obtain ⟨r_1, hr_1, hf⟩ := bi_e hf
  refine kX1_94 hx hb hml hts hown hG hI hS hl.1 hL (As := [.int (σ 171 3)]) (c_X1_placeBehindSpaces l D cI cS Z K hL (σ 171 3) σ _ hr_1) ⟨(Nat.le_of_ble_eq_true rfl), (Nat.le_of_ble_eq_true rfl)⟩ rfl (Nat.le_of_ble_eq_true rfl) ⟨(Nat.le_of_ble_eq_true rfl), (Nat.le_of_ble_eq_true rfl)⟩ dX1_peek_6 (fun H locs hI hS => ?_)
  obtain ⟨σ_2, eσ_2, hf⟩ := vl_e hf
  refine pX1_42 hx hb hts hown hG hI hS hL dX1_peek_9 (fun H locs hI hS => ?_)
  rw [← eσ_2] at hI
  refine lv_aload_n hx hb dX1_peek_12 rfl (lv_at hl 0 rfl) ?_
  refine lv_aload_n hx hb dX1_peek_13 rfl (lv_at hl 0 rfl) ?_
  refine gX1_42 hx hb hts hown hG hI hL dX1_peek_14 ?_
  obtain ⟨r_3, hr_3, hf⟩ := bi_e hf
  refine kX1_98 hx hb hml hts hown hG hI hS hl.1 hL (As := [.int (σ_2 171 3)]) (c_X1_characterAt l D cI cS Z K hL (σ_2 171 3) σ_2 _ hr_3) ⟨(Nat.le_of_ble_eq_true rfl), (Nat.le_of_ble_eq_true rfl)⟩ rfl (Nat.le_of_ble_eq_true rfl) ⟨(Nat.le_of_ble_eq_true rfl), (Nat.le_of_ble_eq_true rfl)⟩ dX1_peek_17 (fun H locs hI hS => ?_)
  obtain ⟨rfl, rfl⟩ := sp_e hf
  exact mm_ret hx hb hr hlocks rfl hI hS dX1_peek_20
def f_X1_isDigit (a1 : Int32) (σ : Nat → Nat → Int32) : Option Int32 := bi (f_X7_isBetween a1 48 57 σ) fun r_1 => some r_1
set_option maxHeartbeats 4000000 in
set_option maxRecDepth 100000 in
theorem c_X1_isDigit (l : Launch) (D : va_G) (cI cS : ClassId) (Z : Nat) (K : Nat → Nat) (hL : ly K 171 lyReader) (a1 : Int32) (σ : Nat → Nat → Int32) (r : Int32) (hf : f_X1_isDigit a1 σ = some r) : Met l yX1_isDigit (wsT yX1_isDigit cX1_isDigit 2 (some .boolean)) { frames := 1, cells := 0, slots := 0, locals := 22 } (Pm D cI cS Z K [.ref (Z + 171), .int a1] σ) (Qz D cI cS Z K r σ) 0 0 (aZ Z) := by
  refine mm_met (lv := [(0, .ref (Z + 171)), (1, .int a1)]) (by decide) (Nat.le_of_ble_eq_true rfl) rfl ?_
  intro p e s m args below meth c ls hx hb hr hml hts hown hlocks hG hl hI hS
  have hown : s.vm.findClass RX1 = some m.cls := hown
  rw [f_X1_isDigit] at hf
  refine lv_iload_n hx hb dX1_isDigit_0 rfl (lv_at hl 1 rfl) ?_
  refine lv_bipush (v := 48) hx hb dX1_isDigit_1 (by decide) ?_
  refine lv_bipush (v := 57) hx hb dX1_isDigit_3 (by decide) ?_
  obtain ⟨r_1, hr_1, hf⟩ := bi_e hf
  refine kX1_101 hx hb hml hts hown hG hI hS hl.1 (As := [.int a1, .int 48, .int 57]) (c_X7_isBetween l D cI cS Z K a1 48 57 σ _ hr_1) ⟨(Nat.le_of_ble_eq_true rfl), (Nat.le_of_ble_eq_true rfl)⟩ rfl (Nat.le_of_ble_eq_true rfl) ⟨(Nat.le_of_ble_eq_true rfl), (Nat.le_of_ble_eq_true rfl)⟩ dX1_isDigit_5 (fun hzr_1 H locs hI hS => ?_)
  obtain rfl := so_e hf
  exact mm_zret hx hb hr hlocks hzr_1 hI hS dX1_isDigit_8
def f_X1_isNumberAhead  (σ : Nat → Nat → Int32) : Option (Int32 × (Nat → Nat → Int32)) := b2 (f_X1_peek σ) fun r_1 σ_2 => bi (f_X1_isDigit r_1 σ_2) fun r_3 => if r_3 = 0 then (some (0, σ_2)) else (bi (f_X1_placeBehindSpaces ((σ_2 171 3) + 1) σ_2) fun r_4 => bi (f_X1_characterAt r_4 σ_2) fun r_5 => if r_5 = 120 then (some (1, σ_2)) else (some (0, σ_2)))
set_option maxHeartbeats 4000000 in
set_option maxRecDepth 100000 in
theorem c_X1_isNumberAhead (l : Launch) (D : va_G) (cI cS : ClassId) (Z : Nat) (K : Nat → Nat) (hL : ly K 171 lyReader) (σ : Nat → Nat → Int32) (r : Int32) (σ' : Nat → Nat → Int32) (hf : f_X1_isNumberAhead σ = some (r, σ')) : Met l yX1_isNumberAhead (wsT yX1_isNumberAhead cX1_isNumberAhead 1 (some .boolean)) { frames := 3, cells := 0, slots := 0, locals := 63 } (Pm D cI cS Z K [.ref (Z + 171)] σ) (Qz D cI cS Z K r σ') 0 0 (aZ Z) := by
  refine mm_met (lv := [(0, .ref (Z + 171))]) (by decide) (Nat.le_of_ble_eq_true rfl) rfl ?_
  intro p e s m args below meth c ls hx hb hr hml hts hown hlocks hG hl hI hS
  have hown : s.vm.findClass RX1 = some m.cls := hown
  rw [f_X1_isNumberAhead] at hf
  refine lv_aload_n hx hb dX1_isNumberAhead_0 rfl (lv_at hl 0 rfl) ?_
  refine lv_aload_n hx hb dX1_isNumberAhead_1 rfl (lv_at hl 0 rfl) ?_
  obtain ⟨r_1, σ_2, hr_1, hf⟩ := b2_e hf
  refine kX1_64 hx hb hml hts hown hG hI hS hl.1 hL (As := []) (c_X1_peek l D cI cS Z K hL σ _ _ hr_1) ⟨(Nat.le_of_ble_eq_true rfl), (Nat.le_of_ble_eq_true rfl)⟩ rfl (Nat.le_of_ble_eq_true rfl) ⟨(Nat.le_of_ble_eq_true rfl), (Nat.le_of_ble_eq_true rfl)⟩ dX1_isNumberAhead_2 (fun H locs hI hS => ?_)
  obtain ⟨r_3, hr_3, hf⟩ := bi_e hf
  refine kX1_88 hx hb hml hts hown hG hI hS hl.1 hL (As := [.int r_1]) (c_X1_isDigit l D cI cS Z K hL r_1 σ_2 _ hr_3) ⟨(Nat.le_of_ble_eq_true rfl), (Nat.le_of_ble_eq_true rfl)⟩ rfl (Nat.le_of_ble_eq_true rfl) ⟨(Nat.le_of_ble_eq_true rfl), (Nat.le_of_ble_eq_true rfl)⟩ dX1_isNumberAhead_5 (fun hzr_3 H locs hI hS => ?_)
  refine lv_if_eq (tgt := 34) hx hb dX1_isNumberAhead_8 (by decide) (fun c_7 => ?_) (fun c_7 => ?_)
  · have hf := pos_e c_7 hf
    refine lv_iconst (v := 0) hx hb dX1_isNumberAhead_34 (by decide) ?_
    obtain ⟨rfl, rfl⟩ := sp_e hf
    exact mm_zret hx hb hr hlocks (Or.inl rfl) hI hS dX1_isNumberAhead_35
  · have hf := neg_e c_7 hf
    refine lv_aload_n hx hb dX1_isNumberAhead_11 rfl (lv_at hl 0 rfl) ?_
    refine lv_aload_n hx hb dX1_isNumberAhead_12 rfl (lv_at hl 0 rfl) ?_
    refine lv_aload_n hx hb dX1_isNumberAhead_13 rfl (lv_at hl 0 rfl) ?_
    refine gX1_42 hx hb hts hown hG hI hL dX1_isNumberAhead_14 ?_
    refine lv_iconst (v := 1) hx hb dX1_isNumberAhead_17 (by decide) ?_
    refine lv_iadd hx hb dX1_isNumberAhead_18 ?_
    obtain ⟨r_4, hr_4, hf⟩ := bi_e hf
    refine kX1_94 hx hb hml hts hown hG hI hS hl.1 hL (As := [.int ((σ_2 171 3) + 1)]) (c_X1_placeBehindSpaces l D cI cS Z K hL ((σ_2 171 3) + 1) σ_2 _ hr_4) ⟨(Nat.le_of_ble_eq_true rfl), (Nat.le_of_ble_eq_true rfl)⟩ rfl (Nat.le_of_ble_eq_true rfl) ⟨(Nat.le_of_ble_eq_true rfl), (Nat.le_of_ble_eq_true rfl)⟩ dX1_isNumberAhead_19 (fun H locs hI hS => ?_)
    obtain ⟨r_5, hr_5, hf⟩ := bi_e hf
    refine kX1_98 hx hb hml hts hown hG hI hS hl.1 hL (As := [.int r_4]) (c_X1_characterAt l D cI cS Z K hL r_4 σ_2 _ hr_5) ⟨(Nat.le_of_ble_eq_true rfl), (Nat.le_of_ble_eq_true rfl)⟩ rfl (Nat.le_of_ble_eq_true rfl) ⟨(Nat.le_of_ble_eq_true rfl), (Nat.le_of_ble_eq_true rfl)⟩ dX1_isNumberAhead_22 (fun H locs hI hS => ?_)
    refine lv_bipush (v := 120) hx hb dX1_isNumberAhead_25 (by decide) ?_
    refine lv_icmp_ne (tgt := 34) hx hb dX1_isNumberAhead_27 (by decide) (fun c_6 => ?_) (fun c_6 => ?_)
    · have hf := neg_e c_6 hf
      refine lv_iconst (v := 0) hx hb dX1_isNumberAhead_34 (by decide) ?_
      obtain ⟨rfl, rfl⟩ := sp_e hf
      exact mm_zret hx hb hr hlocks (Or.inl rfl) hI hS dX1_isNumberAhead_35
    · have hf := pos_e c_6 hf
      refine lv_iconst (v := 1) hx hb dX1_isNumberAhead_30 (by decide) ?_
      refine lv_goto (tgt := 35) hx hb dX1_isNumberAhead_31 (by decide) ?_
      obtain ⟨rfl, rfl⟩ := sp_e hf
      exact mm_zret hx hb hr hlocks (Or.inr rfl) hI hS dX1_isNumberAhead_35
def f_X1_take (a1 : Int32) (σ : Nat → Nat → Int32) : Option (Int32 × (Nat → Nat → Int32)) := b2 (f_X1_peek σ) fun r_1 σ_2 => if r_1 = a1 then (vl (wr σ_2 171 3 ((σ_2 171 3) + 1)) fun σ_3 => some (1, σ_3)) else (some (0, σ_2))
set_option maxHeartbeats 4000000 in
set_option maxRecDepth 100000 in
theorem c_X1_take (l : Launch) (D : va_G) (cI cS : ClassId) (Z : Nat) (K : Nat → Nat) (hL : ly K 171 lyReader) (a1 : Int32) (σ : Nat → Nat → Int32) (r : Int32) (σ' : Nat → Nat → Int32) (hf : f_X1_take a1 σ = some (r, σ')) : Met l yX1_take (wsT yX1_take cX1_take 2 (some .boolean)) { frames := 3, cells := 0, slots := 0, locals := 63 } (Pm D cI cS Z K [.ref (Z + 171), .int a1] σ) (Qz D cI cS Z K r σ') 0 0 (aZ Z) := by
  refine mm_met (lv := [(0, .ref (Z + 171)), (1, .int a1)]) (by decide) (Nat.le_of_ble_eq_true rfl) rfl ?_
  intro p e s m args below meth c ls hx hb hr hml hts hown hlocks hG hl hI hS
  have hown : s.vm.findClass RX1 = some m.cls := hown
  rw [f_X1_take] at hf
  refine lv_aload_n hx hb dX1_take_0 rfl (lv_at hl 0 rfl) ?_
  obtain ⟨r_1, σ_2, hr_1, hf⟩ := b2_e hf
  refine kX1_64 hx hb hml hts hown hG hI hS hl.1 hL (As := []) (c_X1_peek l D cI cS Z K hL σ _ _ hr_1) ⟨(Nat.le_of_ble_eq_true rfl), (Nat.le_of_ble_eq_true rfl)⟩ rfl (Nat.le_of_ble_eq_true rfl) ⟨(Nat.le_of_ble_eq_true rfl), (Nat.le_of_ble_eq_true rfl)⟩ dX1_take_1 (fun H locs hI hS => ?_)
  refine lv_iload_n hx hb dX1_take_4 rfl (lv_at hl 1 rfl) ?_
  refine lv_icmp_eq (tgt := 10) hx hb dX1_take_5 (by decide) (fun c_4 => ?_) (fun c_4 => ?_)
  · have hf := pos_e c_4 hf
    refine lv_aload_n hx hb dX1_take_10 rfl (lv_at hl 0 rfl) ?_
    refine lv_dup hx hb dX1_take_11 rfl ?_
    refine gX1_42 hx hb hts hown hG hI hL dX1_take_12 ?_
    refine lv_iconst (v := 1) hx hb dX1_take_15 (by decide) ?_
    refine lv_iadd hx hb dX1_take_16 ?_
    obtain ⟨σ_3, eσ_3, hf⟩ := vl_e hf
    refine pX1_42 hx hb hts hown hG hI hS hL dX1_take_17 (fun H locs hI hS => ?_)
    rw [← eσ_3] at hI
    refine lv_iconst (v := 1) hx hb dX1_take_20 (by decide) ?_
    obtain ⟨rfl, rfl⟩ := sp_e hf
    exact mm_zret hx hb hr hlocks (Or.inr rfl) hI hS dX1_take_21
  · have hf := neg_e c_4 hf
    refine lv_iconst (v := 0) hx hb dX1_take_8 (by decide) ?_
    obtain ⟨rfl, rfl⟩ := sp_e hf
    exact mm_zret hx hb hr hlocks (Or.inl rfl) hI hS dX1_take_9
def f_X1_openBrackets  (σ : Nat → Nat → Int32) : Option (Int32 × (Nat → Nat → Int32)) := if (σ 171 5) = 0 then (b2 (f_X1_isNumberAhead σ) fun r_1 σ_2 => if r_1 = 0 then (some (1, σ_2)) else (b2 (f_X1_peek σ_2) fun r_3 σ_4 => vl (r_3 - 48) fun x_5 => if 2 ≤ x_5 then (vl (wr σ_4 171 3 ((σ_4 171 3) + 1)) fun σ_6 => vl (wr σ_6 171 5 x_5) fun σ_7 => vl (wr σ_7 171 6 (σ_7 174 0)) fun σ_8 => b2 (f_X1_take 120 σ_8) fun r_9 σ_10 => if r_9 = 0 then (some (0, σ_10)) else (b2 (f_X1_take 40 σ_10) fun r_11 σ_12 => if r_11 = 0 then (some (0, σ_12)) else (some (1, σ_12)))) else (some (0, σ_4)))) else (some (1, σ))
set_option maxHeartbeats 4000000 in
set_option maxRecDepth 100000 in
theorem c_X1_openBrackets (l : Launch) (D : va_G) (cI cS : ClassId) (Z : Nat) (K : Nat → Nat) (hL : ly K 171 lyReader) (σ : Nat → Nat → Int32) (r : Int32) (σ' : Nat → Nat → Int32) (hf : f_X1_openBrackets σ = some (r, σ')) : Met l yX1_openBrackets (wsT yX1_openBrackets cX1_openBrackets 2 (some .boolean)) { frames := 4, cells := 0, slots := 0, locals := 84 } (Pm D cI cS Z K [.ref (Z + 171)] σ) (Qz D cI cS Z K r σ') 0 0 (aZ Z) := by
  refine mm_met (lv := [(0, .ref (Z + 171))]) (by decide) (Nat.le_of_ble_eq_true rfl) rfl ?_
  intro p e s m args below meth c ls hx hb hr hml hts hown hlocks hG hl hI hS
  have hown : s.vm.findClass RX1 = some m.cls := hown
  rw [f_X1_openBrackets] at hf
  refine lv_aload_n hx hb dX1_openBrackets_0 rfl (lv_at hl 0 rfl) ?_
  refine gX1_45 hx hb hts hown hG hI hL dX1_openBrackets_1 ?_
  refine lv_if_ne (tgt := 14) hx hb dX1_openBrackets_4 (by decide) (fun c_17 => ?_) (fun c_17 => ?_)
  · have hf := neg_e c_17 hf
    refine lv_iconst (v := 1) hx hb dX1_openBrackets_14 (by decide) ?_
    obtain ⟨rfl, rfl⟩ := sp_e hf
    exact mm_zret hx hb hr hlocks (Or.inr rfl) hI hS dX1_openBrackets_15
  · have hf := pos_e c_17 hf
    refine lv_aload_n hx hb dX1_openBrackets_7 rfl (lv_at hl 0 rfl) ?_
    obtain ⟨r_1, σ_2, hr_1, hf⟩ := b2_e hf
    refine kX1_68 hx hb hml hts hown hG hI hS hl.1 hL (As := []) (c_X1_isNumberAhead l D cI cS Z K hL σ _ _ hr_1) ⟨(Nat.le_of_ble_eq_true rfl), (Nat.le_of_ble_eq_true rfl)⟩ rfl (Nat.le_of_ble_eq_true rfl) ⟨(Nat.le_of_ble_eq_true rfl), (Nat.le_of_ble_eq_true rfl)⟩ dX1_openBrackets_8 (fun hzr_1 H locs hI hS => ?_)
    refine lv_if_ne (tgt := 16) hx hb dX1_openBrackets_11 (by decide) (fun c_16 => ?_) (fun c_16 => ?_)
    · have hf := neg_e c_16 hf
      refine lv_aload_n hx hb dX1_openBrackets_16 rfl (lv_at hl 0 rfl) ?_
      obtain ⟨r_3, σ_4, hr_3, hf⟩ := b2_e hf
      refine kX1_64 hx hb hml hts hown hG hI hS hl.1 hL (As := []) (c_X1_peek l D cI cS Z K hL σ_2 _ _ hr_3) ⟨(Nat.le_of_ble_eq_true rfl), (Nat.le_of_ble_eq_true rfl)⟩ rfl (Nat.le_of_ble_eq_true rfl) ⟨(Nat.le_of_ble_eq_true rfl), (Nat.le_of_ble_eq_true rfl)⟩ dX1_openBrackets_17 (fun H locs hI hS => ?_)
      refine lv_bipush (v := 48) hx hb dX1_openBrackets_20 (by decide) ?_
      refine lv_isub hx hb dX1_openBrackets_22 ?_
      obtain ⟨x_5, ex_5, hf⟩ := vl_e hf
      refine mm_name ex_5 ?_
      refine lv_istore_n (lv' := [(1, .int x_5), (0, .ref (Z + 171))]) hx hb dX1_openBrackets_23 rfl hl (by decide) rfl (fun ls hl => ?_)
      refine lv_iload_n hx hb dX1_openBrackets_24 rfl (lv_at hl 0 rfl) ?_
      refine lv_iconst (v := 2) hx hb dX1_openBrackets_25 (by decide) ?_
      refine lv_icmp_ge (tgt := 31) hx hb dX1_openBrackets_26 (by decide) (fun c_15 => ?_) (fun c_15 => ?_)
      · have hf := pos_e c_15 hf
        refine lv_aload_n hx hb dX1_openBrackets_31 rfl (lv_at hl 1 rfl) ?_
        refine lv_dup hx hb dX1_openBrackets_32 rfl ?_
        refine gX1_42 hx hb hts hown hG hI hL dX1_openBrackets_33 ?_
        refine lv_iconst (v := 1) hx hb dX1_openBrackets_36 (by decide) ?_
        refine lv_iadd hx hb dX1_openBrackets_37 ?_
        obtain ⟨σ_6, eσ_6, hf⟩ := vl_e hf
        refine pX1_42 hx hb hts hown hG hI hS hL dX1_openBrackets_38 (fun H locs hI hS => ?_)
        rw [← eσ_6] at hI
        refine lv_aload_n hx hb dX1_openBrackets_41 rfl (lv_at hl 1 rfl) ?_
        refine lv_iload_n hx hb dX1_openBrackets_42 rfl (lv_at hl 0 rfl) ?_
        obtain ⟨σ_7, eσ_7, hf⟩ := vl_e hf
        refine pX1_45 hx hb hts hown hG hI hS hL dX1_openBrackets_43 (fun H locs hI hS => ?_)
        rw [← eσ_7] at hI
        refine lv_aload_n hx hb dX1_openBrackets_46 rfl (lv_at hl 1 rfl) ?_
        refine lv_aload_n hx hb dX1_openBrackets_47 rfl (lv_at hl 1 rfl) ?_
        refine gX1_23 (o' := 174) hx hb hts hown hG hI hL rfl dX1_openBrackets_48 ?_
        refine gX1_71 hx hb hts hown hG hI (ly_sub_1_chain hL) dX1_openBrackets_51 ?_
        obtain ⟨σ_8, eσ_8, hf⟩ := vl_e hf
        refine pX1_74 hx hb hts hown hG hI hS hL dX1_openBrackets_54 (fun H locs hI hS => ?_)
        rw [← eσ_8] at hI
        refine lv_aload_n hx hb dX1_openBrackets_57 rfl (lv_at hl 1 rfl) ?_
        refine lv_bipush (v := 120) hx hb dX1_openBrackets_58 (by decide) ?_
        obtain ⟨r_9, σ_10, hr_9, hf⟩ := b2_e hf
        refine kX1_60 hx hb hml hts hown hG hI hS hl.1 hL (As := [.int 120]) (c_X1_take l D cI cS Z K hL 120 σ_8 _ _ hr_9) ⟨(Nat.le_of_ble_eq_true rfl), (Nat.le_of_ble_eq_true rfl)⟩ rfl (Nat.le_of_ble_eq_true rfl) ⟨(Nat.le_of_ble_eq_true rfl), (Nat.le_of_ble_eq_true rfl)⟩ dX1_openBrackets_60 (fun hzr_9 H locs hI hS => ?_)
        refine lv_if_eq (tgt := 79) hx hb dX1_openBrackets_63 (by decide) (fun c_14 => ?_) (fun c_14 => ?_)
        · have hf := pos_e c_14 hf
          refine lv_iconst (v := 0) hx hb dX1_openBrackets_79 (by decide) ?_
          obtain ⟨rfl, rfl⟩ := sp_e hf
          exact mm_zret hx hb hr hlocks (Or.inl rfl) hI hS dX1_openBrackets_80
        · have hf := neg_e c_14 hf
          refine lv_aload_n hx hb dX1_openBrackets_66 rfl (lv_at hl 1 rfl) ?_
          refine lv_bipush (v := 40) hx hb dX1_openBrackets_67 (by decide) ?_
          obtain ⟨r_11, σ_12, hr_11, hf⟩ := b2_e hf
          refine kX1_60 hx hb hml hts hown hG hI hS hl.1 hL (As := [.int 40]) (c_X1_take l D cI cS Z K hL 40 σ_10 _ _ hr_11) ⟨(Nat.le_of_ble_eq_true rfl), (Nat.le_of_ble_eq_true rfl)⟩ rfl (Nat.le_of_ble_eq_true rfl) ⟨(Nat.le_of_ble_eq_true rfl), (Nat.le_of_ble_eq_true rfl)⟩ dX1_openBrackets_69 (fun hzr_11 H locs hI hS => ?_)
          refine lv_if_eq (tgt := 79) hx hb dX1_openBrackets_72 (by decide) (fun c_13 => ?_) (fun c_13 => ?_)
          · have hf := pos_e c_13 hf
            refine lv_iconst (v := 0) hx hb dX1_openBrackets_79 (by decide) ?_
            obtain ⟨rfl, rfl⟩ := sp_e hf
            exact mm_zret hx hb hr hlocks (Or.inl rfl) hI hS dX1_openBrackets_80
          · have hf := neg_e c_13 hf
            refine lv_iconst (v := 1) hx hb dX1_openBrackets_75 (by decide) ?_
            refine lv_goto (tgt := 80) hx hb dX1_openBrackets_76 (by decide) ?_
            obtain ⟨rfl, rfl⟩ := sp_e hf
            exact mm_zret hx hb hr hlocks (Or.inr rfl) hI hS dX1_openBrackets_80
      · have hf := neg_e c_15 hf
        refine lv_iconst (v := 0) hx hb dX1_openBrackets_29 (by decide) ?_
        obtain ⟨rfl, rfl⟩ := sp_e hf
        exact mm_zret hx hb hr hlocks (Or.inl rfl) hI hS dX1_openBrackets_30
    · have hf := pos_e c_16 hf
      refine lv_iconst (v := 1) hx hb dX1_openBrackets_14 (by decide) ?_
      obtain ⟨rfl, rfl⟩ := sp_e hf
      exact mm_zret hx hb hr hlocks (Or.inr rfl) hI hS dX1_openBrackets_15
def f_X1_isShaft (a1 : Int32) (σ : Nat → Nat → Int32) : Option Int32 := bi (f_X7_isBetween a1 48 ((48 + (σ 171 4)) - 1) σ) fun r_1 => some r_1
set_option maxHeartbeats 4000000 in
set_option maxRecDepth 100000 in
theorem c_X1_isShaft (l : Launch) (D : va_G) (cI cS : ClassId) (Z : Nat) (K : Nat → Nat) (hL : ly K 171 lyReader) (a1 : Int32) (σ : Nat → Nat → Int32) (r : Int32) (hf : f_X1_isShaft a1 σ = some r) : Met l yX1_isShaft (wsT yX1_isShaft cX1_isShaft 2 (some .boolean)) { frames := 1, cells := 0, slots := 0, locals := 22 } (Pm D cI cS Z K [.ref (Z + 171), .int a1] σ) (Qz D cI cS Z K r σ) 0 0 (aZ Z) := by
  refine mm_met (lv := [(0, .ref (Z + 171)), (1, .int a1)]) (by decide) (Nat.le_of_ble_eq_true rfl) rfl ?_
  intro p e s m args below meth c ls hx hb hr hml hts hown hlocks hG hl hI hS
  have hown : s.vm.findClass RX1 = some m.cls := hown
  rw [f_X1_isShaft] at hf
  refine lv_iload_n hx hb dX1_isShaft_0 rfl (lv_at hl 1 rfl) ?_
  refine lv_bipush (v := 48) hx hb dX1_isShaft_1 (by decide) ?_
  refine lv_bipush (v := 48) hx hb dX1_isShaft_3 (by decide) ?_
  refine lv_aload_n hx hb dX1_isShaft_5 rfl (lv_at hl 0 rfl) ?_
  refine gX1_39 hx hb hts hown hG hI hL dX1_isShaft_6 ?_
  refine lv_iadd hx hb dX1_isShaft_9 ?_
  refine lv_iconst (v := 1) hx hb dX1_isShaft_10 (by decide) ?_
  refine lv_isub hx hb dX1_isShaft_11 ?_
  obtain ⟨r_1, hr_1, hf⟩ := bi_e hf
  refine kX1_101 hx hb hml hts hown hG hI hS hl.1 (As := [.int a1, .int 48, .int ((48 + (σ 171 4)) - 1)]) (c_X7_isBetween l D cI cS Z K a1 48 ((48 + (σ 171 4)) - 1) σ _ hr_1) ⟨(Nat.le_of_ble_eq_true rfl), (Nat.le_of_ble_eq_true rfl)⟩ rfl (Nat.le_of_ble_eq_true rfl) ⟨(Nat.le_of_ble_eq_true rfl), (Nat.le_of_ble_eq_true rfl)⟩ dX1_isShaft_12 (fun hzr_1 H locs hI hS => ?_)
  obtain rfl := so_e hf
  exact mm_zret hx hb hr hlocks hzr_1 hI hS dX1_isShaft_15
def b_X1_readShafts_5  : Int32 × Int32 × (Nat → Nat → Int32) → Option ((Int32 × Int32 × (Nat → Nat → Int32)) ⊕ (Int32 × (Nat → Nat → Int32)))
  | (y_1, y_2, σ_3) => if (σ_3 171 2) ≤ (σ_3 171 3) then (some (.inr (y_1, σ_3))) else (b2 (f_X1_peek σ_3) fun r_27 σ_28 => bi (f_X1_isShaft r_27 σ_28) fun r_29 => if r_29 = 0 then (some (.inr (y_1, σ_28))) else (b2 (f_X1_peek σ_28) fun r_30 σ_31 => if r_30 < y_2 then (some (.inr (y_1, σ_31))) else (b2 (f_X1_peek σ_31) fun r_32 σ_33 => vl (y_1 ||| (1 <<< ((r_32 - 48) &&& 31))) fun x_34 => b2 (f_X1_peek σ_33) fun r_35 σ_36 => vl (r_35 + 1) fun x_37 => vl (wr σ_36 171 3 ((σ_36 171 3) + 1)) fun σ_38 => some (.inl (x_34, x_37, σ_38)))))
def f_X1_readShafts  (σ : Nat → Nat → Int32) : Option (Int32 × (Nat → Nat → Int32)) := b2 (lp (b_X1_readShafts_5) FU (0, 48, σ)) fun z_4 σ_5 => some (z_4, σ_5)
set_option maxHeartbeats 4000000 in
set_option maxRecDepth 100000 in
theorem c_X1_readShafts (l : Launch) (D : va_G) (cI cS : ClassId) (Z : Nat) (K : Nat → Nat) (hL : ly K 171 lyReader) (σ : Nat → Nat → Int32) (r : Int32) (σ' : Nat → Nat → Int32) (hf : f_X1_readShafts σ = some (r, σ')) : Met l yX1_readShafts (wsT yX1_readShafts cX1_readShafts 3 (some .int)) { frames := 3, cells := 0, slots := 0, locals := 63 } (Pm D cI cS Z K [.ref (Z + 171)] σ) (Qi D cI cS Z K r σ') 0 0 (aZ Z) := by
  refine mm_met (lv := [(0, .ref (Z + 171))]) (by decide) (Nat.le_of_ble_eq_true rfl) rfl ?_
  intro p e s m args below meth c ls hx hb hr hml hts hown hlocks hG hl hI hS
  have hown : s.vm.findClass RX1 = some m.cls := hown
  rw [f_X1_readShafts] at hf
  refine lv_iconst (v := 0) hx hb dX1_readShafts_0 (by decide) ?_
  refine lv_istore_n (lv' := [(1, .int 0), (0, .ref (Z + 171))]) hx hb dX1_readShafts_1 rfl hl (by decide) rfl (fun ls hl => ?_)
  refine lv_bipush (v := 48) hx hb dX1_readShafts_2 (by decide) ?_
  refine lv_istore_n (lv' := [(2, .int 48), (1, .int 0), (0, .ref (Z + 171))]) hx hb dX1_readShafts_4 rfl hl (by decide) rfl (fun ls hl => ?_)
  have L_7 : ∀ (nn : Nat) (y_1 : Int32) (y_2 : Int32) (σ_3 : Nat → Nat → Int32) (z_4 : Int32) (σ_5 : Nat → Nat → Int32), lp (b_X1_readShafts_5) nn (y_1, y_2, σ_3) = some (z_4, σ_5) → (∀ (H : Heap) (locs : List Loc) (ls : Array Slot), fI D cI cS Z K σ_5 H → va_S (aZ Z) s.heap H locs → lv_has ls 3 [(1, .int z_4)] → W p l e { frames := 3, cells := 0, slots := 0, locals := 63 } s m args below meth c H locs 0 0 (MQ below (Qi D cI cS Z K r σ') args s 0 0 (aZ Z)) (F0 m 67 ls [])) → ∀ (H : Heap) (locs : List Loc) (ls : Array Slot), fI D cI cS Z K σ_3 H → va_S (aZ Z) s.heap H locs → lv_has ls 3 [(0, .ref (Z + 171)), (1, .int y_1), (2, .int y_2)] → W p l e { frames := 3, cells := 0, slots := 0, locals := 63 } s m args below meth c H locs 0 0 (MQ below (Qi D cI cS Z K r σ') args s 0 0 (aZ Z)) (F0 m 5 ls []) := by
    intro nn
    induction nn with
    | zero =>
      intro y_1 y_2 σ_3 z_4 σ_5 hq
      exact (lp_0 hq).elim
    | succ nn ih_8 =>
      intro y_1 y_2 σ_3 z_4 σ_5 hq kn_10 H locs ls hI hS hl
      obtain ⟨wb_6, hf, hk_9⟩ := lp_e hq
      rw [b_X1_readShafts_5] at hf
      have ih_8 := fun (y_1 : Int32) (y_2 : Int32) (σ_3 : Nat → Nat → Int32) q => ih_8 y_1 y_2 σ_3 z_4 σ_5 q kn_10
      refine lv_aload_n hx hb dX1_readShafts_5 rfl (lv_at hl 0 rfl) ?_
      refine gX1_42 hx hb hts hown hG hI hL dX1_readShafts_6 ?_
      refine lv_aload_n hx hb dX1_readShafts_9 rfl (lv_at hl 0 rfl) ?_
      refine gX1_27 hx hb hts hown hG hI hL dX1_readShafts_10 ?_
      refine lv_icmp_ge (tgt := 67) hx hb dX1_readShafts_13 (by decide) (fun c_41 => ?_) (fun c_41 => ?_)
      · have hf := pos_e c_41 hf
        obtain rfl := so_e hf
        obtain ⟨rfl, rfl⟩ := q2_e (lk_r hk_9)
        exact kn_10 _ _ _ hI hS (lv_sub hl [1] rfl)
      · have hf := neg_e c_41 hf
        refine lv_aload_n hx hb dX1_readShafts_16 rfl (lv_at hl 0 rfl) ?_
        refine lv_aload_n hx hb dX1_readShafts_17 rfl (lv_at hl 0 rfl) ?_
        obtain ⟨r_27, σ_28, hr_27, hf⟩ := b2_e hf
        refine kX1_64 hx hb hml hts hown hG hI hS hl.1 hL (As := []) (c_X1_peek l D cI cS Z K hL σ_3 _ _ hr_27) ⟨(Nat.le_of_ble_eq_true rfl), (Nat.le_of_ble_eq_true rfl)⟩ rfl (Nat.le_of_ble_eq_true rfl) ⟨(Nat.le_of_ble_eq_true rfl), (Nat.le_of_ble_eq_true rfl)⟩ dX1_readShafts_18 (fun H locs hI hS => ?_)
        obtain ⟨r_29, hr_29, hf⟩ := bi_e hf
        refine kX1_82 hx hb hml hts hown hG hI hS hl.1 hL (As := [.int r_27]) (c_X1_isShaft l D cI cS Z K hL r_27 σ_28 _ hr_29) ⟨(Nat.le_of_ble_eq_true rfl), (Nat.le_of_ble_eq_true rfl)⟩ rfl (Nat.le_of_ble_eq_true rfl) ⟨(Nat.le_of_ble_eq_true rfl), (Nat.le_of_ble_eq_true rfl)⟩ dX1_readShafts_21 (fun hzr_29 H locs hI hS => ?_)
        refine lv_if_eq (tgt := 67) hx hb dX1_readShafts_24 (by decide) (fun c_40 => ?_) (fun c_40 => ?_)
        · have hf := pos_e c_40 hf
          obtain rfl := so_e hf
          obtain ⟨rfl, rfl⟩ := q2_e (lk_r hk_9)
          exact kn_10 _ _ _ hI hS (lv_sub hl [1] rfl)
        · have hf := neg_e c_40 hf
          refine lv_aload_n hx hb dX1_readShafts_27 rfl (lv_at hl 0 rfl) ?_
          obtain ⟨r_30, σ_31, hr_30, hf⟩ := b2_e hf
          refine kX1_64 hx hb hml hts hown hG hI hS hl.1 hL (As := []) (c_X1_peek l D cI cS Z K hL σ_28 _ _ hr_30) ⟨(Nat.le_of_ble_eq_true rfl), (Nat.le_of_ble_eq_true rfl)⟩ rfl (Nat.le_of_ble_eq_true rfl) ⟨(Nat.le_of_ble_eq_true rfl), (Nat.le_of_ble_eq_true rfl)⟩ dX1_readShafts_28 (fun H locs hI hS => ?_)
          refine lv_iload_n hx hb dX1_readShafts_31 rfl (lv_at hl 2 rfl) ?_
          refine lv_icmp_lt (tgt := 67) hx hb dX1_readShafts_32 (by decide) (fun c_39 => ?_) (fun c_39 => ?_)
          · have hf := pos_e c_39 hf
            obtain rfl := so_e hf
            obtain ⟨rfl, rfl⟩ := q2_e (lk_r hk_9)
            exact kn_10 _ _ _ hI hS (lv_sub hl [1] rfl)
          · have hf := neg_e c_39 hf
            refine lv_iload_n hx hb dX1_readShafts_35 rfl (lv_at hl 1 rfl) ?_
            refine lv_iconst (v := 1) hx hb dX1_readShafts_36 (by decide) ?_
            refine lv_aload_n hx hb dX1_readShafts_37 rfl (lv_at hl 0 rfl) ?_
            obtain ⟨r_32, σ_33, hr_32, hf⟩ := b2_e hf
            refine kX1_64 hx hb hml hts hown hG hI hS hl.1 hL (As := []) (c_X1_peek l D cI cS Z K hL σ_31 _ _ hr_32) ⟨(Nat.le_of_ble_eq_true rfl), (Nat.le_of_ble_eq_true rfl)⟩ rfl (Nat.le_of_ble_eq_true rfl) ⟨(Nat.le_of_ble_eq_true rfl), (Nat.le_of_ble_eq_true rfl)⟩ dX1_readShafts_38 (fun H locs hI hS => ?_)
            refine lv_bipush (v := 48) hx hb dX1_readShafts_41 (by decide) ?_
            refine lv_isub hx hb dX1_readShafts_43 ?_
            refine lv_ishl hx hb dX1_readShafts_44 ?_
            refine lv_ior hx hb dX1_readShafts_45 ?_
            obtain ⟨x_34, ex_34, hf⟩ := vl_e hf
            refine mm_name ex_34 ?_
            refine lv_istore_n (lv' := [(1, .int x_34), (0, .ref (Z + 171)), (2, .int y_2)]) hx hb dX1_readShafts_46 rfl hl (by decide) rfl (fun ls hl => ?_)
            refine lv_aload_n hx hb dX1_readShafts_47 rfl (lv_at hl 1 rfl) ?_
            obtain ⟨r_35, σ_36, hr_35, hf⟩ := b2_e hf
            refine kX1_64 hx hb hml hts hown hG hI hS hl.1 hL (As := []) (c_X1_peek l D cI cS Z K hL σ_33 _ _ hr_35) ⟨(Nat.le_of_ble_eq_true rfl), (Nat.le_of_ble_eq_true rfl)⟩ rfl (Nat.le_of_ble_eq_true rfl) ⟨(Nat.le_of_ble_eq_true rfl), (Nat.le_of_ble_eq_true rfl)⟩ dX1_readShafts_48 (fun H locs hI hS => ?_)
            refine lv_iconst (v := 1) hx hb dX1_readShafts_51 (by decide) ?_
            refine lv_iadd hx hb dX1_readShafts_52 ?_
            obtain ⟨x_37, ex_37, hf⟩ := vl_e hf
            refine mm_name ex_37 ?_
            refine lv_istore_n (lv' := [(2, .int x_37), (1, .int x_34), (0, .ref (Z + 171))]) hx hb dX1_readShafts_53 rfl hl (by decide) rfl (fun ls hl => ?_)
            refine lv_aload_n hx hb dX1_readShafts_54 rfl (lv_at hl 2 rfl) ?_
            refine lv_dup hx hb dX1_readShafts_55 rfl ?_
            refine gX1_42 hx hb hts hown hG hI hL dX1_readShafts_56 ?_
            refine lv_iconst (v := 1) hx hb dX1_readShafts_59 (by decide) ?_
            refine lv_iadd hx hb dX1_readShafts_60 ?_
            obtain ⟨σ_38, eσ_38, hf⟩ := vl_e hf
            refine pX1_42 hx hb hts hown hG hI hS hL dX1_readShafts_61 (fun H locs hI hS => ?_)
            rw [← eσ_38] at hI
            refine lv_goto (tgt := 5) hx hb dX1_readShafts_64 (by decide) ?_
            obtain rfl := so_e hf
            exact ih_8 x_34 x_37 σ_38 hk_9 _ _ _ hI hS (lv_sub hl [2, 1, 0] rfl)
  obtain ⟨z_4, σ_5, hy, hf⟩ := b2_e hf
  refine L_7 FU 0 48 σ _ _ hy ?_ _ _ _ hI hS (lv_sub hl [2, 1, 0] rfl)
  clear L_7
  intro H locs ls hI hS hl
  refine lv_iload_n hx hb dX1_readShafts_67 rfl (lv_at hl 0 rfl) ?_
  obtain ⟨rfl, rfl⟩ := sp_e hf
  exact mm_ret hx hb hr hlocks rfl hI hS dX1_readShafts_68
def f_X1_readBar  (σ : Nat → Nat → Int32) : Option (Int32 × (Nat → Nat → Int32)) := b2 (f_X1_peek σ) fun r_1 σ_2 => vl (α := Int32) (if r_1 = 45 then (1) else (0)) fun v_4 => bi (f_X0_isFull 174 σ_2) fun r_7 => if r_7 = 0 then (jn (α := (Nat → Nat → Int32) → _) (fun k_14 => if v_4 = 0 then (b2 (f_X1_peek σ_2) fun r_54 σ_55 => bi (f_X1_isShaft r_54 σ_55) fun r_56 => if r_56 = 0 then (some (0, σ_55)) else (k_14 σ_55)) else (k_14 σ_2)) (fun σ_13 => jn (α := Int32 → (Nat → Nat → Int32) → _) (fun k_22 => if v_4 = 0 then (b2 (f_X1_readShafts σ_13) fun r_50 σ_51 => k_22 r_50 σ_51) else (vl (wr σ_13 171 3 ((σ_13 171 3) + 1)) fun σ_52 => k_22 0 σ_52)) (fun v_20 σ_21 => b2 (f_X1_take 99 σ_21) fun r_24 σ_25 => jn (α := Int32 → (Nat → Nat → Int32) → _) (fun k_37 => if r_24 = 0 then (k_37 0 σ_25) else (b2 (f_X1_peek σ_25) fun r_41 σ_42 => bi (f_X1_isDigit r_41 σ_42) fun r_43 => if r_43 = 0 then (some (0, σ_42)) else (b2 (f_X1_peek σ_42) fun r_44 σ_45 => vl (r_44 - 48) fun x_46 => vl (wr σ_45 171 3 ((σ_45 171 3) + 1)) fun σ_47 => k_37 x_46 σ_47))) (fun v_35 σ_36 => bi (f_X0_addLast 174 v_20 v_35 σ_36) fun σ_40 => some (1, σ_40))))) else (some (0, σ_2))
set_option maxHeartbeats 4000000 in
set_option maxRecDepth 100000 in
theorem c_X1_readBar (l : Launch) (D : va_G) (cI cS : ClassId) (Z : Nat) (K : Nat → Nat) (hL : ly K 171 lyReader) (σ : Nat → Nat → Int32) (r : Int32) (σ' : Nat → Nat → Int32) (hf : f_X1_readBar σ = some (r, σ')) : Met l yX1_readBar (wsT yX1_readBar cX1_readBar 4 (some .boolean)) { frames := 4, cells := 0, slots := 0, locals := 85 } (Pm D cI cS Z K [.ref (Z + 171)] σ) (Qz D cI cS Z K r σ') 0 0 (aZ Z) := by
  refine mm_met (lv := [(0, .ref (Z + 171))]) (by decide) (Nat.le_of_ble_eq_true rfl) rfl ?_
  intro p e s m args below meth c ls hx hb hr hml hts hown hlocks hG hl hI hS
  have hown : s.vm.findClass RX1 = some m.cls := hown
  rw [f_X1_readBar] at hf
  refine lv_aload_n hx hb dX1_readBar_0 rfl (lv_at hl 0 rfl) ?_
  obtain ⟨r_1, σ_2, hr_1, hf⟩ := b2_e hf
  refine kX1_64 hx hb hml hts hown hG hI hS hl.1 hL (As := []) (c_X1_peek l D cI cS Z K hL σ _ _ hr_1) ⟨(Nat.le_of_ble_eq_true rfl), (Nat.le_of_ble_eq_true rfl)⟩ rfl (Nat.le_of_ble_eq_true rfl) ⟨(Nat.le_of_ble_eq_true rfl), (Nat.le_of_ble_eq_true rfl)⟩ dX1_readBar_1 (fun H locs hI hS => ?_)
  refine lv_bipush (v := 45) hx hb dX1_readBar_4 (by decide) ?_
  obtain ⟨v_4, ev_4, hf⟩ := vl_e hf
  have HJ_6 : ∀ (H : Heap) (locs : List Loc) (ls : Array Slot), fI D cI cS Z K σ_2 H → va_S (aZ Z) s.heap H locs → lv_has ls 4 [(0, .ref (Z + 171))] → W p l e { frames := 4, cells := 0, slots := 0, locals := 85 } s m args below meth c H locs 0 0 (MQ below (Qz D cI cS Z K r σ') args s 0 0 (aZ Z)) (F0 m 14 ls [.int v_4]) := by
    intro H locs ls hI hS hl
    refine lv_istore_n (lv' := [(1, .int v_4), (0, .ref (Z + 171))]) hx hb dX1_readBar_14 rfl hl (by decide) rfl (fun ls hl => ?_)
    refine lv_aload_n hx hb dX1_readBar_15 rfl (lv_at hl 1 rfl) ?_
    refine gX1_23 (o' := 174) hx hb hts hown hG hI hL rfl dX1_readBar_16 ?_
    obtain ⟨r_7, hr_7, hf⟩ := bi_e hf
    refine kX1_81 hx hb hml hts hown hG hI hS hl.1 (ly_sub_1_chain hL) (As := []) (c_X0_isFull l D cI cS Z K 174 (ly_sub_1_chain hL) σ_2 _ hr_7) ⟨(Nat.le_of_ble_eq_true rfl), (Nat.le_of_ble_eq_true rfl)⟩ rfl (Nat.le_of_ble_eq_true rfl) ⟨(Nat.le_of_ble_eq_true rfl), (Nat.le_of_ble_eq_true rfl)⟩ dX1_readBar_19 (fun hzr_7 H locs hI hS => ?_)
    refine lv_if_ne (tgt := 40) hx hb dX1_readBar_22 (by decide) (fun c_59 => ?_) (fun c_59 => ?_)
    · have hf := neg_e c_59 hf
      refine lv_iconst (v := 0) hx hb dX1_readBar_40 (by decide) ?_
      obtain ⟨rfl, rfl⟩ := sp_e hf
      exact mm_zret hx hb hr hlocks (Or.inl rfl) hI hS dX1_readBar_41
    · have hf := pos_e c_59 hf
      refine lv_iload_n hx hb dX1_readBar_25 rfl (lv_at hl 0 rfl) ?_
      obtain ⟨k_14, ek_14, hf⟩ := jn_e hf
      have HJ_15 : ∀ (σ_13 : Nat → Nat → Int32) (H : Heap) (locs : List Loc) (ls : Array Slot), k_14 σ_13 = some (r, σ') → fI D cI cS Z K σ_13 H → va_S (aZ Z) s.heap H locs → lv_has ls 4 [(0, .ref (Z + 171)), (1, .int v_4)] → W p l e { frames := 4, cells := 0, slots := 0, locals := 85 } s m args below meth c H locs 0 0 (MQ below (Qz D cI cS Z K r σ') args s 0 0 (aZ Z)) (F0 m 42 ls []) := by
        intro σ_13 H locs ls hf hI hS hl
        have hf := jb1 ek_14 hf
        refine lv_iconst (v := 0) hx hb dX1_readBar_42 (by decide) ?_
        refine lv_istore_n (lv' := [(2, .int 0), (0, .ref (Z + 171)), (1, .int v_4)]) hx hb dX1_readBar_43 rfl hl (by decide) rfl (fun ls hl => ?_)
        refine lv_iload_n hx hb dX1_readBar_44 rfl (lv_at hl 2 rfl) ?_
        obtain ⟨k_22, ek_22, hf⟩ := jn_e hf
        have HJ_23 : ∀ (v_20 : Int32) (σ_21 : Nat → Nat → Int32) (H : Heap) (locs : List Loc) (ls : Array Slot), k_22 v_20 σ_21 = some (r, σ') → fI D cI cS Z K σ_21 H → va_S (aZ Z) s.heap H locs → lv_has ls 4 [(0, .ref (Z + 171)), (2, .int v_20)] → W p l e { frames := 4, cells := 0, slots := 0, locals := 85 } s m args below meth c H locs 0 0 (MQ below (Qz D cI cS Z K r σ') args s 0 0 (aZ Z)) (F0 m 66 ls []) := by
          intro v_20 σ_21 H locs ls hf hI hS hl
          have hf := jb2 ek_22 hf
          refine lv_iconst (v := 0) hx hb dX1_readBar_66 (by decide) ?_
          refine lv_istore_n (lv' := [(3, .int 0), (0, .ref (Z + 171)), (2, .int v_20)]) hx hb dX1_readBar_67 rfl hl (by decide) rfl (fun ls hl => ?_)
          refine lv_aload_n hx hb dX1_readBar_68 rfl (lv_at hl 1 rfl) ?_
          refine lv_bipush (v := 99) hx hb dX1_readBar_69 (by decide) ?_
          obtain ⟨r_24, σ_25, hr_24, hf⟩ := b2_e hf
          refine kX1_60 hx hb hml hts hown hG hI hS hl.1 hL (As := [.int 99]) (c_X1_take l D cI cS Z K hL 99 σ_21 _ _ hr_24) ⟨(Nat.le_of_ble_eq_true rfl), (Nat.le_of_ble_eq_true rfl)⟩ rfl (Nat.le_of_ble_eq_true rfl) ⟨(Nat.le_of_ble_eq_true rfl), (Nat.le_of_ble_eq_true rfl)⟩ dX1_readBar_71 (fun hzr_24 H locs hI hS => ?_)
          obtain ⟨k_37, ek_37, hf⟩ := jn_e hf
          have HJ_38 : ∀ (v_35 : Int32) (σ_36 : Nat → Nat → Int32) (H : Heap) (locs : List Loc) (ls : Array Slot), k_37 v_35 σ_36 = some (r, σ') → fI D cI cS Z K σ_36 H → va_S (aZ Z) s.heap H locs → lv_has ls 4 [(0, .ref (Z + 171)), (2, .int v_20), (3, .int v_35)] → W p l e { frames := 4, cells := 0, slots := 0, locals := 85 } s m args below meth c H locs 0 0 (MQ below (Qz D cI cS Z K r σ') args s 0 0 (aZ Z)) (F0 m 108 ls []) := by
            intro v_35 σ_36 H locs ls hf hI hS hl
            have hf := jb2 ek_37 hf
            refine lv_aload_n hx hb dX1_readBar_108 rfl (lv_at hl 0 rfl) ?_
            refine gX1_23 (o' := 174) hx hb hts hown hG hI hL rfl dX1_readBar_109 ?_
            refine lv_iload_n hx hb dX1_readBar_112 rfl (lv_at hl 1 rfl) ?_
            refine lv_iload_n hx hb dX1_readBar_113 rfl (lv_at hl 2 rfl) ?_
            obtain ⟨σ_40, hσ_40, hf⟩ := bi_e hf
            refine kX1_91 hx hb hml hts hown hG hI hS hl.1 (ly_sub_1_chain hL) (As := [.int v_20, .int v_35]) (c_X0_addLast l D cI cS Z K 174 (ly_sub_1_chain hL) v_20 v_35 σ_36 _ hσ_40) ⟨(Nat.le_of_ble_eq_true rfl), (Nat.le_of_ble_eq_true rfl)⟩ rfl (Nat.le_of_ble_eq_true rfl) ⟨(Nat.le_of_ble_eq_true rfl), (Nat.le_of_ble_eq_true rfl)⟩ dX1_readBar_114 (fun H locs hI hS => ?_)
            refine lv_iconst (v := 1) hx hb dX1_readBar_117 (by decide) ?_
            obtain ⟨rfl, rfl⟩ := sp_e hf
            exact mm_zret hx hb hr hlocks (Or.inr rfl) hI hS dX1_readBar_118
          clear ek_37
          refine lv_if_eq (tgt := 108) hx hb dX1_readBar_74 (by decide) (fun c_49 => ?_) (fun c_49 => ?_)
          · have hf := pos_e c_49 hf
            exact HJ_38 0 σ_25 _ _ _ hf hI hS (lv_sub hl [1, 2, 0] rfl)
          · have hf := neg_e c_49 hf
            refine lv_aload_n hx hb dX1_readBar_77 rfl (lv_at hl 1 rfl) ?_
            refine lv_aload_n hx hb dX1_readBar_78 rfl (lv_at hl 1 rfl) ?_
            obtain ⟨r_41, σ_42, hr_41, hf⟩ := b2_e hf
            refine kX1_64 hx hb hml hts hown hG hI hS hl.1 hL (As := []) (c_X1_peek l D cI cS Z K hL σ_25 _ _ hr_41) ⟨(Nat.le_of_ble_eq_true rfl), (Nat.le_of_ble_eq_true rfl)⟩ rfl (Nat.le_of_ble_eq_true rfl) ⟨(Nat.le_of_ble_eq_true rfl), (Nat.le_of_ble_eq_true rfl)⟩ dX1_readBar_79 (fun H locs hI hS => ?_)
            obtain ⟨r_43, hr_43, hf⟩ := bi_e hf
            refine kX1_88 hx hb hml hts hown hG hI hS hl.1 hL (As := [.int r_41]) (c_X1_isDigit l D cI cS Z K hL r_41 σ_42 _ hr_43) ⟨(Nat.le_of_ble_eq_true rfl), (Nat.le_of_ble_eq_true rfl)⟩ rfl (Nat.le_of_ble_eq_true rfl) ⟨(Nat.le_of_ble_eq_true rfl), (Nat.le_of_ble_eq_true rfl)⟩ dX1_readBar_82 (fun hzr_43 H locs hI hS => ?_)
            refine lv_if_ne (tgt := 90) hx hb dX1_readBar_85 (by decide) (fun c_48 => ?_) (fun c_48 => ?_)
            · have hf := neg_e c_48 hf
              refine lv_aload_n hx hb dX1_readBar_90 rfl (lv_at hl 1 rfl) ?_
              obtain ⟨r_44, σ_45, hr_44, hf⟩ := b2_e hf
              refine kX1_64 hx hb hml hts hown hG hI hS hl.1 hL (As := []) (c_X1_peek l D cI cS Z K hL σ_42 _ _ hr_44) ⟨(Nat.le_of_ble_eq_true rfl), (Nat.le_of_ble_eq_true rfl)⟩ rfl (Nat.le_of_ble_eq_true rfl) ⟨(Nat.le_of_ble_eq_true rfl), (Nat.le_of_ble_eq_true rfl)⟩ dX1_readBar_91 (fun H locs hI hS => ?_)
              refine lv_bipush (v := 48) hx hb dX1_readBar_94 (by decide) ?_
              refine lv_isub hx hb dX1_readBar_96 ?_
              obtain ⟨x_46, ex_46, hf⟩ := vl_e hf
              refine mm_name ex_46 ?_
              refine lv_istore_n (lv' := [(3, .int x_46), (0, .ref (Z + 171)), (2, .int v_20)]) hx hb dX1_readBar_97 rfl hl (by decide) rfl (fun ls hl => ?_)
              refine lv_aload_n hx hb dX1_readBar_98 rfl (lv_at hl 1 rfl) ?_
              refine lv_dup hx hb dX1_readBar_99 rfl ?_
              refine gX1_42 hx hb hts hown hG hI hL dX1_readBar_100 ?_
              refine lv_iconst (v := 1) hx hb dX1_readBar_103 (by decide) ?_
              refine lv_iadd hx hb dX1_readBar_104 ?_
              obtain ⟨σ_47, eσ_47, hf⟩ := vl_e hf
              refine pX1_42 hx hb hts hown hG hI hS hL dX1_readBar_105 (fun H locs hI hS => ?_)
              rw [← eσ_47] at hI
              exact HJ_38 x_46 σ_47 _ _ _ hf hI hS (lv_sub hl [1, 2, 0] rfl)
            · have hf := pos_e c_48 hf
              refine lv_iconst (v := 0) hx hb dX1_readBar_88 (by decide) ?_
              obtain ⟨rfl, rfl⟩ := sp_e hf
              exact mm_zret hx hb hr hlocks (Or.inl rfl) hI hS dX1_readBar_89
        clear ek_22
        refine lv_if_eq (tgt := 61) hx hb dX1_readBar_45 (by decide) (fun c_53 => ?_) (fun c_53 => ?_)
        · have hf := pos_e c_53 hf
          refine lv_aload_n hx hb dX1_readBar_61 rfl (lv_at hl 1 rfl) ?_
          obtain ⟨r_50, σ_51, hr_50, hf⟩ := b2_e hf
          refine kX1_85 hx hb hml hts hown hG hI hS hl.1 hL (As := []) (c_X1_readShafts l D cI cS Z K hL σ_13 _ _ hr_50) ⟨(Nat.le_of_ble_eq_true rfl), (Nat.le_of_ble_eq_true rfl)⟩ rfl (Nat.le_of_ble_eq_true rfl) ⟨(Nat.le_of_ble_eq_true rfl), (Nat.le_of_ble_eq_true rfl)⟩ dX1_readBar_62 (fun H locs hI hS => ?_)
          refine lv_istore_n (lv' := [(2, .int r_50), (0, .ref (Z + 171)), (1, .int v_4)]) hx hb dX1_readBar_65 rfl hl (by decide) rfl (fun ls hl => ?_)
          exact HJ_23 r_50 σ_51 _ _ _ hf hI hS (lv_sub hl [1, 0] rfl)
        · have hf := neg_e c_53 hf
          refine lv_aload_n hx hb dX1_readBar_48 rfl (lv_at hl 1 rfl) ?_
          refine lv_dup hx hb dX1_readBar_49 rfl ?_
          refine gX1_42 hx hb hts hown hG hI hL dX1_readBar_50 ?_
          refine lv_iconst (v := 1) hx hb dX1_readBar_53 (by decide) ?_
          refine lv_iadd hx hb dX1_readBar_54 ?_
          obtain ⟨σ_52, eσ_52, hf⟩ := vl_e hf
          refine pX1_42 hx hb hts hown hG hI hS hL dX1_readBar_55 (fun H locs hI hS => ?_)
          rw [← eσ_52] at hI
          refine lv_goto (tgt := 66) hx hb dX1_readBar_58 (by decide) ?_
          exact HJ_23 0 σ_52 _ _ _ hf hI hS (lv_sub hl [1, 0] rfl)
      clear ek_14
      refine lv_if_ne (tgt := 42) hx hb dX1_readBar_26 (by decide) (fun c_58 => ?_) (fun c_58 => ?_)
      · have hf := neg_e c_58 hf
        exact HJ_15 σ_2 _ _ _ hf hI hS (lv_sub hl [1, 0] rfl)
      · have hf := pos_e c_58 hf
        refine lv_aload_n hx hb dX1_readBar_29 rfl (lv_at hl 1 rfl) ?_
        refine lv_aload_n hx hb dX1_readBar_30 rfl (lv_at hl 1 rfl) ?_
        obtain ⟨r_54, σ_55, hr_54, hf⟩ := b2_e hf
        refine kX1_64 hx hb hml hts hown hG hI hS hl.1 hL (As := []) (c_X1_peek l D cI cS Z K hL σ_2 _ _ hr_54) ⟨(Nat.le_of_ble_eq_true rfl), (Nat.le_of_ble_eq_true rfl)⟩ rfl (Nat.le_of_ble_eq_true rfl) ⟨(Nat.le_of_ble_eq_true rfl), (Nat.le_of_ble_eq_true rfl)⟩ dX1_readBar_31 (fun H locs hI hS => ?_)
        obtain ⟨r_56, hr_56, hf⟩ := bi_e hf
        refine kX1_82 hx hb hml hts hown hG hI hS hl.1 hL (As := [.int r_54]) (c_X1_isShaft l D cI cS Z K hL r_54 σ_55 _ hr_56) ⟨(Nat.le_of_ble_eq_true rfl), (Nat.le_of_ble_eq_true rfl)⟩ rfl (Nat.le_of_ble_eq_true rfl) ⟨(Nat.le_of_ble_eq_true rfl), (Nat.le_of_ble_eq_true rfl)⟩ dX1_readBar_34 (fun hzr_56 H locs hI hS => ?_)
        refine lv_if_ne (tgt := 42) hx hb dX1_readBar_37 (by decide) (fun c_57 => ?_) (fun c_57 => ?_)
        · have hf := neg_e c_57 hf
          exact HJ_15 σ_55 _ _ _ hf hI hS (lv_sub hl [1, 0] rfl)
        · have hf := pos_e c_57 hf
          refine lv_iconst (v := 0) hx hb dX1_readBar_40 (by decide) ?_
          obtain ⟨rfl, rfl⟩ := sp_e hf
          exact mm_zret hx hb hr hlocks (Or.inl rfl) hI hS dX1_readBar_41
  clear hf
  have hf := ev_4.symm
  refine lv_icmp_ne (tgt := 13) hx hb dX1_readBar_6 (by decide) (fun c_60 => ?_) (fun c_60 => ?_)
  · have hf := neg_e c_60 hf
    refine lv_iconst (v := 0) hx hb dX1_readBar_13 (by decide) ?_
    refine mm_name hf.symm ?_
    exact HJ_6 _ _ _ hI hS (lv_sub hl [0] rfl)
  · have hf := pos_e c_60 hf
    refine lv_iconst (v := 1) hx hb dX1_readBar_9 (by decide) ?_
    refine lv_goto (tgt := 14) hx hb dX1_readBar_10 (by decide) ?_
    refine mm_name hf.symm ?_
    exact HJ_6 _ _ _ hI hS (lv_sub hl [0] rfl)
def f_X1_closeBrackets  (σ : Nat → Nat → Int32) : Option (Int32 × (Nat → Nat → Int32)) := if (σ 171 5) = 0 then (some (1, σ)) else (b2 (f_X1_peek σ) fun r_1 σ_2 => if r_1 = 41 then (b2 (f_X0_repeatFrom 174 (σ_2 171 6) (σ_2 171 5) σ_2) fun r_3 σ_4 => if r_3 = 0 then (some (0, σ_4)) else (vl (wr σ_4 171 5 0) fun σ_5 => b2 (f_X1_take 41 σ_5) fun r_6 σ_7 => some (r_6, σ_7))) else (some (1, σ_2)))
set_option maxHeartbeats 4000000 in
set_option maxRecDepth 100000 in
theorem c_X1_closeBrackets (l : Launch) (D : va_G) (cI cS : ClassId) (Z : Nat) (K : Nat → Nat) (hL : ly K 171 lyReader) (σ : Nat → Nat → Int32) (r : Int32) (σ' : Nat → Nat → Int32) (hf : f_X1_closeBrackets σ = some (r, σ')) : Met l yX1_closeBrackets (wsT yX1_closeBrackets cX1_closeBrackets 1 (some .boolean)) { frames := 4, cells := 0, slots := 0, locals := 84 } (Pm D cI cS Z K [.ref (Z + 171)] σ) (Qz D cI cS Z K r σ') 0 0 (aZ Z) := by
  refine mm_met (lv := [(0, .ref (Z + 171))]) (by decide) (Nat.le_of_ble_eq_true rfl) rfl ?_
  intro p e s m args below meth c ls hx hb hr hml hts hown hlocks hG hl hI hS
  have hown : s.vm.findClass RX1 = some m.cls := hown
  rw [f_X1_closeBrackets] at hf
  refine lv_aload_n hx hb dX1_closeBrackets_0 rfl (lv_at hl 0 rfl) ?_
  refine gX1_45 hx hb hts hown hG hI hL dX1_closeBrackets_1 ?_
  refine lv_if_eq (tgt := 16) hx hb dX1_closeBrackets_4 (by decide) (fun c_10 => ?_) (fun c_10 => ?_)
  · have hf := pos_e c_10 hf
    refine lv_iconst (v := 1) hx hb dX1_closeBrackets_16 (by decide) ?_
    obtain ⟨rfl, rfl⟩ := sp_e hf
    exact mm_zret hx hb hr hlocks (Or.inr rfl) hI hS dX1_closeBrackets_17
  · have hf := neg_e c_10 hf
    refine lv_aload_n hx hb dX1_closeBrackets_7 rfl (lv_at hl 0 rfl) ?_
    obtain ⟨r_1, σ_2, hr_1, hf⟩ := b2_e hf
    refine kX1_64 hx hb hml hts hown hG hI hS hl.1 hL (As := []) (c_X1_peek l D cI cS Z K hL σ _ _ hr_1) ⟨(Nat.le_of_ble_eq_true rfl), (Nat.le_of_ble_eq_true rfl)⟩ rfl (Nat.le_of_ble_eq_true rfl) ⟨(Nat.le_of_ble_eq_true rfl), (Nat.le_of_ble_eq_true rfl)⟩ dX1_closeBrackets_8 (fun H locs hI hS => ?_)
    refine lv_bipush (v := 41) hx hb dX1_closeBrackets_11 (by decide) ?_
    refine lv_icmp_eq (tgt := 18) hx hb dX1_closeBrackets_13 (by decide) (fun c_9 => ?_) (fun c_9 => ?_)
    · have hf := pos_e c_9 hf
      refine lv_aload_n hx hb dX1_closeBrackets_18 rfl (lv_at hl 0 rfl) ?_
      refine gX1_23 (o' := 174) hx hb hts hown hG hI hL rfl dX1_closeBrackets_19 ?_
      refine lv_aload_n hx hb dX1_closeBrackets_22 rfl (lv_at hl 0 rfl) ?_
      refine gX1_74 hx hb hts hown hG hI hL dX1_closeBrackets_23 ?_
      refine lv_aload_n hx hb dX1_closeBrackets_26 rfl (lv_at hl 0 rfl) ?_
      refine gX1_45 hx hb hts hown hG hI hL dX1_closeBrackets_27 ?_
      obtain ⟨r_3, σ_4, hr_3, hf⟩ := b2_e hf
      refine kX1_77 hx hb hml hts hown hG hI hS hl.1 (ly_sub_1_chain hL) (As := [.int (σ_2 171 6), .int (σ_2 171 5)]) (c_X0_repeatFrom l D cI cS Z K 174 (ly_sub_1_chain hL) (σ_2 171 6) (σ_2 171 5) σ_2 _ _ hr_3) ⟨(Nat.le_of_ble_eq_true rfl), (Nat.le_of_ble_eq_true rfl)⟩ rfl (Nat.le_of_ble_eq_true rfl) ⟨(Nat.le_of_ble_eq_true rfl), (Nat.le_of_ble_eq_true rfl)⟩ dX1_closeBrackets_30 (fun hzr_3 H locs hI hS => ?_)
      refine lv_if_ne (tgt := 38) hx hb dX1_closeBrackets_33 (by decide) (fun c_8 => ?_) (fun c_8 => ?_)
      · have hf := neg_e c_8 hf
        refine lv_aload_n hx hb dX1_closeBrackets_38 rfl (lv_at hl 0 rfl) ?_
        refine lv_iconst (v := 0) hx hb dX1_closeBrackets_39 (by decide) ?_
        obtain ⟨σ_5, eσ_5, hf⟩ := vl_e hf
        refine pX1_45 hx hb hts hown hG hI hS hL dX1_closeBrackets_40 (fun H locs hI hS => ?_)
        rw [← eσ_5] at hI
        refine lv_aload_n hx hb dX1_closeBrackets_43 rfl (lv_at hl 0 rfl) ?_
        refine lv_bipush (v := 41) hx hb dX1_closeBrackets_44 (by decide) ?_
        obtain ⟨r_6, σ_7, hr_6, hf⟩ := b2_e hf
        refine kX1_60 hx hb hml hts hown hG hI hS hl.1 hL (As := [.int 41]) (c_X1_take l D cI cS Z K hL 41 σ_5 _ _ hr_6) ⟨(Nat.le_of_ble_eq_true rfl), (Nat.le_of_ble_eq_true rfl)⟩ rfl (Nat.le_of_ble_eq_true rfl) ⟨(Nat.le_of_ble_eq_true rfl), (Nat.le_of_ble_eq_true rfl)⟩ dX1_closeBrackets_46 (fun hzr_6 H locs hI hS => ?_)
        obtain ⟨rfl, rfl⟩ := sp_e hf
        exact mm_zret hx hb hr hlocks hzr_6 hI hS dX1_closeBrackets_49
      · have hf := pos_e c_8 hf
        refine lv_iconst (v := 0) hx hb dX1_closeBrackets_36 (by decide) ?_
        obtain ⟨rfl, rfl⟩ := sp_e hf
        exact mm_zret hx hb hr hlocks (Or.inl rfl) hI hS dX1_closeBrackets_37
    · have hf := neg_e c_9 hf
      refine lv_iconst (v := 1) hx hb dX1_closeBrackets_16 (by decide) ?_
      obtain ⟨rfl, rfl⟩ := sp_e hf
      exact mm_zret hx hb hr hlocks (Or.inr rfl) hI hS dX1_closeBrackets_17
def b_X1_readChain_24  : Int32 × (Nat → Nat → Int32) → Option ((Int32 × (Nat → Nat → Int32)) ⊕ ((Int32 × (Nat → Nat → Int32)) ⊕ ((Nat → Nat → Int32))))
  | (y_6, σ_7) => if 120 ≤ y_6 then (some (.inr (.inl (0, σ_7)))) else (b2 (f_X1_openBrackets σ_7) fun r_29 σ_30 => if r_29 = 0 then (some (.inr (.inl (0, σ_30)))) else (b2 (f_X1_readBar σ_30) fun r_31 σ_32 => if r_31 = 0 then (some (.inr (.inl (0, σ_32)))) else (b2 (f_X1_closeBrackets σ_32) fun r_33 σ_34 => if r_33 = 0 then (some (.inr (.inl (0, σ_34)))) else (b2 (f_X1_take 59 σ_34) fun r_35 σ_36 => if r_35 = 0 then (some (.inr (.inr σ_36))) else (vl (y_6 + 1) fun x_37 => some (.inl (x_37, σ_36)))))))
def f_X1_readChain (a1 : Int32) (σ : Nat → Nat → Int32) : Option (Int32 × (Nat → Nat → Int32)) := vl (wr σ 171 4 a1) fun σ_1 => vl (wr σ_1 171 3 0) fun σ_2 => vl (wr σ_2 171 5 0) fun σ_3 => bi (f_X0_removeBars 174 σ_3) fun σ_5 => bi (lp (b_X1_readChain_24) FU (0, σ_5)) fun yy_43 => sm yy_43 (fun rv => some rv) fun σ_8 => if (σ_8 171 5) = 0 then (b2 (f_X1_peek σ_8) fun r_44 σ_45 => if r_44 = (-1) then (some (1, σ_45)) else (some (0, σ_45))) else (some (0, σ_8))
set_option maxHeartbeats 4000000 in
set_option maxRecDepth 100000 in
theorem c_X1_readChain (l : Launch) (D : va_G) (cI cS : ClassId) (Z : Nat) (K : Nat → Nat) (hL : ly K 171 lyReader) (a1 : Int32) (σ : Nat → Nat → Int32) (r : Int32) (σ' : Nat → Nat → Int32) (hf : f_X1_readChain a1 σ = some (r, σ')) : Met l yX1_readChain (wsT yX1_readChain cX1_readChain 3 (some .boolean)) { frames := 5, cells := 0, slots := 0, locals := 108 } (Pm D cI cS Z K [.ref (Z + 171), .int a1] σ) (Qz D cI cS Z K r σ') 0 0 (aZ Z) := by
  refine mm_met (lv := [(0, .ref (Z + 171)), (1, .int a1)]) (by decide) (Nat.le_of_ble_eq_true rfl) rfl ?_
  intro p e s m args below meth c ls hx hb hr hml hts hown hlocks hG hl hI hS
  have hown : s.vm.findClass RX1 = some m.cls := hown
  rw [f_X1_readChain] at hf
  refine lv_aload_n hx hb dX1_readChain_0 rfl (lv_at hl 0 rfl) ?_
  refine lv_iload_n hx hb dX1_readChain_1 rfl (lv_at hl 1 rfl) ?_
  obtain ⟨σ_1, eσ_1, hf⟩ := vl_e hf
  refine pX1_39 hx hb hts hown hG hI hS hL dX1_readChain_2 (fun H locs hI hS => ?_)
  rw [← eσ_1] at hI
  refine lv_aload_n hx hb dX1_readChain_5 rfl (lv_at hl 0 rfl) ?_
  refine lv_iconst (v := 0) hx hb dX1_readChain_6 (by decide) ?_
  obtain ⟨σ_2, eσ_2, hf⟩ := vl_e hf
  refine pX1_42 hx hb hts hown hG hI hS hL dX1_readChain_7 (fun H locs hI hS => ?_)
  rw [← eσ_2] at hI
  refine lv_aload_n hx hb dX1_readChain_10 rfl (lv_at hl 0 rfl) ?_
  refine lv_iconst (v := 0) hx hb dX1_readChain_11 (by decide) ?_
  obtain ⟨σ_3, eσ_3, hf⟩ := vl_e hf
  refine pX1_45 hx hb hts hown hG hI hS hL dX1_readChain_12 (fun H locs hI hS => ?_)
  rw [← eσ_3] at hI
  refine lv_aload_n hx hb dX1_readChain_15 rfl (lv_at hl 0 rfl) ?_
  refine gX1_23 (o' := 174) hx hb hts hown hG hI hL rfl dX1_readChain_16 ?_
  obtain ⟨σ_5, hσ_5, hf⟩ := bi_e hf
  refine kX1_48 hx hb hml hts hown hG hI hS hl.1 (ly_sub_1_chain hL) (As := []) (c_X0_removeBars l D cI cS Z K 174 (ly_sub_1_chain hL) σ_3 _ hσ_5) ⟨(Nat.le_of_ble_eq_true rfl), (Nat.le_of_ble_eq_true rfl)⟩ rfl (Nat.le_of_ble_eq_true rfl) ⟨(Nat.le_of_ble_eq_true rfl), (Nat.le_of_ble_eq_true rfl)⟩ dX1_readChain_19 (fun H locs hI hS => ?_)
  refine lv_iconst (v := 0) hx hb dX1_readChain_22 (by decide) ?_
  refine lv_istore_n (lv' := [(2, .int 0), (0, .ref (Z + 171)), (1, .int a1)]) hx hb dX1_readChain_23 rfl hl (by decide) rfl (fun ls hl => ?_)
  have L_10 : ∀ (nn : Nat) (y_6 : Int32) (σ_7 : Nat → Nat → Int32) (yy_43 : ((Int32 × (Nat → Nat → Int32)) ⊕ ((Nat → Nat → Int32)))), lp (b_X1_readChain_24) nn (y_6, σ_7) = some yy_43 → (∀ rv, yy_43 = .inl rv → some rv = some (r, σ')) → (∀ (σ_8 : Nat → Nat → Int32), yy_43 = .inr σ_8 → ∀ (H : Heap) (locs : List Loc) (ls : Array Slot), fI D cI cS Z K σ_8 H → va_S (aZ Z) s.heap H locs → lv_has ls 3 [(0, .ref (Z + 171))] → W p l e { frames := 5, cells := 0, slots := 0, locals := 108 } s m args below meth c H locs 0 0 (MQ below (Qz D cI cS Z K r σ') args s 0 0 (aZ Z)) (F0 m 62 ls [])) → ∀ (H : Heap) (locs : List Loc) (ls : Array Slot), fI D cI cS Z K σ_7 H → va_S (aZ Z) s.heap H locs → lv_has ls 3 [(0, .ref (Z + 171)), (2, .int y_6)] → W p l e { frames := 5, cells := 0, slots := 0, locals := 108 } s m args below meth c H locs 0 0 (MQ below (Qz D cI cS Z K r σ') args s 0 0 (aZ Z)) (F0 m 24 ls []) := by
    intro nn
    induction nn with
    | zero =>
      intro y_6 σ_7 yy_43 hq
      exact (lp_0 hq).elim
    | succ nn ih_11 =>
      intro y_6 σ_7 yy_43 hq hret_14 kn_13 H locs ls hI hS hl
      obtain ⟨wb_9, hf, hk_12⟩ := lp_e hq
      rw [b_X1_readChain_24] at hf
      have ih_11 := fun (y_6 : Int32) (σ_7 : Nat → Nat → Int32) q => ih_11 y_6 σ_7 yy_43 q hret_14 kn_13
      refine lv_iload_n hx hb dX1_readChain_24 rfl (lv_at hl 1 rfl) ?_
      refine lv_bipush (v := 120) hx hb dX1_readChain_25 (by decide) ?_
      refine lv_icmp_ge (tgt := 89) hx hb dX1_readChain_27 (by decide) (fun c_42 => ?_) (fun c_42 => ?_)
      · have hf := pos_e c_42 hf
        refine lv_iconst (v := 0) hx hb dX1_readChain_89 (by decide) ?_
        obtain rfl := so_e hf
        obtain rfl := lk_r hk_12
        have hf := hret_14 _ rfl
        obtain ⟨rfl, rfl⟩ := sp_e hf
        exact mm_zret hx hb hr hlocks (Or.inl rfl) hI hS dX1_readChain_90
      · have hf := neg_e c_42 hf
        refine lv_aload_n hx hb dX1_readChain_30 rfl (lv_at hl 0 rfl) ?_
        obtain ⟨r_29, σ_30, hr_29, hf⟩ := b2_e hf
        refine kX1_51 hx hb hml hts hown hG hI hS hl.1 hL (As := []) (c_X1_openBrackets l D cI cS Z K hL σ_7 _ _ hr_29) ⟨(Nat.le_of_ble_eq_true rfl), (Nat.le_of_ble_eq_true rfl)⟩ rfl (Nat.le_of_ble_eq_true rfl) ⟨(Nat.le_of_ble_eq_true rfl), (Nat.le_of_ble_eq_true rfl)⟩ dX1_readChain_31 (fun hzr_29 H locs hI hS => ?_)
        refine lv_if_eq (tgt := 51) hx hb dX1_readChain_34 (by decide) (fun c_41 => ?_) (fun c_41 => ?_)
        · have hf := pos_e c_41 hf
          refine lv_iconst (v := 0) hx hb dX1_readChain_51 (by decide) ?_
          obtain rfl := so_e hf
          obtain rfl := lk_r hk_12
          have hf := hret_14 _ rfl
          obtain ⟨rfl, rfl⟩ := sp_e hf
          exact mm_zret hx hb hr hlocks (Or.inl rfl) hI hS dX1_readChain_52
        · have hf := neg_e c_41 hf
          refine lv_aload_n hx hb dX1_readChain_37 rfl (lv_at hl 0 rfl) ?_
          obtain ⟨r_31, σ_32, hr_31, hf⟩ := b2_e hf
          refine kX1_54 hx hb hml hts hown hG hI hS hl.1 hL (As := []) (c_X1_readBar l D cI cS Z K hL σ_30 _ _ hr_31) ⟨(Nat.le_of_ble_eq_true rfl), (Nat.le_of_ble_eq_true rfl)⟩ rfl (Nat.le_of_ble_eq_true rfl) ⟨(Nat.le_of_ble_eq_true rfl), (Nat.le_of_ble_eq_true rfl)⟩ dX1_readChain_38 (fun hzr_31 H locs hI hS => ?_)
          refine lv_if_eq (tgt := 51) hx hb dX1_readChain_41 (by decide) (fun c_40 => ?_) (fun c_40 => ?_)
          · have hf := pos_e c_40 hf
            refine lv_iconst (v := 0) hx hb dX1_readChain_51 (by decide) ?_
            obtain rfl := so_e hf
            obtain rfl := lk_r hk_12
            have hf := hret_14 _ rfl
            obtain ⟨rfl, rfl⟩ := sp_e hf
            exact mm_zret hx hb hr hlocks (Or.inl rfl) hI hS dX1_readChain_52
          · have hf := neg_e c_40 hf
            refine lv_aload_n hx hb dX1_readChain_44 rfl (lv_at hl 0 rfl) ?_
            obtain ⟨r_33, σ_34, hr_33, hf⟩ := b2_e hf
            refine kX1_57 hx hb hml hts hown hG hI hS hl.1 hL (As := []) (c_X1_closeBrackets l D cI cS Z K hL σ_32 _ _ hr_33) ⟨(Nat.le_of_ble_eq_true rfl), (Nat.le_of_ble_eq_true rfl)⟩ rfl (Nat.le_of_ble_eq_true rfl) ⟨(Nat.le_of_ble_eq_true rfl), (Nat.le_of_ble_eq_true rfl)⟩ dX1_readChain_45 (fun hzr_33 H locs hI hS => ?_)
            refine lv_if_ne (tgt := 53) hx hb dX1_readChain_48 (by decide) (fun c_39 => ?_) (fun c_39 => ?_)
            · have hf := neg_e c_39 hf
              refine lv_aload_n hx hb dX1_readChain_53 rfl (lv_at hl 0 rfl) ?_
              refine lv_bipush (v := 59) hx hb dX1_readChain_54 (by decide) ?_
              obtain ⟨r_35, σ_36, hr_35, hf⟩ := b2_e hf
              refine kX1_60 hx hb hml hts hown hG hI hS hl.1 hL (As := [.int 59]) (c_X1_take l D cI cS Z K hL 59 σ_34 _ _ hr_35) ⟨(Nat.le_of_ble_eq_true rfl), (Nat.le_of_ble_eq_true rfl)⟩ rfl (Nat.le_of_ble_eq_true rfl) ⟨(Nat.le_of_ble_eq_true rfl), (Nat.le_of_ble_eq_true rfl)⟩ dX1_readChain_56 (fun hzr_35 H locs hI hS => ?_)
              refine lv_if_ne (tgt := 83) hx hb dX1_readChain_59 (by decide) (fun c_38 => ?_) (fun c_38 => ?_)
              · have hf := neg_e c_38 hf
                obtain ⟨x_37, ex_37, hf⟩ := vl_e hf
                refine lv_iinc (v := x_37) (lv' := [(2, .int x_37), (0, .ref (Z + 171))]) hx hb dX1_readChain_83 hl (k := 1) rfl (by rw [ex_37]; rfl) (by decide) rfl (fun ls hl => ?_)
                refine lv_goto (tgt := 24) hx hb dX1_readChain_86 (by decide) ?_
                obtain rfl := so_e hf
                exact ih_11 x_37 σ_36 hk_12 _ _ _ hI hS (lv_sub hl [1, 0] rfl)
              · have hf := pos_e c_38 hf
                obtain rfl := so_e hf
                obtain rfl := lk_r hk_12
                exact kn_13 _ rfl _ _ _ hI hS (lv_sub hl [0] rfl)
            · have hf := pos_e c_39 hf
              refine lv_iconst (v := 0) hx hb dX1_readChain_51 (by decide) ?_
              obtain rfl := so_e hf
              obtain rfl := lk_r hk_12
              have hf := hret_14 _ rfl
              obtain ⟨rfl, rfl⟩ := sp_e hf
              exact mm_zret hx hb hr hlocks (Or.inl rfl) hI hS dX1_readChain_52
  obtain ⟨yy_43, hy, hf⟩ := bi_e hf
  refine L_10 FU 0 σ_5 _ hy (fun rv hv => ?_) (fun σ_8 hv => ?_) _ _ _ hI hS (lv_sub hl [1, 0] rfl)
  · subst hv
    exact hf
  subst hv
  clear L_10
  intro H locs ls hI hS hl
  have hf := sm_e hf
  refine lv_aload_n hx hb dX1_readChain_62 rfl (lv_at hl 0 rfl) ?_
  refine gX1_45 hx hb hts hown hG hI hL dX1_readChain_63 ?_
  refine lv_if_ne (tgt := 81) hx hb dX1_readChain_66 (by decide) (fun c_47 => ?_) (fun c_47 => ?_)
  · have hf := neg_e c_47 hf
    refine lv_iconst (v := 0) hx hb dX1_readChain_81 (by decide) ?_
    obtain ⟨rfl, rfl⟩ := sp_e hf
    exact mm_zret hx hb hr hlocks (Or.inl rfl) hI hS dX1_readChain_82
  · have hf := pos_e c_47 hf
    refine lv_aload_n hx hb dX1_readChain_69 rfl (lv_at hl 0 rfl) ?_
    obtain ⟨r_44, σ_45, hr_44, hf⟩ := b2_e hf
    refine kX1_64 hx hb hml hts hown hG hI hS hl.1 hL (As := []) (c_X1_peek l D cI cS Z K hL σ_8 _ _ hr_44) ⟨(Nat.le_of_ble_eq_true rfl), (Nat.le_of_ble_eq_true rfl)⟩ rfl (Nat.le_of_ble_eq_true rfl) ⟨(Nat.le_of_ble_eq_true rfl), (Nat.le_of_ble_eq_true rfl)⟩ dX1_readChain_70 (fun H locs hI hS => ?_)
    refine lv_iconst (v := (-1)) hx hb dX1_readChain_73 (by decide) ?_
    refine lv_icmp_ne (tgt := 81) hx hb dX1_readChain_74 (by decide) (fun c_46 => ?_) (fun c_46 => ?_)
    · have hf := neg_e c_46 hf
      refine lv_iconst (v := 0) hx hb dX1_readChain_81 (by decide) ?_
      obtain ⟨rfl, rfl⟩ := sp_e hf
      exact mm_zret hx hb hr hlocks (Or.inl rfl) hI hS dX1_readChain_82
    · have hf := pos_e c_46 hf
      refine lv_iconst (v := 1) hx hb dX1_readChain_77 (by decide) ?_
      refine lv_goto (tgt := 82) hx hb dX1_readChain_78 (by decide) ?_
      obtain ⟨rfl, rfl⟩ := sp_e hf
      exact mm_zret hx hb hr hlocks (Or.inr rfl) hI hS dX1_readChain_82
def f_X1_isFull  (σ : Nat → Nat → Int32) : Option Int32 := if (σ 171 2) < 120 then (some 0) else (some 1)
set_option maxHeartbeats 4000000 in
set_option maxRecDepth 100000 in
theorem c_X1_isFull (l : Launch) (D : va_G) (cI cS : ClassId) (Z : Nat) (K : Nat → Nat) (hL : ly K 171 lyReader) (σ : Nat → Nat → Int32) (r : Int32) (hf : f_X1_isFull σ = some r) : Met l yX1_isFull (wsT yX1_isFull cX1_isFull 1 (some .boolean)) { frames := 0, cells := 0, slots := 0, locals := 0 } (Pm D cI cS Z K [.ref (Z + 171)] σ) (Qz D cI cS Z K r σ) 0 0 (aZ Z) := by
  refine mm_met (lv := [(0, .ref (Z + 171))]) (by decide) (Nat.le_of_ble_eq_true rfl) rfl ?_
  intro p e s m args below meth c ls hx hb hr hml hts hown hlocks hG hl hI hS
  have hown : s.vm.findClass RX1 = some m.cls := hown
  rw [f_X1_isFull] at hf
  refine lv_aload_n hx hb dX1_isFull_0 rfl (lv_at hl 0 rfl) ?_
  refine gX1_27 hx hb hts hown hG hI hL dX1_isFull_1 ?_
  refine lv_bipush (v := 120) hx hb dX1_isFull_4 (by decide) ?_
  refine lv_icmp_lt (tgt := 13) hx hb dX1_isFull_6 (by decide) (fun c_1 => ?_) (fun c_1 => ?_)
  · have hf := pos_e c_1 hf
    refine lv_iconst (v := 0) hx hb dX1_isFull_13 (by decide) ?_
    obtain rfl := so_e hf
    exact mm_zret hx hb hr hlocks (Or.inl rfl) hI hS dX1_isFull_14
  · have hf := neg_e c_1 hf
    refine lv_iconst (v := 1) hx hb dX1_isFull_9 (by decide) ?_
    refine lv_goto (tgt := 14) hx hb dX1_isFull_10 (by decide) ?_
    obtain rfl := so_e hf
    exact mm_zret hx hb hr hlocks (Or.inr rfl) hI hS dX1_isFull_14
def f_X1_addLast (a1 : Int32) (σ : Nat → Nat → Int32) : Option (Nat → Nat → Int32) := bi (f_X1_isFull σ) fun r_1 => if r_1 = 0 then (bi (f_X4_put 172 120 (σ 171 2) a1 σ) fun σ_3 => vl (wr σ_3 171 2 ((σ_3 171 2) + 1)) fun σ_4 => some σ_4) else (some σ)
set_option maxHeartbeats 4000000 in
set_option maxRecDepth 100000 in
theorem c_X1_addLast (l : Launch) (D : va_G) (cI cS : ClassId) (Z : Nat) (K : Nat → Nat) (hL : ly K 171 lyReader) (a1 : Int32) (σ : Nat → Nat → Int32) (σ' : Nat → Nat → Int32) (hf : f_X1_addLast a1 σ = some σ') : Met l yX1_addLast (wsT yX1_addLast cX1_addLast 2 none) { frames := 1, cells := 0, slots := 0, locals := 22 } (Pm D cI cS Z K [.ref (Z + 171), .int a1] σ) (Qv D cI cS Z K σ') 0 0 (aZ Z) := by
  refine mm_met (lv := [(0, .ref (Z + 171)), (1, .int a1)]) (by decide) (Nat.le_of_ble_eq_true rfl) rfl ?_
  intro p e s m args below meth c ls hx hb hr hml hts hown hlocks hG hl hI hS
  have hown : s.vm.findClass RX1 = some m.cls := hown
  rw [f_X1_addLast] at hf
  refine lv_aload_n hx hb dX1_addLast_0 rfl (lv_at hl 0 rfl) ?_
  obtain ⟨r_1, hr_1, hf⟩ := bi_e hf
  refine kX1_31 hx hb hml hts hown hG hI hS hl.1 hL (As := []) (c_X1_isFull l D cI cS Z K hL σ _ hr_1) ⟨(Nat.le_of_ble_eq_true rfl), (Nat.le_of_ble_eq_true rfl)⟩ rfl (Nat.le_of_ble_eq_true rfl) ⟨(Nat.le_of_ble_eq_true rfl), (Nat.le_of_ble_eq_true rfl)⟩ dX1_addLast_1 (fun hzr_1 H locs hI hS => ?_)
  refine lv_if_ne (tgt := 29) hx hb dX1_addLast_4 (by decide) (fun c_5 => ?_) (fun c_5 => ?_)
  · have hf := neg_e c_5 hf
    obtain rfl := so_e hf
    exact mm_vret hx hb hr hlocks hI hS dX1_addLast_29
  · have hf := pos_e c_5 hf
    refine lv_aload_n hx hb dX1_addLast_7 rfl (lv_at hl 0 rfl) ?_
    refine gX1_14 (o' := 172) hx hb hts hown hG hI hL rfl dX1_addLast_8 ?_
    refine lv_aload_n hx hb dX1_addLast_11 rfl (lv_at hl 0 rfl) ?_
    refine gX1_27 hx hb hts hown hG hI hL dX1_addLast_12 ?_
    refine lv_iload_n hx hb dX1_addLast_15 rfl (lv_at hl 1 rfl) ?_
    obtain ⟨σ_3, hσ_3, hf⟩ := bi_e hf
    refine kX1_35 hx hb hml hts hown hG hI hS hl.1 (ly_sub_1_text hL) (As := [.int (σ 171 2), .int a1]) (c_X4_put l D cI cS Z K 172 120 (ly_sub_1_text hL) (σ 171 2) a1 σ _ hσ_3) ⟨(Nat.le_of_ble_eq_true rfl), (Nat.le_of_ble_eq_true rfl)⟩ rfl (Nat.le_of_ble_eq_true rfl) ⟨(Nat.le_of_ble_eq_true rfl), (Nat.le_of_ble_eq_true rfl)⟩ dX1_addLast_16 (fun H locs hI hS => ?_)
    refine lv_aload_n hx hb dX1_addLast_19 rfl (lv_at hl 0 rfl) ?_
    refine lv_dup hx hb dX1_addLast_20 rfl ?_
    refine gX1_27 hx hb hts hown hG hI hL dX1_addLast_21 ?_
    refine lv_iconst (v := 1) hx hb dX1_addLast_24 (by decide) ?_
    refine lv_iadd hx hb dX1_addLast_25 ?_
    obtain ⟨σ_4, eσ_4, hf⟩ := vl_e hf
    refine pX1_27 hx hb hts hown hG hI hS hL dX1_addLast_26 (fun H locs hI hS => ?_)
    rw [← eσ_4] at hI
    obtain rfl := so_e hf
    exact mm_vret hx hb hr hlocks hI hS dX1_addLast_29
