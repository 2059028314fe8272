/-! 05.num: mirrored programs and contracts (written by wip/p29/gen.py) -/
def f_J6_bitCount (a1 : Int32) (σ : Nat → Nat → Int32) : Option Int32 := vl (a1 - ((usr a1 1) &&& 1431655765)) fun x_1 => vl ((x_1 &&& 858993459) + ((usr x_1 2) &&& 858993459)) fun x_2 => vl ((x_2 + (usr x_2 4)) &&& 252645135) fun x_3 => vl (x_3 + (usr x_3 8)) fun x_4 => vl (x_4 + (usr x_4 16)) fun x_5 => some (x_5 &&& 63)
set_option maxHeartbeats 4000000 in
set_option maxRecDepth 100000 in
theorem c_J6_bitCount (l : Launch) (D : va_G) (cI cS : ClassId) (Z : Nat) (K : Nat → Nat) (a1 : Int32) (σ : Nat → Nat → Int32) (r : Int32) (hf : f_J6_bitCount a1 σ = some r) : Met l yJ6_bitCount_0f7a4 (wsT yJ6_bitCount_0f7a4 cJ6_bitCount_0f7a4 1 (some .int)) { frames := 0, cells := 0, slots := 0, locals := 0 } (Pm D cI cS Z K [.int a1] σ) (Qi D cI cS Z K r σ) 0 0 (aZ Z) := by
  refine mm_met (lv := [(0, .int a1)]) (by decide) (Nat.le_of_ble_eq_true rfl) rfl ?_
  intro p e s m args below meth c ls hx hb hr hml hts hown hlocks hG hl hI hS
  have hown : s.vm.findClass RJ6 = some m.cls := hown
  rw [f_J6_bitCount] at hf
  refine lv_iload_n hx hb dJ6_bitCount_0f7a4_0 rfl (lv_at hl 0 rfl) ?_
  refine lv_iload_n hx hb dJ6_bitCount_0f7a4_1 rfl (lv_at hl 0 rfl) ?_
  refine lv_iconst (v := 1) hx hb dJ6_bitCount_0f7a4_2 (by decide) ?_
  refine lv_iushr (v := usr a1 1) hx hb dJ6_bitCount_0f7a4_3 rfl ?_
  refine lv_ldcw (v := 1431655765) hx hb hown (hts _ (mT11 _ (List.mem_of_getElem? (i := 9) rfl))) dJ6_bitCount_0f7a4_4 ?_
  refine lv_iand hx hb dJ6_bitCount_0f7a4_7 ?_
  refine lv_isub hx hb dJ6_bitCount_0f7a4_8 ?_
  obtain ⟨x_1, ex_1, hf⟩ := vl_e hf
  refine mm_name ex_1 ?_
  refine lv_istore_n (lv' := [(0, .int x_1)]) hx hb dJ6_bitCount_0f7a4_9 rfl hl (by decide) rfl (fun ls hl => ?_)
  refine lv_iload_n hx hb dJ6_bitCount_0f7a4_10 rfl (lv_at hl 0 rfl) ?_
  refine lv_ldcw (v := 858993459) hx hb hown (hts _ (mT11 _ (List.mem_of_getElem? (i := 10) rfl))) dJ6_bitCount_0f7a4_11 ?_
  refine lv_iand hx hb dJ6_bitCount_0f7a4_14 ?_
  refine lv_iload_n hx hb dJ6_bitCount_0f7a4_15 rfl (lv_at hl 0 rfl) ?_
  refine lv_iconst (v := 2) hx hb dJ6_bitCount_0f7a4_16 (by decide) ?_
  refine lv_iushr (v := usr x_1 2) hx hb dJ6_bitCount_0f7a4_17 rfl ?_
  refine lv_ldcw (v := 858993459) hx hb hown (hts _ (mT11 _ (List.mem_of_getElem? (i := 10) rfl))) dJ6_bitCount_0f7a4_18 ?_
  refine lv_iand hx hb dJ6_bitCount_0f7a4_21 ?_
  refine lv_iadd hx hb dJ6_bitCount_0f7a4_22 ?_
  obtain ⟨x_2, ex_2, hf⟩ := vl_e hf
  refine mm_name ex_2 ?_
  refine lv_istore_n (lv' := [(0, .int x_2)]) hx hb dJ6_bitCount_0f7a4_23 rfl hl (by decide) rfl (fun ls hl => ?_)
  refine lv_iload_n hx hb dJ6_bitCount_0f7a4_24 rfl (lv_at hl 0 rfl) ?_
  refine lv_iload_n hx hb dJ6_bitCount_0f7a4_25 rfl (lv_at hl 0 rfl) ?_
  refine lv_iconst (v := 4) hx hb dJ6_bitCount_0f7a4_26 (by decide) ?_
  refine lv_iushr (v := usr x_2 4) hx hb dJ6_bitCount_0f7a4_27 rfl ?_
  refine lv_iadd hx hb dJ6_bitCount_0f7a4_28 ?_
  refine lv_ldcw (v := 252645135) hx hb hown (hts _ (mT11 _ (List.mem_of_getElem? (i := 11) rfl))) dJ6_bitCount_0f7a4_29 ?_
  refine lv_iand hx hb dJ6_bitCount_0f7a4_32 ?_
  obtain ⟨x_3, ex_3, hf⟩ := vl_e hf
  refine mm_name ex_3 ?_
  refine lv_istore_n (lv' := [(0, .int x_3)]) hx hb dJ6_bitCount_0f7a4_33 rfl hl (by decide) rfl (fun ls hl => ?_)
  refine lv_iload_n hx hb dJ6_bitCount_0f7a4_34 rfl (lv_at hl 0 rfl) ?_
  refine lv_iload_n hx hb dJ6_bitCount_0f7a4_35 rfl (lv_at hl 0 rfl) ?_
  refine lv_bipush (v := 8) hx hb dJ6_bitCount_0f7a4_36 (by decide) ?_
  refine lv_iushr (v := usr x_3 8) hx hb dJ6_bitCount_0f7a4_38 rfl ?_
  refine lv_iadd hx hb dJ6_bitCount_0f7a4_39 ?_
  obtain ⟨x_4, ex_4, hf⟩ := vl_e hf
  refine mm_name ex_4 ?_
  refine lv_istore_n (lv' := [(0, .int x_4)]) hx hb dJ6_bitCount_0f7a4_40 rfl hl (by decide) rfl (fun ls hl => ?_)
  refine lv_iload_n hx hb dJ6_bitCount_0f7a4_41 rfl (lv_at hl 0 rfl) ?_
  refine lv_iload_n hx hb dJ6_bitCount_0f7a4_42 rfl (lv_at hl 0 rfl) ?_
  refine lv_bipush (v := 16) hx hb dJ6_bitCount_0f7a4_43 (by decide) ?_
  refine lv_iushr (v := usr x_4 16) hx hb dJ6_bitCount_0f7a4_45 rfl ?_
  refine lv_iadd hx hb dJ6_bitCount_0f7a4_46 ?_
  obtain ⟨x_5, ex_5, hf⟩ := vl_e hf
  refine mm_name ex_5 ?_
  refine lv_istore_n (lv' := [(0, .int x_5)]) hx hb dJ6_bitCount_0f7a4_47 rfl hl (by decide) rfl (fun ls hl => ?_)
  refine lv_iload_n hx hb dJ6_bitCount_0f7a4_48 rfl (lv_at hl 0 rfl) ?_
  refine lv_bipush (v := 63) hx hb dJ6_bitCount_0f7a4_49 (by decide) ?_
  refine lv_iand hx hb dJ6_bitCount_0f7a4_51 ?_
  obtain rfl := so_e hf
  exact mm_ret hx hb hr hlocks rfl hI hS dJ6_bitCount_0f7a4_52
def f_X7_isBetween (a1 : Int32) (a2 : Int32) (a3 : Int32) (σ : Nat → Nat → Int32) : Option Int32 := if a1 < a2 then (some 0) else (if a3 < a1 then (some 0) else (some 1))
set_option maxHeartbeats 4000000 in
set_option maxRecDepth 100000 in
theorem c_X7_isBetween (l : Launch) (D : va_G) (cI cS : ClassId) (Z : Nat) (K : Nat → Nat) (a1 : Int32) (a2 : Int32) (a3 : Int32) (σ : Nat → Nat → Int32) (r : Int32) (hf : f_X7_isBetween a1 a2 a3 σ = some r) : Met l yX7_isBetween (wsT yX7_isBetween cX7_isBetween 3 (some .boolean)) { frames := 0, cells := 0, slots := 0, locals := 0 } (Pm D cI cS Z K [.int a1, .int a2, .int a3] σ) (Qz D cI cS Z K r σ) 0 0 (aZ Z) := by
  refine mm_met (lv := [(0, .int a1), (1, .int a2), (2, .int a3)]) (by decide) (Nat.le_of_ble_eq_true rfl) rfl ?_
  intro p e s m args below meth c ls hx hb hr hml hts hown hlocks hG hl hI hS
  have hown : s.vm.findClass RX7 = some m.cls := hown
  rw [f_X7_isBetween] at hf
  refine lv_iload_n hx hb dX7_isBetween_0 rfl (lv_at hl 0 rfl) ?_
  refine lv_iload_n hx hb dX7_isBetween_1 rfl (lv_at hl 1 rfl) ?_
  refine lv_icmp_lt (tgt := 14) hx hb dX7_isBetween_2 (by decide) (fun c_2 => ?_) (fun c_2 => ?_)
  · have hf := pos_e c_2 hf
    refine lv_iconst (v := 0) hx hb dX7_isBetween_14 (by decide) ?_
    obtain rfl := so_e hf
    exact mm_zret hx hb hr hlocks (Or.inl rfl) hI hS dX7_isBetween_15
  · have hf := neg_e c_2 hf
    refine lv_iload_n hx hb dX7_isBetween_5 rfl (lv_at hl 0 rfl) ?_
    refine lv_iload_n hx hb dX7_isBetween_6 rfl (lv_at hl 2 rfl) ?_
    refine lv_icmp_gt (tgt := 14) hx hb dX7_isBetween_7 (by decide) (fun c_1 => ?_) (fun c_1 => ?_)
    · have hf := pos_e c_1 hf
      refine lv_iconst (v := 0) hx hb dX7_isBetween_14 (by decide) ?_
      obtain rfl := so_e hf
      exact mm_zret hx hb hr hlocks (Or.inl rfl) hI hS dX7_isBetween_15
    · have hf := neg_e c_1 hf
      refine lv_iconst (v := 1) hx hb dX7_isBetween_10 (by decide) ?_
      refine lv_goto (tgt := 15) hx hb dX7_isBetween_11 (by decide) ?_
      obtain rfl := so_e hf
      exact mm_zret hx hb hr hlocks (Or.inr rfl) hI hS dX7_isBetween_15
def f_X7_isColor (a1 : Int32) (σ : Nat → Nat → Int32) : Option Int32 := bi (f_X7_isBetween a1 0 9 σ) fun r_1 => some r_1
set_option maxHeartbeats 4000000 in
set_option maxRecDepth 100000 in
theorem c_X7_isColor (l : Launch) (D : va_G) (cI cS : ClassId) (Z : Nat) (K : Nat → Nat) (a1 : Int32) (σ : Nat → Nat → Int32) (r : Int32) (hf : f_X7_isColor a1 σ = some r) : Met l yX7_isColor (wsT yX7_isColor cX7_isColor 1 (some .boolean)) { frames := 1, cells := 0, slots := 0, locals := 22 } (Pm D cI cS Z K [.int a1] σ) (Qz D cI cS Z K r σ) 0 0 (aZ Z) := by
  refine mm_met (lv := [(0, .int a1)]) (by decide) (Nat.le_of_ble_eq_true rfl) rfl ?_
  intro p e s m args below meth c ls hx hb hr hml hts hown hlocks hG hl hI hS
  have hown : s.vm.findClass RX7 = some m.cls := hown
  rw [f_X7_isColor] at hf
  refine lv_iload_n hx hb dX7_isColor_0 rfl (lv_at hl 0 rfl) ?_
  refine lv_iconst (v := 0) hx hb dX7_isColor_1 (by decide) ?_
  refine lv_bipush (v := 9) hx hb dX7_isColor_2 (by decide) ?_
  obtain ⟨r_1, hr_1, hf⟩ := bi_e hf
  refine kX7_42 hx hb hml hts hown hG hI hS hl.1 (As := [.int a1, .int 0, .int 9]) (c_X7_isBetween l D cI cS Z K a1 0 9 σ _ hr_1) ⟨(Nat.le_of_ble_eq_true rfl), (Nat.le_of_ble_eq_true rfl)⟩ rfl (Nat.le_of_ble_eq_true rfl) ⟨(Nat.le_of_ble_eq_true rfl), (Nat.le_of_ble_eq_true rfl)⟩ dX7_isColor_4 (fun hzr_1 H locs hI hS => ?_)
  obtain rfl := so_e hf
  exact mm_zret hx hb hr hlocks hzr_1 hI hS dX7_isColor_7
def f_X4_copyFrom (o : Nat) (n : Nat) (o2 : Nat) (n2 : Nat) (σ : Nat → Nat → Int32) : Option (Nat → Nat → Int32) := cg (imin (nI n) (nI n2)) n2 n <| vl (wc σ (o + 1) (o2 + 1) (imin (nI n) (nI n2)).toNatClampNeg) fun σ_1 => some σ_1
set_option maxHeartbeats 4000000 in
set_option maxRecDepth 100000 in
theorem c_X4_copyFrom (l : Launch) (D : va_G) (cI cS : ClassId) (Z : Nat) (K : Nat → Nat) (o : Nat) (n : Nat) (hL : ly K o (lyNum n)) (o2 : Nat) (n2 : Nat) (hL2 : ly K o2 (lyNum n2)) (σ : Nat → Nat → Int32) (σ' : Nat → Nat → Int32) (hne : o ≠ o2) (hf : f_X4_copyFrom o n o2 n2 σ = some σ') : Met l yX4_copyFrom (wsT yX4_copyFrom cX4_copyFrom 2 none) { frames := 1, cells := 0, slots := 0, locals := 40 } (Pm D cI cS Z K [.ref (Z + o), .ref (Z + o2)] σ) (Qv D cI cS Z K σ') 0 0 (aZ Z) := by
  refine mm_met (lv := [(0, .ref (Z + o)), (1, .ref (Z + o2))]) (by decide) (Nat.le_of_ble_eq_true rfl) rfl ?_
  intro p e s m args below meth c ls hx hb hr hml hts hown hlocks hG hl hI hS
  have hown : s.vm.findClass RX4 = some m.cls := hown
  rw [f_X4_copyFrom] at hf
  refine lv_aload_n hx hb dX4_copyFrom_0 rfl (lv_at hl 1 rfl) ?_
  refine gX4_13 (o' := (o2 + 1)) hx hb hts hown hG hI hL2 rfl dX4_copyFrom_1 ?_
  refine lv_iconst (v := 0) hx hb dX4_copyFrom_4 (by decide) ?_
  refine lv_aload_n hx hb dX4_copyFrom_5 rfl (lv_at hl 0 rfl) ?_
  refine gX4_13 (o' := (o + 1)) hx hb hts hown hG hI hL rfl dX4_copyFrom_6 ?_
  refine lv_iconst (v := 0) hx hb dX4_copyFrom_9 (by decide) ?_
  refine lv_aload_n hx hb dX4_copyFrom_10 rfl (lv_at hl 0 rfl) ?_
  refine gX4_13 (o' := (o + 1)) hx hb hts hown hG hI hL rfl dX4_copyFrom_11 ?_
  refine mm_alen hx hb hG hI (ly_at hL 1 rfl) dX4_copyFrom_14 ?_
  refine lv_aload_n hx hb dX4_copyFrom_15 rfl (lv_at hl 1 rfl) ?_
  refine gX4_13 (o' := (o2 + 1)) hx hb hts hown hG hI hL2 rfl dX4_copyFrom_16 ?_
  refine mm_alen hx hb hG hI (ly_at hL2 1 rfl) dX4_copyFrom_19 ?_
  refine va_mmin hx hb (hml.trans hl.1.symm) hown (hts _ (mT8 _ (List.mem_of_getElem? (i := 9) rfl))) (hts _ (mT7 _ (List.mem_of_getElem? (i := 15) rfl))) (hts _ (mT3 _ (List.mem_of_getElem? (i := 9) rfl))) (hts _ (mT7 _ (List.mem_of_getElem? (i := 16) rfl))) (Nat.le_of_ble_eq_true rfl) (Nat.le_of_ble_eq_true rfl) (Nat.le_of_ble_eq_true rfl) (Nat.le_of_ble_eq_true rfl) dX4_copyFrom_20 ?_
  refine mm_name (x := imin (nI n) (nI n2)) rfl ?_
  obtain ⟨h3, h4, h5, hf⟩ := cg_e hf
  obtain ⟨σ_1, eσ_1, hf⟩ := vl_e hf
  refine mm_copy hx hb hts (hml.trans hl.1.symm) hown hG hI hS (ly_at hL 1 rfl) (ly_at hL2 1 rfl) (by omega) (mT8 _ (List.mem_of_getElem? (i := 10) rfl)) (mT8 _ (List.mem_of_getElem? (i := 11) rfl)) (mT8 _ (List.mem_of_getElem? (i := 12) rfl)) (mT8 _ (List.mem_of_getElem? (i := 13) rfl)) rfl rfl h3 h4 h5 (Nat.le_of_ble_eq_true rfl) (by decide) dX4_copyFrom_23 (fun H locs hI hS => ?_)
  rw [← eσ_1] at hI
  obtain rfl := so_e hf
  exact mm_vret hx hb hr hlocks hI hS dX4_copyFrom_26
def f_X4_at (o : Nat) (n : Nat) (a1 : Int32) (σ : Nat → Nat → Int32) : Option Int32 := if a1 < 0 then (some 0) else (if (nI n) ≤ a1 then (some 0) else (ix a1 n <| some (σ (o + 1) a1.toNatClampNeg)))
set_option maxHeartbeats 4000000 in
set_option maxRecDepth 100000 in
theorem c_X4_at (l : Launch) (D : va_G) (cI cS : ClassId) (Z : Nat) (K : Nat → Nat) (o : Nat) (n : Nat) (hL : ly K o (lyNum n)) (a1 : Int32) (σ : Nat → Nat → Int32) (r : Int32) (hf : f_X4_at o n a1 σ = some r) : Met l yX4_at (wsT yX4_at cX4_at 2 (some .int)) { frames := 0, cells := 0, slots := 0, locals := 0 } (Pm D cI cS Z K [.ref (Z + o), .int a1] σ) (Qi D cI cS Z K r σ) 0 0 (aZ Z) := by
  refine mm_met (lv := [(0, .ref (Z + o)), (1, .int a1)]) (by decide) (Nat.le_of_ble_eq_true rfl) rfl ?_
  intro p e s m args below meth c ls hx hb hr hml hts hown hlocks hG hl hI hS
  have hown : s.vm.findClass RX4 = some m.cls := hown
  rw [f_X4_at] at hf
  refine lv_iload_n hx hb dX4_at_0 rfl (lv_at hl 1 rfl) ?_
  refine lv_if_lt (tgt := 22) hx hb dX4_at_1 (by decide) (fun c_2 => ?_) (fun c_2 => ?_)
  · have hf := pos_e c_2 hf
    refine lv_iconst (v := 0) hx hb dX4_at_22 (by decide) ?_
    obtain rfl := so_e hf
    exact mm_ret hx hb hr hlocks rfl hI hS dX4_at_23
  · have hf := neg_e c_2 hf
    refine lv_iload_n hx hb dX4_at_4 rfl (lv_at hl 1 rfl) ?_
    refine lv_aload_n hx hb dX4_at_5 rfl (lv_at hl 0 rfl) ?_
    refine gX4_13 (o' := (o + 1)) hx hb hts hown hG hI hL rfl dX4_at_6 ?_
    refine mm_alen hx hb hG hI (ly_at hL 1 rfl) dX4_at_9 ?_
    refine lv_icmp_ge (tgt := 22) hx hb dX4_at_10 (by decide) (fun c_1 => ?_) (fun c_1 => ?_)
    · have hf := pos_e c_1 hf
      refine lv_iconst (v := 0) hx hb dX4_at_22 (by decide) ?_
      obtain rfl := so_e hf
      exact mm_ret hx hb hr hlocks rfl hI hS dX4_at_23
    · have hf := neg_e c_1 hf
      refine lv_aload_n hx hb dX4_at_13 rfl (lv_at hl 0 rfl) ?_
      refine gX4_13 (o' := (o + 1)) hx hb hts hown hG hI hL rfl dX4_at_14 ?_
      refine lv_iload_n hx hb dX4_at_17 rfl (lv_at hl 1 rfl) ?_
      obtain ⟨hix, hf⟩ := ix_e hf
      refine mm_ald hx hb hG hI (ly_at hL 1 rfl) hix rfl dX4_at_18 ?_
      refine lv_goto (tgt := 23) hx hb dX4_at_19 (by decide) ?_
      obtain rfl := so_e hf
      exact mm_ret hx hb hr hlocks rfl hI hS dX4_at_23
def f_X4_put (o : Nat) (n : Nat) (a1 : Int32) (a2 : Int32) (σ : Nat → Nat → Int32) : Option (Nat → Nat → Int32) := if a1 < 0 then (some σ) else (if (nI n) ≤ a1 then (some σ) else (ix a1 n <| vl (wr σ (o + 1) a1.toNatClampNeg a2) fun σ_1 => some σ_1))
set_option maxHeartbeats 4000000 in
set_option maxRecDepth 100000 in
theorem c_X4_put (l : Launch) (D : va_G) (cI cS : ClassId) (Z : Nat) (K : Nat → Nat) (o : Nat) (n : Nat) (hL : ly K o (lyNum n)) (a1 : Int32) (a2 : Int32) (σ : Nat → Nat → Int32) (σ' : Nat → Nat → Int32) (hf : f_X4_put o n a1 a2 σ = some σ') : Met l yX4_put (wsT yX4_put cX4_put 3 none) { frames := 0, cells := 0, slots := 0, locals := 0 } (Pm D cI cS Z K [.ref (Z + o), .int a1, .int a2] σ) (Qv D cI cS Z K σ') 0 0 (aZ Z) := by
  refine mm_met (lv := [(0, .ref (Z + o)), (1, .int a1), (2, .int a2)]) (by decide) (Nat.le_of_ble_eq_true rfl) rfl ?_
  intro p e s m args below meth c ls hx hb hr hml hts hown hlocks hG hl hI hS
  have hown : s.vm.findClass RX4 = some m.cls := hown
  rw [f_X4_put] at hf
  refine lv_iload_n hx hb dX4_put_0 rfl (lv_at hl 1 rfl) ?_
  refine lv_if_lt (tgt := 20) hx hb dX4_put_1 (by decide) (fun c_3 => ?_) (fun c_3 => ?_)
  · have hf := pos_e c_3 hf
    obtain rfl := so_e hf
    exact mm_vret hx hb hr hlocks hI hS dX4_put_20
  · have hf := neg_e c_3 hf
    refine lv_iload_n hx hb dX4_put_4 rfl (lv_at hl 1 rfl) ?_
    refine lv_aload_n hx hb dX4_put_5 rfl (lv_at hl 0 rfl) ?_
    refine gX4_13 (o' := (o + 1)) hx hb hts hown hG hI hL rfl dX4_put_6 ?_
    refine mm_alen hx hb hG hI (ly_at hL 1 rfl) dX4_put_9 ?_
    refine lv_icmp_ge (tgt := 20) hx hb dX4_put_10 (by decide) (fun c_2 => ?_) (fun c_2 => ?_)
    · have hf := pos_e c_2 hf
      obtain rfl := so_e hf
      exact mm_vret hx hb hr hlocks hI hS dX4_put_20
    · have hf := neg_e c_2 hf
      refine lv_aload_n hx hb dX4_put_13 rfl (lv_at hl 0 rfl) ?_
      refine gX4_13 (o' := (o + 1)) hx hb hts hown hG hI hL rfl dX4_put_14 ?_
      refine lv_iload_n hx hb dX4_put_17 rfl (lv_at hl 1 rfl) ?_
      refine lv_iload_n hx hb dX4_put_18 rfl (lv_at hl 2 rfl) ?_
      obtain ⟨hix, hf⟩ := ix_e hf
      obtain ⟨σ_1, eσ_1, hf⟩ := vl_e hf
      refine mm_ast hx hb hG hI hS (ly_at hL 1 rfl) hix rfl dX4_put_19 (fun H locs hI hS => ?_)
      rw [← eσ_1] at hI
      obtain rfl := so_e hf
      exact mm_vret hx hb hr hlocks hI hS dX4_put_20
def b_X4_putAll_2 (o : Nat) (n : Nat) (a1 : Int32) : Int32 × (Nat → Nat → Int32) → Option ((Int32 × (Nat → Nat → Int32)) ⊕ ((Nat → Nat → Int32)))
  | (y_1, σ_2) => if (nI n) ≤ y_1 then (some (.inr σ_2)) else (ix y_1 n <| vl (wr σ_2 (o + 1) y_1.toNatClampNeg a1) fun σ_13 => vl (y_1 + 1) fun x_14 => some (.inl (x_14, σ_13)))
def f_X4_putAll (o : Nat) (n : Nat) (a1 : Int32) (σ : Nat → Nat → Int32) : Option (Nat → Nat → Int32) := bi (lp (b_X4_putAll_2 o n a1) FU (0, σ)) fun σ_3 => some σ_3
set_option maxHeartbeats 4000000 in
set_option maxRecDepth 100000 in
theorem c_X4_putAll (l : Launch) (D : va_G) (cI cS : ClassId) (Z : Nat) (K : Nat → Nat) (o : Nat) (n : Nat) (hL : ly K o (lyNum n)) (a1 : Int32) (σ : Nat → Nat → Int32) (σ' : Nat → Nat → Int32) (hf : f_X4_putAll o n a1 σ = some σ') : Met l yX4_putAll (wsT yX4_putAll cX4_putAll 3 none) { frames := 0, cells := 0, slots := 0, locals := 0 } (Pm D cI cS Z K [.ref (Z + o), .int a1] σ) (Qv D cI cS Z K σ') 0 0 (aZ Z) := by
  refine mm_met (lv := [(0, .ref (Z + o)), (1, .int a1)]) (by decide) (Nat.le_of_ble_eq_true rfl) rfl ?_
  intro p e s m args below meth c ls hx hb hr hml hts hown hlocks hG hl hI hS
  have hown : s.vm.findClass RX4 = some m.cls := hown
  rw [f_X4_putAll] at hf
  refine lv_iconst (v := 0) hx hb dX4_putAll_0 (by decide) ?_
  refine lv_istore_n (lv' := [(2, .int 0), (0, .ref (Z + o)), (1, .int a1)]) hx hb dX4_putAll_1 rfl hl (by decide) rfl (fun ls hl => ?_)
  have L_5 : ∀ (nn : Nat) (y_1 : Int32) (σ_2 : Nat → Nat → Int32) (σ_3 : Nat → Nat → Int32), lp (b_X4_putAll_2 o n a1) nn (y_1, σ_2) = some σ_3 → (∀ (H : Heap) (locs : List Loc) (ls : Array Slot), fI D cI cS Z K σ_3 H → va_S (aZ Z) s.heap H locs → lv_has ls 3 [] → W p l e { frames := 0, cells := 0, slots := 0, locals := 0 } s m args below meth c H locs 0 0 (MQ below (Qv D cI cS Z K σ') args s 0 0 (aZ Z)) (F0 m 24 ls [])) → ∀ (H : Heap) (locs : List Loc) (ls : Array Slot), fI D cI cS Z K σ_2 H → va_S (aZ Z) s.heap H locs → lv_has ls 3 [(0, .ref (Z + o)), (1, .int a1), (2, .int y_1)] → W p l e { frames := 0, cells := 0, slots := 0, locals := 0 } s m args below meth c H locs 0 0 (MQ below (Qv D cI cS Z K σ') args s 0 0 (aZ Z)) (F0 m 2 ls []) := by
    intro nn
    induction nn with
    | zero =>
      intro y_1 σ_2 σ_3 hq
      exact (lp_0 hq).elim
    | succ nn ih_6 =>
      intro y_1 σ_2 σ_3 hq kn_8 H locs ls hI hS hl
      obtain ⟨wb_4, hf, hk_7⟩ := lp_e hq
      rw [b_X4_putAll_2] at hf
      have ih_6 := fun (y_1 : Int32) (σ_2 : Nat → Nat → Int32) q => ih_6 y_1 σ_2 σ_3 q kn_8
      refine lv_iload_n hx hb dX4_putAll_2 rfl (lv_at hl 2 rfl) ?_
      refine lv_aload_n hx hb dX4_putAll_3 rfl (lv_at hl 0 rfl) ?_
      refine gX4_13 (o' := (o + 1)) hx hb hts hown hG hI hL rfl dX4_putAll_4 ?_
      refine mm_alen hx hb hG hI (ly_at hL 1 rfl) dX4_putAll_7 ?_
      refine lv_icmp_ge (tgt := 24) hx hb dX4_putAll_8 (by decide) (fun c_15 => ?_) (fun c_15 => ?_)
      · have hf := pos_e c_15 hf
        obtain rfl := so_e hf
        obtain rfl := lk_r hk_7
        exact kn_8 _ _ _ hI hS (lv_sub hl [] rfl)
      · have hf := neg_e c_15 hf
        refine lv_aload_n hx hb dX4_putAll_11 rfl (lv_at hl 0 rfl) ?_
        refine gX4_13 (o' := (o + 1)) hx hb hts hown hG hI hL rfl dX4_putAll_12 ?_
        refine lv_iload_n hx hb dX4_putAll_15 rfl (lv_at hl 2 rfl) ?_
        refine lv_iload_n hx hb dX4_putAll_16 rfl (lv_at hl 1 rfl) ?_
        obtain ⟨hix, hf⟩ := ix_e hf
        obtain ⟨σ_13, eσ_13, hf⟩ := vl_e hf
        refine mm_ast hx hb hG hI hS (ly_at hL 1 rfl) hix rfl dX4_putAll_17 (fun H locs hI hS => ?_)
        rw [← eσ_13] at hI
        obtain ⟨x_14, ex_14, hf⟩ := vl_e hf
        refine lv_iinc (v := x_14) (lv' := [(2, .int x_14), (0, .ref (Z + o)), (1, .int a1)]) hx hb dX4_putAll_18 hl (k := 2) rfl (by rw [ex_14]; rfl) (by decide) rfl (fun ls hl => ?_)
        refine lv_goto (tgt := 2) hx hb dX4_putAll_21 (by decide) ?_
        obtain rfl := so_e hf
        exact ih_6 x_14 σ_13 hk_7 _ _ _ hI hS (lv_sub hl [1, 2, 0] rfl)
  obtain ⟨σ_3, hy, hf⟩ := bi_e hf
  refine L_5 FU 0 σ _ hy ?_ _ _ _ hI hS (lv_sub hl [1, 2, 0] rfl)
  clear L_5
  intro H locs ls hI hS hl
  obtain rfl := so_e hf
  exact mm_vret hx hb hr hlocks hI hS dX4_putAll_24
def f_X7_bitOf (a1 : Int32) (a2 : Int32) (σ : Nat → Nat → Int32) : Option Int32 := some ((usr a1 a2) &&& 1)
set_option maxHeartbeats 4000000 in
set_option maxRecDepth 100000 in
theorem c_X7_bitOf (l : Launch) (D : va_G) (cI cS : ClassId) (Z : Nat) (K : Nat → Nat) (a1 : Int32) (a2 : Int32) (σ : Nat → Nat → Int32) (r : Int32) (hf : f_X7_bitOf a1 a2 σ = some r) : Met l yX7_bitOf (wsT yX7_bitOf cX7_bitOf 2 (some .int)) { frames := 0, cells := 0, slots := 0, locals := 0 } (Pm D cI cS Z K [.int a1, .int a2] σ) (Qi D cI cS Z K r σ) 0 0 (aZ Z) := by
  refine mm_met (lv := [(0, .int a1), (1, .int a2)]) (by decide) (Nat.le_of_ble_eq_true rfl) rfl ?_
  intro p e s m args below meth c ls hx hb hr hml hts hown hlocks hG hl hI hS
  have hown : s.vm.findClass RX7 = some m.cls := hown
  rw [f_X7_bitOf] at hf
  refine lv_iload_n hx hb dX7_bitOf_0 rfl (lv_at hl 0 rfl) ?_
  refine lv_iload_n hx hb dX7_bitOf_1 rfl (lv_at hl 1 rfl) ?_
  refine lv_iushr (v := usr a1 a2) hx hb dX7_bitOf_2 rfl ?_
  refine lv_iconst (v := 1) hx hb dX7_bitOf_3 (by decide) ?_
  refine lv_iand hx hb dX7_bitOf_4 ?_
  obtain rfl := so_e hf
  exact mm_ret hx hb hr hlocks rfl hI hS dX7_bitOf_5
