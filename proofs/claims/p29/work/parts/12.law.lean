/-! 12.law: mirrored programs and contracts (written by wip/p29/gen.py) -/
def f_L_low (a1 : Int32) (a2 : Int32) (σ : Nat → Nat → Int32) : Option Int32 := nz a2 <| some ((a1 &&& 2147483647) - (a1 &&& 2147483647) / a2 * a2)
set_option maxHeartbeats 4000000 in
set_option maxRecDepth 100000 in
theorem c_L_low (l : Launch) (D : va_G) (cI cS : ClassId) (Z : Nat) (K : Nat → Nat) (a1 : Int32) (a2 : Int32) (σ : Nat → Nat → Int32) (r : Int32) (hf : f_L_low a1 a2 σ = some r) : Met l yL_low (wsT yL_low cL_low 2 (some .int)) { frames := 0, cells := 0, slots := 0, locals := 0 } (Pm D cI cS Z K [.int a1, .int a2] σ) (Qi D cI cS Z K r σ) 0 0 (aZ Z) := by
  refine mm_met (lv := [(0, .int a1), (1, .int a2)]) (by decide) (Nat.le_of_ble_eq_true rfl) rfl ?_
  intro p e s m args below meth c ls hx hb hr hml hts hown hlocks hG hl hI hS
  have hown : s.vm.findClass RL = some m.cls := hown
  rw [f_L_low] at hf
  refine lv_iload_n hx hb dL_low_0 rfl (lv_at hl 0 rfl) ?_
  refine lv_ldc (v := 2147483647) hx hb hown (hts _ (mT6 _ (List.mem_of_getElem? (i := 10) rfl))) dL_low_1 ?_
  refine lv_iand hx hb dL_low_3 ?_
  refine lv_iload_n hx hb dL_low_4 rfl (lv_at hl 1 rfl) ?_
  obtain ⟨hnz, hf⟩ := nz_e hf
  refine lv_irem hx hb dL_low_5 hnz ?_
  obtain rfl := so_e hf
  exact mm_ret hx hb hr hlocks rfl hI hS dL_low_6
def f_L_act (a1 : Int32) (σ : Nat → Nat → Int32) : Option (Int32 × (Nat → Nat → Int32)) := vl (a1 >>> (4 &&& 31)) fun x_1 => if (a1 &&& 15) = 0 then (bi (f_L_low x_1 9 σ) fun r_3 => bi (f_L_low (a1 >>> (7 &&& 31)) 5 σ) fun r_4 => bi (f_L_low (a1 >>> (3 &&& 31)) 11 σ) fun r_5 => b2 (f_X7_setEnd r_3 r_4 r_5 σ) fun r_6 σ_7 => some (r_6, σ_7)) else (if (a1 &&& 15) = 1 then (bi (f_L_low x_1 5 σ) fun r_9 => bi (f_L_low (a1 >>> (7 &&& 31)) 4 σ) fun r_10 => b2 (f_X7_setFault r_9 r_10 σ) fun r_11 σ_12 => some (r_11, σ_12)) else (if (a1 &&& 15) = 2 then (bi (f_L_low x_1 17 σ) fun r_14 => bi (f_L_low (a1 >>> (8 &&& 31)) 4 σ) fun r_15 => b2 (f_X7_addBar r_14 r_15 σ) fun r_16 σ_17 => some (r_16, σ_17)) else (if (a1 &&& 15) = 3 then (bi (f_L_low x_1 17 σ) fun r_19 => bi (f_L_low (a1 >>> (8 &&& 31)) 4 σ) fun r_20 => b2 (f_X7_addBar r_19 r_20 σ) fun r_21 σ_22 => some (r_21, σ_22)) else (if (a1 &&& 15) = 4 then (bi (f_L_low x_1 17 σ) fun r_24 => bi (f_L_low (a1 >>> (8 &&& 31)) 4 σ) fun r_25 => b2 (f_X7_addBar r_24 r_25 σ) fun r_26 σ_27 => some (r_26, σ_27)) else (if (a1 &&& 15) = 5 then (bi (f_L_low x_1 4 σ) fun r_29 => bi (f_L_low (a1 >>> (6 &&& 31)) 16 σ) fun r_30 => bi (f_L_low (a1 >>> (3 &&& 31)) 4 σ) fun r_31 => b2 (f_X7_setBar r_29 r_30 r_31 σ) fun r_32 σ_33 => some (r_32, σ_33)) else (if (a1 &&& 15) = 6 then (bi (f_L_low x_1 3 σ) fun r_35 => b2 (f_X7_setDirection r_35 σ) fun r_36 σ_37 => some (r_36, σ_37)) else (if (a1 &&& 15) = 7 then (bi (f_L_low x_1 5 σ) fun r_39 => b2 (f_X7_turnTo r_39 σ) fun r_40 σ_41 => some (r_40, σ_41)) else (if (a1 &&& 15) = 8 then (bi (f_L_low x_1 5 σ) fun r_43 => bi (f_L_low (a1 >>> (5 &&& 31)) 100 σ) fun r_44 => b2 (f_X7_wind r_43 r_44 σ) fun r_45 σ_46 => some (r_45, σ_46)) else (if (a1 &&& 15) = 9 then (bi (f_L_low x_1 3 σ) fun r_48 => b2 (f_X7_takeOut (1 + r_48) σ) fun r_49 σ_50 => some (r_49, σ_50)) else (if (a1 &&& 15) = 10 then (bi (f_L_low x_1 3 σ) fun r_52 => b2 (f_X7_takeOut (1 + r_52) σ) fun r_53 σ_54 => some (r_53, σ_54)) else (if (a1 &&& 15) = 11 then (nz 4 <| if (x_1 - x_1 / 4 * 4) = 0 then (b2 (f_X7_cutOff σ) fun r_63 σ_64 => some (r_63, σ_64)) else (nz 4 <| if (x_1 - x_1 / 4 * 4) = 1 then (bi (f_L_low (a1 >>> (6 &&& 31)) 4 σ) fun r_58 => bi (f_L_low (a1 >>> (8 &&& 31)) 8 σ) fun r_59 => b2 (f_X7_setLoom (2 + r_58) (4 + r_59) σ) fun r_60 σ_61 => some (r_60, σ_61)) else (b2 (f_X7_weave 2 σ) fun r_56 σ_57 => some (r_56, σ_57)))) else (bi (f_L_low x_1 6 σ) fun r_66 => b2 (f_X7_weave (1 + r_66) σ) fun r_67 σ_68 => some (r_67, σ_68)))))))))))))
set_option maxHeartbeats 4000000 in
set_option maxRecDepth 100000 in
theorem c_L_act (l : Launch) (D : va_G) (cI cS : ClassId) (Z : Nat) (K : Nat → Nat) (hL : ly K 0 lyLoom) (a1 : Int32) (σ : Nat → Nat → Int32) (r : Int32) (σ' : Nat → Nat → Int32) (hf : f_L_act a1 σ = some (r, σ')) : Met l yL_act (wsT yL_act cL_act 3 (some .int)) { frames := 7, cells := 0, slots := 0, locals := 171 } (Pm D cI cS Z K [.ref (Z + 0), .int a1] σ) (Qi D cI cS Z K r σ') 0 0 (aZ Z) := by
  refine mm_met (lv := [(0, .ref (Z + 0)), (1, .int a1)]) (by decide) (Nat.le_of_ble_eq_true rfl) rfl ?_
  intro p e s m args below meth c ls hx hb hr hml hts hown hlocks hG hl hI hS
  have hown : s.vm.findClass RL = some m.cls := hown
  rw [f_L_act] at hf
  refine lv_iload_n hx hb dL_act_0 rfl (lv_at hl 1 rfl) ?_
  refine lv_iconst (v := 4) hx hb dL_act_1 (by decide) ?_
  refine lv_ishr hx hb dL_act_2 ?_
  obtain ⟨x_1, ex_1, hf⟩ := vl_e hf
  refine mm_name ex_1 ?_
  refine lv_istore_n (lv' := [(2, .int x_1), (0, .ref (Z + 0)), (1, .int a1)]) hx hb dL_act_3 rfl hl (by decide) rfl (fun ls hl => ?_)
  refine lv_iload_n hx hb dL_act_4 rfl (lv_at hl 2 rfl) ?_
  refine lv_bipush (v := 15) hx hb dL_act_5 (by decide) ?_
  refine lv_iand hx hb dL_act_7 ?_
  by_cases c_2 : (a1 &&& 15) = 0
  · have hf := pos_e c_2 hf
    refine lv_tableIn (off := 64) (tgt := 72) hx hb dL_act_8 (by rw [c_2]; decide) (by rw [c_2]; decide) (by rw [c_2]; rfl) (by decide) ?_
    refine lv_aload_n hx hb dL_act_72 rfl (lv_at hl 1 rfl) ?_
    refine lv_iload_n hx hb dL_act_73 rfl (lv_at hl 0 rfl) ?_
    refine lv_bipush (v := 9) hx hb dL_act_74 (by decide) ?_
    obtain ⟨r_3, hr_3, hf⟩ := bi_e hf
    refine kL_35 hx hb hml hts hown hG hI hS hl.1 (As := [.int x_1, .int 9]) (c_L_low l D cI cS Z K x_1 9 σ _ hr_3) ⟨(Nat.le_of_ble_eq_true rfl), (Nat.le_of_ble_eq_true rfl)⟩ rfl (Nat.le_of_ble_eq_true rfl) ⟨(Nat.le_of_ble_eq_true rfl), (Nat.le_of_ble_eq_true rfl)⟩ dL_act_76 (fun H locs hI hS => ?_)
    refine lv_iload_n hx hb dL_act_79 rfl (lv_at hl 2 rfl) ?_
    refine lv_bipush (v := 7) hx hb dL_act_80 (by decide) ?_
    refine lv_ishr hx hb dL_act_82 ?_
    refine lv_iconst (v := 5) hx hb dL_act_83 (by decide) ?_
    obtain ⟨r_4, hr_4, hf⟩ := bi_e hf
    refine kL_35 hx hb hml hts hown hG hI hS hl.1 (As := [.int (a1 >>> (7 &&& 31)), .int 5]) (c_L_low l D cI cS Z K (a1 >>> (7 &&& 31)) 5 σ _ hr_4) ⟨(Nat.le_of_ble_eq_true rfl), (Nat.le_of_ble_eq_true rfl)⟩ rfl (Nat.le_of_ble_eq_true rfl) ⟨(Nat.le_of_ble_eq_true rfl), (Nat.le_of_ble_eq_true rfl)⟩ dL_act_84 (fun H locs hI hS => ?_)
    refine lv_iload_n hx hb dL_act_87 rfl (lv_at hl 2 rfl) ?_
    refine lv_iconst (v := 3) hx hb dL_act_88 (by decide) ?_
    refine lv_ishr hx hb dL_act_89 ?_
    refine lv_bipush (v := 11) hx hb dL_act_90 (by decide) ?_
    obtain ⟨r_5, hr_5, hf⟩ := bi_e hf
    refine kL_35 hx hb hml hts hown hG hI hS hl.1 (As := [.int (a1 >>> (3 &&& 31)), .int 11]) (c_L_low l D cI cS Z K (a1 >>> (3 &&& 31)) 11 σ _ hr_5) ⟨(Nat.le_of_ble_eq_true rfl), (Nat.le_of_ble_eq_true rfl)⟩ rfl (Nat.le_of_ble_eq_true rfl) ⟨(Nat.le_of_ble_eq_true rfl), (Nat.le_of_ble_eq_true rfl)⟩ dL_act_92 (fun H locs hI hS => ?_)
    obtain ⟨r_6, σ_7, hr_6, hf⟩ := b2_e hf
    refine kL_40 hx hb hml hts hown hG hI hS hl.1 hL (As := [.int r_3, .int r_4, .int r_5]) (c_X7_setEnd l D cI cS Z K hL r_3 r_4 r_5 σ _ _ hr_6) ⟨(Nat.le_of_ble_eq_true rfl), (Nat.le_of_ble_eq_true rfl)⟩ rfl (Nat.le_of_ble_eq_true rfl) ⟨(Nat.le_of_ble_eq_true rfl), (Nat.le_of_ble_eq_true rfl)⟩ dL_act_95 (fun H locs hI hS => ?_)
    obtain ⟨rfl, rfl⟩ := sp_e hf
    exact mm_ret hx hb hr hlocks rfl hI hS dL_act_98
  have hf := neg_e c_2 hf
  by_cases c_8 : (a1 &&& 15) = 1
  · have hf := pos_e c_8 hf
    refine lv_tableIn (off := 91) (tgt := 99) hx hb dL_act_8 (by rw [c_8]; decide) (by rw [c_8]; decide) (by rw [c_8]; rfl) (by decide) ?_
    refine lv_aload_n hx hb dL_act_99 rfl (lv_at hl 1 rfl) ?_
    refine lv_iload_n hx hb dL_act_100 rfl (lv_at hl 0 rfl) ?_
    refine lv_iconst (v := 5) hx hb dL_act_101 (by decide) ?_
    obtain ⟨r_9, hr_9, hf⟩ := bi_e hf
    refine kL_35 hx hb hml hts hown hG hI hS hl.1 (As := [.int x_1, .int 5]) (c_L_low l D cI cS Z K x_1 5 σ _ hr_9) ⟨(Nat.le_of_ble_eq_true rfl), (Nat.le_of_ble_eq_true rfl)⟩ rfl (Nat.le_of_ble_eq_true rfl) ⟨(Nat.le_of_ble_eq_true rfl), (Nat.le_of_ble_eq_true rfl)⟩ dL_act_102 (fun H locs hI hS => ?_)
    refine lv_iload_n hx hb dL_act_105 rfl (lv_at hl 2 rfl) ?_
    refine lv_bipush (v := 7) hx hb dL_act_106 (by decide) ?_
    refine lv_ishr hx hb dL_act_108 ?_
    refine lv_iconst (v := 4) hx hb dL_act_109 (by decide) ?_
    obtain ⟨r_10, hr_10, hf⟩ := bi_e hf
    refine kL_35 hx hb hml hts hown hG hI hS hl.1 (As := [.int (a1 >>> (7 &&& 31)), .int 4]) (c_L_low l D cI cS Z K (a1 >>> (7 &&& 31)) 4 σ _ hr_10) ⟨(Nat.le_of_ble_eq_true rfl), (Nat.le_of_ble_eq_true rfl)⟩ rfl (Nat.le_of_ble_eq_true rfl) ⟨(Nat.le_of_ble_eq_true rfl), (Nat.le_of_ble_eq_true rfl)⟩ dL_act_110 (fun H locs hI hS => ?_)
    obtain ⟨r_11, σ_12, hr_11, hf⟩ := b2_e hf
    refine kL_44 hx hb hml hts hown hG hI hS hl.1 hL (As := [.int r_9, .int r_10]) (c_X7_setFault l D cI cS Z K hL r_9 r_10 σ _ _ hr_11) ⟨(Nat.le_of_ble_eq_true rfl), (Nat.le_of_ble_eq_true rfl)⟩ rfl (Nat.le_of_ble_eq_true rfl) ⟨(Nat.le_of_ble_eq_true rfl), (Nat.le_of_ble_eq_true rfl)⟩ dL_act_113 (fun H locs hI hS => ?_)
    obtain ⟨rfl, rfl⟩ := sp_e hf
    exact mm_ret hx hb hr hlocks rfl hI hS dL_act_116
  have hf := neg_e c_8 hf
  by_cases c_13 : (a1 &&& 15) = 2
  · have hf := pos_e c_13 hf
    refine lv_tableIn (off := 109) (tgt := 117) hx hb dL_act_8 (by rw [c_13]; decide) (by rw [c_13]; decide) (by rw [c_13]; rfl) (by decide) ?_
    refine lv_aload_n hx hb dL_act_117 rfl (lv_at hl 1 rfl) ?_
    refine lv_iload_n hx hb dL_act_118 rfl (lv_at hl 0 rfl) ?_
    refine lv_bipush (v := 17) hx hb dL_act_119 (by decide) ?_
    obtain ⟨r_14, hr_14, hf⟩ := bi_e hf
    refine kL_35 hx hb hml hts hown hG hI hS hl.1 (As := [.int x_1, .int 17]) (c_L_low l D cI cS Z K x_1 17 σ _ hr_14) ⟨(Nat.le_of_ble_eq_true rfl), (Nat.le_of_ble_eq_true rfl)⟩ rfl (Nat.le_of_ble_eq_true rfl) ⟨(Nat.le_of_ble_eq_true rfl), (Nat.le_of_ble_eq_true rfl)⟩ dL_act_121 (fun H locs hI hS => ?_)
    refine lv_iload_n hx hb dL_act_124 rfl (lv_at hl 2 rfl) ?_
    refine lv_bipush (v := 8) hx hb dL_act_125 (by decide) ?_
    refine lv_ishr hx hb dL_act_127 ?_
    refine lv_iconst (v := 4) hx hb dL_act_128 (by decide) ?_
    obtain ⟨r_15, hr_15, hf⟩ := bi_e hf
    refine kL_35 hx hb hml hts hown hG hI hS hl.1 (As := [.int (a1 >>> (8 &&& 31)), .int 4]) (c_L_low l D cI cS Z K (a1 >>> (8 &&& 31)) 4 σ _ hr_15) ⟨(Nat.le_of_ble_eq_true rfl), (Nat.le_of_ble_eq_true rfl)⟩ rfl (Nat.le_of_ble_eq_true rfl) ⟨(Nat.le_of_ble_eq_true rfl), (Nat.le_of_ble_eq_true rfl)⟩ dL_act_129 (fun H locs hI hS => ?_)
    obtain ⟨r_16, σ_17, hr_16, hf⟩ := b2_e hf
    refine kL_47 hx hb hml hts hown hG hI hS hl.1 hL (As := [.int r_14, .int r_15]) (c_X7_addBar l D cI cS Z K hL r_14 r_15 σ _ _ hr_16) ⟨(Nat.le_of_ble_eq_true rfl), (Nat.le_of_ble_eq_true rfl)⟩ rfl (Nat.le_of_ble_eq_true rfl) ⟨(Nat.le_of_ble_eq_true rfl), (Nat.le_of_ble_eq_true rfl)⟩ dL_act_132 (fun H locs hI hS => ?_)
    obtain ⟨rfl, rfl⟩ := sp_e hf
    exact mm_ret hx hb hr hlocks rfl hI hS dL_act_135
  have hf := neg_e c_13 hf
  by_cases c_18 : (a1 &&& 15) = 3
  · have hf := pos_e c_18 hf
    refine lv_tableIn (off := 109) (tgt := 117) hx hb dL_act_8 (by rw [c_18]; decide) (by rw [c_18]; decide) (by rw [c_18]; rfl) (by decide) ?_
    refine lv_aload_n hx hb dL_act_117 rfl (lv_at hl 1 rfl) ?_
    refine lv_iload_n hx hb dL_act_118 rfl (lv_at hl 0 rfl) ?_
    refine lv_bipush (v := 17) hx hb dL_act_119 (by decide) ?_
    obtain ⟨r_19, hr_19, hf⟩ := bi_e hf
    refine kL_35 hx hb hml hts hown hG hI hS hl.1 (As := [.int x_1, .int 17]) (c_L_low l D cI cS Z K x_1 17 σ _ hr_19) ⟨(Nat.le_of_ble_eq_true rfl), (Nat.le_of_ble_eq_true rfl)⟩ rfl (Nat.le_of_ble_eq_true rfl) ⟨(Nat.le_of_ble_eq_true rfl), (Nat.le_of_ble_eq_true rfl)⟩ dL_act_121 (fun H locs hI hS => ?_)
    refine lv_iload_n hx hb dL_act_124 rfl (lv_at hl 2 rfl) ?_
    refine lv_bipush (v := 8) hx hb dL_act_125 (by decide) ?_
    refine lv_ishr hx hb dL_act_127 ?_
    refine lv_iconst (v := 4) hx hb dL_act_128 (by decide) ?_
    obtain ⟨r_20, hr_20, hf⟩ := bi_e hf
    refine kL_35 hx hb hml hts hown hG hI hS hl.1 (As := [.int (a1 >>> (8 &&& 31)), .int 4]) (c_L_low l D cI cS Z K (a1 >>> (8 &&& 31)) 4 σ _ hr_20) ⟨(Nat.le_of_ble_eq_true rfl), (Nat.le_of_ble_eq_true rfl)⟩ rfl (Nat.le_of_ble_eq_true rfl) ⟨(Nat.le_of_ble_eq_true rfl), (Nat.le_of_ble_eq_true rfl)⟩ dL_act_129 (fun H locs hI hS => ?_)
    obtain ⟨r_21, σ_22, hr_21, hf⟩ := b2_e hf
    refine kL_47 hx hb hml hts hown hG hI hS hl.1 hL (As := [.int r_19, .int r_20]) (c_X7_addBar l D cI cS Z K hL r_19 r_20 σ _ _ hr_21) ⟨(Nat.le_of_ble_eq_true rfl), (Nat.le_of_ble_eq_true rfl)⟩ rfl (Nat.le_of_ble_eq_true rfl) ⟨(Nat.le_of_ble_eq_true rfl), (Nat.le_of_ble_eq_true rfl)⟩ dL_act_132 (fun H locs hI hS => ?_)
    obtain ⟨rfl, rfl⟩ := sp_e hf
    exact mm_ret hx hb hr hlocks rfl hI hS dL_act_135
  have hf := neg_e c_18 hf
  by_cases c_23 : (a1 &&& 15) = 4
  · have hf := pos_e c_23 hf
    refine lv_tableIn (off := 109) (tgt := 117) hx hb dL_act_8 (by rw [c_23]; decide) (by rw [c_23]; decide) (by rw [c_23]; rfl) (by decide) ?_
    refine lv_aload_n hx hb dL_act_117 rfl (lv_at hl 1 rfl) ?_
    refine lv_iload_n hx hb dL_act_118 rfl (lv_at hl 0 rfl) ?_
    refine lv_bipush (v := 17) hx hb dL_act_119 (by decide) ?_
    obtain ⟨r_24, hr_24, hf⟩ := bi_e hf
    refine kL_35 hx hb hml hts hown hG hI hS hl.1 (As := [.int x_1, .int 17]) (c_L_low l D cI cS Z K x_1 17 σ _ hr_24) ⟨(Nat.le_of_ble_eq_true rfl), (Nat.le_of_ble_eq_true rfl)⟩ rfl (Nat.le_of_ble_eq_true rfl) ⟨(Nat.le_of_ble_eq_true rfl), (Nat.le_of_ble_eq_true rfl)⟩ dL_act_121 (fun H locs hI hS => ?_)
    refine lv_iload_n hx hb dL_act_124 rfl (lv_at hl 2 rfl) ?_
    refine lv_bipush (v := 8) hx hb dL_act_125 (by decide) ?_
    refine lv_ishr hx hb dL_act_127 ?_
    refine lv_iconst (v := 4) hx hb dL_act_128 (by decide) ?_
    obtain ⟨r_25, hr_25, hf⟩ := bi_e hf
    refine kL_35 hx hb hml hts hown hG hI hS hl.1 (As := [.int (a1 >>> (8 &&& 31)), .int 4]) (c_L_low l D cI cS Z K (a1 >>> (8 &&& 31)) 4 σ _ hr_25) ⟨(Nat.le_of_ble_eq_true rfl), (Nat.le_of_ble_eq_true rfl)⟩ rfl (Nat.le_of_ble_eq_true rfl) ⟨(Nat.le_of_ble_eq_true rfl), (Nat.le_of_ble_eq_true rfl)⟩ dL_act_129 (fun H locs hI hS => ?_)
    obtain ⟨r_26, σ_27, hr_26, hf⟩ := b2_e hf
    refine kL_47 hx hb hml hts hown hG hI hS hl.1 hL (As := [.int r_24, .int r_25]) (c_X7_addBar l D cI cS Z K hL r_24 r_25 σ _ _ hr_26) ⟨(Nat.le_of_ble_eq_true rfl), (Nat.le_of_ble_eq_true rfl)⟩ rfl (Nat.le_of_ble_eq_true rfl) ⟨(Nat.le_of_ble_eq_true rfl), (Nat.le_of_ble_eq_true rfl)⟩ dL_act_132 (fun H locs hI hS => ?_)
    obtain ⟨rfl, rfl⟩ := sp_e hf
    exact mm_ret hx hb hr hlocks rfl hI hS dL_act_135
  have hf := neg_e c_23 hf
  by_cases c_28 : (a1 &&& 15) = 5
  · have hf := pos_e c_28 hf
    refine lv_tableIn (off := 128) (tgt := 136) hx hb dL_act_8 (by rw [c_28]; decide) (by rw [c_28]; decide) (by rw [c_28]; rfl) (by decide) ?_
    refine lv_aload_n hx hb dL_act_136 rfl (lv_at hl 1 rfl) ?_
    refine lv_iload_n hx hb dL_act_137 rfl (lv_at hl 0 rfl) ?_
    refine lv_iconst (v := 4) hx hb dL_act_138 (by decide) ?_
    obtain ⟨r_29, hr_29, hf⟩ := bi_e hf
    refine kL_35 hx hb hml hts hown hG hI hS hl.1 (As := [.int x_1, .int 4]) (c_L_low l D cI cS Z K x_1 4 σ _ hr_29) ⟨(Nat.le_of_ble_eq_true rfl), (Nat.le_of_ble_eq_true rfl)⟩ rfl (Nat.le_of_ble_eq_true rfl) ⟨(Nat.le_of_ble_eq_true rfl), (Nat.le_of_ble_eq_true rfl)⟩ dL_act_139 (fun H locs hI hS => ?_)
    refine lv_iload_n hx hb dL_act_142 rfl (lv_at hl 2 rfl) ?_
    refine lv_bipush (v := 6) hx hb dL_act_143 (by decide) ?_
    refine lv_ishr hx hb dL_act_145 ?_
    refine lv_bipush (v := 16) hx hb dL_act_146 (by decide) ?_
    obtain ⟨r_30, hr_30, hf⟩ := bi_e hf
    refine kL_35 hx hb hml hts hown hG hI hS hl.1 (As := [.int (a1 >>> (6 &&& 31)), .int 16]) (c_L_low l D cI cS Z K (a1 >>> (6 &&& 31)) 16 σ _ hr_30) ⟨(Nat.le_of_ble_eq_true rfl), (Nat.le_of_ble_eq_true rfl)⟩ rfl (Nat.le_of_ble_eq_true rfl) ⟨(Nat.le_of_ble_eq_true rfl), (Nat.le_of_ble_eq_true rfl)⟩ dL_act_148 (fun H locs hI hS => ?_)
    refine lv_iload_n hx hb dL_act_151 rfl (lv_at hl 2 rfl) ?_
    refine lv_iconst (v := 3) hx hb dL_act_152 (by decide) ?_
    refine lv_ishr hx hb dL_act_153 ?_
    refine lv_iconst (v := 4) hx hb dL_act_154 (by decide) ?_
    obtain ⟨r_31, hr_31, hf⟩ := bi_e hf
    refine kL_35 hx hb hml hts hown hG hI hS hl.1 (As := [.int (a1 >>> (3 &&& 31)), .int 4]) (c_L_low l D cI cS Z K (a1 >>> (3 &&& 31)) 4 σ _ hr_31) ⟨(Nat.le_of_ble_eq_true rfl), (Nat.le_of_ble_eq_true rfl)⟩ rfl (Nat.le_of_ble_eq_true rfl) ⟨(Nat.le_of_ble_eq_true rfl), (Nat.le_of_ble_eq_true rfl)⟩ dL_act_155 (fun H locs hI hS => ?_)
    obtain ⟨r_32, σ_33, hr_32, hf⟩ := b2_e hf
    refine kL_50 hx hb hml hts hown hG hI hS hl.1 hL (As := [.int r_29, .int r_30, .int r_31]) (c_X7_setBar l D cI cS Z K hL r_29 r_30 r_31 σ _ _ hr_32) ⟨(Nat.le_of_ble_eq_true rfl), (Nat.le_of_ble_eq_true rfl)⟩ rfl (Nat.le_of_ble_eq_true rfl) ⟨(Nat.le_of_ble_eq_true rfl), (Nat.le_of_ble_eq_true rfl)⟩ dL_act_158 (fun H locs hI hS => ?_)
    obtain ⟨rfl, rfl⟩ := sp_e hf
    exact mm_ret hx hb hr hlocks rfl hI hS dL_act_161
  have hf := neg_e c_28 hf
  by_cases c_34 : (a1 &&& 15) = 6
  · have hf := pos_e c_34 hf
    refine lv_tableIn (off := 154) (tgt := 162) hx hb dL_act_8 (by rw [c_34]; decide) (by rw [c_34]; decide) (by rw [c_34]; rfl) (by decide) ?_
    refine lv_aload_n hx hb dL_act_162 rfl (lv_at hl 1 rfl) ?_
    refine lv_iload_n hx hb dL_act_163 rfl (lv_at hl 0 rfl) ?_
    refine lv_iconst (v := 3) hx hb dL_act_164 (by decide) ?_
    obtain ⟨r_35, hr_35, hf⟩ := bi_e hf
    refine kL_35 hx hb hml hts hown hG hI hS hl.1 (As := [.int x_1, .int 3]) (c_L_low l D cI cS Z K x_1 3 σ _ hr_35) ⟨(Nat.le_of_ble_eq_true rfl), (Nat.le_of_ble_eq_true rfl)⟩ rfl (Nat.le_of_ble_eq_true rfl) ⟨(Nat.le_of_ble_eq_true rfl), (Nat.le_of_ble_eq_true rfl)⟩ dL_act_165 (fun H locs hI hS => ?_)
    obtain ⟨r_36, σ_37, hr_36, hf⟩ := b2_e hf
    refine kL_53 hx hb hml hts hown hG hI hS hl.1 hL (As := [.int r_35]) (c_X7_setDirection l D cI cS Z K hL r_35 σ _ _ hr_36) ⟨(Nat.le_of_ble_eq_true rfl), (Nat.le_of_ble_eq_true rfl)⟩ rfl (Nat.le_of_ble_eq_true rfl) ⟨(Nat.le_of_ble_eq_true rfl), (Nat.le_of_ble_eq_true rfl)⟩ dL_act_168 (fun H locs hI hS => ?_)
    obtain ⟨rfl, rfl⟩ := sp_e hf
    exact mm_ret hx hb hr hlocks rfl hI hS dL_act_171
  have hf := neg_e c_34 hf
  by_cases c_38 : (a1 &&& 15) = 7
  · have hf := pos_e c_38 hf
    refine lv_tableIn (off := 164) (tgt := 172) hx hb dL_act_8 (by rw [c_38]; decide) (by rw [c_38]; decide) (by rw [c_38]; rfl) (by decide) ?_
    refine lv_aload_n hx hb dL_act_172 rfl (lv_at hl 1 rfl) ?_
    refine lv_iload_n hx hb dL_act_173 rfl (lv_at hl 0 rfl) ?_
    refine lv_iconst (v := 5) hx hb dL_act_174 (by decide) ?_
    obtain ⟨r_39, hr_39, hf⟩ := bi_e hf
    refine kL_35 hx hb hml hts hown hG hI hS hl.1 (As := [.int x_1, .int 5]) (c_L_low l D cI cS Z K x_1 5 σ _ hr_39) ⟨(Nat.le_of_ble_eq_true rfl), (Nat.le_of_ble_eq_true rfl)⟩ rfl (Nat.le_of_ble_eq_true rfl) ⟨(Nat.le_of_ble_eq_true rfl), (Nat.le_of_ble_eq_true rfl)⟩ dL_act_175 (fun H locs hI hS => ?_)
    obtain ⟨r_40, σ_41, hr_40, hf⟩ := b2_e hf
    refine kL_56 hx hb hml hts hown hG hI hS hl.1 hL (As := [.int r_39]) (c_X7_turnTo l D cI cS Z K hL r_39 σ _ _ hr_40) ⟨(Nat.le_of_ble_eq_true rfl), (Nat.le_of_ble_eq_true rfl)⟩ rfl (Nat.le_of_ble_eq_true rfl) ⟨(Nat.le_of_ble_eq_true rfl), (Nat.le_of_ble_eq_true rfl)⟩ dL_act_178 (fun H locs hI hS => ?_)
    obtain ⟨rfl, rfl⟩ := sp_e hf
    exact mm_ret hx hb hr hlocks rfl hI hS dL_act_181
  have hf := neg_e c_38 hf
  by_cases c_42 : (a1 &&& 15) = 8
  · have hf := pos_e c_42 hf
    refine lv_tableIn (off := 174) (tgt := 182) hx hb dL_act_8 (by rw [c_42]; decide) (by rw [c_42]; decide) (by rw [c_42]; rfl) (by decide) ?_
    refine lv_aload_n hx hb dL_act_182 rfl (lv_at hl 1 rfl) ?_
    refine lv_iload_n hx hb dL_act_183 rfl (lv_at hl 0 rfl) ?_
    refine lv_iconst (v := 5) hx hb dL_act_184 (by decide) ?_
    obtain ⟨r_43, hr_43, hf⟩ := bi_e hf
    refine kL_35 hx hb hml hts hown hG hI hS hl.1 (As := [.int x_1, .int 5]) (c_L_low l D cI cS Z K x_1 5 σ _ hr_43) ⟨(Nat.le_of_ble_eq_true rfl), (Nat.le_of_ble_eq_true rfl)⟩ rfl (Nat.le_of_ble_eq_true rfl) ⟨(Nat.le_of_ble_eq_true rfl), (Nat.le_of_ble_eq_true rfl)⟩ dL_act_185 (fun H locs hI hS => ?_)
    refine lv_iload_n hx hb dL_act_188 rfl (lv_at hl 2 rfl) ?_
    refine lv_iconst (v := 5) hx hb dL_act_189 (by decide) ?_
    refine lv_ishr hx hb dL_act_190 ?_
    refine lv_bipush (v := 100) hx hb dL_act_191 (by decide) ?_
    obtain ⟨r_44, hr_44, hf⟩ := bi_e hf
    refine kL_35 hx hb hml hts hown hG hI hS hl.1 (As := [.int (a1 >>> (5 &&& 31)), .int 100]) (c_L_low l D cI cS Z K (a1 >>> (5 &&& 31)) 100 σ _ hr_44) ⟨(Nat.le_of_ble_eq_true rfl), (Nat.le_of_ble_eq_true rfl)⟩ rfl (Nat.le_of_ble_eq_true rfl) ⟨(Nat.le_of_ble_eq_true rfl), (Nat.le_of_ble_eq_true rfl)⟩ dL_act_193 (fun H locs hI hS => ?_)
    obtain ⟨r_45, σ_46, hr_45, hf⟩ := b2_e hf
    refine kL_59 hx hb hml hts hown hG hI hS hl.1 hL (As := [.int r_43, .int r_44]) (c_X7_wind l D cI cS Z K hL r_43 r_44 σ _ _ hr_45) ⟨(Nat.le_of_ble_eq_true rfl), (Nat.le_of_ble_eq_true rfl)⟩ rfl (Nat.le_of_ble_eq_true rfl) ⟨(Nat.le_of_ble_eq_true rfl), (Nat.le_of_ble_eq_true rfl)⟩ dL_act_196 (fun H locs hI hS => ?_)
    obtain ⟨rfl, rfl⟩ := sp_e hf
    exact mm_ret hx hb hr hlocks rfl hI hS dL_act_199
  have hf := neg_e c_42 hf
  by_cases c_47 : (a1 &&& 15) = 9
  · have hf := pos_e c_47 hf
    refine lv_tableIn (off := 192) (tgt := 200) hx hb dL_act_8 (by rw [c_47]; decide) (by rw [c_47]; decide) (by rw [c_47]; rfl) (by decide) ?_
    refine lv_aload_n hx hb dL_act_200 rfl (lv_at hl 1 rfl) ?_
    refine lv_iconst (v := 1) hx hb dL_act_201 (by decide) ?_
    refine lv_iload_n hx hb dL_act_202 rfl (lv_at hl 0 rfl) ?_
    refine lv_iconst (v := 3) hx hb dL_act_203 (by decide) ?_
    obtain ⟨r_48, hr_48, hf⟩ := bi_e hf
    refine kL_35 hx hb hml hts hown hG hI hS hl.1 (As := [.int x_1, .int 3]) (c_L_low l D cI cS Z K x_1 3 σ _ hr_48) ⟨(Nat.le_of_ble_eq_true rfl), (Nat.le_of_ble_eq_true rfl)⟩ rfl (Nat.le_of_ble_eq_true rfl) ⟨(Nat.le_of_ble_eq_true rfl), (Nat.le_of_ble_eq_true rfl)⟩ dL_act_204 (fun H locs hI hS => ?_)
    refine lv_iadd hx hb dL_act_207 ?_
    obtain ⟨r_49, σ_50, hr_49, hf⟩ := b2_e hf
    refine kL_62 hx hb hml hts hown hG hI hS hl.1 hL (As := [.int (1 + r_48)]) (c_X7_takeOut l D cI cS Z K hL (1 + r_48) σ _ _ hr_49) ⟨(Nat.le_of_ble_eq_true rfl), (Nat.le_of_ble_eq_true rfl)⟩ rfl (Nat.le_of_ble_eq_true rfl) ⟨(Nat.le_of_ble_eq_true rfl), (Nat.le_of_ble_eq_true rfl)⟩ dL_act_208 (fun H locs hI hS => ?_)
    obtain ⟨rfl, rfl⟩ := sp_e hf
    exact mm_ret hx hb hr hlocks rfl hI hS dL_act_211
  have hf := neg_e c_47 hf
  by_cases c_51 : (a1 &&& 15) = 10
  · have hf := pos_e c_51 hf
    refine lv_tableIn (off := 192) (tgt := 200) hx hb dL_act_8 (by rw [c_51]; decide) (by rw [c_51]; decide) (by rw [c_51]; rfl) (by decide) ?_
    refine lv_aload_n hx hb dL_act_200 rfl (lv_at hl 1 rfl) ?_
    refine lv_iconst (v := 1) hx hb dL_act_201 (by decide) ?_
    refine lv_iload_n hx hb dL_act_202 rfl (lv_at hl 0 rfl) ?_
    refine lv_iconst (v := 3) hx hb dL_act_203 (by decide) ?_
    obtain ⟨r_52, hr_52, hf⟩ := bi_e hf
    refine kL_35 hx hb hml hts hown hG hI hS hl.1 (As := [.int x_1, .int 3]) (c_L_low l D cI cS Z K x_1 3 σ _ hr_52) ⟨(Nat.le_of_ble_eq_true rfl), (Nat.le_of_ble_eq_true rfl)⟩ rfl (Nat.le_of_ble_eq_true rfl) ⟨(Nat.le_of_ble_eq_true rfl), (Nat.le_of_ble_eq_true rfl)⟩ dL_act_204 (fun H locs hI hS => ?_)
    refine lv_iadd hx hb dL_act_207 ?_
    obtain ⟨r_53, σ_54, hr_53, hf⟩ := b2_e hf
    refine kL_62 hx hb hml hts hown hG hI hS hl.1 hL (As := [.int (1 + r_52)]) (c_X7_takeOut l D cI cS Z K hL (1 + r_52) σ _ _ hr_53) ⟨(Nat.le_of_ble_eq_true rfl), (Nat.le_of_ble_eq_true rfl)⟩ rfl (Nat.le_of_ble_eq_true rfl) ⟨(Nat.le_of_ble_eq_true rfl), (Nat.le_of_ble_eq_true rfl)⟩ dL_act_208 (fun H locs hI hS => ?_)
    obtain ⟨rfl, rfl⟩ := sp_e hf
    exact mm_ret hx hb hr hlocks rfl hI hS dL_act_211
  have hf := neg_e c_51 hf
  by_cases c_55 : (a1 &&& 15) = 11
  · have hf := pos_e c_55 hf
    refine lv_tableIn (off := 204) (tgt := 212) hx hb dL_act_8 (by rw [c_55]; decide) (by rw [c_55]; decide) (by rw [c_55]; rfl) (by decide) ?_
    refine lv_iload_n hx hb dL_act_212 rfl (lv_at hl 0 rfl) ?_
    refine lv_iconst (v := 4) hx hb dL_act_213 (by decide) ?_
    obtain ⟨hnz, hf⟩ := nz_e hf
    refine lv_irem hx hb dL_act_214 hnz ?_
    refine lv_if_ne (tgt := 225) hx hb dL_act_215 (by decide) (fun c_65 => ?_) (fun c_65 => ?_)
    · have hf := neg_e c_65 hf
      refine lv_iload_n hx hb dL_act_225 rfl (lv_at hl 0 rfl) ?_
      refine lv_iconst (v := 4) hx hb dL_act_226 (by decide) ?_
      obtain ⟨hnz, hf⟩ := nz_e hf
      refine lv_irem hx hb dL_act_227 hnz ?_
      refine lv_iconst (v := 1) hx hb dL_act_228 (by decide) ?_
      refine lv_icmp_ne (tgt := 260) hx hb dL_act_229 (by decide) (fun c_62 => ?_) (fun c_62 => ?_)
      · have hf := neg_e c_62 hf
        refine lv_aload_n hx hb dL_act_260 rfl (lv_at hl 1 rfl) ?_
        refine lv_iconst (v := 2) hx hb dL_act_261 (by decide) ?_
        obtain ⟨r_56, σ_57, hr_56, hf⟩ := b2_e hf
        refine kL_71 hx hb hml hts hown hG hI hS hl.1 hL (As := [.int 2]) (c_X7_weave l D cI cS Z K hL 2 σ _ _ hr_56) ⟨(Nat.le_of_ble_eq_true rfl), (Nat.le_of_ble_eq_true rfl)⟩ rfl (Nat.le_of_ble_eq_true rfl) ⟨(Nat.le_of_ble_eq_true rfl), (Nat.le_of_ble_eq_true rfl)⟩ dL_act_262 (fun H locs hI hS => ?_)
        obtain ⟨rfl, rfl⟩ := sp_e hf
        exact mm_ret hx hb hr hlocks rfl hI hS dL_act_265
      · have hf := pos_e c_62 hf
        refine lv_aload_n hx hb dL_act_232 rfl (lv_at hl 1 rfl) ?_
        refine lv_iconst (v := 2) hx hb dL_act_233 (by decide) ?_
        refine lv_iload_n hx hb dL_act_234 rfl (lv_at hl 2 rfl) ?_
        refine lv_bipush (v := 6) hx hb dL_act_235 (by decide) ?_
        refine lv_ishr hx hb dL_act_237 ?_
        refine lv_iconst (v := 4) hx hb dL_act_238 (by decide) ?_
        obtain ⟨r_58, hr_58, hf⟩ := bi_e hf
        refine kL_35 hx hb hml hts hown hG hI hS hl.1 (As := [.int (a1 >>> (6 &&& 31)), .int 4]) (c_L_low l D cI cS Z K (a1 >>> (6 &&& 31)) 4 σ _ hr_58) ⟨(Nat.le_of_ble_eq_true rfl), (Nat.le_of_ble_eq_true rfl)⟩ rfl (Nat.le_of_ble_eq_true rfl) ⟨(Nat.le_of_ble_eq_true rfl), (Nat.le_of_ble_eq_true rfl)⟩ dL_act_239 (fun H locs hI hS => ?_)
        refine lv_iadd hx hb dL_act_242 ?_
        refine lv_iconst (v := 4) hx hb dL_act_243 (by decide) ?_
        refine lv_iload_n hx hb dL_act_244 rfl (lv_at hl 2 rfl) ?_
        refine lv_bipush (v := 8) hx hb dL_act_245 (by decide) ?_
        refine lv_ishr hx hb dL_act_247 ?_
        refine lv_bipush (v := 8) hx hb dL_act_248 (by decide) ?_
        obtain ⟨r_59, hr_59, hf⟩ := bi_e hf
        refine kL_35 hx hb hml hts hown hG hI hS hl.1 (As := [.int (a1 >>> (8 &&& 31)), .int 8]) (c_L_low l D cI cS Z K (a1 >>> (8 &&& 31)) 8 σ _ hr_59) ⟨(Nat.le_of_ble_eq_true rfl), (Nat.le_of_ble_eq_true rfl)⟩ rfl (Nat.le_of_ble_eq_true rfl) ⟨(Nat.le_of_ble_eq_true rfl), (Nat.le_of_ble_eq_true rfl)⟩ dL_act_250 (fun H locs hI hS => ?_)
        refine lv_iadd hx hb dL_act_253 ?_
        obtain ⟨r_60, σ_61, hr_60, hf⟩ := b2_e hf
        refine kL_68 hx hb hml hts hown hG hI hS hl.1 hL (As := [.int (2 + r_58), .int (4 + r_59)]) (c_X7_setLoom l D cI cS Z K hL (2 + r_58) (4 + r_59) σ _ _ hr_60) ⟨(Nat.le_of_ble_eq_true rfl), (Nat.le_of_ble_eq_true rfl)⟩ rfl (Nat.le_of_ble_eq_true rfl) ⟨(Nat.le_of_ble_eq_true rfl), (Nat.le_of_ble_eq_true rfl)⟩ dL_act_254 (fun H locs hI hS => ?_)
        refine lv_goto (tgt := 265) hx hb dL_act_257 (by decide) ?_
        obtain ⟨rfl, rfl⟩ := sp_e hf
        exact mm_ret hx hb hr hlocks rfl hI hS dL_act_265
    · have hf := pos_e c_65 hf
      refine lv_aload_n hx hb dL_act_218 rfl (lv_at hl 1 rfl) ?_
      obtain ⟨r_63, σ_64, hr_63, hf⟩ := b2_e hf
      refine kL_65 hx hb hml hts hown hG hI hS hl.1 hL (As := []) (c_X7_cutOff l D cI cS Z K hL σ _ _ hr_63) ⟨(Nat.le_of_ble_eq_true rfl), (Nat.le_of_ble_eq_true rfl)⟩ rfl (Nat.le_of_ble_eq_true rfl) ⟨(Nat.le_of_ble_eq_true rfl), (Nat.le_of_ble_eq_true rfl)⟩ dL_act_219 (fun H locs hI hS => ?_)
      refine lv_goto (tgt := 265) hx hb dL_act_222 (by decide) ?_
      obtain ⟨rfl, rfl⟩ := sp_e hf
      exact mm_ret hx hb hr hlocks rfl hI hS dL_act_265
  have hf := neg_e c_55 hf
  refine lv_tableOut (tgt := 266) hx hb dL_act_8 (sw_out11 c_2 c_8 c_13 c_18 c_23 c_28 c_34 c_38 c_42 c_47 c_51 c_55) (by decide) ?_
  refine lv_aload_n hx hb dL_act_266 rfl (lv_at hl 1 rfl) ?_
  refine lv_iconst (v := 1) hx hb dL_act_267 (by decide) ?_
  refine lv_iload_n hx hb dL_act_268 rfl (lv_at hl 0 rfl) ?_
  refine lv_bipush (v := 6) hx hb dL_act_269 (by decide) ?_
  obtain ⟨r_66, hr_66, hf⟩ := bi_e hf
  refine kL_35 hx hb hml hts hown hG hI hS hl.1 (As := [.int x_1, .int 6]) (c_L_low l D cI cS Z K x_1 6 σ _ hr_66) ⟨(Nat.le_of_ble_eq_true rfl), (Nat.le_of_ble_eq_true rfl)⟩ rfl (Nat.le_of_ble_eq_true rfl) ⟨(Nat.le_of_ble_eq_true rfl), (Nat.le_of_ble_eq_true rfl)⟩ dL_act_271 (fun H locs hI hS => ?_)
  refine lv_iadd hx hb dL_act_274 ?_
  obtain ⟨r_67, σ_68, hr_67, hf⟩ := b2_e hf
  refine kL_71 hx hb hml hts hown hG hI hS hl.1 hL (As := [.int (1 + r_66)]) (c_X7_weave l D cI cS Z K hL (1 + r_66) σ _ _ hr_67) ⟨(Nat.le_of_ble_eq_true rfl), (Nat.le_of_ble_eq_true rfl)⟩ rfl (Nat.le_of_ble_eq_true rfl) ⟨(Nat.le_of_ble_eq_true rfl), (Nat.le_of_ble_eq_true rfl)⟩ dL_act_275 (fun H locs hI hS => ?_)
  obtain ⟨rfl, rfl⟩ := sp_e hf
  exact mm_ret hx hb hr hlocks rfl hI hS dL_act_278
def b_L_digest_6 (σ : Nat → Nat → Int32) : Int64 × Int32 → Option ((Int64 × Int32) ⊕ (Int64))
  | (q_2, y_3) => if 8 ≤ y_3 then (some (.inr q_2)) else (bi (f_X7_count y_3 σ) fun r_15 => vl (α := Int64) ((31 * q_2) + r_15.toInt64) fun w_16 => vl (y_3 + 1) fun x_17 => some (.inl (w_16, x_17)))
def b_L_digest_45 (σ : Nat → Nat → Int32) (y_21 : Int32) : Int64 × Int32 → Option ((Int64 × Int32) ⊕ (Int64))
  | (q_51, y_52) => if 5 ≤ y_52 then (some (.inr q_51)) else (bi (f_X7_end y_21 y_52 σ) fun r_64 => vl (α := Int64) ((31 * q_51) + r_64.toInt64) fun w_65 => vl (y_52 + 1) fun x_66 => some (.inl (w_65, x_66)))
def b_L_digest_33 (σ : Nat → Nat → Int32) : Int64 × Int32 → Option ((Int64 × Int32) ⊕ (Int64))
  | (q_20, y_21) => bi (f_X7_count 1 σ) fun r_50 => if r_50 ≤ y_21 then (some (.inr q_20)) else (bi (lp (b_L_digest_45 σ y_21) FU (q_20, 0)) fun u_53 => vl (y_21 + 1) fun x_69 => some (.inl (u_53, x_69)))
def b_L_digest_92 (σ : Nat → Nat → Int32) (y_73 : Int32) : Int64 × Int32 → Option ((Int64 × Int32) ⊕ (Int64))
  | (q_103, y_104) => if 4 ≤ y_104 then (some (.inr q_103)) else (bi (f_X7_bar y_73 y_104 σ) fun r_116 => vl (α := Int64) ((31 * q_103) + r_116.toInt64) fun w_117 => vl (y_104 + 1) fun x_118 => some (.inl (w_117, x_118)))
def b_L_digest_80 (σ : Nat → Nat → Int32) : Int64 × Int32 → Option ((Int64 × Int32) ⊕ (Int64))
  | (q_72, y_73) => bi (f_X7_count 2 σ) fun r_102 => if r_102 ≤ y_73 then (some (.inr q_72)) else (bi (lp (b_L_digest_92 σ y_73) FU (q_72, 0)) fun u_105 => vl (y_73 + 1) fun x_121 => some (.inl (u_105, x_121)))
def b_L_digest_127 (σ : Nat → Nat → Int32) : Int64 × Int32 → Option ((Int64 × Int32) ⊕ (Int64))
  | (q_124, y_125) => if 10 ≤ y_125 then (some (.inr q_124)) else (bi (f_X7_yarn y_125 σ) fun r_137 => vl (α := Int64) ((31 * q_124) + r_137.toInt64) fun w_138 => vl (y_125 + 1) fun x_139 => some (.inl (w_138, x_139)))
def b_L_digest_166 (σ : Nat → Nat → Int32) (y_143 : Int32) : Int64 × Int32 → Option ((Int64 × Int32) ⊕ (Int64))
  | (q_173, y_174) => if 7 ≤ y_174 then (some (.inr q_173)) else (bi (f_X7_row y_143 y_174 σ) fun r_186 => vl (α := Int64) ((31 * q_173) + r_186.toInt64) fun w_187 => vl (y_174 + 1) fun x_188 => some (.inl (w_187, x_188)))
def b_L_digest_154 (σ : Nat → Nat → Int32) : Int64 × Int32 → Option ((Int64 × Int32) ⊕ (Int64))
  | (q_142, y_143) => bi (f_X7_count 5 σ) fun r_172 => if r_172 ≤ y_143 then (some (.inr q_142)) else (bi (lp (b_L_digest_166 σ y_143) FU (q_142, 0)) fun u_175 => vl (y_143 + 1) fun x_191 => some (.inl (u_175, x_191)))
def f_L_digest  (σ : Nat → Nat → Int32) : Option Int64 := vl (α := Int64) 7 fun w_1 => bi (lp (b_L_digest_6 σ) FU (w_1, 0)) fun u_4 => bi (lp (b_L_digest_33 σ) FU (u_4, 0)) fun u_22 => bi (lp (b_L_digest_80 σ) FU (u_22, 0)) fun u_74 => bi (lp (b_L_digest_127 σ) FU (u_74, 0)) fun u_126 => bi (lp (b_L_digest_154 σ) FU (u_126, 0)) fun u_144 => bi (f_X7_repeat σ) fun r_194 => some ((31 * u_144) + r_194.toInt64)
set_option maxHeartbeats 4000000 in
set_option maxRecDepth 100000 in
theorem c_L_digest (l : Launch) (D : va_G) (cI cS : ClassId) (Z : Nat) (K : Nat → Nat) (hL : ly K 0 lyLoom) (σ : Nat → Nat → Int32) (r : Int64) (hf : f_L_digest σ = some r) : Met l yL_digest (wsT yL_digest cL_digest 5 (some .long)) { frames := 5, cells := 0, slots := 0, locals := 117 } (Pm D cI cS Z K [.ref (Z + 0)] σ) (Ql D cI cS Z K r σ) 0 0 (aZ Z) := by
  refine mm_met (lv := [(0, .ref (Z + 0))]) (by decide) (Nat.le_of_ble_eq_true rfl) rfl ?_
  intro p e s m args below meth c ls hx hb hr hml hts hown hlocks hG hl hI hS
  have hown : s.vm.findClass RL = some m.cls := hown
  rw [f_L_digest] at hf
  refine lv_ldc2 (v := 7) hx hb hown (hts _ (mT10 _ (List.mem_of_getElem? (i := 2) rfl))) dL_digest_0 ?_
  obtain ⟨w_1, ew_1, hf⟩ := vl_e hf
  refine mm_namel ew_1 ?_
  refine lv_lstore_n (lv' := [(1, .long w_1), (0, .ref (Z + 0))]) hx hb dL_digest_3 rfl hl (by decide) rfl (fun ls hl => ?_)
  refine lv_iconst (v := 0) hx hb dL_digest_4 (by decide) ?_
  refine lv_istore_n (lv' := [(3, .int 0), (1, .long w_1), (0, .ref (Z + 0))]) hx hb dL_digest_5 rfl hl (by decide) rfl (fun ls hl => ?_)
  have L_6 : ∀ (nn : Nat) (q_2 : Int64) (y_3 : Int32) (u_4 : Int64), lp (b_L_digest_6 σ) nn (q_2, y_3) = some u_4 → (∀ (H : Heap) (locs : List Loc) (ls : Array Slot), fI D cI cS Z K σ H → va_S (aZ Z) s.heap H locs → lv_has ls 5 [(0, .ref (Z + 0)), (1, .long u_4)] → W p l e { frames := 5, cells := 0, slots := 0, locals := 117 } s m args below meth c H locs 0 0 (MQ below (Ql D cI cS Z K r σ) args s 0 0 (aZ Z)) (F0 m 31 ls [])) → ∀ (H : Heap) (locs : List Loc) (ls : Array Slot), fI D cI cS Z K σ H → va_S (aZ Z) s.heap H locs → lv_has ls 5 [(0, .ref (Z + 0)), (1, .long q_2), (3, .int y_3)] → W p l e { frames := 5, cells := 0, slots := 0, locals := 117 } s m args below meth c H locs 0 0 (MQ below (Ql D cI cS Z K r σ) args s 0 0 (aZ Z)) (F0 m 6 ls []) := by
    intro nn
    induction nn with
    | zero =>
      intro q_2 y_3 u_4 hq
      exact (lp_0 hq).elim
    | succ nn ih_7 =>
      intro q_2 y_3 u_4 hq kn_9 H locs ls hI hS hl
      obtain ⟨wb_5, hf, hk_8⟩ := lp_e hq
      rw [b_L_digest_6] at hf
      have ih_7 := fun (q_2 : Int64) (y_3 : Int32) q => ih_7 q_2 y_3 u_4 q kn_9
      refine lv_iload_n hx hb dL_digest_6 rfl (lv_at hl 2 rfl) ?_
      refine lv_bipush (v := 8) hx hb dL_digest_7 (by decide) ?_
      refine lv_icmp_ge (tgt := 31) hx hb dL_digest_9 (by decide) (fun c_18 => ?_) (fun c_18 => ?_)
      · have hf := pos_e c_18 hf
        obtain rfl := so_e hf
        obtain rfl := lk_r hk_8
        exact kn_9 _ _ _ hI hS (lv_sub hl [0, 1] rfl)
      · have hf := neg_e c_18 hf
        refine lv_ldc2 (v := 31) hx hb hown (hts _ (mT10 _ (List.mem_of_getElem? (i := 3) rfl))) dL_digest_12 ?_
        refine lv_lload_n hx hb dL_digest_15 rfl (lv_at hl 1 rfl) ?_
        refine lv_lmul hx hb dL_digest_16 ?_
        refine lv_aload_n hx hb dL_digest_17 rfl (lv_at hl 0 rfl) ?_
        refine lv_iload_n hx hb dL_digest_18 rfl (lv_at hl 2 rfl) ?_
        obtain ⟨r_15, hr_15, hf⟩ := bi_e hf
        refine kL_12 hx hb hml hts hown hG hI hS hl.1 hL (As := [.int y_3]) (c_X7_count l D cI cS Z K hL y_3 σ _ hr_15) ⟨(Nat.le_of_ble_eq_true rfl), (Nat.le_of_ble_eq_true rfl)⟩ rfl (Nat.le_of_ble_eq_true rfl) ⟨(Nat.le_of_ble_eq_true rfl), (Nat.le_of_ble_eq_true rfl)⟩ dL_digest_19 (fun H locs hI hS => ?_)
        refine lv_i2l hx hb dL_digest_22 rfl ?_
        refine lv_ladd hx hb dL_digest_23 ?_
        obtain ⟨w_16, ew_16, hf⟩ := vl_e hf
        refine mm_namel ew_16 ?_
        refine lv_lstore_n (lv' := [(1, .long w_16), (0, .ref (Z + 0)), (3, .int y_3)]) hx hb dL_digest_24 rfl hl (by decide) rfl (fun ls hl => ?_)
        obtain ⟨x_17, ex_17, hf⟩ := vl_e hf
        refine lv_iinc (v := x_17) (lv' := [(3, .int x_17), (1, .long w_16), (0, .ref (Z + 0))]) hx hb dL_digest_25 hl (k := 2) rfl (by rw [ex_17]; rfl) (by decide) rfl (fun ls hl => ?_)
        refine lv_goto (tgt := 6) hx hb dL_digest_28 (by decide) ?_
        obtain rfl := so_e hf
        exact ih_7 w_16 x_17 hk_8 _ _ _ hI hS (lv_sub hl [2, 1, 0] rfl)
  obtain ⟨u_4, hy, hf⟩ := bi_e hf
  refine L_6 FU w_1 0 _ hy ?_ _ _ _ hI hS (lv_sub hl [2, 1, 0] rfl)
  clear L_6
  intro H locs ls hI hS hl
  refine lv_iconst (v := 0) hx hb dL_digest_31 (by decide) ?_
  refine lv_istore_n (lv' := [(3, .int 0), (0, .ref (Z + 0)), (1, .long u_4)]) hx hb dL_digest_32 rfl hl (by decide) rfl (fun ls hl => ?_)
  have L_24 : ∀ (nn : Nat) (q_20 : Int64) (y_21 : Int32) (u_22 : Int64), lp (b_L_digest_33 σ) nn (q_20, y_21) = some u_22 → (∀ (H : Heap) (locs : List Loc) (ls : Array Slot), fI D cI cS Z K σ H → va_S (aZ Z) s.heap H locs → lv_has ls 5 [(0, .ref (Z + 0)), (1, .long u_22)] → W p l e { frames := 5, cells := 0, slots := 0, locals := 117 } s m args below meth c H locs 0 0 (MQ below (Ql D cI cS Z K r σ) args s 0 0 (aZ Z)) (F0 m 78 ls [])) → ∀ (H : Heap) (locs : List Loc) (ls : Array Slot), fI D cI cS Z K σ H → va_S (aZ Z) s.heap H locs → lv_has ls 5 [(0, .ref (Z + 0)), (1, .long q_20), (3, .int y_21)] → W p l e { frames := 5, cells := 0, slots := 0, locals := 117 } s m args below meth c H locs 0 0 (MQ below (Ql D cI cS Z K r σ) args s 0 0 (aZ Z)) (F0 m 33 ls []) := by
    intro nn
    induction nn with
    | zero =>
      intro q_20 y_21 u_22 hq
      exact (lp_0 hq).elim
    | succ nn ih_25 =>
      intro q_20 y_21 u_22 hq kn_27 H locs ls hI hS hl
      obtain ⟨wb_23, hf, hk_26⟩ := lp_e hq
      rw [b_L_digest_33] at hf
      have ih_25 := fun (q_20 : Int64) (y_21 : Int32) q => ih_25 q_20 y_21 u_22 q kn_27
      refine lv_iload_n hx hb dL_digest_33 rfl (lv_at hl 2 rfl) ?_
      refine lv_aload_n hx hb dL_digest_34 rfl (lv_at hl 0 rfl) ?_
      refine lv_iconst (v := 1) hx hb dL_digest_35 (by decide) ?_
      obtain ⟨r_50, hr_50, hf⟩ := bi_e hf
      refine kL_12 hx hb hml hts hown hG hI hS hl.1 hL (As := [.int 1]) (c_X7_count l D cI cS Z K hL 1 σ _ hr_50) ⟨(Nat.le_of_ble_eq_true rfl), (Nat.le_of_ble_eq_true rfl)⟩ rfl (Nat.le_of_ble_eq_true rfl) ⟨(Nat.le_of_ble_eq_true rfl), (Nat.le_of_ble_eq_true rfl)⟩ dL_digest_36 (fun H locs hI hS => ?_)
      refine lv_icmp_ge (tgt := 78) hx hb dL_digest_39 (by decide) (fun c_70 => ?_) (fun c_70 => ?_)
      · have hf := pos_e c_70 hf
        obtain rfl := so_e hf
        obtain rfl := lk_r hk_26
        exact kn_27 _ _ _ hI hS (lv_sub hl [0, 1] rfl)
      · have hf := neg_e c_70 hf
        refine lv_iconst (v := 0) hx hb dL_digest_42 (by decide) ?_
        refine lv_istore (lv' := [(4, .int 0), (0, .ref (Z + 0)), (1, .long q_20), (3, .int y_21)]) hx hb dL_digest_43 hl (by decide) rfl (fun ls hl => ?_)
        have L_55 : ∀ (nn : Nat) (q_51 : Int64) (y_52 : Int32) (u_53 : Int64), lp (b_L_digest_45 σ y_21) nn (q_51, y_52) = some u_53 → (∀ (H : Heap) (locs : List Loc) (ls : Array Slot), fI D cI cS Z K σ H → va_S (aZ Z) s.heap H locs → lv_has ls 5 [(0, .ref (Z + 0)), (1, .long u_53), (3, .int y_21)] → W p l e { frames := 5, cells := 0, slots := 0, locals := 117 } s m args below meth c H locs 0 0 (MQ below (Ql D cI cS Z K r σ) args s 0 0 (aZ Z)) (F0 m 72 ls [])) → ∀ (H : Heap) (locs : List Loc) (ls : Array Slot), fI D cI cS Z K σ H → va_S (aZ Z) s.heap H locs → lv_has ls 5 [(0, .ref (Z + 0)), (1, .long q_51), (3, .int y_21), (4, .int y_52)] → W p l e { frames := 5, cells := 0, slots := 0, locals := 117 } s m args below meth c H locs 0 0 (MQ below (Ql D cI cS Z K r σ) args s 0 0 (aZ Z)) (F0 m 45 ls []) := by
          intro nn
          induction nn with
          | zero =>
            intro q_51 y_52 u_53 hq
            exact (lp_0 hq).elim
          | succ nn ih_56 =>
            intro q_51 y_52 u_53 hq kn_58 H locs ls hI hS hl
            obtain ⟨wb_54, hf, hk_57⟩ := lp_e hq
            rw [b_L_digest_45] at hf
            have ih_56 := fun (q_51 : Int64) (y_52 : Int32) q => ih_56 q_51 y_52 u_53 q kn_58
            refine lv_iload hx hb dL_digest_45 (lv_at hl 3 rfl) ?_
            refine lv_iconst (v := 5) hx hb dL_digest_47 (by decide) ?_
            refine lv_icmp_ge (tgt := 72) hx hb dL_digest_48 (by decide) (fun c_67 => ?_) (fun c_67 => ?_)
            · have hf := pos_e c_67 hf
              obtain rfl := so_e hf
              obtain rfl := lk_r hk_57
              exact kn_58 _ _ _ hI hS (lv_sub hl [0, 1, 2] rfl)
            · have hf := neg_e c_67 hf
              refine lv_ldc2 (v := 31) hx hb hown (hts _ (mT10 _ (List.mem_of_getElem? (i := 3) rfl))) dL_digest_51 ?_
              refine lv_lload_n hx hb dL_digest_54 rfl (lv_at hl 1 rfl) ?_
              refine lv_lmul hx hb dL_digest_55 ?_
              refine lv_aload_n hx hb dL_digest_56 rfl (lv_at hl 0 rfl) ?_
              refine lv_iload_n hx hb dL_digest_57 rfl (lv_at hl 2 rfl) ?_
              refine lv_iload hx hb dL_digest_58 (lv_at hl 3 rfl) ?_
              obtain ⟨r_64, hr_64, hf⟩ := bi_e hf
              refine kL_18 hx hb hml hts hown hG hI hS hl.1 hL (As := [.int y_21, .int y_52]) (c_X7_end l D cI cS Z K hL y_21 y_52 σ _ hr_64) ⟨(Nat.le_of_ble_eq_true rfl), (Nat.le_of_ble_eq_true rfl)⟩ rfl (Nat.le_of_ble_eq_true rfl) ⟨(Nat.le_of_ble_eq_true rfl), (Nat.le_of_ble_eq_true rfl)⟩ dL_digest_60 (fun H locs hI hS => ?_)
              refine lv_i2l hx hb dL_digest_63 rfl ?_
              refine lv_ladd hx hb dL_digest_64 ?_
              obtain ⟨w_65, ew_65, hf⟩ := vl_e hf
              refine mm_namel ew_65 ?_
              refine lv_lstore_n (lv' := [(1, .long w_65), (0, .ref (Z + 0)), (3, .int y_21), (4, .int y_52)]) hx hb dL_digest_65 rfl hl (by decide) rfl (fun ls hl => ?_)
              obtain ⟨x_66, ex_66, hf⟩ := vl_e hf
              refine lv_iinc (v := x_66) (lv' := [(4, .int x_66), (1, .long w_65), (0, .ref (Z + 0)), (3, .int y_21)]) hx hb dL_digest_66 hl (k := 3) rfl (by rw [ex_66]; rfl) (by decide) rfl (fun ls hl => ?_)
              refine lv_goto (tgt := 45) hx hb dL_digest_69 (by decide) ?_
              obtain rfl := so_e hf
              exact ih_56 w_65 x_66 hk_57 _ _ _ hI hS (lv_sub hl [2, 1, 3, 0] rfl)
        obtain ⟨u_53, hy, hf⟩ := bi_e hf
        refine L_55 FU q_20 0 _ hy ?_ _ _ _ hI hS (lv_sub hl [1, 2, 3, 0] rfl)
        clear L_55
        intro H locs ls hI hS hl
        obtain ⟨x_69, ex_69, hf⟩ := vl_e hf
        refine lv_iinc (v := x_69) (lv' := [(3, .int x_69), (0, .ref (Z + 0)), (1, .long u_53)]) hx hb dL_digest_72 hl (k := 2) rfl (by rw [ex_69]; rfl) (by decide) rfl (fun ls hl => ?_)
        refine lv_goto (tgt := 33) hx hb dL_digest_75 (by decide) ?_
        obtain rfl := so_e hf
        exact ih_25 u_53 x_69 hk_26 _ _ _ hI hS (lv_sub hl [1, 2, 0] rfl)
  obtain ⟨u_22, hy, hf⟩ := bi_e hf
  refine L_24 FU u_4 0 _ hy ?_ _ _ _ hI hS (lv_sub hl [1, 2, 0] rfl)
  clear L_24
  intro H locs ls hI hS hl
  refine lv_iconst (v := 0) hx hb dL_digest_78 (by decide) ?_
  refine lv_istore_n (lv' := [(3, .int 0), (0, .ref (Z + 0)), (1, .long u_22)]) hx hb dL_digest_79 rfl hl (by decide) rfl (fun ls hl => ?_)
  have L_76 : ∀ (nn : Nat) (q_72 : Int64) (y_73 : Int32) (u_74 : Int64), lp (b_L_digest_80 σ) nn (q_72, y_73) = some u_74 → (∀ (H : Heap) (locs : List Loc) (ls : Array Slot), fI D cI cS Z K σ H → va_S (aZ Z) s.heap H locs → lv_has ls 5 [(0, .ref (Z + 0)), (1, .long u_74)] → W p l e { frames := 5, cells := 0, slots := 0, locals := 117 } s m args below meth c H locs 0 0 (MQ below (Ql D cI cS Z K r σ) args s 0 0 (aZ Z)) (F0 m 125 ls [])) → ∀ (H : Heap) (locs : List Loc) (ls : Array Slot), fI D cI cS Z K σ H → va_S (aZ Z) s.heap H locs → lv_has ls 5 [(0, .ref (Z + 0)), (1, .long q_72), (3, .int y_73)] → W p l e { frames := 5, cells := 0, slots := 0, locals := 117 } s m args below meth c H locs 0 0 (MQ below (Ql D cI cS Z K r σ) args s 0 0 (aZ Z)) (F0 m 80 ls []) := by
    intro nn
    induction nn with
    | zero =>
      intro q_72 y_73 u_74 hq
      exact (lp_0 hq).elim
    | succ nn ih_77 =>
      intro q_72 y_73 u_74 hq kn_79 H locs ls hI hS hl
      obtain ⟨wb_75, hf, hk_78⟩ := lp_e hq
      rw [b_L_digest_80] at hf
      have ih_77 := fun (q_72 : Int64) (y_73 : Int32) q => ih_77 q_72 y_73 u_74 q kn_79
      refine lv_iload_n hx hb dL_digest_80 rfl (lv_at hl 2 rfl) ?_
      refine lv_aload_n hx hb dL_digest_81 rfl (lv_at hl 0 rfl) ?_
      refine lv_iconst (v := 2) hx hb dL_digest_82 (by decide) ?_
      obtain ⟨r_102, hr_102, hf⟩ := bi_e hf
      refine kL_12 hx hb hml hts hown hG hI hS hl.1 hL (As := [.int 2]) (c_X7_count l D cI cS Z K hL 2 σ _ hr_102) ⟨(Nat.le_of_ble_eq_true rfl), (Nat.le_of_ble_eq_true rfl)⟩ rfl (Nat.le_of_ble_eq_true rfl) ⟨(Nat.le_of_ble_eq_true rfl), (Nat.le_of_ble_eq_true rfl)⟩ dL_digest_83 (fun H locs hI hS => ?_)
      refine lv_icmp_ge (tgt := 125) hx hb dL_digest_86 (by decide) (fun c_122 => ?_) (fun c_122 => ?_)
      · have hf := pos_e c_122 hf
        obtain rfl := so_e hf
        obtain rfl := lk_r hk_78
        exact kn_79 _ _ _ hI hS (lv_sub hl [0, 1] rfl)
      · have hf := neg_e c_122 hf
        refine lv_iconst (v := 0) hx hb dL_digest_89 (by decide) ?_
        refine lv_istore (lv' := [(4, .int 0), (0, .ref (Z + 0)), (1, .long q_72), (3, .int y_73)]) hx hb dL_digest_90 hl (by decide) rfl (fun ls hl => ?_)
        have L_107 : ∀ (nn : Nat) (q_103 : Int64) (y_104 : Int32) (u_105 : Int64), lp (b_L_digest_92 σ y_73) nn (q_103, y_104) = some u_105 → (∀ (H : Heap) (locs : List Loc) (ls : Array Slot), fI D cI cS Z K σ H → va_S (aZ Z) s.heap H locs → lv_has ls 5 [(0, .ref (Z + 0)), (1, .long u_105), (3, .int y_73)] → W p l e { frames := 5, cells := 0, slots := 0, locals := 117 } s m args below meth c H locs 0 0 (MQ below (Ql D cI cS Z K r σ) args s 0 0 (aZ Z)) (F0 m 119 ls [])) → ∀ (H : Heap) (locs : List Loc) (ls : Array Slot), fI D cI cS Z K σ H → va_S (aZ Z) s.heap H locs → lv_has ls 5 [(0, .ref (Z + 0)), (1, .long q_103), (3, .int y_73), (4, .int y_104)] → W p l e { frames := 5, cells := 0, slots := 0, locals := 117 } s m args below meth c H locs 0 0 (MQ below (Ql D cI cS Z K r σ) args s 0 0 (aZ Z)) (F0 m 92 ls []) := by
          intro nn
          induction nn with
          | zero =>
            intro q_103 y_104 u_105 hq
            exact (lp_0 hq).elim
          | succ nn ih_108 =>
            intro q_103 y_104 u_105 hq kn_110 H locs ls hI hS hl
            obtain ⟨wb_106, hf, hk_109⟩ := lp_e hq
            rw [b_L_digest_92] at hf
            have ih_108 := fun (q_103 : Int64) (y_104 : Int32) q => ih_108 q_103 y_104 u_105 q kn_110
            refine lv_iload hx hb dL_digest_92 (lv_at hl 3 rfl) ?_
            refine lv_iconst (v := 4) hx hb dL_digest_94 (by decide) ?_
            refine lv_icmp_ge (tgt := 119) hx hb dL_digest_95 (by decide) (fun c_119 => ?_) (fun c_119 => ?_)
            · have hf := pos_e c_119 hf
              obtain rfl := so_e hf
              obtain rfl := lk_r hk_109
              exact kn_110 _ _ _ hI hS (lv_sub hl [0, 1, 2] rfl)
            · have hf := neg_e c_119 hf
              refine lv_ldc2 (v := 31) hx hb hown (hts _ (mT10 _ (List.mem_of_getElem? (i := 3) rfl))) dL_digest_98 ?_
              refine lv_lload_n hx hb dL_digest_101 rfl (lv_at hl 1 rfl) ?_
              refine lv_lmul hx hb dL_digest_102 ?_
              refine lv_aload_n hx hb dL_digest_103 rfl (lv_at hl 0 rfl) ?_
              refine lv_iload_n hx hb dL_digest_104 rfl (lv_at hl 2 rfl) ?_
              refine lv_iload hx hb dL_digest_105 (lv_at hl 3 rfl) ?_
              obtain ⟨r_116, hr_116, hf⟩ := bi_e hf
              refine kL_22 hx hb hml hts hown hG hI hS hl.1 hL (As := [.int y_73, .int y_104]) (c_X7_bar l D cI cS Z K hL y_73 y_104 σ _ hr_116) ⟨(Nat.le_of_ble_eq_true rfl), (Nat.le_of_ble_eq_true rfl)⟩ rfl (Nat.le_of_ble_eq_true rfl) ⟨(Nat.le_of_ble_eq_true rfl), (Nat.le_of_ble_eq_true rfl)⟩ dL_digest_107 (fun H locs hI hS => ?_)
              refine lv_i2l hx hb dL_digest_110 rfl ?_
              refine lv_ladd hx hb dL_digest_111 ?_
              obtain ⟨w_117, ew_117, hf⟩ := vl_e hf
              refine mm_namel ew_117 ?_
              refine lv_lstore_n (lv' := [(1, .long w_117), (0, .ref (Z + 0)), (3, .int y_73), (4, .int y_104)]) hx hb dL_digest_112 rfl hl (by decide) rfl (fun ls hl => ?_)
              obtain ⟨x_118, ex_118, hf⟩ := vl_e hf
              refine lv_iinc (v := x_118) (lv' := [(4, .int x_118), (1, .long w_117), (0, .ref (Z + 0)), (3, .int y_73)]) hx hb dL_digest_113 hl (k := 3) rfl (by rw [ex_118]; rfl) (by decide) rfl (fun ls hl => ?_)
              refine lv_goto (tgt := 92) hx hb dL_digest_116 (by decide) ?_
              obtain rfl := so_e hf
              exact ih_108 w_117 x_118 hk_109 _ _ _ hI hS (lv_sub hl [2, 1, 3, 0] rfl)
        obtain ⟨u_105, hy, hf⟩ := bi_e hf
        refine L_107 FU q_72 0 _ hy ?_ _ _ _ hI hS (lv_sub hl [1, 2, 3, 0] rfl)
        clear L_107
        intro H locs ls hI hS hl
        obtain ⟨x_121, ex_121, hf⟩ := vl_e hf
        refine lv_iinc (v := x_121) (lv' := [(3, .int x_121), (0, .ref (Z + 0)), (1, .long u_105)]) hx hb dL_digest_119 hl (k := 2) rfl (by rw [ex_121]; rfl) (by decide) rfl (fun ls hl => ?_)
        refine lv_goto (tgt := 80) hx hb dL_digest_122 (by decide) ?_
        obtain rfl := so_e hf
        exact ih_77 u_105 x_121 hk_78 _ _ _ hI hS (lv_sub hl [1, 2, 0] rfl)
  obtain ⟨u_74, hy, hf⟩ := bi_e hf
  refine L_76 FU u_22 0 _ hy ?_ _ _ _ hI hS (lv_sub hl [1, 2, 0] rfl)
  clear L_76
  intro H locs ls hI hS hl
  refine lv_iconst (v := 0) hx hb dL_digest_125 (by decide) ?_
  refine lv_istore_n (lv' := [(3, .int 0), (0, .ref (Z + 0)), (1, .long u_74)]) hx hb dL_digest_126 rfl hl (by decide) rfl (fun ls hl => ?_)
  have L_128 : ∀ (nn : Nat) (q_124 : Int64) (y_125 : Int32) (u_126 : Int64), lp (b_L_digest_127 σ) nn (q_124, y_125) = some u_126 → (∀ (H : Heap) (locs : List Loc) (ls : Array Slot), fI D cI cS Z K σ H → va_S (aZ Z) s.heap H locs → lv_has ls 5 [(0, .ref (Z + 0)), (1, .long u_126)] → W p l e { frames := 5, cells := 0, slots := 0, locals := 117 } s m args below meth c H locs 0 0 (MQ below (Ql D cI cS Z K r σ) args s 0 0 (aZ Z)) (F0 m 152 ls [])) → ∀ (H : Heap) (locs : List Loc) (ls : Array Slot), fI D cI cS Z K σ H → va_S (aZ Z) s.heap H locs → lv_has ls 5 [(0, .ref (Z + 0)), (1, .long q_124), (3, .int y_125)] → W p l e { frames := 5, cells := 0, slots := 0, locals := 117 } s m args below meth c H locs 0 0 (MQ below (Ql D cI cS Z K r σ) args s 0 0 (aZ Z)) (F0 m 127 ls []) := by
    intro nn
    induction nn with
    | zero =>
      intro q_124 y_125 u_126 hq
      exact (lp_0 hq).elim
    | succ nn ih_129 =>
      intro q_124 y_125 u_126 hq kn_131 H locs ls hI hS hl
      obtain ⟨wb_127, hf, hk_130⟩ := lp_e hq
      rw [b_L_digest_127] at hf
      have ih_129 := fun (q_124 : Int64) (y_125 : Int32) q => ih_129 q_124 y_125 u_126 q kn_131
      refine lv_iload_n hx hb dL_digest_127 rfl (lv_at hl 2 rfl) ?_
      refine lv_bipush (v := 10) hx hb dL_digest_128 (by decide) ?_
      refine lv_icmp_ge (tgt := 152) hx hb dL_digest_130 (by decide) (fun c_140 => ?_) (fun c_140 => ?_)
      · have hf := pos_e c_140 hf
        obtain rfl := so_e hf
        obtain rfl := lk_r hk_130
        exact kn_131 _ _ _ hI hS (lv_sub hl [0, 1] rfl)
      · have hf := neg_e c_140 hf
        refine lv_ldc2 (v := 31) hx hb hown (hts _ (mT10 _ (List.mem_of_getElem? (i := 3) rfl))) dL_digest_133 ?_
        refine lv_lload_n hx hb dL_digest_136 rfl (lv_at hl 1 rfl) ?_
        refine lv_lmul hx hb dL_digest_137 ?_
        refine lv_aload_n hx hb dL_digest_138 rfl (lv_at hl 0 rfl) ?_
        refine lv_iload_n hx hb dL_digest_139 rfl (lv_at hl 2 rfl) ?_
        obtain ⟨r_137, hr_137, hf⟩ := bi_e hf
        refine kL_25 hx hb hml hts hown hG hI hS hl.1 hL (As := [.int y_125]) (c_X7_yarn l D cI cS Z K hL y_125 σ _ hr_137) ⟨(Nat.le_of_ble_eq_true rfl), (Nat.le_of_ble_eq_true rfl)⟩ rfl (Nat.le_of_ble_eq_true rfl) ⟨(Nat.le_of_ble_eq_true rfl), (Nat.le_of_ble_eq_true rfl)⟩ dL_digest_140 (fun H locs hI hS => ?_)
        refine lv_i2l hx hb dL_digest_143 rfl ?_
        refine lv_ladd hx hb dL_digest_144 ?_
        obtain ⟨w_138, ew_138, hf⟩ := vl_e hf
        refine mm_namel ew_138 ?_
        refine lv_lstore_n (lv' := [(1, .long w_138), (0, .ref (Z + 0)), (3, .int y_125)]) hx hb dL_digest_145 rfl hl (by decide) rfl (fun ls hl => ?_)
        obtain ⟨x_139, ex_139, hf⟩ := vl_e hf
        refine lv_iinc (v := x_139) (lv' := [(3, .int x_139), (1, .long w_138), (0, .ref (Z + 0))]) hx hb dL_digest_146 hl (k := 2) rfl (by rw [ex_139]; rfl) (by decide) rfl (fun ls hl => ?_)
        refine lv_goto (tgt := 127) hx hb dL_digest_149 (by decide) ?_
        obtain rfl := so_e hf
        exact ih_129 w_138 x_139 hk_130 _ _ _ hI hS (lv_sub hl [2, 1, 0] rfl)
  obtain ⟨u_126, hy, hf⟩ := bi_e hf
  refine L_128 FU u_74 0 _ hy ?_ _ _ _ hI hS (lv_sub hl [1, 2, 0] rfl)
  clear L_128
  intro H locs ls hI hS hl
  refine lv_iconst (v := 0) hx hb dL_digest_152 (by decide) ?_
  refine lv_istore_n (lv' := [(3, .int 0), (0, .ref (Z + 0)), (1, .long u_126)]) hx hb dL_digest_153 rfl hl (by decide) rfl (fun ls hl => ?_)
  have L_146 : ∀ (nn : Nat) (q_142 : Int64) (y_143 : Int32) (u_144 : Int64), lp (b_L_digest_154 σ) nn (q_142, y_143) = some u_144 → (∀ (H : Heap) (locs : List Loc) (ls : Array Slot), fI D cI cS Z K σ H → va_S (aZ Z) s.heap H locs → lv_has ls 5 [(0, .ref (Z + 0)), (1, .long u_144)] → W p l e { frames := 5, cells := 0, slots := 0, locals := 117 } s m args below meth c H locs 0 0 (MQ below (Ql D cI cS Z K r σ) args s 0 0 (aZ Z)) (F0 m 200 ls [])) → ∀ (H : Heap) (locs : List Loc) (ls : Array Slot), fI D cI cS Z K σ H → va_S (aZ Z) s.heap H locs → lv_has ls 5 [(0, .ref (Z + 0)), (1, .long q_142), (3, .int y_143)] → W p l e { frames := 5, cells := 0, slots := 0, locals := 117 } s m args below meth c H locs 0 0 (MQ below (Ql D cI cS Z K r σ) args s 0 0 (aZ Z)) (F0 m 154 ls []) := by
    intro nn
    induction nn with
    | zero =>
      intro q_142 y_143 u_144 hq
      exact (lp_0 hq).elim
    | succ nn ih_147 =>
      intro q_142 y_143 u_144 hq kn_149 H locs ls hI hS hl
      obtain ⟨wb_145, hf, hk_148⟩ := lp_e hq
      rw [b_L_digest_154] at hf
      have ih_147 := fun (q_142 : Int64) (y_143 : Int32) q => ih_147 q_142 y_143 u_144 q kn_149
      refine lv_iload_n hx hb dL_digest_154 rfl (lv_at hl 2 rfl) ?_
      refine lv_aload_n hx hb dL_digest_155 rfl (lv_at hl 0 rfl) ?_
      refine lv_iconst (v := 5) hx hb dL_digest_156 (by decide) ?_
      obtain ⟨r_172, hr_172, hf⟩ := bi_e hf
      refine kL_12 hx hb hml hts hown hG hI hS hl.1 hL (As := [.int 5]) (c_X7_count l D cI cS Z K hL 5 σ _ hr_172) ⟨(Nat.le_of_ble_eq_true rfl), (Nat.le_of_ble_eq_true rfl)⟩ rfl (Nat.le_of_ble_eq_true rfl) ⟨(Nat.le_of_ble_eq_true rfl), (Nat.le_of_ble_eq_true rfl)⟩ dL_digest_157 (fun H locs hI hS => ?_)
      refine lv_icmp_ge (tgt := 200) hx hb dL_digest_160 (by decide) (fun c_192 => ?_) (fun c_192 => ?_)
      · have hf := pos_e c_192 hf
        obtain rfl := so_e hf
        obtain rfl := lk_r hk_148
        exact kn_149 _ _ _ hI hS (lv_sub hl [0, 1] rfl)
      · have hf := neg_e c_192 hf
        refine lv_iconst (v := 0) hx hb dL_digest_163 (by decide) ?_
        refine lv_istore (lv' := [(4, .int 0), (0, .ref (Z + 0)), (1, .long q_142), (3, .int y_143)]) hx hb dL_digest_164 hl (by decide) rfl (fun ls hl => ?_)
        have L_177 : ∀ (nn : Nat) (q_173 : Int64) (y_174 : Int32) (u_175 : Int64), lp (b_L_digest_166 σ y_143) nn (q_173, y_174) = some u_175 → (∀ (H : Heap) (locs : List Loc) (ls : Array Slot), fI D cI cS Z K σ H → va_S (aZ Z) s.heap H locs → lv_has ls 5 [(0, .ref (Z + 0)), (1, .long u_175), (3, .int y_143)] → W p l e { frames := 5, cells := 0, slots := 0, locals := 117 } s m args below meth c H locs 0 0 (MQ below (Ql D cI cS Z K r σ) args s 0 0 (aZ Z)) (F0 m 194 ls [])) → ∀ (H : Heap) (locs : List Loc) (ls : Array Slot), fI D cI cS Z K σ H → va_S (aZ Z) s.heap H locs → lv_has ls 5 [(0, .ref (Z + 0)), (1, .long q_173), (3, .int y_143), (4, .int y_174)] → W p l e { frames := 5, cells := 0, slots := 0, locals := 117 } s m args below meth c H locs 0 0 (MQ below (Ql D cI cS Z K r σ) args s 0 0 (aZ Z)) (F0 m 166 ls []) := by
          intro nn
          induction nn with
          | zero =>
            intro q_173 y_174 u_175 hq
            exact (lp_0 hq).elim
          | succ nn ih_178 =>
            intro q_173 y_174 u_175 hq kn_180 H locs ls hI hS hl
            obtain ⟨wb_176, hf, hk_179⟩ := lp_e hq
            rw [b_L_digest_166] at hf
            have ih_178 := fun (q_173 : Int64) (y_174 : Int32) q => ih_178 q_173 y_174 u_175 q kn_180
            refine lv_iload hx hb dL_digest_166 (lv_at hl 3 rfl) ?_
            refine lv_bipush (v := 7) hx hb dL_digest_168 (by decide) ?_
            refine lv_icmp_ge (tgt := 194) hx hb dL_digest_170 (by decide) (fun c_189 => ?_) (fun c_189 => ?_)
            · have hf := pos_e c_189 hf
              obtain rfl := so_e hf
              obtain rfl := lk_r hk_179
              exact kn_180 _ _ _ hI hS (lv_sub hl [0, 1, 2] rfl)
            · have hf := neg_e c_189 hf
              refine lv_ldc2 (v := 31) hx hb hown (hts _ (mT10 _ (List.mem_of_getElem? (i := 3) rfl))) dL_digest_173 ?_
              refine lv_lload_n hx hb dL_digest_176 rfl (lv_at hl 1 rfl) ?_
              refine lv_lmul hx hb dL_digest_177 ?_
              refine lv_aload_n hx hb dL_digest_178 rfl (lv_at hl 0 rfl) ?_
              refine lv_iload_n hx hb dL_digest_179 rfl (lv_at hl 2 rfl) ?_
              refine lv_iload hx hb dL_digest_180 (lv_at hl 3 rfl) ?_
              obtain ⟨r_186, hr_186, hf⟩ := bi_e hf
              refine kL_28 hx hb hml hts hown hG hI hS hl.1 hL (As := [.int y_143, .int y_174]) (c_X7_row l D cI cS Z K hL y_143 y_174 σ _ hr_186) ⟨(Nat.le_of_ble_eq_true rfl), (Nat.le_of_ble_eq_true rfl)⟩ rfl (Nat.le_of_ble_eq_true rfl) ⟨(Nat.le_of_ble_eq_true rfl), (Nat.le_of_ble_eq_true rfl)⟩ dL_digest_182 (fun H locs hI hS => ?_)
              refine lv_i2l hx hb dL_digest_185 rfl ?_
              refine lv_ladd hx hb dL_digest_186 ?_
              obtain ⟨w_187, ew_187, hf⟩ := vl_e hf
              refine mm_namel ew_187 ?_
              refine lv_lstore_n (lv' := [(1, .long w_187), (0, .ref (Z + 0)), (3, .int y_143), (4, .int y_174)]) hx hb dL_digest_187 rfl hl (by decide) rfl (fun ls hl => ?_)
              obtain ⟨x_188, ex_188, hf⟩ := vl_e hf
              refine lv_iinc (v := x_188) (lv' := [(4, .int x_188), (1, .long w_187), (0, .ref (Z + 0)), (3, .int y_143)]) hx hb dL_digest_188 hl (k := 3) rfl (by rw [ex_188]; rfl) (by decide) rfl (fun ls hl => ?_)
              refine lv_goto (tgt := 166) hx hb dL_digest_191 (by decide) ?_
              obtain rfl := so_e hf
              exact ih_178 w_187 x_188 hk_179 _ _ _ hI hS (lv_sub hl [2, 1, 3, 0] rfl)
        obtain ⟨u_175, hy, hf⟩ := bi_e hf
        refine L_177 FU q_142 0 _ hy ?_ _ _ _ hI hS (lv_sub hl [1, 2, 3, 0] rfl)
        clear L_177
        intro H locs ls hI hS hl
        obtain ⟨x_191, ex_191, hf⟩ := vl_e hf
        refine lv_iinc (v := x_191) (lv' := [(3, .int x_191), (0, .ref (Z + 0)), (1, .long u_175)]) hx hb dL_digest_194 hl (k := 2) rfl (by rw [ex_191]; rfl) (by decide) rfl (fun ls hl => ?_)
        refine lv_goto (tgt := 154) hx hb dL_digest_197 (by decide) ?_
        obtain rfl := so_e hf
        exact ih_147 u_175 x_191 hk_148 _ _ _ hI hS (lv_sub hl [1, 2, 0] rfl)
  obtain ⟨u_144, hy, hf⟩ := bi_e hf
  refine L_146 FU u_126 0 _ hy ?_ _ _ _ hI hS (lv_sub hl [1, 2, 0] rfl)
  clear L_146
  intro H locs ls hI hS hl
  refine lv_ldc2 (v := 31) hx hb hown (hts _ (mT10 _ (List.mem_of_getElem? (i := 3) rfl))) dL_digest_200 ?_
  refine lv_lload_n hx hb dL_digest_203 rfl (lv_at hl 1 rfl) ?_
  refine lv_lmul hx hb dL_digest_204 ?_
  refine lv_aload_n hx hb dL_digest_205 rfl (lv_at hl 0 rfl) ?_
  obtain ⟨r_194, hr_194, hf⟩ := bi_e hf
  refine kL_31 hx hb hml hts hown hG hI hS hl.1 hL (As := []) (c_X7_repeat l D cI cS Z K hL σ _ hr_194) ⟨(Nat.le_of_ble_eq_true rfl), (Nat.le_of_ble_eq_true rfl)⟩ rfl (Nat.le_of_ble_eq_true rfl) ⟨(Nat.le_of_ble_eq_true rfl), (Nat.le_of_ble_eq_true rfl)⟩ dL_digest_206 (fun H locs hI hS => ?_)
  refine lv_i2l hx hb dL_digest_209 rfl ?_
  refine lv_ladd hx hb dL_digest_210 ?_
  obtain rfl := so_e hf
  exact mm_lret hx hb hr hlocks hI hS dL_digest_211
def b_L_isRight_149 (σ : Nat → Nat → Int32) (y_4 : Int32) : Int32 × Int32 → Option ((Int32 × Int32) ⊕ (((Int32 × Int32 × Int32) ⊕ ((Int32) ⊕ (Int32 × Int32))) ⊕ (Int32)))
  | (y_147, y_148) => bi (f_X7_count 1 σ) fun r_180 => if r_180 ≤ y_148 then (some (.inr (.inr y_147))) else (bi (f_X7_cell y_4 y_148 0 σ) fun r_181 => vl (α := Int32) (if r_181 = 1 then (1) else (0)) fun v_183 => vl (y_147 + v_183) fun x_186 => bi (f_X7_cell y_4 y_148 0 σ) fun r_187 => bi (f_X7_cell y_4 y_148 3 σ) fun r_188 => vl (α := Int32) (if r_187 = r_188 then (0) else (1)) fun v_190 => bi (f_X7_cell y_4 y_148 2 σ) fun r_193 => vl (α := Int32) (if r_193 = 1 then (1) else (0)) fun v_195 => if v_190 = v_195 then (vl (y_148 + 1) fun x_198 => some (.inl (x_186, x_198))) else (some (.inr (.inl (.inr (.inl 0))))))
def b_L_isRight_13 (σ : Nat → Nat → Int32) (r_1 : Int32) : Int32 × Int32 × Int32 → Option ((Int32 × Int32 × Int32) ⊕ ((Int32) ⊕ (Int32 × Int32)))
  | (y_2, y_3, y_4) => if r_1 ≤ y_4 then (some (.inr (.inr (y_2, y_3)))) else (bi (f_X7_row y_4 5 σ) fun r_118 => vl (y_2 + r_118) fun x_119 => bi (f_X7_row y_4 4 σ) fun r_120 => vl (α := Int32) (if r_120 ≤ 0 then (0) else (1)) fun v_122 => jn (α := Int32 → _) (fun k_129 => if y_4 = (r_1 - 1) then (bi (f_X7_count 6 σ) fun r_218 => if r_218 = 1 then (k_129 1) else (k_129 0)) else (k_129 0)) (fun v_128 => if v_122 = v_128 then (bi (f_X7_row y_4 4 σ) fun r_131 => jn (fun k_139 => if r_131 = 0 then (bi (f_X7_row y_4 2 σ) fun r_210 => bi (f_X7_count 1 σ) fun r_211 => if r_210 < r_211 then (some (.inr (.inl 0))) else (bi (f_X7_row y_4 2 σ) fun r_212 => bi (f_X7_count 1 σ) fun r_213 => if r_212 ≤ ((2 * r_213) - 1) then (k_139) else (some (.inr (.inl 0))))) else (k_139)) (bi (f_X7_row y_4 6 σ) fun r_141 => jn (α := Int32 → _) (fun k_145 => if r_141 ≤ y_3 then (k_145 y_3) else (bi (f_X7_row y_4 6 σ) fun r_208 => k_145 r_208)) (fun v_144 => bi (lp (b_L_isRight_149 σ y_4) FU (0, 0)) fun yy_204 => sm yy_204 (fun rv => some rv) fun z_149 => bi (f_X7_row y_4 3 σ) fun r_205 => if z_149 = r_205 then (vl (y_4 + 1) fun x_206 => some (.inl (x_119, v_144, x_206))) else (some (.inr (.inl 0)))))) else (some (.inr (.inl 0)))))
def b_L_isRight_271 (σ : Nat → Nat → Int32) : Int32 × Int32 → Option ((Int32 × Int32) ⊕ ((Int32) ⊕ (Unit)))
  | (y_224, y_225) => if 12 < y_225 then (some (.inr (.inr ()))) else (bi (f_X7_floats 0 y_225 σ) fun r_237 => if r_237 ≤ y_224 then (bi (f_X7_floats 0 y_225 σ) fun r_238 => vl (y_225 + 1) fun x_239 => some (.inl (r_238, x_239))) else (some (.inr (.inl 0))))
def b_L_isRight_310 (σ : Nat → Nat → Int32) : Int32 × Int32 → Option ((Int32 × Int32) ⊕ (Int32))
  | (y_243, y_244) => bi (f_X7_count 1 σ) fun r_259 => if r_259 ≤ y_244 then (some (.inr y_243)) else (bi (f_X7_end y_244 4 σ) fun r_260 => if r_260 ≤ y_243 then (vl (y_244 + 1) fun x_261 => some (.inl (y_243, x_261))) else (bi (f_X7_end y_244 4 σ) fun r_262 => vl (y_244 + 1) fun x_263 => some (.inl (r_262, x_263))))
def f_L_isRight  (σ : Nat → Nat → Int32) : Option Int32 := bi (f_X7_count 5 σ) fun r_1 => bi (lp (b_L_isRight_13 σ r_1) FU (0, 0, 0)) fun yy_223 => sm yy_223 (fun rv => some rv) <| cur2 fun z_5 z_6 => bi (lp (b_L_isRight_271 σ) FU (1000000, 1)) fun yy_242 => sm yy_242 (fun rv => some rv) fun _ => bi (lp (b_L_isRight_310 σ) FU (0, 0)) fun z_245 => jn (fun k_273 => if z_245 ≤ 0 then (k_273) else (if 64 ≤ z_245 then (k_273) else (bi (f_X7_floats 0 z_245 σ) fun r_299 => if r_299 < 1 then (some 0) else (bi (f_X7_floats 0 (z_245 + 1) σ) fun r_300 => if r_300 = 0 then (k_273) else (some 0))))) (jn (fun k_280 => if z_6 ≤ 0 then (k_280) else (bi (f_X7_floats 1 z_6 σ) fun r_294 => if r_294 < 1 then (some 0) else (bi (f_X7_floats 1 (z_6 + 1) σ) fun r_295 => if r_295 = 0 then (k_280) else (some 0)))) (bi (f_X7_count 7 σ) fun r_282 => if z_5 = r_282 then (if r_1 = 0 then (bi (f_X7_repeat σ) fun r_290 => if r_290 = (-9) then (some 1) else (some 0)) else (bi (f_X7_repeat σ) fun r_283 => if r_283 < 1 then (some 0) else (bi (f_X7_repeat σ) fun r_284 => if r_1 < r_284 then (some 0) else (bi (f_X7_differentRows σ) fun r_285 => bi (f_X7_repeat σ) fun r_286 => if r_286 < r_285 then (some 0) else (some 1))))) else (some 0)))
set_option maxHeartbeats 4000000 in
set_option maxRecDepth 100000 in
theorem c_L_isRight (l : Launch) (D : va_G) (cI cS : ClassId) (Z : Nat) (K : Nat → Nat) (hL : ly K 0 lyLoom) (σ : Nat → Nat → Int32) (r : Int32) (hf : f_L_isRight σ = some r) : Met l yL_isRight (wsT yL_isRight cL_isRight 8 (some .boolean)) { frames := 5, cells := 0, slots := 0, locals := 121 } (Pm D cI cS Z K [.ref (Z + 0)] σ) (Qz D cI cS Z K r σ) 0 0 (aZ Z) := by
  refine mm_met (lv := [(0, .ref (Z + 0))]) (by decide) (Nat.le_of_ble_eq_true rfl) rfl ?_
  intro p e s m args below meth c ls hx hb hr hml hts hown hlocks hG hl hI hS
  have hown : s.vm.findClass RL = some m.cls := hown
  rw [f_L_isRight] at hf
  refine lv_aload_n hx hb dL_isRight_0 rfl (lv_at hl 0 rfl) ?_
  refine lv_iconst (v := 5) hx hb dL_isRight_1 (by decide) ?_
  obtain ⟨r_1, hr_1, hf⟩ := bi_e hf
  refine kL_12 hx hb hml hts hown hG hI hS hl.1 hL (As := [.int 5]) (c_X7_count l D cI cS Z K hL 5 σ _ hr_1) ⟨(Nat.le_of_ble_eq_true rfl), (Nat.le_of_ble_eq_true rfl)⟩ rfl (Nat.le_of_ble_eq_true rfl) ⟨(Nat.le_of_ble_eq_true rfl), (Nat.le_of_ble_eq_true rfl)⟩ dL_isRight_2 (fun H locs hI hS => ?_)
  refine lv_istore_n (lv' := [(1, .int r_1), (0, .ref (Z + 0))]) hx hb dL_isRight_5 rfl hl (by decide) rfl (fun ls hl => ?_)
  refine lv_iconst (v := 0) hx hb dL_isRight_6 (by decide) ?_
  refine lv_istore_n (lv' := [(2, .int 0), (1, .int r_1), (0, .ref (Z + 0))]) hx hb dL_isRight_7 rfl hl (by decide) rfl (fun ls hl => ?_)
  refine lv_iconst (v := 0) hx hb dL_isRight_8 (by decide) ?_
  refine lv_istore_n (lv' := [(3, .int 0), (2, .int 0), (1, .int r_1), (0, .ref (Z + 0))]) hx hb dL_isRight_9 rfl hl (by decide) rfl (fun ls hl => ?_)
  refine lv_iconst (v := 0) hx hb dL_isRight_10 (by decide) ?_
  refine lv_istore (lv' := [(4, .int 0), (3, .int 0), (2, .int 0), (1, .int r_1), (0, .ref (Z + 0))]) hx hb dL_isRight_11 hl (by decide) rfl (fun ls hl => ?_)
  have L_8 : ∀ (nn : Nat) (y_2 : Int32) (y_3 : Int32) (y_4 : Int32) (yy_223 : ((Int32) ⊕ (Int32 × Int32))), lp (b_L_isRight_13 σ r_1) nn (y_2, y_3, y_4) = some yy_223 → (∀ rv, yy_223 = .inl rv → some rv = some r) → (∀ (z_5 : Int32) (z_6 : Int32), yy_223 = .inr (z_5, z_6) → ∀ (H : Heap) (locs : List Loc) (ls : Array Slot), fI D cI cS Z K σ H → va_S (aZ Z) s.heap H locs → lv_has ls 8 [(0, .ref (Z + 0)), (1, .int r_1), (2, .int z_5), (3, .int z_6)] → W p l e { frames := 5, cells := 0, slots := 0, locals := 121 } s m args below meth c H locs 0 0 (MQ below (Qz D cI cS Z K r σ) args s 0 0 (aZ Z)) (F0 m 261 ls [])) → ∀ (H : Heap) (locs : List Loc) (ls : Array Slot), fI D cI cS Z K σ H → va_S (aZ Z) s.heap H locs → lv_has ls 8 [(0, .ref (Z + 0)), (1, .int r_1), (2, .int y_2), (3, .int y_3), (4, .int y_4)] → W p l e { frames := 5, cells := 0, slots := 0, locals := 121 } s m args below meth c H locs 0 0 (MQ below (Qz D cI cS Z K r σ) args s 0 0 (aZ Z)) (F0 m 13 ls []) := by
    intro nn
    induction nn with
    | zero =>
      intro y_2 y_3 y_4 yy_223 hq
      exact (lp_0 hq).elim
    | succ nn ih_9 =>
      intro y_2 y_3 y_4 yy_223 hq hret_12 kn_11 H locs ls hI hS hl
      obtain ⟨wb_7, hf, hk_10⟩ := lp_e hq
      rw [b_L_isRight_13] at hf
      have ih_9 := fun (y_2 : Int32) (y_3 : Int32) (y_4 : Int32) q => ih_9 y_2 y_3 y_4 yy_223 q hret_12 kn_11
      refine lv_iload hx hb dL_isRight_13 (lv_at hl 4 rfl) ?_
      refine lv_iload_n hx hb dL_isRight_15 rfl (lv_at hl 1 rfl) ?_
      refine lv_icmp_ge (tgt := 261) hx hb dL_isRight_16 (by decide) (fun c_222 => ?_) (fun c_222 => ?_)
      · have hf := pos_e c_222 hf
        obtain rfl := so_e hf
        obtain rfl := lk_r hk_10
        exact kn_11 _ _ rfl _ _ _ hI hS (lv_sub hl [0, 1, 2, 3] rfl)
      · have hf := neg_e c_222 hf
        refine lv_iload_n hx hb dL_isRight_19 rfl (lv_at hl 2 rfl) ?_
        refine lv_aload_n hx hb dL_isRight_20 rfl (lv_at hl 0 rfl) ?_
        refine lv_iload hx hb dL_isRight_21 (lv_at hl 4 rfl) ?_
        refine lv_iconst (v := 5) hx hb dL_isRight_23 (by decide) ?_
        obtain ⟨r_118, hr_118, hf⟩ := bi_e hf
        refine kL_28 hx hb hml hts hown hG hI hS hl.1 hL (As := [.int y_4, .int 5]) (c_X7_row l D cI cS Z K hL y_4 5 σ _ hr_118) ⟨(Nat.le_of_ble_eq_true rfl), (Nat.le_of_ble_eq_true rfl)⟩ rfl (Nat.le_of_ble_eq_true rfl) ⟨(Nat.le_of_ble_eq_true rfl), (Nat.le_of_ble_eq_true rfl)⟩ dL_isRight_24 (fun H locs hI hS => ?_)
        refine lv_iadd hx hb dL_isRight_27 ?_
        obtain ⟨x_119, ex_119, hf⟩ := vl_e hf
        refine mm_name ex_119 ?_
        refine lv_istore_n (lv' := [(2, .int x_119), (0, .ref (Z + 0)), (1, .int r_1), (3, .int y_3), (4, .int y_4)]) hx hb dL_isRight_28 rfl hl (by decide) rfl (fun ls hl => ?_)
        refine lv_aload_n hx hb dL_isRight_29 rfl (lv_at hl 1 rfl) ?_
        refine lv_iload hx hb dL_isRight_30 (lv_at hl 4 rfl) ?_
        refine lv_iconst (v := 4) hx hb dL_isRight_32 (by decide) ?_
        obtain ⟨r_120, hr_120, hf⟩ := bi_e hf
        refine kL_28 hx hb hml hts hown hG hI hS hl.1 hL (As := [.int y_4, .int 4]) (c_X7_row l D cI cS Z K hL y_4 4 σ _ hr_120) ⟨(Nat.le_of_ble_eq_true rfl), (Nat.le_of_ble_eq_true rfl)⟩ rfl (Nat.le_of_ble_eq_true rfl) ⟨(Nat.le_of_ble_eq_true rfl), (Nat.le_of_ble_eq_true rfl)⟩ dL_isRight_33 (fun H locs hI hS => ?_)
        obtain ⟨v_122, ev_122, hf⟩ := vl_e hf
        have HJ_124 : ∀ (H : Heap) (locs : List Loc) (ls : Array Slot), fI D cI cS Z K σ H → va_S (aZ Z) s.heap H locs → lv_has ls 8 [(0, .ref (Z + 0)), (1, .int r_1), (2, .int x_119), (3, .int y_3), (4, .int y_4)] → W p l e { frames := 5, cells := 0, slots := 0, locals := 121 } s m args below meth c H locs 0 0 (MQ below (Qz D cI cS Z K r σ) args s 0 0 (aZ Z)) (F0 m 44 ls [.int v_122]) := by
          intro H locs ls hI hS hl
          refine lv_iload hx hb dL_isRight_44 (lv_at hl 4 rfl) ?_
          refine lv_iload_n hx hb dL_isRight_46 rfl (lv_at hl 1 rfl) ?_
          refine lv_iconst (v := 1) hx hb dL_isRight_47 (by decide) ?_
          refine lv_isub hx hb dL_isRight_48 ?_
          obtain ⟨k_129, ek_129, hf⟩ := jn_e hf
          have HJ_130 : ∀ (v_128 : Int32) (H : Heap) (locs : List Loc) (ls : Array Slot), k_129 v_128 = some wb_7 → fI D cI cS Z K σ H → va_S (aZ Z) s.heap H locs → lv_has ls 8 [(0, .ref (Z + 0)), (1, .int r_1), (2, .int x_119), (3, .int y_3), (4, .int y_4)] → W p l e { frames := 5, cells := 0, slots := 0, locals := 121 } s m args below meth c H locs 0 0 (MQ below (Qz D cI cS Z K r σ) args s 0 0 (aZ Z)) (F0 m 67 ls [.int v_128, .int v_122]) := by
            intro v_128 H locs ls hf hI hS hl
            have hf := jb1 ek_129 hf
            refine lv_icmp_eq (tgt := 72) hx hb dL_isRight_67 (by decide) (fun c_217 => ?_) (fun c_217 => ?_)
            · have hf := pos_e c_217 hf
              refine lv_aload_n hx hb dL_isRight_72 rfl (lv_at hl 0 rfl) ?_
              refine lv_iload hx hb dL_isRight_73 (lv_at hl 4 rfl) ?_
              refine lv_iconst (v := 4) hx hb dL_isRight_75 (by decide) ?_
              obtain ⟨r_131, hr_131, hf⟩ := bi_e hf
              refine kL_28 hx hb hml hts hown hG hI hS hl.1 hL (As := [.int y_4, .int 4]) (c_X7_row l D cI cS Z K hL y_4 4 σ _ hr_131) ⟨(Nat.le_of_ble_eq_true rfl), (Nat.le_of_ble_eq_true rfl)⟩ rfl (Nat.le_of_ble_eq_true rfl) ⟨(Nat.le_of_ble_eq_true rfl), (Nat.le_of_ble_eq_true rfl)⟩ dL_isRight_76 (fun H locs hI hS => ?_)
              obtain ⟨k_139, ek_139, hf⟩ := jn_e hf
              have HJ_140 : ∀ (H : Heap) (locs : List Loc) (ls : Array Slot), k_139 = some wb_7 → fI D cI cS Z K σ H → va_S (aZ Z) s.heap H locs → lv_has ls 8 [(0, .ref (Z + 0)), (1, .int r_1), (2, .int x_119), (3, .int y_3), (4, .int y_4)] → W p l e { frames := 5, cells := 0, slots := 0, locals := 121 } s m args below meth c H locs 0 0 (MQ below (Qz D cI cS Z K r σ) args s 0 0 (aZ Z)) (F0 m 118 ls []) := by
                intro  H locs ls hf hI hS hl
                have hf := jb0 ek_139 hf
                refine lv_aload_n hx hb dL_isRight_118 rfl (lv_at hl 0 rfl) ?_
                refine lv_iload hx hb dL_isRight_119 (lv_at hl 4 rfl) ?_
                refine lv_bipush (v := 6) hx hb dL_isRight_121 (by decide) ?_
                obtain ⟨r_141, hr_141, hf⟩ := bi_e hf
                refine kL_28 hx hb hml hts hown hG hI hS hl.1 hL (As := [.int y_4, .int 6]) (c_X7_row l D cI cS Z K hL y_4 6 σ _ hr_141) ⟨(Nat.le_of_ble_eq_true rfl), (Nat.le_of_ble_eq_true rfl)⟩ rfl (Nat.le_of_ble_eq_true rfl) ⟨(Nat.le_of_ble_eq_true rfl), (Nat.le_of_ble_eq_true rfl)⟩ dL_isRight_123 (fun H locs hI hS => ?_)
                refine lv_iload_n hx hb dL_isRight_126 rfl (lv_at hl 3 rfl) ?_
                obtain ⟨k_145, ek_145, hf⟩ := jn_e hf
                have HJ_146 : ∀ (v_144 : Int32) (H : Heap) (locs : List Loc) (ls : Array Slot), k_145 v_144 = some wb_7 → fI D cI cS Z K σ H → va_S (aZ Z) s.heap H locs → lv_has ls 8 [(0, .ref (Z + 0)), (1, .int r_1), (2, .int x_119), (4, .int y_4)] → W p l e { frames := 5, cells := 0, slots := 0, locals := 121 } s m args below meth c H locs 0 0 (MQ below (Qz D cI cS Z K r σ) args s 0 0 (aZ Z)) (F0 m 142 ls [.int v_144]) := by
                  intro v_144 H locs ls hf hI hS hl
                  have hf := jb1 ek_145 hf
                  refine lv_istore_n (lv' := [(3, .int v_144), (0, .ref (Z + 0)), (1, .int r_1), (2, .int x_119), (4, .int y_4)]) hx hb dL_isRight_142 rfl hl (by decide) rfl (fun ls hl => ?_)
                  refine lv_iconst (v := 0) hx hb dL_isRight_143 (by decide) ?_
                  refine lv_istore (lv' := [(5, .int 0), (3, .int v_144), (0, .ref (Z + 0)), (1, .int r_1), (2, .int x_119), (4, .int y_4)]) hx hb dL_isRight_144 hl (by decide) rfl (fun ls hl => ?_)
                  refine lv_iconst (v := 0) hx hb dL_isRight_146 (by decide) ?_
                  refine lv_istore (lv' := [(6, .int 0), (5, .int 0), (3, .int v_144), (0, .ref (Z + 0)), (1, .int r_1), (2, .int x_119), (4, .int y_4)]) hx hb dL_isRight_147 hl (by decide) rfl (fun ls hl => ?_)
                  have L_151 : ∀ (nn : Nat) (y_147 : Int32) (y_148 : Int32) (yy_204 : (((Int32 × Int32 × Int32) ⊕ ((Int32) ⊕ (Int32 × Int32))) ⊕ (Int32))), lp (b_L_isRight_149 σ y_4) nn (y_147, y_148) = some yy_204 → (∀ rv, yy_204 = .inl rv → some rv = some wb_7) → (∀ (z_149 : Int32), yy_204 = .inr z_149 → ∀ (H : Heap) (locs : List Loc) (ls : Array Slot), fI D cI cS Z K σ H → va_S (aZ Z) s.heap H locs → lv_has ls 8 [(0, .ref (Z + 0)), (1, .int r_1), (2, .int x_119), (3, .int v_144), (4, .int y_4), (5, .int z_149)] → W p l e { frames := 5, cells := 0, slots := 0, locals := 121 } s m args below meth c H locs 0 0 (MQ below (Qz D cI cS Z K r σ) args s 0 0 (aZ Z)) (F0 m 241 ls [])) → ∀ (H : Heap) (locs : List Loc) (ls : Array Slot), fI D cI cS Z K σ H → va_S (aZ Z) s.heap H locs → lv_has ls 8 [(0, .ref (Z + 0)), (1, .int r_1), (2, .int x_119), (3, .int v_144), (4, .int y_4), (5, .int y_147), (6, .int y_148)] → W p l e { frames := 5, cells := 0, slots := 0, locals := 121 } s m args below meth c H locs 0 0 (MQ below (Qz D cI cS Z K r σ) args s 0 0 (aZ Z)) (F0 m 149 ls []) := by
                    intro nn
                    induction nn with
                    | zero =>
                      intro y_147 y_148 yy_204 hq
                      exact (lp_0 hq).elim
                    | succ nn ih_152 =>
                      intro y_147 y_148 yy_204 hq hret_155 kn_154 H locs ls hI hS hl
                      obtain ⟨wb_150, hf, hk_153⟩ := lp_e hq
                      rw [b_L_isRight_149] at hf
                      have ih_152 := fun (y_147 : Int32) (y_148 : Int32) q => ih_152 y_147 y_148 yy_204 q hret_155 kn_154
                      refine lv_iload hx hb dL_isRight_149 (lv_at hl 6 rfl) ?_
                      refine lv_aload_n hx hb dL_isRight_151 rfl (lv_at hl 0 rfl) ?_
                      refine lv_iconst (v := 1) hx hb dL_isRight_152 (by decide) ?_
                      obtain ⟨r_180, hr_180, hf⟩ := bi_e hf
                      refine kL_12 hx hb hml hts hown hG hI hS hl.1 hL (As := [.int 1]) (c_X7_count l D cI cS Z K hL 1 σ _ hr_180) ⟨(Nat.le_of_ble_eq_true rfl), (Nat.le_of_ble_eq_true rfl)⟩ rfl (Nat.le_of_ble_eq_true rfl) ⟨(Nat.le_of_ble_eq_true rfl), (Nat.le_of_ble_eq_true rfl)⟩ dL_isRight_153 (fun H locs hI hS => ?_)
                      refine lv_icmp_ge (tgt := 241) hx hb dL_isRight_156 (by decide) (fun c_203 => ?_) (fun c_203 => ?_)
                      · have hf := pos_e c_203 hf
                        obtain rfl := so_e hf
                        obtain rfl := lk_r hk_153
                        exact kn_154 _ rfl _ _ _ hI hS (lv_sub hl [0, 1, 2, 3, 4, 5] rfl)
                      · have hf := neg_e c_203 hf
                        refine lv_iload hx hb dL_isRight_159 (lv_at hl 5 rfl) ?_
                        refine lv_aload_n hx hb dL_isRight_161 rfl (lv_at hl 0 rfl) ?_
                        refine lv_iload hx hb dL_isRight_162 (lv_at hl 4 rfl) ?_
                        refine lv_iload hx hb dL_isRight_164 (lv_at hl 6 rfl) ?_
                        refine lv_iconst (v := 0) hx hb dL_isRight_166 (by decide) ?_
                        obtain ⟨r_181, hr_181, hf⟩ := bi_e hf
                        refine kL_74 hx hb hml hts hown hG hI hS hl.1 hL (As := [.int y_4, .int y_148, .int 0]) (c_X7_cell l D cI cS Z K hL y_4 y_148 0 σ _ hr_181) ⟨(Nat.le_of_ble_eq_true rfl), (Nat.le_of_ble_eq_true rfl)⟩ rfl (Nat.le_of_ble_eq_true rfl) ⟨(Nat.le_of_ble_eq_true rfl), (Nat.le_of_ble_eq_true rfl)⟩ dL_isRight_167 (fun H locs hI hS => ?_)
                        refine lv_iconst (v := 1) hx hb dL_isRight_170 (by decide) ?_
                        obtain ⟨v_183, ev_183, hf⟩ := vl_e hf
                        have HJ_185 : ∀ (H : Heap) (locs : List Loc) (ls : Array Slot), fI D cI cS Z K σ H → va_S (aZ Z) s.heap H locs → lv_has ls 8 [(0, .ref (Z + 0)), (1, .int r_1), (2, .int x_119), (3, .int v_144), (4, .int y_4), (6, .int y_148)] → W p l e { frames := 5, cells := 0, slots := 0, locals := 121 } s m args below meth c H locs 0 0 (MQ below (Qz D cI cS Z K r σ) args s 0 0 (aZ Z)) (F0 m 179 ls [.int v_183, .int y_147]) := by
                          intro H locs ls hI hS hl
                          refine lv_iadd hx hb dL_isRight_179 ?_
                          obtain ⟨x_186, ex_186, hf⟩ := vl_e hf
                          refine mm_name ex_186 ?_
                          refine lv_istore (lv' := [(5, .int x_186), (0, .ref (Z + 0)), (1, .int r_1), (2, .int x_119), (3, .int v_144), (4, .int y_4), (6, .int y_148)]) hx hb dL_isRight_180 hl (by decide) rfl (fun ls hl => ?_)
                          refine lv_aload_n hx hb dL_isRight_182 rfl (lv_at hl 1 rfl) ?_
                          refine lv_iload hx hb dL_isRight_183 (lv_at hl 5 rfl) ?_
                          refine lv_iload hx hb dL_isRight_185 (lv_at hl 6 rfl) ?_
                          refine lv_iconst (v := 0) hx hb dL_isRight_187 (by decide) ?_
                          obtain ⟨r_187, hr_187, hf⟩ := bi_e hf
                          refine kL_74 hx hb hml hts hown hG hI hS hl.1 hL (As := [.int y_4, .int y_148, .int 0]) (c_X7_cell l D cI cS Z K hL y_4 y_148 0 σ _ hr_187) ⟨(Nat.le_of_ble_eq_true rfl), (Nat.le_of_ble_eq_true rfl)⟩ rfl (Nat.le_of_ble_eq_true rfl) ⟨(Nat.le_of_ble_eq_true rfl), (Nat.le_of_ble_eq_true rfl)⟩ dL_isRight_188 (fun H locs hI hS => ?_)
                          refine lv_aload_n hx hb dL_isRight_191 rfl (lv_at hl 1 rfl) ?_
                          refine lv_iload hx hb dL_isRight_192 (lv_at hl 5 rfl) ?_
                          refine lv_iload hx hb dL_isRight_194 (lv_at hl 6 rfl) ?_
                          refine lv_iconst (v := 3) hx hb dL_isRight_196 (by decide) ?_
                          obtain ⟨r_188, hr_188, hf⟩ := bi_e hf
                          refine kL_74 hx hb hml hts hown hG hI hS hl.1 hL (As := [.int y_4, .int y_148, .int 3]) (c_X7_cell l D cI cS Z K hL y_4 y_148 3 σ _ hr_188) ⟨(Nat.le_of_ble_eq_true rfl), (Nat.le_of_ble_eq_true rfl)⟩ rfl (Nat.le_of_ble_eq_true rfl) ⟨(Nat.le_of_ble_eq_true rfl), (Nat.le_of_ble_eq_true rfl)⟩ dL_isRight_197 (fun H locs hI hS => ?_)
                          obtain ⟨v_190, ev_190, hf⟩ := vl_e hf
                          have HJ_192 : ∀ (H : Heap) (locs : List Loc) (ls : Array Slot), fI D cI cS Z K σ H → va_S (aZ Z) s.heap H locs → lv_has ls 8 [(0, .ref (Z + 0)), (1, .int r_1), (2, .int x_119), (3, .int v_144), (4, .int y_4), (5, .int x_186), (6, .int y_148)] → W p l e { frames := 5, cells := 0, slots := 0, locals := 121 } s m args below meth c H locs 0 0 (MQ below (Qz D cI cS Z K r σ) args s 0 0 (aZ Z)) (F0 m 208 ls [.int v_190]) := by
                            intro H locs ls hI hS hl
                            refine lv_istore (lv' := [(7, .int v_190), (0, .ref (Z + 0)), (1, .int r_1), (2, .int x_119), (3, .int v_144), (4, .int y_4), (5, .int x_186), (6, .int y_148)]) hx hb dL_isRight_208 hl (by decide) rfl (fun ls hl => ?_)
                            refine lv_iload hx hb dL_isRight_210 (lv_at hl 0 rfl) ?_
                            refine lv_aload_n hx hb dL_isRight_212 rfl (lv_at hl 1 rfl) ?_
                            refine lv_iload hx hb dL_isRight_213 (lv_at hl 5 rfl) ?_
                            refine lv_iload hx hb dL_isRight_215 (lv_at hl 7 rfl) ?_
                            refine lv_iconst (v := 2) hx hb dL_isRight_217 (by decide) ?_
                            obtain ⟨r_193, hr_193, hf⟩ := bi_e hf
                            refine kL_74 hx hb hml hts hown hG hI hS hl.1 hL (As := [.int y_4, .int y_148, .int 2]) (c_X7_cell l D cI cS Z K hL y_4 y_148 2 σ _ hr_193) ⟨(Nat.le_of_ble_eq_true rfl), (Nat.le_of_ble_eq_true rfl)⟩ rfl (Nat.le_of_ble_eq_true rfl) ⟨(Nat.le_of_ble_eq_true rfl), (Nat.le_of_ble_eq_true rfl)⟩ dL_isRight_218 (fun H locs hI hS => ?_)
                            refine lv_iconst (v := 1) hx hb dL_isRight_221 (by decide) ?_
                            obtain ⟨v_195, ev_195, hf⟩ := vl_e hf
                            have HJ_197 : ∀ (H : Heap) (locs : List Loc) (ls : Array Slot), fI D cI cS Z K σ H → va_S (aZ Z) s.heap H locs → lv_has ls 8 [(0, .ref (Z + 0)), (1, .int r_1), (2, .int x_119), (3, .int v_144), (4, .int y_4), (5, .int x_186), (6, .int y_148)] → W p l e { frames := 5, cells := 0, slots := 0, locals := 121 } s m args below meth c H locs 0 0 (MQ below (Qz D cI cS Z K r σ) args s 0 0 (aZ Z)) (F0 m 230 ls [.int v_195, .int v_190]) := by
                              intro H locs ls hI hS hl
                              refine lv_icmp_eq (tgt := 235) hx hb dL_isRight_230 (by decide) (fun c_199 => ?_) (fun c_199 => ?_)
                              · have hf := pos_e c_199 hf
                                obtain ⟨x_198, ex_198, hf⟩ := vl_e hf
                                refine lv_iinc (v := x_198) (lv' := [(6, .int x_198), (0, .ref (Z + 0)), (1, .int r_1), (2, .int x_119), (3, .int v_144), (4, .int y_4), (5, .int x_186)]) hx hb dL_isRight_235 hl (k := 6) rfl (by rw [ex_198]; rfl) (by decide) rfl (fun ls hl => ?_)
                                refine lv_goto (tgt := 149) hx hb dL_isRight_238 (by decide) ?_
                                obtain rfl := so_e hf
                                exact ih_152 x_186 x_198 hk_153 _ _ _ hI hS (lv_sub hl [1, 2, 3, 4, 5, 6, 0] rfl)
                              · have hf := neg_e c_199 hf
                                refine lv_iconst (v := 0) hx hb dL_isRight_233 (by decide) ?_
                                obtain rfl := so_e hf
                                obtain rfl := lk_r hk_153
                                have hf := hret_155 _ rfl
                                obtain rfl := so_e hf
                                obtain rfl := lk_r hk_10
                                have hf := hret_12 _ rfl
                                obtain rfl := so_e hf
                                exact mm_zret hx hb hr hlocks (Or.inl rfl) hI hS dL_isRight_234
                            clear hf
                            have hf := ev_195.symm
                            refine lv_icmp_ne (tgt := 229) hx hb dL_isRight_222 (by decide) (fun c_200 => ?_) (fun c_200 => ?_)
                            · have hf := neg_e c_200 hf
                              refine lv_iconst (v := 0) hx hb dL_isRight_229 (by decide) ?_
                              refine mm_name hf.symm ?_
                              exact HJ_197 _ _ _ hI hS (lv_sub hl [1, 2, 3, 4, 5, 6, 7] rfl)
                            · have hf := pos_e c_200 hf
                              refine lv_iconst (v := 1) hx hb dL_isRight_225 (by decide) ?_
                              refine lv_goto (tgt := 230) hx hb dL_isRight_226 (by decide) ?_
                              refine mm_name hf.symm ?_
                              exact HJ_197 _ _ _ hI hS (lv_sub hl [1, 2, 3, 4, 5, 6, 7] rfl)
                          clear hf
                          have hf := ev_190.symm
                          refine lv_icmp_eq (tgt := 207) hx hb dL_isRight_200 (by decide) (fun c_201 => ?_) (fun c_201 => ?_)
                          · have hf := pos_e c_201 hf
                            refine lv_iconst (v := 0) hx hb dL_isRight_207 (by decide) ?_
                            refine mm_name hf.symm ?_
                            exact HJ_192 _ _ _ hI hS (lv_sub hl [1, 2, 3, 4, 5, 0, 6] rfl)
                          · have hf := neg_e c_201 hf
                            refine lv_iconst (v := 1) hx hb dL_isRight_203 (by decide) ?_
                            refine lv_goto (tgt := 208) hx hb dL_isRight_204 (by decide) ?_
                            refine mm_name hf.symm ?_
                            exact HJ_192 _ _ _ hI hS (lv_sub hl [1, 2, 3, 4, 5, 0, 6] rfl)
                        clear hf
                        have hf := ev_183.symm
                        refine lv_icmp_ne (tgt := 178) hx hb dL_isRight_171 (by decide) (fun c_202 => ?_) (fun c_202 => ?_)
                        · have hf := neg_e c_202 hf
                          refine lv_iconst (v := 0) hx hb dL_isRight_178 (by decide) ?_
                          refine mm_name hf.symm ?_
                          exact HJ_185 _ _ _ hI hS (lv_sub hl [0, 1, 2, 3, 4, 6] rfl)
                        · have hf := pos_e c_202 hf
                          refine lv_iconst (v := 1) hx hb dL_isRight_174 (by decide) ?_
                          refine lv_goto (tgt := 179) hx hb dL_isRight_175 (by decide) ?_
                          refine mm_name hf.symm ?_
                          exact HJ_185 _ _ _ hI hS (lv_sub hl [0, 1, 2, 3, 4, 6] rfl)
                  obtain ⟨yy_204, hy, hf⟩ := bi_e hf
                  refine L_151 FU 0 0 _ hy (fun rv hv => ?_) (fun z_149 hv => ?_) _ _ _ hI hS (lv_sub hl [3, 4, 5, 2, 6, 1, 0] rfl)
                  · subst hv
                    exact hf
                  subst hv
                  clear L_151
                  intro H locs ls hI hS hl
                  have hf := sm_e hf
                  refine lv_iload hx hb dL_isRight_241 (lv_at hl 5 rfl) ?_
                  refine lv_aload_n hx hb dL_isRight_243 rfl (lv_at hl 0 rfl) ?_
                  refine lv_iload hx hb dL_isRight_244 (lv_at hl 4 rfl) ?_
                  refine lv_iconst (v := 3) hx hb dL_isRight_246 (by decide) ?_
                  obtain ⟨r_205, hr_205, hf⟩ := bi_e hf
                  refine kL_28 hx hb hml hts hown hG hI hS hl.1 hL (As := [.int y_4, .int 3]) (c_X7_row l D cI cS Z K hL y_4 3 σ _ hr_205) ⟨(Nat.le_of_ble_eq_true rfl), (Nat.le_of_ble_eq_true rfl)⟩ rfl (Nat.le_of_ble_eq_true rfl) ⟨(Nat.le_of_ble_eq_true rfl), (Nat.le_of_ble_eq_true rfl)⟩ dL_isRight_247 (fun H locs hI hS => ?_)
                  refine lv_icmp_eq (tgt := 255) hx hb dL_isRight_250 (by decide) (fun c_207 => ?_) (fun c_207 => ?_)
                  · have hf := pos_e c_207 hf
                    obtain ⟨x_206, ex_206, hf⟩ := vl_e hf
                    refine lv_iinc (v := x_206) (lv' := [(4, .int x_206), (0, .ref (Z + 0)), (1, .int r_1), (2, .int x_119), (3, .int v_144), (5, .int z_149)]) hx hb dL_isRight_255 hl (k := 4) rfl (by rw [ex_206]; rfl) (by decide) rfl (fun ls hl => ?_)
                    refine lv_goto (tgt := 13) hx hb dL_isRight_258 (by decide) ?_
                    obtain rfl := so_e hf
                    exact ih_9 x_119 v_144 x_206 hk_10 _ _ _ hI hS (lv_sub hl [1, 2, 3, 4, 0] rfl)
                  · have hf := neg_e c_207 hf
                    refine lv_iconst (v := 0) hx hb dL_isRight_253 (by decide) ?_
                    obtain rfl := so_e hf
                    obtain rfl := lk_r hk_10
                    have hf := hret_12 _ rfl
                    obtain rfl := so_e hf
                    exact mm_zret hx hb hr hlocks (Or.inl rfl) hI hS dL_isRight_254
                clear ek_145
                refine lv_icmp_le (tgt := 141) hx hb dL_isRight_127 (by decide) (fun c_209 => ?_) (fun c_209 => ?_)
                · have hf := pos_e c_209 hf
                  refine lv_iload_n hx hb dL_isRight_141 rfl (lv_at hl 3 rfl) ?_
                  exact HJ_146 y_3 _ _ _ hf hI hS (lv_sub hl [0, 1, 2, 4] rfl)
                · have hf := neg_e c_209 hf
                  refine lv_aload_n hx hb dL_isRight_130 rfl (lv_at hl 0 rfl) ?_
                  refine lv_iload hx hb dL_isRight_131 (lv_at hl 4 rfl) ?_
                  refine lv_bipush (v := 6) hx hb dL_isRight_133 (by decide) ?_
                  obtain ⟨r_208, hr_208, hf⟩ := bi_e hf
                  refine kL_28 hx hb hml hts hown hG hI hS hl.1 hL (As := [.int y_4, .int 6]) (c_X7_row l D cI cS Z K hL y_4 6 σ _ hr_208) ⟨(Nat.le_of_ble_eq_true rfl), (Nat.le_of_ble_eq_true rfl)⟩ rfl (Nat.le_of_ble_eq_true rfl) ⟨(Nat.le_of_ble_eq_true rfl), (Nat.le_of_ble_eq_true rfl)⟩ dL_isRight_135 (fun H locs hI hS => ?_)
                  refine lv_goto (tgt := 142) hx hb dL_isRight_138 (by decide) ?_
                  exact HJ_146 r_208 _ _ _ hf hI hS (lv_sub hl [0, 1, 2, 4] rfl)
              clear ek_139
              refine lv_if_ne (tgt := 118) hx hb dL_isRight_79 (by decide) (fun c_216 => ?_) (fun c_216 => ?_)
              · have hf := neg_e c_216 hf
                exact HJ_140  _ _ _ hf hI hS (lv_sub hl [0, 1, 2, 3, 4] rfl)
              · have hf := pos_e c_216 hf
                refine lv_aload_n hx hb dL_isRight_82 rfl (lv_at hl 0 rfl) ?_
                refine lv_iload hx hb dL_isRight_83 (lv_at hl 4 rfl) ?_
                refine lv_iconst (v := 2) hx hb dL_isRight_85 (by decide) ?_
                obtain ⟨r_210, hr_210, hf⟩ := bi_e hf
                refine kL_28 hx hb hml hts hown hG hI hS hl.1 hL (As := [.int y_4, .int 2]) (c_X7_row l D cI cS Z K hL y_4 2 σ _ hr_210) ⟨(Nat.le_of_ble_eq_true rfl), (Nat.le_of_ble_eq_true rfl)⟩ rfl (Nat.le_of_ble_eq_true rfl) ⟨(Nat.le_of_ble_eq_true rfl), (Nat.le_of_ble_eq_true rfl)⟩ dL_isRight_86 (fun H locs hI hS => ?_)
                refine lv_aload_n hx hb dL_isRight_89 rfl (lv_at hl 0 rfl) ?_
                refine lv_iconst (v := 1) hx hb dL_isRight_90 (by decide) ?_
                obtain ⟨r_211, hr_211, hf⟩ := bi_e hf
                refine kL_12 hx hb hml hts hown hG hI hS hl.1 hL (As := [.int 1]) (c_X7_count l D cI cS Z K hL 1 σ _ hr_211) ⟨(Nat.le_of_ble_eq_true rfl), (Nat.le_of_ble_eq_true rfl)⟩ rfl (Nat.le_of_ble_eq_true rfl) ⟨(Nat.le_of_ble_eq_true rfl), (Nat.le_of_ble_eq_true rfl)⟩ dL_isRight_91 (fun H locs hI hS => ?_)
                refine lv_icmp_lt (tgt := 116) hx hb dL_isRight_94 (by decide) (fun c_215 => ?_) (fun c_215 => ?_)
                · have hf := pos_e c_215 hf
                  refine lv_iconst (v := 0) hx hb dL_isRight_116 (by decide) ?_
                  obtain rfl := so_e hf
                  obtain rfl := lk_r hk_10
                  have hf := hret_12 _ rfl
                  obtain rfl := so_e hf
                  exact mm_zret hx hb hr hlocks (Or.inl rfl) hI hS dL_isRight_117
                · have hf := neg_e c_215 hf
                  refine lv_aload_n hx hb dL_isRight_97 rfl (lv_at hl 0 rfl) ?_
                  refine lv_iload hx hb dL_isRight_98 (lv_at hl 4 rfl) ?_
                  refine lv_iconst (v := 2) hx hb dL_isRight_100 (by decide) ?_
                  obtain ⟨r_212, hr_212, hf⟩ := bi_e hf
                  refine kL_28 hx hb hml hts hown hG hI hS hl.1 hL (As := [.int y_4, .int 2]) (c_X7_row l D cI cS Z K hL y_4 2 σ _ hr_212) ⟨(Nat.le_of_ble_eq_true rfl), (Nat.le_of_ble_eq_true rfl)⟩ rfl (Nat.le_of_ble_eq_true rfl) ⟨(Nat.le_of_ble_eq_true rfl), (Nat.le_of_ble_eq_true rfl)⟩ dL_isRight_101 (fun H locs hI hS => ?_)
                  refine lv_iconst (v := 2) hx hb dL_isRight_104 (by decide) ?_
                  refine lv_aload_n hx hb dL_isRight_105 rfl (lv_at hl 0 rfl) ?_
                  refine lv_iconst (v := 1) hx hb dL_isRight_106 (by decide) ?_
                  obtain ⟨r_213, hr_213, hf⟩ := bi_e hf
                  refine kL_12 hx hb hml hts hown hG hI hS hl.1 hL (As := [.int 1]) (c_X7_count l D cI cS Z K hL 1 σ _ hr_213) ⟨(Nat.le_of_ble_eq_true rfl), (Nat.le_of_ble_eq_true rfl)⟩ rfl (Nat.le_of_ble_eq_true rfl) ⟨(Nat.le_of_ble_eq_true rfl), (Nat.le_of_ble_eq_true rfl)⟩ dL_isRight_107 (fun H locs hI hS => ?_)
                  refine lv_imul hx hb dL_isRight_110 ?_
                  refine lv_iconst (v := 1) hx hb dL_isRight_111 (by decide) ?_
                  refine lv_isub hx hb dL_isRight_112 ?_
                  refine lv_icmp_le (tgt := 118) hx hb dL_isRight_113 (by decide) (fun c_214 => ?_) (fun c_214 => ?_)
                  · have hf := pos_e c_214 hf
                    exact HJ_140  _ _ _ hf hI hS (lv_sub hl [0, 1, 2, 3, 4] rfl)
                  · have hf := neg_e c_214 hf
                    refine lv_iconst (v := 0) hx hb dL_isRight_116 (by decide) ?_
                    obtain rfl := so_e hf
                    obtain rfl := lk_r hk_10
                    have hf := hret_12 _ rfl
                    obtain rfl := so_e hf
                    exact mm_zret hx hb hr hlocks (Or.inl rfl) hI hS dL_isRight_117
            · have hf := neg_e c_217 hf
              refine lv_iconst (v := 0) hx hb dL_isRight_70 (by decide) ?_
              obtain rfl := so_e hf
              obtain rfl := lk_r hk_10
              have hf := hret_12 _ rfl
              obtain rfl := so_e hf
              exact mm_zret hx hb hr hlocks (Or.inl rfl) hI hS dL_isRight_71
          clear ek_129
          refine lv_icmp_ne (tgt := 66) hx hb dL_isRight_49 (by decide) (fun c_220 => ?_) (fun c_220 => ?_)
          · have hf := neg_e c_220 hf
            refine lv_iconst (v := 0) hx hb dL_isRight_66 (by decide) ?_
            exact HJ_130 0 _ _ _ hf hI hS (lv_sub hl [0, 1, 2, 3, 4] rfl)
          · have hf := pos_e c_220 hf
            refine lv_aload_n hx hb dL_isRight_52 rfl (lv_at hl 0 rfl) ?_
            refine lv_bipush (v := 6) hx hb dL_isRight_53 (by decide) ?_
            obtain ⟨r_218, hr_218, hf⟩ := bi_e hf
            refine kL_12 hx hb hml hts hown hG hI hS hl.1 hL (As := [.int 6]) (c_X7_count l D cI cS Z K hL 6 σ _ hr_218) ⟨(Nat.le_of_ble_eq_true rfl), (Nat.le_of_ble_eq_true rfl)⟩ rfl (Nat.le_of_ble_eq_true rfl) ⟨(Nat.le_of_ble_eq_true rfl), (Nat.le_of_ble_eq_true rfl)⟩ dL_isRight_55 (fun H locs hI hS => ?_)
            refine lv_iconst (v := 1) hx hb dL_isRight_58 (by decide) ?_
            refine lv_icmp_ne (tgt := 66) hx hb dL_isRight_59 (by decide) (fun c_219 => ?_) (fun c_219 => ?_)
            · have hf := neg_e c_219 hf
              refine lv_iconst (v := 0) hx hb dL_isRight_66 (by decide) ?_
              exact HJ_130 0 _ _ _ hf hI hS (lv_sub hl [0, 1, 2, 3, 4] rfl)
            · have hf := pos_e c_219 hf
              refine lv_iconst (v := 1) hx hb dL_isRight_62 (by decide) ?_
              refine lv_goto (tgt := 67) hx hb dL_isRight_63 (by decide) ?_
              exact HJ_130 1 _ _ _ hf hI hS (lv_sub hl [0, 1, 2, 3, 4] rfl)
        clear hf
        have hf := ev_122.symm
        refine lv_if_le (tgt := 43) hx hb dL_isRight_36 (by decide) (fun c_221 => ?_) (fun c_221 => ?_)
        · have hf := pos_e c_221 hf
          refine lv_iconst (v := 0) hx hb dL_isRight_43 (by decide) ?_
          refine mm_name hf.symm ?_
          exact HJ_124 _ _ _ hI hS (lv_sub hl [1, 2, 0, 3, 4] rfl)
        · have hf := neg_e c_221 hf
          refine lv_iconst (v := 1) hx hb dL_isRight_39 (by decide) ?_
          refine lv_goto (tgt := 44) hx hb dL_isRight_40 (by decide) ?_
          refine mm_name hf.symm ?_
          exact HJ_124 _ _ _ hI hS (lv_sub hl [1, 2, 0, 3, 4] rfl)
  obtain ⟨yy_223, hy, hf⟩ := bi_e hf
  refine L_8 FU 0 0 0 _ hy (fun rv hv => ?_) (fun z_5 z_6 hv => ?_) _ _ _ hI hS (lv_sub hl [4, 3, 2, 1, 0] rfl)
  · subst hv
    exact hf
  subst hv
  clear L_8
  intro H locs ls hI hS hl
  have hf := smc2_e hf
  refine lv_ldc (v := 1000000) hx hb hown (hts _ (mT19 _ (List.mem_of_getElem? (i := 15) rfl))) dL_isRight_261 ?_
  refine lv_istore (lv' := [(4, .int 1000000), (0, .ref (Z + 0)), (1, .int r_1), (2, .int z_5), (3, .int z_6)]) hx hb dL_isRight_263 hl (by decide) rfl (fun ls hl => ?_)
  refine lv_iconst (v := 0) hx hb dL_isRight_265 (by decide) ?_
  refine lv_istore (lv' := [(5, .int 0), (4, .int 1000000), (0, .ref (Z + 0)), (1, .int r_1), (2, .int z_5), (3, .int z_6)]) hx hb dL_isRight_266 hl (by decide) rfl (fun ls hl => ?_)
  refine lv_iconst (v := 1) hx hb dL_isRight_268 (by decide) ?_
  refine lv_istore (lv' := [(6, .int 1), (5, .int 0), (4, .int 1000000), (0, .ref (Z + 0)), (1, .int r_1), (2, .int z_5), (3, .int z_6)]) hx hb dL_isRight_269 hl (by decide) rfl (fun ls hl => ?_)
  have L_227 : ∀ (nn : Nat) (y_224 : Int32) (y_225 : Int32) (yy_242 : ((Int32) ⊕ (Unit))), lp (b_L_isRight_271 σ) nn (y_224, y_225) = some yy_242 → (∀ rv, yy_242 = .inl rv → some rv = some r) → (yy_242 = .inr () → ∀ (H : Heap) (locs : List Loc) (ls : Array Slot), fI D cI cS Z K σ H → va_S (aZ Z) s.heap H locs → lv_has ls 8 [(0, .ref (Z + 0)), (1, .int r_1), (2, .int z_5), (3, .int z_6), (5, .int 0)] → W p l e { frames := 5, cells := 0, slots := 0, locals := 121 } s m args below meth c H locs 0 0 (MQ below (Qz D cI cS Z K r σ) args s 0 0 (aZ Z)) (F0 m 307 ls [])) → ∀ (H : Heap) (locs : List Loc) (ls : Array Slot), fI D cI cS Z K σ H → va_S (aZ Z) s.heap H locs → lv_has ls 8 [(0, .ref (Z + 0)), (1, .int r_1), (2, .int z_5), (3, .int z_6), (4, .int y_224), (5, .int 0), (6, .int y_225)] → W p l e { frames := 5, cells := 0, slots := 0, locals := 121 } s m args below meth c H locs 0 0 (MQ below (Qz D cI cS Z K r σ) args s 0 0 (aZ Z)) (F0 m 271 ls []) := by
    intro nn
    induction nn with
    | zero =>
      intro y_224 y_225 yy_242 hq
      exact (lp_0 hq).elim
    | succ nn ih_228 =>
      intro y_224 y_225 yy_242 hq hret_231 kn_230 H locs ls hI hS hl
      obtain ⟨wb_226, hf, hk_229⟩ := lp_e hq
      rw [b_L_isRight_271] at hf
      have ih_228 := fun (y_224 : Int32) (y_225 : Int32) q => ih_228 y_224 y_225 yy_242 q hret_231 kn_230
      refine lv_iload hx hb dL_isRight_271 (lv_at hl 6 rfl) ?_
      refine lv_bipush (v := 12) hx hb dL_isRight_273 (by decide) ?_
      refine lv_icmp_gt (tgt := 307) hx hb dL_isRight_275 (by decide) (fun c_241 => ?_) (fun c_241 => ?_)
      · have hf := pos_e c_241 hf
        obtain rfl := so_e hf
        obtain rfl := lk_r hk_229
        exact kn_230 rfl _ _ _ hI hS (lv_sub hl [0, 1, 2, 3, 5] rfl)
      · have hf := neg_e c_241 hf
        refine lv_aload_n hx hb dL_isRight_278 rfl (lv_at hl 0 rfl) ?_
        refine lv_iconst (v := 0) hx hb dL_isRight_279 (by decide) ?_
        refine lv_iload hx hb dL_isRight_280 (lv_at hl 6 rfl) ?_
        obtain ⟨r_237, hr_237, hf⟩ := bi_e hf
        refine kL_78 hx hb hml hts hown hG hI hS hl.1 hL (As := [.int 0, .int y_225]) (c_X7_floats l D cI cS Z K hL 0 y_225 σ _ hr_237) ⟨(Nat.le_of_ble_eq_true rfl), (Nat.le_of_ble_eq_true rfl)⟩ rfl (Nat.le_of_ble_eq_true rfl) ⟨(Nat.le_of_ble_eq_true rfl), (Nat.le_of_ble_eq_true rfl)⟩ dL_isRight_282 (fun H locs hI hS => ?_)
        refine lv_iload hx hb dL_isRight_285 (lv_at hl 4 rfl) ?_
        refine lv_icmp_le (tgt := 292) hx hb dL_isRight_287 (by decide) (fun c_240 => ?_) (fun c_240 => ?_)
        · have hf := pos_e c_240 hf
          refine lv_aload_n hx hb dL_isRight_292 rfl (lv_at hl 0 rfl) ?_
          refine lv_iconst (v := 0) hx hb dL_isRight_293 (by decide) ?_
          refine lv_iload hx hb dL_isRight_294 (lv_at hl 6 rfl) ?_
          obtain ⟨r_238, hr_238, hf⟩ := bi_e hf
          refine kL_78 hx hb hml hts hown hG hI hS hl.1 hL (As := [.int 0, .int y_225]) (c_X7_floats l D cI cS Z K hL 0 y_225 σ _ hr_238) ⟨(Nat.le_of_ble_eq_true rfl), (Nat.le_of_ble_eq_true rfl)⟩ rfl (Nat.le_of_ble_eq_true rfl) ⟨(Nat.le_of_ble_eq_true rfl), (Nat.le_of_ble_eq_true rfl)⟩ dL_isRight_296 (fun H locs hI hS => ?_)
          refine lv_istore (lv' := [(4, .int r_238), (0, .ref (Z + 0)), (1, .int r_1), (2, .int z_5), (3, .int z_6), (5, .int 0), (6, .int y_225)]) hx hb dL_isRight_299 hl (by decide) rfl (fun ls hl => ?_)
          obtain ⟨x_239, ex_239, hf⟩ := vl_e hf
          refine lv_iinc (v := x_239) (lv' := [(6, .int x_239), (4, .int r_238), (0, .ref (Z + 0)), (1, .int r_1), (2, .int z_5), (3, .int z_6), (5, .int 0)]) hx hb dL_isRight_301 hl (k := 6) rfl (by rw [ex_239]; rfl) (by decide) rfl (fun ls hl => ?_)
          refine lv_goto (tgt := 271) hx hb dL_isRight_304 (by decide) ?_
          obtain rfl := so_e hf
          exact ih_228 r_238 x_239 hk_229 _ _ _ hI hS (lv_sub hl [2, 3, 4, 5, 1, 6, 0] rfl)
        · have hf := neg_e c_240 hf
          refine lv_iconst (v := 0) hx hb dL_isRight_290 (by decide) ?_
          obtain rfl := so_e hf
          obtain rfl := lk_r hk_229
          have hf := hret_231 _ rfl
          obtain rfl := so_e hf
          exact mm_zret hx hb hr hlocks (Or.inl rfl) hI hS dL_isRight_291
  obtain ⟨yy_242, hy, hf⟩ := bi_e hf
  refine L_227 FU 1000000 1 _ hy (fun rv hv => ?_) (fun hv => ?_) _ _ _ hI hS (lv_sub hl [3, 4, 5, 6, 2, 1, 0] rfl)
  · subst hv
    exact hf
  subst hv
  clear L_227
  intro H locs ls hI hS hl
  have hf := sm_e hf
  refine lv_iconst (v := 0) hx hb dL_isRight_307 (by decide) ?_
  refine lv_istore (lv' := [(6, .int 0), (0, .ref (Z + 0)), (1, .int r_1), (2, .int z_5), (3, .int z_6), (5, .int 0)]) hx hb dL_isRight_308 hl (by decide) rfl (fun ls hl => ?_)
  have L_247 : ∀ (nn : Nat) (y_243 : Int32) (y_244 : Int32) (z_245 : Int32), lp (b_L_isRight_310 σ) nn (y_243, y_244) = some z_245 → (∀ (H : Heap) (locs : List Loc) (ls : Array Slot), fI D cI cS Z K σ H → va_S (aZ Z) s.heap H locs → lv_has ls 8 [(0, .ref (Z + 0)), (1, .int r_1), (2, .int z_5), (3, .int z_6), (5, .int z_245)] → W p l e { frames := 5, cells := 0, slots := 0, locals := 121 } s m args below meth c H locs 0 0 (MQ below (Qz D cI cS Z K r σ) args s 0 0 (aZ Z)) (F0 m 352 ls [])) → ∀ (H : Heap) (locs : List Loc) (ls : Array Slot), fI D cI cS Z K σ H → va_S (aZ Z) s.heap H locs → lv_has ls 8 [(0, .ref (Z + 0)), (1, .int r_1), (2, .int z_5), (3, .int z_6), (5, .int y_243), (6, .int y_244)] → W p l e { frames := 5, cells := 0, slots := 0, locals := 121 } s m args below meth c H locs 0 0 (MQ below (Qz D cI cS Z K r σ) args s 0 0 (aZ Z)) (F0 m 310 ls []) := by
    intro nn
    induction nn with
    | zero =>
      intro y_243 y_244 z_245 hq
      exact (lp_0 hq).elim
    | succ nn ih_248 =>
      intro y_243 y_244 z_245 hq kn_250 H locs ls hI hS hl
      obtain ⟨wb_246, hf, hk_249⟩ := lp_e hq
      rw [b_L_isRight_310] at hf
      have ih_248 := fun (y_243 : Int32) (y_244 : Int32) q => ih_248 y_243 y_244 z_245 q kn_250
      refine lv_iload hx hb dL_isRight_310 (lv_at hl 5 rfl) ?_
      refine lv_aload_n hx hb dL_isRight_312 rfl (lv_at hl 0 rfl) ?_
      refine lv_iconst (v := 1) hx hb dL_isRight_313 (by decide) ?_
      obtain ⟨r_259, hr_259, hf⟩ := bi_e hf
      refine kL_12 hx hb hml hts hown hG hI hS hl.1 hL (As := [.int 1]) (c_X7_count l D cI cS Z K hL 1 σ _ hr_259) ⟨(Nat.le_of_ble_eq_true rfl), (Nat.le_of_ble_eq_true rfl)⟩ rfl (Nat.le_of_ble_eq_true rfl) ⟨(Nat.le_of_ble_eq_true rfl), (Nat.le_of_ble_eq_true rfl)⟩ dL_isRight_314 (fun H locs hI hS => ?_)
      refine lv_icmp_ge (tgt := 352) hx hb dL_isRight_317 (by decide) (fun c_265 => ?_) (fun c_265 => ?_)
      · have hf := pos_e c_265 hf
        obtain rfl := so_e hf
        obtain rfl := lk_r hk_249
        exact kn_250 _ _ _ hI hS (lv_sub hl [0, 1, 2, 3, 4] rfl)
      · have hf := neg_e c_265 hf
        refine lv_aload_n hx hb dL_isRight_320 rfl (lv_at hl 0 rfl) ?_
        refine lv_iload hx hb dL_isRight_321 (lv_at hl 5 rfl) ?_
        refine lv_iconst (v := 4) hx hb dL_isRight_323 (by decide) ?_
        obtain ⟨r_260, hr_260, hf⟩ := bi_e hf
        refine kL_18 hx hb hml hts hown hG hI hS hl.1 hL (As := [.int y_244, .int 4]) (c_X7_end l D cI cS Z K hL y_244 4 σ _ hr_260) ⟨(Nat.le_of_ble_eq_true rfl), (Nat.le_of_ble_eq_true rfl)⟩ rfl (Nat.le_of_ble_eq_true rfl) ⟨(Nat.le_of_ble_eq_true rfl), (Nat.le_of_ble_eq_true rfl)⟩ dL_isRight_324 (fun H locs hI hS => ?_)
        refine lv_iload hx hb dL_isRight_327 (lv_at hl 4 rfl) ?_
        refine lv_icmp_le (tgt := 342) hx hb dL_isRight_329 (by decide) (fun c_264 => ?_) (fun c_264 => ?_)
        · have hf := pos_e c_264 hf
          refine lv_iload hx hb dL_isRight_342 (lv_at hl 4 rfl) ?_
          refine lv_istore (lv' := [(5, .int y_243), (0, .ref (Z + 0)), (1, .int r_1), (2, .int z_5), (3, .int z_6), (6, .int y_244)]) hx hb dL_isRight_344 hl (by decide) rfl (fun ls hl => ?_)
          obtain ⟨x_261, ex_261, hf⟩ := vl_e hf
          refine lv_iinc (v := x_261) (lv' := [(6, .int x_261), (5, .int y_243), (0, .ref (Z + 0)), (1, .int r_1), (2, .int z_5), (3, .int z_6)]) hx hb dL_isRight_346 hl (k := 5) rfl (by rw [ex_261]; rfl) (by decide) rfl (fun ls hl => ?_)
          refine lv_goto (tgt := 310) hx hb dL_isRight_349 (by decide) ?_
          obtain rfl := so_e hf
          exact ih_248 y_243 x_261 hk_249 _ _ _ hI hS (lv_sub hl [2, 3, 4, 5, 1, 0] rfl)
        · have hf := neg_e c_264 hf
          refine lv_aload_n hx hb dL_isRight_332 rfl (lv_at hl 0 rfl) ?_
          refine lv_iload hx hb dL_isRight_333 (lv_at hl 5 rfl) ?_
          refine lv_iconst (v := 4) hx hb dL_isRight_335 (by decide) ?_
          obtain ⟨r_262, hr_262, hf⟩ := bi_e hf
          refine kL_18 hx hb hml hts hown hG hI hS hl.1 hL (As := [.int y_244, .int 4]) (c_X7_end l D cI cS Z K hL y_244 4 σ _ hr_262) ⟨(Nat.le_of_ble_eq_true rfl), (Nat.le_of_ble_eq_true rfl)⟩ rfl (Nat.le_of_ble_eq_true rfl) ⟨(Nat.le_of_ble_eq_true rfl), (Nat.le_of_ble_eq_true rfl)⟩ dL_isRight_336 (fun H locs hI hS => ?_)
          refine lv_goto (tgt := 344) hx hb dL_isRight_339 (by decide) ?_
          refine lv_istore (lv' := [(5, .int r_262), (0, .ref (Z + 0)), (1, .int r_1), (2, .int z_5), (3, .int z_6), (6, .int y_244)]) hx hb dL_isRight_344 hl (by decide) rfl (fun ls hl => ?_)
          obtain ⟨x_263, ex_263, hf⟩ := vl_e hf
          refine lv_iinc (v := x_263) (lv' := [(6, .int x_263), (5, .int r_262), (0, .ref (Z + 0)), (1, .int r_1), (2, .int z_5), (3, .int z_6)]) hx hb dL_isRight_346 hl (k := 5) rfl (by rw [ex_263]; rfl) (by decide) rfl (fun ls hl => ?_)
          refine lv_goto (tgt := 310) hx hb dL_isRight_349 (by decide) ?_
          obtain rfl := so_e hf
          exact ih_248 r_262 x_263 hk_249 _ _ _ hI hS (lv_sub hl [2, 3, 4, 5, 1, 0] rfl)
  obtain ⟨z_245, hy, hf⟩ := bi_e hf
  refine L_247 FU 0 0 _ hy ?_ _ _ _ hI hS (lv_sub hl [1, 2, 3, 4, 5, 0] rfl)
  clear L_247
  intro H locs ls hI hS hl
  refine lv_iload hx hb dL_isRight_352 (lv_at hl 4 rfl) ?_
  obtain ⟨k_273, ek_273, hf⟩ := jn_e hf
  have HJ_274 : ∀ (H : Heap) (locs : List Loc) (ls : Array Slot), k_273 = some r → fI D cI cS Z K σ H → va_S (aZ Z) s.heap H locs → lv_has ls 8 [(0, .ref (Z + 0)), (1, .int r_1), (2, .int z_5), (3, .int z_6)] → W p l e { frames := 5, cells := 0, slots := 0, locals := 121 } s m args below meth c H locs 0 0 (MQ below (Qz D cI cS Z K r σ) args s 0 0 (aZ Z)) (F0 m 387 ls []) := by
    intro  H locs ls hf hI hS hl
    have hf := jb0 ek_273 hf
    refine lv_iload_n hx hb dL_isRight_387 rfl (lv_at hl 3 rfl) ?_
    obtain ⟨k_280, ek_280, hf⟩ := jn_e hf
    have HJ_281 : ∀ (H : Heap) (locs : List Loc) (ls : Array Slot), k_280 = some r → fI D cI cS Z K σ H → va_S (aZ Z) s.heap H locs → lv_has ls 8 [(0, .ref (Z + 0)), (1, .int r_1), (2, .int z_5)] → W p l e { frames := 5, cells := 0, slots := 0, locals := 121 } s m args below meth c H locs 0 0 (MQ below (Qz D cI cS Z K r σ) args s 0 0 (aZ Z)) (F0 m 414 ls []) := by
      intro  H locs ls hf hI hS hl
      have hf := jb0 ek_280 hf
      refine lv_iload_n hx hb dL_isRight_414 rfl (lv_at hl 2 rfl) ?_
      refine lv_aload_n hx hb dL_isRight_415 rfl (lv_at hl 0 rfl) ?_
      refine lv_bipush (v := 7) hx hb dL_isRight_416 (by decide) ?_
      obtain ⟨r_282, hr_282, hf⟩ := bi_e hf
      refine kL_12 hx hb hml hts hown hG hI hS hl.1 hL (As := [.int 7]) (c_X7_count l D cI cS Z K hL 7 σ _ hr_282) ⟨(Nat.le_of_ble_eq_true rfl), (Nat.le_of_ble_eq_true rfl)⟩ rfl (Nat.le_of_ble_eq_true rfl) ⟨(Nat.le_of_ble_eq_true rfl), (Nat.le_of_ble_eq_true rfl)⟩ dL_isRight_418 (fun H locs hI hS => ?_)
      refine lv_icmp_ne (tgt := 471) hx hb dL_isRight_421 (by decide) (fun c_293 => ?_) (fun c_293 => ?_)
      · have hf := neg_e c_293 hf
        refine lv_iconst (v := 0) hx hb dL_isRight_471 (by decide) ?_
        obtain rfl := so_e hf
        exact mm_zret hx hb hr hlocks (Or.inl rfl) hI hS dL_isRight_472
      · have hf := pos_e c_293 hf
        refine lv_iload_n hx hb dL_isRight_424 rfl (lv_at hl 1 rfl) ?_
        refine lv_if_ne (tgt := 440) hx hb dL_isRight_425 (by decide) (fun c_292 => ?_) (fun c_292 => ?_)
        · have hf := neg_e c_292 hf
          refine lv_aload_n hx hb dL_isRight_440 rfl (lv_at hl 0 rfl) ?_
          obtain ⟨r_283, hr_283, hf⟩ := bi_e hf
          refine kL_31 hx hb hml hts hown hG hI hS hl.1 hL (As := []) (c_X7_repeat l D cI cS Z K hL σ _ hr_283) ⟨(Nat.le_of_ble_eq_true rfl), (Nat.le_of_ble_eq_true rfl)⟩ rfl (Nat.le_of_ble_eq_true rfl) ⟨(Nat.le_of_ble_eq_true rfl), (Nat.le_of_ble_eq_true rfl)⟩ dL_isRight_441 (fun H locs hI hS => ?_)
          refine lv_iconst (v := 1) hx hb dL_isRight_444 (by decide) ?_
          refine lv_icmp_lt (tgt := 471) hx hb dL_isRight_445 (by decide) (fun c_289 => ?_) (fun c_289 => ?_)
          · have hf := pos_e c_289 hf
            refine lv_iconst (v := 0) hx hb dL_isRight_471 (by decide) ?_
            obtain rfl := so_e hf
            exact mm_zret hx hb hr hlocks (Or.inl rfl) hI hS dL_isRight_472
          · have hf := neg_e c_289 hf
            refine lv_aload_n hx hb dL_isRight_448 rfl (lv_at hl 0 rfl) ?_
            obtain ⟨r_284, hr_284, hf⟩ := bi_e hf
            refine kL_31 hx hb hml hts hown hG hI hS hl.1 hL (As := []) (c_X7_repeat l D cI cS Z K hL σ _ hr_284) ⟨(Nat.le_of_ble_eq_true rfl), (Nat.le_of_ble_eq_true rfl)⟩ rfl (Nat.le_of_ble_eq_true rfl) ⟨(Nat.le_of_ble_eq_true rfl), (Nat.le_of_ble_eq_true rfl)⟩ dL_isRight_449 (fun H locs hI hS => ?_)
            refine lv_iload_n hx hb dL_isRight_452 rfl (lv_at hl 1 rfl) ?_
            refine lv_icmp_gt (tgt := 471) hx hb dL_isRight_453 (by decide) (fun c_288 => ?_) (fun c_288 => ?_)
            · have hf := pos_e c_288 hf
              refine lv_iconst (v := 0) hx hb dL_isRight_471 (by decide) ?_
              obtain rfl := so_e hf
              exact mm_zret hx hb hr hlocks (Or.inl rfl) hI hS dL_isRight_472
            · have hf := neg_e c_288 hf
              refine lv_aload_n hx hb dL_isRight_456 rfl (lv_at hl 0 rfl) ?_
              obtain ⟨r_285, hr_285, hf⟩ := bi_e hf
              refine kL_81 hx hb hml hts hown hG hI hS hl.1 hL (As := []) (c_X7_differentRows l D cI cS Z K hL σ _ hr_285) ⟨(Nat.le_of_ble_eq_true rfl), (Nat.le_of_ble_eq_true rfl)⟩ rfl (Nat.le_of_ble_eq_true rfl) ⟨(Nat.le_of_ble_eq_true rfl), (Nat.le_of_ble_eq_true rfl)⟩ dL_isRight_457 (fun H locs hI hS => ?_)
              refine lv_aload_n hx hb dL_isRight_460 rfl (lv_at hl 0 rfl) ?_
              obtain ⟨r_286, hr_286, hf⟩ := bi_e hf
              refine kL_31 hx hb hml hts hown hG hI hS hl.1 hL (As := []) (c_X7_repeat l D cI cS Z K hL σ _ hr_286) ⟨(Nat.le_of_ble_eq_true rfl), (Nat.le_of_ble_eq_true rfl)⟩ rfl (Nat.le_of_ble_eq_true rfl) ⟨(Nat.le_of_ble_eq_true rfl), (Nat.le_of_ble_eq_true rfl)⟩ dL_isRight_461 (fun H locs hI hS => ?_)
              refine lv_icmp_gt (tgt := 471) hx hb dL_isRight_464 (by decide) (fun c_287 => ?_) (fun c_287 => ?_)
              · have hf := pos_e c_287 hf
                refine lv_iconst (v := 0) hx hb dL_isRight_471 (by decide) ?_
                obtain rfl := so_e hf
                exact mm_zret hx hb hr hlocks (Or.inl rfl) hI hS dL_isRight_472
              · have hf := neg_e c_287 hf
                refine lv_iconst (v := 1) hx hb dL_isRight_467 (by decide) ?_
                refine lv_goto (tgt := 472) hx hb dL_isRight_468 (by decide) ?_
                obtain rfl := so_e hf
                exact mm_zret hx hb hr hlocks (Or.inr rfl) hI hS dL_isRight_472
        · have hf := pos_e c_292 hf
          refine lv_aload_n hx hb dL_isRight_428 rfl (lv_at hl 0 rfl) ?_
          obtain ⟨r_290, hr_290, hf⟩ := bi_e hf
          refine kL_31 hx hb hml hts hown hG hI hS hl.1 hL (As := []) (c_X7_repeat l D cI cS Z K hL σ _ hr_290) ⟨(Nat.le_of_ble_eq_true rfl), (Nat.le_of_ble_eq_true rfl)⟩ rfl (Nat.le_of_ble_eq_true rfl) ⟨(Nat.le_of_ble_eq_true rfl), (Nat.le_of_ble_eq_true rfl)⟩ dL_isRight_429 (fun H locs hI hS => ?_)
          refine lv_bipush (v := (-9)) hx hb dL_isRight_432 (by decide) ?_
          refine lv_icmp_ne (tgt := 471) hx hb dL_isRight_434 (by decide) (fun c_291 => ?_) (fun c_291 => ?_)
          · have hf := neg_e c_291 hf
            refine lv_iconst (v := 0) hx hb dL_isRight_471 (by decide) ?_
            obtain rfl := so_e hf
            exact mm_zret hx hb hr hlocks (Or.inl rfl) hI hS dL_isRight_472
          · have hf := pos_e c_291 hf
            refine lv_goto (tgt := 467) hx hb dL_isRight_437 (by decide) ?_
            refine lv_iconst (v := 1) hx hb dL_isRight_467 (by decide) ?_
            refine lv_goto (tgt := 472) hx hb dL_isRight_468 (by decide) ?_
            obtain rfl := so_e hf
            exact mm_zret hx hb hr hlocks (Or.inr rfl) hI hS dL_isRight_472
    clear ek_280
    refine lv_if_le (tgt := 414) hx hb dL_isRight_388 (by decide) (fun c_298 => ?_) (fun c_298 => ?_)
    · have hf := pos_e c_298 hf
      exact HJ_281  _ _ _ hf hI hS (lv_sub hl [0, 1, 2] rfl)
    · have hf := neg_e c_298 hf
      refine lv_aload_n hx hb dL_isRight_391 rfl (lv_at hl 0 rfl) ?_
      refine lv_iconst (v := 1) hx hb dL_isRight_392 (by decide) ?_
      refine lv_iload_n hx hb dL_isRight_393 rfl (lv_at hl 3 rfl) ?_
      obtain ⟨r_294, hr_294, hf⟩ := bi_e hf
      refine kL_78 hx hb hml hts hown hG hI hS hl.1 hL (As := [.int 1, .int z_6]) (c_X7_floats l D cI cS Z K hL 1 z_6 σ _ hr_294) ⟨(Nat.le_of_ble_eq_true rfl), (Nat.le_of_ble_eq_true rfl)⟩ rfl (Nat.le_of_ble_eq_true rfl) ⟨(Nat.le_of_ble_eq_true rfl), (Nat.le_of_ble_eq_true rfl)⟩ dL_isRight_394 (fun H locs hI hS => ?_)
      refine lv_iconst (v := 1) hx hb dL_isRight_397 (by decide) ?_
      refine lv_icmp_lt (tgt := 412) hx hb dL_isRight_398 (by decide) (fun c_297 => ?_) (fun c_297 => ?_)
      · have hf := pos_e c_297 hf
        refine lv_iconst (v := 0) hx hb dL_isRight_412 (by decide) ?_
        obtain rfl := so_e hf
        exact mm_zret hx hb hr hlocks (Or.inl rfl) hI hS dL_isRight_413
      · have hf := neg_e c_297 hf
        refine lv_aload_n hx hb dL_isRight_401 rfl (lv_at hl 0 rfl) ?_
        refine lv_iconst (v := 1) hx hb dL_isRight_402 (by decide) ?_
        refine lv_iload_n hx hb dL_isRight_403 rfl (lv_at hl 3 rfl) ?_
        refine lv_iconst (v := 1) hx hb dL_isRight_404 (by decide) ?_
        refine lv_iadd hx hb dL_isRight_405 ?_
        obtain ⟨r_295, hr_295, hf⟩ := bi_e hf
        refine kL_78 hx hb hml hts hown hG hI hS hl.1 hL (As := [.int 1, .int (z_6 + 1)]) (c_X7_floats l D cI cS Z K hL 1 (z_6 + 1) σ _ hr_295) ⟨(Nat.le_of_ble_eq_true rfl), (Nat.le_of_ble_eq_true rfl)⟩ rfl (Nat.le_of_ble_eq_true rfl) ⟨(Nat.le_of_ble_eq_true rfl), (Nat.le_of_ble_eq_true rfl)⟩ dL_isRight_406 (fun H locs hI hS => ?_)
        refine lv_if_eq (tgt := 414) hx hb dL_isRight_409 (by decide) (fun c_296 => ?_) (fun c_296 => ?_)
        · have hf := pos_e c_296 hf
          exact HJ_281  _ _ _ hf hI hS (lv_sub hl [0, 1, 2] rfl)
        · have hf := neg_e c_296 hf
          refine lv_iconst (v := 0) hx hb dL_isRight_412 (by decide) ?_
          obtain rfl := so_e hf
          exact mm_zret hx hb hr hlocks (Or.inl rfl) hI hS dL_isRight_413
  clear ek_273
  refine lv_if_le (tgt := 387) hx hb dL_isRight_354 (by decide) (fun c_304 => ?_) (fun c_304 => ?_)
  · have hf := pos_e c_304 hf
    exact HJ_274  _ _ _ hf hI hS (lv_sub hl [0, 1, 2, 3] rfl)
  · have hf := neg_e c_304 hf
    refine lv_iload hx hb dL_isRight_357 (lv_at hl 4 rfl) ?_
    refine lv_bipush (v := 64) hx hb dL_isRight_359 (by decide) ?_
    refine lv_icmp_ge (tgt := 387) hx hb dL_isRight_361 (by decide) (fun c_303 => ?_) (fun c_303 => ?_)
    · have hf := pos_e c_303 hf
      exact HJ_274  _ _ _ hf hI hS (lv_sub hl [0, 1, 2, 3] rfl)
    · have hf := neg_e c_303 hf
      refine lv_aload_n hx hb dL_isRight_364 rfl (lv_at hl 0 rfl) ?_
      refine lv_iconst (v := 0) hx hb dL_isRight_365 (by decide) ?_
      refine lv_iload hx hb dL_isRight_366 (lv_at hl 4 rfl) ?_
      obtain ⟨r_299, hr_299, hf⟩ := bi_e hf
      refine kL_78 hx hb hml hts hown hG hI hS hl.1 hL (As := [.int 0, .int z_245]) (c_X7_floats l D cI cS Z K hL 0 z_245 σ _ hr_299) ⟨(Nat.le_of_ble_eq_true rfl), (Nat.le_of_ble_eq_true rfl)⟩ rfl (Nat.le_of_ble_eq_true rfl) ⟨(Nat.le_of_ble_eq_true rfl), (Nat.le_of_ble_eq_true rfl)⟩ dL_isRight_368 (fun H locs hI hS => ?_)
      refine lv_iconst (v := 1) hx hb dL_isRight_371 (by decide) ?_
      refine lv_icmp_lt (tgt := 412) hx hb dL_isRight_372 (by decide) (fun c_302 => ?_) (fun c_302 => ?_)
      · have hf := pos_e c_302 hf
        refine lv_iconst (v := 0) hx hb dL_isRight_412 (by decide) ?_
        obtain rfl := so_e hf
        exact mm_zret hx hb hr hlocks (Or.inl rfl) hI hS dL_isRight_413
      · have hf := neg_e c_302 hf
        refine lv_aload_n hx hb dL_isRight_375 rfl (lv_at hl 0 rfl) ?_
        refine lv_iconst (v := 0) hx hb dL_isRight_376 (by decide) ?_
        refine lv_iload hx hb dL_isRight_377 (lv_at hl 4 rfl) ?_
        refine lv_iconst (v := 1) hx hb dL_isRight_379 (by decide) ?_
        refine lv_iadd hx hb dL_isRight_380 ?_
        obtain ⟨r_300, hr_300, hf⟩ := bi_e hf
        refine kL_78 hx hb hml hts hown hG hI hS hl.1 hL (As := [.int 0, .int (z_245 + 1)]) (c_X7_floats l D cI cS Z K hL 0 (z_245 + 1) σ _ hr_300) ⟨(Nat.le_of_ble_eq_true rfl), (Nat.le_of_ble_eq_true rfl)⟩ rfl (Nat.le_of_ble_eq_true rfl) ⟨(Nat.le_of_ble_eq_true rfl), (Nat.le_of_ble_eq_true rfl)⟩ dL_isRight_381 (fun H locs hI hS => ?_)
        refine lv_if_ne (tgt := 412) hx hb dL_isRight_384 (by decide) (fun c_301 => ?_) (fun c_301 => ?_)
        · have hf := neg_e c_301 hf
          refine lv_iconst (v := 0) hx hb dL_isRight_412 (by decide) ?_
          obtain rfl := so_e hf
          exact mm_zret hx hb hr hlocks (Or.inl rfl) hI hS dL_isRight_413
        · have hf := pos_e c_301 hf
          exact HJ_274  _ _ _ hf hI hS (lv_sub hl [0, 1, 2, 3] rfl)
def b_L_yarn_4 (σ : Nat → Nat → Int32) : Int32 × Int32 → Option ((Int32 × Int32) ⊕ (Int32))
  | (y_1, y_2) => if 10 ≤ y_2 then (some (.inr y_1)) else (bi (f_X7_yarn y_2 σ) fun r_14 => vl (y_1 + r_14) fun x_15 => vl (y_2 + 1) fun x_16 => some (.inl (x_15, x_16)))
def b_L_yarn_26 (σ : Nat → Nat → Int32) : Int32 × Int32 → Option ((Int32 × Int32) ⊕ (Int32))
  | (y_19, y_20) => bi (f_X7_count 5 σ) fun r_33 => if r_33 ≤ y_20 then (some (.inr y_19)) else (bi (f_X7_row y_20 2 σ) fun r_34 => vl (y_19 + r_34) fun x_35 => vl (y_20 + 1) fun x_36 => some (.inl (x_35, x_36)))
def f_L_yarn  (σ : Nat → Nat → Int32) : Option Int32 := bi (lp (b_L_yarn_4 σ) FU (0, 0)) fun z_3 => bi (lp (b_L_yarn_26 σ) FU (z_3, 0)) fun z_21 => some z_21
set_option maxHeartbeats 4000000 in
set_option maxRecDepth 100000 in
theorem c_L_yarn (l : Launch) (D : va_G) (cI cS : ClassId) (Z : Nat) (K : Nat → Nat) (hL : ly K 0 lyLoom) (σ : Nat → Nat → Int32) (r : Int32) (hf : f_L_yarn σ = some r) : Met l yL_yarn (wsT yL_yarn cL_yarn 3 (some .int)) { frames := 5, cells := 0, slots := 0, locals := 117 } (Pm D cI cS Z K [.ref (Z + 0)] σ) (Qi D cI cS Z K r σ) 0 0 (aZ Z) := by
  refine mm_met (lv := [(0, .ref (Z + 0))]) (by decide) (Nat.le_of_ble_eq_true rfl) rfl ?_
  intro p e s m args below meth c ls hx hb hr hml hts hown hlocks hG hl hI hS
  have hown : s.vm.findClass RL = some m.cls := hown
  rw [f_L_yarn] at hf
  refine lv_iconst (v := 0) hx hb dL_yarn_0 (by decide) ?_
  refine lv_istore_n (lv' := [(1, .int 0), (0, .ref (Z + 0))]) hx hb dL_yarn_1 rfl hl (by decide) rfl (fun ls hl => ?_)
  refine lv_iconst (v := 0) hx hb dL_yarn_2 (by decide) ?_
  refine lv_istore_n (lv' := [(2, .int 0), (1, .int 0), (0, .ref (Z + 0))]) hx hb dL_yarn_3 rfl hl (by decide) rfl (fun ls hl => ?_)
  have L_5 : ∀ (nn : Nat) (y_1 : Int32) (y_2 : Int32) (z_3 : Int32), lp (b_L_yarn_4 σ) nn (y_1, y_2) = some z_3 → (∀ (H : Heap) (locs : List Loc) (ls : Array Slot), fI D cI cS Z K σ H → va_S (aZ Z) s.heap H locs → lv_has ls 3 [(0, .ref (Z + 0)), (1, .int z_3)] → W p l e { frames := 5, cells := 0, slots := 0, locals := 117 } s m args below meth c H locs 0 0 (MQ below (Qi D cI cS Z K r σ) args s 0 0 (aZ Z)) (F0 m 24 ls [])) → ∀ (H : Heap) (locs : List Loc) (ls : Array Slot), fI D cI cS Z K σ H → va_S (aZ Z) s.heap H locs → lv_has ls 3 [(0, .ref (Z + 0)), (1, .int y_1), (2, .int y_2)] → W p l e { frames := 5, cells := 0, slots := 0, locals := 117 } s m args below meth c H locs 0 0 (MQ below (Qi D cI cS Z K r σ) args s 0 0 (aZ Z)) (F0 m 4 ls []) := by
    intro nn
    induction nn with
    | zero =>
      intro y_1 y_2 z_3 hq
      exact (lp_0 hq).elim
    | succ nn ih_6 =>
      intro y_1 y_2 z_3 hq kn_8 H locs ls hI hS hl
      obtain ⟨wb_4, hf, hk_7⟩ := lp_e hq
      rw [b_L_yarn_4] at hf
      have ih_6 := fun (y_1 : Int32) (y_2 : Int32) q => ih_6 y_1 y_2 z_3 q kn_8
      refine lv_iload_n hx hb dL_yarn_4 rfl (lv_at hl 2 rfl) ?_
      refine lv_bipush (v := 10) hx hb dL_yarn_5 (by decide) ?_
      refine lv_icmp_ge (tgt := 24) hx hb dL_yarn_7 (by decide) (fun c_17 => ?_) (fun c_17 => ?_)
      · have hf := pos_e c_17 hf
        obtain rfl := so_e hf
        obtain rfl := lk_r hk_7
        exact kn_8 _ _ _ hI hS (lv_sub hl [0, 1] rfl)
      · have hf := neg_e c_17 hf
        refine lv_iload_n hx hb dL_yarn_10 rfl (lv_at hl 1 rfl) ?_
        refine lv_aload_n hx hb dL_yarn_11 rfl (lv_at hl 0 rfl) ?_
        refine lv_iload_n hx hb dL_yarn_12 rfl (lv_at hl 2 rfl) ?_
        obtain ⟨r_14, hr_14, hf⟩ := bi_e hf
        refine kL_25 hx hb hml hts hown hG hI hS hl.1 hL (As := [.int y_2]) (c_X7_yarn l D cI cS Z K hL y_2 σ _ hr_14) ⟨(Nat.le_of_ble_eq_true rfl), (Nat.le_of_ble_eq_true rfl)⟩ rfl (Nat.le_of_ble_eq_true rfl) ⟨(Nat.le_of_ble_eq_true rfl), (Nat.le_of_ble_eq_true rfl)⟩ dL_yarn_13 (fun H locs hI hS => ?_)
        refine lv_iadd hx hb dL_yarn_16 ?_
        obtain ⟨x_15, ex_15, hf⟩ := vl_e hf
        refine mm_name ex_15 ?_
        refine lv_istore_n (lv' := [(1, .int x_15), (0, .ref (Z + 0)), (2, .int y_2)]) hx hb dL_yarn_17 rfl hl (by decide) rfl (fun ls hl => ?_)
        obtain ⟨x_16, ex_16, hf⟩ := vl_e hf
        refine lv_iinc (v := x_16) (lv' := [(2, .int x_16), (1, .int x_15), (0, .ref (Z + 0))]) hx hb dL_yarn_18 hl (k := 2) rfl (by rw [ex_16]; rfl) (by decide) rfl (fun ls hl => ?_)
        refine lv_goto (tgt := 4) hx hb dL_yarn_21 (by decide) ?_
        obtain rfl := so_e hf
        exact ih_6 x_15 x_16 hk_7 _ _ _ hI hS (lv_sub hl [2, 1, 0] rfl)
  obtain ⟨z_3, hy, hf⟩ := bi_e hf
  refine L_5 FU 0 0 _ hy ?_ _ _ _ hI hS (lv_sub hl [2, 1, 0] rfl)
  clear L_5
  intro H locs ls hI hS hl
  refine lv_iconst (v := 0) hx hb dL_yarn_24 (by decide) ?_
  refine lv_istore_n (lv' := [(2, .int 0), (0, .ref (Z + 0)), (1, .int z_3)]) hx hb dL_yarn_25 rfl hl (by decide) rfl (fun ls hl => ?_)
  have L_23 : ∀ (nn : Nat) (y_19 : Int32) (y_20 : Int32) (z_21 : Int32), lp (b_L_yarn_26 σ) nn (y_19, y_20) = some z_21 → (∀ (H : Heap) (locs : List Loc) (ls : Array Slot), fI D cI cS Z K σ H → va_S (aZ Z) s.heap H locs → lv_has ls 3 [(1, .int z_21)] → W p l e { frames := 5, cells := 0, slots := 0, locals := 117 } s m args below meth c H locs 0 0 (MQ below (Qi D cI cS Z K r σ) args s 0 0 (aZ Z)) (F0 m 50 ls [])) → ∀ (H : Heap) (locs : List Loc) (ls : Array Slot), fI D cI cS Z K σ H → va_S (aZ Z) s.heap H locs → lv_has ls 3 [(0, .ref (Z + 0)), (1, .int y_19), (2, .int y_20)] → W p l e { frames := 5, cells := 0, slots := 0, locals := 117 } s m args below meth c H locs 0 0 (MQ below (Qi D cI cS Z K r σ) args s 0 0 (aZ Z)) (F0 m 26 ls []) := by
    intro nn
    induction nn with
    | zero =>
      intro y_19 y_20 z_21 hq
      exact (lp_0 hq).elim
    | succ nn ih_24 =>
      intro y_19 y_20 z_21 hq kn_26 H locs ls hI hS hl
      obtain ⟨wb_22, hf, hk_25⟩ := lp_e hq
      rw [b_L_yarn_26] at hf
      have ih_24 := fun (y_19 : Int32) (y_20 : Int32) q => ih_24 y_19 y_20 z_21 q kn_26
      refine lv_iload_n hx hb dL_yarn_26 rfl (lv_at hl 2 rfl) ?_
      refine lv_aload_n hx hb dL_yarn_27 rfl (lv_at hl 0 rfl) ?_
      refine lv_iconst (v := 5) hx hb dL_yarn_28 (by decide) ?_
      obtain ⟨r_33, hr_33, hf⟩ := bi_e hf
      refine kL_12 hx hb hml hts hown hG hI hS hl.1 hL (As := [.int 5]) (c_X7_count l D cI cS Z K hL 5 σ _ hr_33) ⟨(Nat.le_of_ble_eq_true rfl), (Nat.le_of_ble_eq_true rfl)⟩ rfl (Nat.le_of_ble_eq_true rfl) ⟨(Nat.le_of_ble_eq_true rfl), (Nat.le_of_ble_eq_true rfl)⟩ dL_yarn_29 (fun H locs hI hS => ?_)
      refine lv_icmp_ge (tgt := 50) hx hb dL_yarn_32 (by decide) (fun c_37 => ?_) (fun c_37 => ?_)
      · have hf := pos_e c_37 hf
        obtain rfl := so_e hf
        obtain rfl := lk_r hk_25
        exact kn_26 _ _ _ hI hS (lv_sub hl [1] rfl)
      · have hf := neg_e c_37 hf
        refine lv_iload_n hx hb dL_yarn_35 rfl (lv_at hl 1 rfl) ?_
        refine lv_aload_n hx hb dL_yarn_36 rfl (lv_at hl 0 rfl) ?_
        refine lv_iload_n hx hb dL_yarn_37 rfl (lv_at hl 2 rfl) ?_
        refine lv_iconst (v := 2) hx hb dL_yarn_38 (by decide) ?_
        obtain ⟨r_34, hr_34, hf⟩ := bi_e hf
        refine kL_28 hx hb hml hts hown hG hI hS hl.1 hL (As := [.int y_20, .int 2]) (c_X7_row l D cI cS Z K hL y_20 2 σ _ hr_34) ⟨(Nat.le_of_ble_eq_true rfl), (Nat.le_of_ble_eq_true rfl)⟩ rfl (Nat.le_of_ble_eq_true rfl) ⟨(Nat.le_of_ble_eq_true rfl), (Nat.le_of_ble_eq_true rfl)⟩ dL_yarn_39 (fun H locs hI hS => ?_)
        refine lv_iadd hx hb dL_yarn_42 ?_
        obtain ⟨x_35, ex_35, hf⟩ := vl_e hf
        refine mm_name ex_35 ?_
        refine lv_istore_n (lv' := [(1, .int x_35), (0, .ref (Z + 0)), (2, .int y_20)]) hx hb dL_yarn_43 rfl hl (by decide) rfl (fun ls hl => ?_)
        obtain ⟨x_36, ex_36, hf⟩ := vl_e hf
        refine lv_iinc (v := x_36) (lv' := [(2, .int x_36), (1, .int x_35), (0, .ref (Z + 0))]) hx hb dL_yarn_44 hl (k := 2) rfl (by rw [ex_36]; rfl) (by decide) rfl (fun ls hl => ?_)
        refine lv_goto (tgt := 26) hx hb dL_yarn_47 (by decide) ?_
        obtain rfl := so_e hf
        exact ih_24 x_35 x_36 hk_25 _ _ _ hI hS (lv_sub hl [2, 1, 0] rfl)
  obtain ⟨z_21, hy, hf⟩ := bi_e hf
  refine L_23 FU z_3 0 _ hy ?_ _ _ _ hI hS (lv_sub hl [1, 2, 0] rfl)
  clear L_23
  intro H locs ls hI hS hl
  refine lv_iload_n hx hb dL_yarn_50 rfl (lv_at hl 0 rfl) ?_
  obtain rfl := so_e hf
  exact mm_ret hx hb hr hlocks rfl hI hS dL_yarn_51
