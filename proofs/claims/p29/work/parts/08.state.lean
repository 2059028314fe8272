/-! 08.state: mirrored programs and contracts (written by wip/p29/gen.py) -/
def f_X5_copyFrom (o : Nat) (o2 : Nat) (σ : Nat → Nat → Int32) : Option (Nat → Nat → Int32) := bi (f_X6_copyFrom (o + 1) (o2 + 1) σ) fun σ_2 => bi (f_X0_copyFrom (o + 8) (o2 + 8) σ_2) fun σ_4 => bi (f_X4_copyFrom (o + 13) 10 (o2 + 13) 10 σ_4) fun σ_6 => bi (f_X2_copyFrom (o + 15) (o2 + 15) σ_6) fun σ_8 => some σ_8
set_option maxHeartbeats 4000000 in
set_option maxRecDepth 100000 in
theorem c_X5_copyFrom (l : Launch) (D : va_G) (cI cS : ClassId) (Z : Nat) (K : Nat → Nat) (o : Nat) (hL : ly K o lyState) (o2 : Nat) (hL2 : ly K o2 lyState) (σ : Nat → Nat → Int32) (σ' : Nat → Nat → Int32) (hne : o ≠ o2) (hf : f_X5_copyFrom o o2 σ = some σ') : Met l yX5_copyFrom (wsT yX5_copyFrom cX5_copyFrom 2 none) { frames := 4, cells := 0, slots := 0, locals := 103 } (Pm D cI cS Z K [.ref (Z + o), .ref (Z + o2)] σ) (Qv D cI cS Z K σ') 0 0 (aZ Z) := by
  refine mm_met (lv := [(0, .ref (Z + o)), (1, .ref (Z + o2))]) (by decide) (Nat.le_of_ble_eq_true rfl) rfl ?_
  intro p e s m args below meth c ls hx hb hr hml hts hown hlocks hG hl hI hS
  have hown : s.vm.findClass RX5 = some m.cls := hown
  rw [f_X5_copyFrom] at hf
  refine lv_aload_n hx hb dX5_copyFrom_0 rfl (lv_at hl 0 rfl) ?_
  refine gX5_12 (o' := (o + 1)) hx hb hts hown hG hI hL rfl dX5_copyFrom_1 ?_
  refine lv_aload_n hx hb dX5_copyFrom_4 rfl (lv_at hl 1 rfl) ?_
  refine gX5_12 (o' := (o2 + 1)) hx hb hts hown hG hI hL2 rfl dX5_copyFrom_5 ?_
  obtain ⟨σ_2, hσ_2, hf⟩ := bi_e hf
  refine kX5_59 hx hb hml hts hown hG hI hS hl.1 (ly_sub_5_warp hL) (As := [.ref (Z + (o2 + 1))]) (c_X6_copyFrom l D cI cS Z K (o + 1) (ly_sub_5_warp hL) (o2 + 1) (ly_sub_5_warp hL2) σ _ (by omega) hσ_2) ⟨(Nat.le_of_ble_eq_true rfl), (Nat.le_of_ble_eq_true rfl)⟩ rfl (Nat.le_of_ble_eq_true rfl) ⟨(Nat.le_of_ble_eq_true rfl), (Nat.le_of_ble_eq_true rfl)⟩ dX5_copyFrom_8 (fun H locs hI hS => ?_)
  refine lv_aload_n hx hb dX5_copyFrom_11 rfl (lv_at hl 0 rfl) ?_
  refine gX5_21 (o' := (o + 8)) hx hb hts hown hG hI hL rfl dX5_copyFrom_12 ?_
  refine lv_aload_n hx hb dX5_copyFrom_15 rfl (lv_at hl 1 rfl) ?_
  refine gX5_21 (o' := (o2 + 8)) hx hb hts hown hG hI hL2 rfl dX5_copyFrom_16 ?_
  obtain ⟨σ_4, hσ_4, hf⟩ := bi_e hf
  refine kX5_63 hx hb hml hts hown hG hI hS hl.1 (ly_sub_5_chain hL) (As := [.ref (Z + (o2 + 8))]) (c_X0_copyFrom l D cI cS Z K (o + 8) (ly_sub_5_chain hL) (o2 + 8) (ly_sub_5_chain hL2) σ_2 _ (by omega) hσ_4) ⟨(Nat.le_of_ble_eq_true rfl), (Nat.le_of_ble_eq_true rfl)⟩ rfl (Nat.le_of_ble_eq_true rfl) ⟨(Nat.le_of_ble_eq_true rfl), (Nat.le_of_ble_eq_true rfl)⟩ dX5_copyFrom_19 (fun H locs hI hS => ?_)
  refine lv_aload_n hx hb dX5_copyFrom_22 rfl (lv_at hl 0 rfl) ?_
  refine gX5_30 (o' := (o + 13)) hx hb hts hown hG hI hL rfl dX5_copyFrom_23 ?_
  refine lv_aload_n hx hb dX5_copyFrom_26 rfl (lv_at hl 1 rfl) ?_
  refine gX5_30 (o' := (o2 + 13)) hx hb hts hown hG hI hL2 rfl dX5_copyFrom_27 ?_
  obtain ⟨σ_6, hσ_6, hf⟩ := bi_e hf
  refine kX5_66 hx hb hml hts hown hG hI hS hl.1 (ly_sub_5_bobbins hL) (As := [.ref (Z + (o2 + 13))]) (c_X4_copyFrom l D cI cS Z K (o + 13) 10 (ly_sub_5_bobbins hL) (o2 + 13) 10 (ly_sub_5_bobbins hL2) σ_4 _ (by omega) hσ_6) ⟨(Nat.le_of_ble_eq_true rfl), (Nat.le_of_ble_eq_true rfl)⟩ rfl (Nat.le_of_ble_eq_true rfl) ⟨(Nat.le_of_ble_eq_true rfl), (Nat.le_of_ble_eq_true rfl)⟩ dX5_copyFrom_30 (fun H locs hI hS => ?_)
  refine lv_aload_n hx hb dX5_copyFrom_33 rfl (lv_at hl 0 rfl) ?_
  refine gX5_37 (o' := (o + 15)) hx hb hts hown hG hI hL rfl dX5_copyFrom_34 ?_
  refine lv_aload_n hx hb dX5_copyFrom_37 rfl (lv_at hl 1 rfl) ?_
  refine gX5_37 (o' := (o2 + 15)) hx hb hts hown hG hI hL2 rfl dX5_copyFrom_38 ?_
  obtain ⟨σ_8, hσ_8, hf⟩ := bi_e hf
  refine kX5_69 hx hb hml hts hown hG hI hS hl.1 (ly_sub_5_cloth hL) (As := [.ref (Z + (o2 + 15))]) (c_X2_copyFrom l D cI cS Z K (o + 15) (ly_sub_5_cloth hL) (o2 + 15) (ly_sub_5_cloth hL2) σ_6 _ (by omega) hσ_8) ⟨(Nat.le_of_ble_eq_true rfl), (Nat.le_of_ble_eq_true rfl)⟩ rfl (Nat.le_of_ble_eq_true rfl) ⟨(Nat.le_of_ble_eq_true rfl), (Nat.le_of_ble_eq_true rfl)⟩ dX5_copyFrom_41 (fun H locs hI hS => ?_)
  obtain rfl := so_e hf
  exact mm_vret hx hb hr hlocks hI hS dX5_copyFrom_44
def f_X5_takeOutLastRow (o : Nat) (σ : Nat → Nat → Int32) : Option (Nat → Nat → Int32) := vl ((σ (o + 15) 0) - 1) fun x_1 => bi (f_X4_at (o + 16) 64 x_1 σ) fun r_2 => bi (f_X4_at (o + 13) 10 r_2 σ) fun r_3 => bi (f_X4_at (o + 20) 64 x_1 σ) fun r_4 => bi (f_X4_put (o + 13) 10 r_2 (r_3 + r_4) σ) fun σ_6 => vl (wr σ_6 (o + 15) 0 x_1) fun σ_7 => bi (f_X0_barBefore (o + 8) (σ_7 (o + 8) 1) σ_7) fun r_8 => vl (wr σ_7 (o + 8) 1 r_8) fun σ_9 => some σ_9
set_option maxHeartbeats 4000000 in
set_option maxRecDepth 100000 in
theorem c_X5_takeOutLastRow (l : Launch) (D : va_G) (cI cS : ClassId) (Z : Nat) (K : Nat → Nat) (o : Nat) (hL : ly K o lyState) (σ : Nat → Nat → Int32) (σ' : Nat → Nat → Int32) (hf : f_X5_takeOutLastRow o σ = some σ') : Met l yX5_takeOutLastRow (wsT yX5_takeOutLastRow cX5_takeOutLastRow 3 none) { frames := 2, cells := 0, slots := 0, locals := 42 } (Pm D cI cS Z K [.ref (Z + o)] σ) (Qv D cI cS Z K σ') 0 0 (aZ Z) := by
  refine mm_met (lv := [(0, .ref (Z + o))]) (by decide) (Nat.le_of_ble_eq_true rfl) rfl ?_
  intro p e s m args below meth c ls hx hb hr hml hts hown hlocks hG hl hI hS
  have hown : s.vm.findClass RX5 = some m.cls := hown
  rw [f_X5_takeOutLastRow] at hf
  refine lv_aload_n hx hb dX5_takeOutLastRow_0 rfl (lv_at hl 0 rfl) ?_
  refine gX5_37 (o' := (o + 15)) hx hb hts hown hG hI hL rfl dX5_takeOutLastRow_1 ?_
  refine gX5_56 hx hb hts hown hG hI (ly_sub_5_cloth hL) dX5_takeOutLastRow_4 ?_
  refine lv_iconst (v := 1) hx hb dX5_takeOutLastRow_7 (by decide) ?_
  refine lv_isub hx hb dX5_takeOutLastRow_8 ?_
  obtain ⟨x_1, ex_1, hf⟩ := vl_e hf
  refine mm_name ex_1 ?_
  refine lv_istore_n (lv' := [(1, .int x_1), (0, .ref (Z + o))]) hx hb dX5_takeOutLastRow_9 rfl hl (by decide) rfl (fun ls hl => ?_)
  refine lv_aload_n hx hb dX5_takeOutLastRow_10 rfl (lv_at hl 1 rfl) ?_
  refine gX5_37 (o' := (o + 15)) hx hb hts hown hG hI hL rfl dX5_takeOutLastRow_11 ?_
  refine gX5_85 (o' := (o + 16)) hx hb hts hown hG hI (ly_sub_5_cloth hL) rfl dX5_takeOutLastRow_14 ?_
  refine lv_iload_n hx hb dX5_takeOutLastRow_17 rfl (lv_at hl 0 rfl) ?_
  obtain ⟨r_2, hr_2, hf⟩ := bi_e hf
  refine kX5_78 hx hb hml hts hown hG hI hS hl.1 (ly_sub_2_colorOf (ly_sub_5_cloth hL)) (As := [.int x_1]) (c_X4_at l D cI cS Z K (o + 16) 64 (ly_sub_2_colorOf (ly_sub_5_cloth hL)) x_1 σ _ hr_2) ⟨(Nat.le_of_ble_eq_true rfl), (Nat.le_of_ble_eq_true rfl)⟩ rfl (Nat.le_of_ble_eq_true rfl) ⟨(Nat.le_of_ble_eq_true rfl), (Nat.le_of_ble_eq_true rfl)⟩ dX5_takeOutLastRow_18 (fun H locs hI hS => ?_)
  refine lv_istore_n (lv' := [(2, .int r_2), (1, .int x_1), (0, .ref (Z + o))]) hx hb dX5_takeOutLastRow_21 rfl hl (by decide) rfl (fun ls hl => ?_)
  refine lv_aload_n hx hb dX5_takeOutLastRow_22 rfl (lv_at hl 2 rfl) ?_
  refine gX5_30 (o' := (o + 13)) hx hb hts hown hG hI hL rfl dX5_takeOutLastRow_23 ?_
  refine lv_iload_n hx hb dX5_takeOutLastRow_26 rfl (lv_at hl 0 rfl) ?_
  refine lv_aload_n hx hb dX5_takeOutLastRow_27 rfl (lv_at hl 2 rfl) ?_
  refine gX5_30 (o' := (o + 13)) hx hb hts hown hG hI hL rfl dX5_takeOutLastRow_28 ?_
  refine lv_iload_n hx hb dX5_takeOutLastRow_31 rfl (lv_at hl 0 rfl) ?_
  obtain ⟨r_3, hr_3, hf⟩ := bi_e hf
  refine kX5_78 hx hb hml hts hown hG hI hS hl.1 (ly_sub_5_bobbins hL) (As := [.int r_2]) (c_X4_at l D cI cS Z K (o + 13) 10 (ly_sub_5_bobbins hL) r_2 σ _ hr_3) ⟨(Nat.le_of_ble_eq_true rfl), (Nat.le_of_ble_eq_true rfl)⟩ rfl (Nat.le_of_ble_eq_true rfl) ⟨(Nat.le_of_ble_eq_true rfl), (Nat.le_of_ble_eq_true rfl)⟩ dX5_takeOutLastRow_32 (fun H locs hI hS => ?_)
  refine lv_aload_n hx hb dX5_takeOutLastRow_35 rfl (lv_at hl 2 rfl) ?_
  refine gX5_37 (o' := (o + 15)) hx hb hts hown hG hI hL rfl dX5_takeOutLastRow_36 ?_
  refine gX5_105 (o' := (o + 20)) hx hb hts hown hG hI (ly_sub_5_cloth hL) rfl dX5_takeOutLastRow_39 ?_
  refine lv_iload_n hx hb dX5_takeOutLastRow_42 rfl (lv_at hl 1 rfl) ?_
  obtain ⟨r_4, hr_4, hf⟩ := bi_e hf
  refine kX5_78 hx hb hml hts hown hG hI hS hl.1 (ly_sub_2_usedOf (ly_sub_5_cloth hL)) (As := [.int x_1]) (c_X4_at l D cI cS Z K (o + 20) 64 (ly_sub_2_usedOf (ly_sub_5_cloth hL)) x_1 σ _ hr_4) ⟨(Nat.le_of_ble_eq_true rfl), (Nat.le_of_ble_eq_true rfl)⟩ rfl (Nat.le_of_ble_eq_true rfl) ⟨(Nat.le_of_ble_eq_true rfl), (Nat.le_of_ble_eq_true rfl)⟩ dX5_takeOutLastRow_43 (fun H locs hI hS => ?_)
  refine lv_iadd hx hb dX5_takeOutLastRow_46 ?_
  obtain ⟨σ_6, hσ_6, hf⟩ := bi_e hf
  refine kX5_86 hx hb hml hts hown hG hI hS hl.1 (ly_sub_5_bobbins hL) (As := [.int r_2, .int (r_3 + r_4)]) (c_X4_put l D cI cS Z K (o + 13) 10 (ly_sub_5_bobbins hL) r_2 (r_3 + r_4) σ _ hσ_6) ⟨(Nat.le_of_ble_eq_true rfl), (Nat.le_of_ble_eq_true rfl)⟩ rfl (Nat.le_of_ble_eq_true rfl) ⟨(Nat.le_of_ble_eq_true rfl), (Nat.le_of_ble_eq_true rfl)⟩ dX5_takeOutLastRow_47 (fun H locs hI hS => ?_)
  refine lv_aload_n hx hb dX5_takeOutLastRow_50 rfl (lv_at hl 2 rfl) ?_
  refine gX5_37 (o' := (o + 15)) hx hb hts hown hG hI hL rfl dX5_takeOutLastRow_51 ?_
  refine lv_iload_n hx hb dX5_takeOutLastRow_54 rfl (lv_at hl 1 rfl) ?_
  obtain ⟨σ_7, eσ_7, hf⟩ := vl_e hf
  refine pX5_56 hx hb hts hown hG hI hS (ly_sub_5_cloth hL) dX5_takeOutLastRow_55 (fun H locs hI hS => ?_)
  rw [← eσ_7] at hI
  refine lv_aload_n hx hb dX5_takeOutLastRow_58 rfl (lv_at hl 2 rfl) ?_
  refine gX5_21 (o' := (o + 8)) hx hb hts hown hG hI hL rfl dX5_takeOutLastRow_59 ?_
  refine lv_aload_n hx hb dX5_takeOutLastRow_62 rfl (lv_at hl 2 rfl) ?_
  refine gX5_21 (o' := (o + 8)) hx hb hts hown hG hI hL rfl dX5_takeOutLastRow_63 ?_
  refine lv_aload_n hx hb dX5_takeOutLastRow_66 rfl (lv_at hl 2 rfl) ?_
  refine gX5_21 (o' := (o + 8)) hx hb hts hown hG hI hL rfl dX5_takeOutLastRow_67 ?_
  refine gX5_75 hx hb hts hown hG hI (ly_sub_5_chain hL) dX5_takeOutLastRow_70 ?_
  obtain ⟨r_8, hr_8, hf⟩ := bi_e hf
  refine kX5_128 hx hb hml hts hown hG hI hS hl.1 (ly_sub_5_chain hL) (As := [.int (σ_7 (o + 8) 1)]) (c_X0_barBefore l D cI cS Z K (o + 8) (ly_sub_5_chain hL) (σ_7 (o + 8) 1) σ_7 _ hr_8) ⟨(Nat.le_of_ble_eq_true rfl), (Nat.le_of_ble_eq_true rfl)⟩ rfl (Nat.le_of_ble_eq_true rfl) ⟨(Nat.le_of_ble_eq_true rfl), (Nat.le_of_ble_eq_true rfl)⟩ dX5_takeOutLastRow_73 (fun H locs hI hS => ?_)
  obtain ⟨σ_9, eσ_9, hf⟩ := vl_e hf
  refine pX5_75 hx hb hts hown hG hI hS (ly_sub_5_chain hL) dX5_takeOutLastRow_76 (fun H locs hI hS => ?_)
  rw [← eσ_9] at hI
  obtain rfl := so_e hf
  exact mm_vret hx hb hr hlocks hI hS dX5_takeOutLastRow_79
def f_X5_reset (o : Nat) (a1 : Int32) (a2 : Int32) (σ : Nat → Nat → Int32) : Option (Nat → Nat → Int32) := bi (f_X6_reset (o + 1) a1 a2 σ) fun σ_2 => bi (f_X0_removeBars (o + 8) σ_2) fun σ_4 => vl (wr σ_4 (o + 8) 2 0) fun σ_5 => bi (f_X4_putAll (o + 13) 10 300 σ_5) fun σ_7 => vl (wr σ_7 (o + 15) 0 0) fun σ_8 => some σ_8
set_option maxHeartbeats 4000000 in
set_option maxRecDepth 100000 in
theorem c_X5_reset (l : Launch) (D : va_G) (cI cS : ClassId) (Z : Nat) (K : Nat → Nat) (o : Nat) (hL : ly K o lyState) (a1 : Int32) (a2 : Int32) (σ : Nat → Nat → Int32) (σ' : Nat → Nat → Int32) (hf : f_X5_reset o a1 a2 σ = some σ') : Met l yX5_reset (wsT yX5_reset cX5_reset 3 none) { frames := 2, cells := 0, slots := 0, locals := 46 } (Pm D cI cS Z K [.ref (Z + o), .int a1, .int a2] σ) (Qv D cI cS Z K σ') 0 0 (aZ Z) := by
  refine mm_met (lv := [(0, .ref (Z + o)), (1, .int a1), (2, .int a2)]) (by decide) (Nat.le_of_ble_eq_true rfl) rfl ?_
  intro p e s m args below meth c ls hx hb hr hml hts hown hlocks hG hl hI hS
  have hown : s.vm.findClass RX5 = some m.cls := hown
  rw [f_X5_reset] at hf
  refine lv_aload_n hx hb dX5_reset_0 rfl (lv_at hl 0 rfl) ?_
  refine gX5_12 (o' := (o + 1)) hx hb hts hown hG hI hL rfl dX5_reset_1 ?_
  refine lv_iload_n hx hb dX5_reset_4 rfl (lv_at hl 1 rfl) ?_
  refine lv_iload_n hx hb dX5_reset_5 rfl (lv_at hl 2 rfl) ?_
  obtain ⟨σ_2, hσ_2, hf⟩ := bi_e hf
  refine kX5_45 hx hb hml hts hown hG hI hS hl.1 (ly_sub_5_warp hL) (As := [.int a1, .int a2]) (c_X6_reset l D cI cS Z K (o + 1) (ly_sub_5_warp hL) a1 a2 σ _ hσ_2) ⟨(Nat.le_of_ble_eq_true rfl), (Nat.le_of_ble_eq_true rfl)⟩ rfl (Nat.le_of_ble_eq_true rfl) ⟨(Nat.le_of_ble_eq_true rfl), (Nat.le_of_ble_eq_true rfl)⟩ dX5_reset_6 (fun H locs hI hS => ?_)
  refine lv_aload_n hx hb dX5_reset_9 rfl (lv_at hl 0 rfl) ?_
  refine gX5_21 (o' := (o + 8)) hx hb hts hown hG hI hL rfl dX5_reset_10 ?_
  obtain ⟨σ_4, hσ_4, hf⟩ := bi_e hf
  refine kX5_46 hx hb hml hts hown hG hI hS hl.1 (ly_sub_5_chain hL) (As := []) (c_X0_removeBars l D cI cS Z K (o + 8) (ly_sub_5_chain hL) σ_2 _ hσ_4) ⟨(Nat.le_of_ble_eq_true rfl), (Nat.le_of_ble_eq_true rfl)⟩ rfl (Nat.le_of_ble_eq_true rfl) ⟨(Nat.le_of_ble_eq_true rfl), (Nat.le_of_ble_eq_true rfl)⟩ dX5_reset_13 (fun H locs hI hS => ?_)
  refine lv_aload_n hx hb dX5_reset_16 rfl (lv_at hl 0 rfl) ?_
  refine gX5_21 (o' := (o + 8)) hx hb hts hown hG hI hL rfl dX5_reset_17 ?_
  refine lv_iconst (v := 0) hx hb dX5_reset_20 (by decide) ?_
  obtain ⟨σ_5, eσ_5, hf⟩ := vl_e hf
  refine pX5_49 hx hb hts hown hG hI hS (ly_sub_5_chain hL) dX5_reset_21 (fun H locs hI hS => ?_)
  rw [← eσ_5] at hI
  refine lv_aload_n hx hb dX5_reset_24 rfl (lv_at hl 0 rfl) ?_
  refine gX5_30 (o' := (o + 13)) hx hb hts hown hG hI hL rfl dX5_reset_25 ?_
  refine lv_sipush (v := 300) hx hb dX5_reset_28 (by decide) ?_
  obtain ⟨σ_7, hσ_7, hf⟩ := bi_e hf
  refine kX5_53 hx hb hml hts hown hG hI hS hl.1 (ly_sub_5_bobbins hL) (As := [.int 300]) (c_X4_putAll l D cI cS Z K (o + 13) 10 (ly_sub_5_bobbins hL) 300 σ_5 _ hσ_7) ⟨(Nat.le_of_ble_eq_true rfl), (Nat.le_of_ble_eq_true rfl)⟩ rfl (Nat.le_of_ble_eq_true rfl) ⟨(Nat.le_of_ble_eq_true rfl), (Nat.le_of_ble_eq_true rfl)⟩ dX5_reset_31 (fun H locs hI hS => ?_)
  refine lv_aload_n hx hb dX5_reset_34 rfl (lv_at hl 0 rfl) ?_
  refine gX5_37 (o' := (o + 15)) hx hb hts hown hG hI hL rfl dX5_reset_35 ?_
  refine lv_iconst (v := 0) hx hb dX5_reset_38 (by decide) ?_
  obtain ⟨σ_8, eσ_8, hf⟩ := vl_e hf
  refine pX5_56 hx hb hts hown hG hI hS (ly_sub_5_cloth hL) dX5_reset_39 (fun H locs hI hS => ?_)
  rw [← eσ_8] at hI
  obtain rfl := so_e hf
  exact mm_vret hx hb hr hlocks hI hS dX5_reset_42
def b_X5_layWeft_25 (o : Nat) (a2 : Int32) (a3 : Int32) (σ : Nat → Nat → Int32) (v_2 : Int32) : Int32 × Int32 × Int32 × Int32 → Option ((Int32 × Int32 × Int32 × Int32) ⊕ (Int32 × Int32))
  | (y_5, y_6, y_7, y_8) => if (σ (o + 1) 1) ≤ y_8 then (some (.inr (y_5, y_6))) else (vl (α := Int32) (if v_2 = 0 then (((σ (o + 1) 1) - 1) - y_8) else (y_8)) fun v_36 => bi (f_X7_bitOf a2 v_36 σ) fun r_39 => vl (α := Int32) (if y_8 = 0 then (1) else (if r_39 = y_7 then (1) else (2))) fun v_42 => if v_42 ≤ (a3 - y_6) then (vl (y_6 + v_42) fun x_45 => vl (y_5 ||| (1 <<< (v_36 &&& 31))) fun x_46 => vl (y_8 + 1) fun x_47 => some (.inl (x_46, x_45, r_39, x_47))) else (some (.inr (y_5, y_6))))
def f_X5_layWeft (o : Nat) (a1 : Int32) (a2 : Int32) (a3 : Int32) (σ : Nat → Nat → Int32) : Option (Nat → Nat → Int32) := vl (α := Int32) (if (a1 &&& 1) = 0 then (1) else (0)) fun v_2 => b2 (lp (b_X5_layWeft_25 o a2 a3 σ v_2) FU (0, 0, (-1), 0)) fun z_9 z_10 => bi (f_X4_put (o + 22) 64 a1 (a2 &&& z_9) σ) fun σ_55 => bi (f_X6_allEnds (o + 1) σ_55) fun r_56 => bi (f_X4_put (o + 24) 64 a1 (r_56 &&& (z_9 ^^^ (-1))) σ_55) fun σ_58 => bi (f_X4_put (o + 20) 64 a1 z_10 σ_58) fun σ_60 => some σ_60
set_option maxHeartbeats 4000000 in
set_option maxRecDepth 100000 in
theorem c_X5_layWeft (l : Launch) (D : va_G) (cI cS : ClassId) (Z : Nat) (K : Nat → Nat) (o : Nat) (hL : ly K o lyState) (a1 : Int32) (a2 : Int32) (a3 : Int32) (σ : Nat → Nat → Int32) (σ' : Nat → Nat → Int32) (hf : f_X5_layWeft o a1 a2 a3 σ = some σ') : Met l yX5_layWeft (wsT yX5_layWeft cX5_layWeft 12 none) { frames := 1, cells := 0, slots := 0, locals := 22 } (Pm D cI cS Z K [.ref (Z + o), .int a1, .int a2, .int a3] σ) (Qv D cI cS Z K σ') 0 0 (aZ Z) := by
  refine mm_met (lv := [(0, .ref (Z + o)), (1, .int a1), (2, .int a2), (3, .int a3)]) (by decide) (Nat.le_of_ble_eq_true rfl) rfl ?_
  intro p e s m args below meth c ls hx hb hr hml hts hown hlocks hG hl hI hS
  have hown : s.vm.findClass RX5 = some m.cls := hown
  rw [f_X5_layWeft] at hf
  refine lv_iload_n hx hb dX5_layWeft_0 rfl (lv_at hl 1 rfl) ?_
  refine lv_iconst (v := 1) hx hb dX5_layWeft_1 (by decide) ?_
  refine lv_iand hx hb dX5_layWeft_2 ?_
  obtain ⟨v_2, ev_2, hf⟩ := vl_e hf
  have HJ_4 : ∀ (H : Heap) (locs : List Loc) (ls : Array Slot), fI D cI cS Z K σ H → va_S (aZ Z) s.heap H locs → lv_has ls 12 [(0, .ref (Z + o)), (1, .int a1), (2, .int a2), (3, .int a3)] → W p l e { frames := 1, cells := 0, slots := 0, locals := 22 } s m args below meth c H locs 0 0 (MQ below (Qv D cI cS Z K σ') args s 0 0 (aZ Z)) (F0 m 11 ls [.int v_2]) := by
    intro H locs ls hI hS hl
    refine lv_istore (lv' := [(4, .int v_2), (0, .ref (Z + o)), (1, .int a1), (2, .int a2), (3, .int a3)]) hx hb dX5_layWeft_11 hl (by decide) rfl (fun ls hl => ?_)
    refine lv_iconst (v := 0) hx hb dX5_layWeft_13 (by decide) ?_
    refine lv_istore (lv' := [(5, .int 0), (4, .int v_2), (0, .ref (Z + o)), (1, .int a1), (2, .int a2), (3, .int a3)]) hx hb dX5_layWeft_14 hl (by decide) rfl (fun ls hl => ?_)
    refine lv_iconst (v := 0) hx hb dX5_layWeft_16 (by decide) ?_
    refine lv_istore (lv' := [(6, .int 0), (5, .int 0), (4, .int v_2), (0, .ref (Z + o)), (1, .int a1), (2, .int a2), (3, .int a3)]) hx hb dX5_layWeft_17 hl (by decide) rfl (fun ls hl => ?_)
    refine lv_iconst (v := (-1)) hx hb dX5_layWeft_19 (by decide) ?_
    refine lv_istore (lv' := [(7, .int (-1)), (6, .int 0), (5, .int 0), (4, .int v_2), (0, .ref (Z + o)), (1, .int a1), (2, .int a2), (3, .int a3)]) hx hb dX5_layWeft_20 hl (by decide) rfl (fun ls hl => ?_)
    refine lv_iconst (v := 0) hx hb dX5_layWeft_22 (by decide) ?_
    refine lv_istore (lv' := [(8, .int 0), (7, .int (-1)), (6, .int 0), (5, .int 0), (4, .int v_2), (0, .ref (Z + o)), (1, .int a1), (2, .int a2), (3, .int a3)]) hx hb dX5_layWeft_23 hl (by decide) rfl (fun ls hl => ?_)
    have L_12 : ∀ (nn : Nat) (y_5 : Int32) (y_6 : Int32) (y_7 : Int32) (y_8 : Int32) (z_9 : Int32) (z_10 : Int32), lp (b_X5_layWeft_25 o a2 a3 σ v_2) nn (y_5, y_6, y_7, y_8) = some (z_9, z_10) → (∀ (H : Heap) (locs : List Loc) (ls : Array Slot), fI D cI cS Z K σ H → va_S (aZ Z) s.heap H locs → lv_has ls 12 [(0, .ref (Z + o)), (1, .int a1), (2, .int a2), (5, .int z_9), (6, .int z_10)] → W p l e { frames := 1, cells := 0, slots := 0, locals := 22 } s m args below meth c H locs 0 0 (MQ below (Qv D cI cS Z K σ') args s 0 0 (aZ Z)) (F0 m 126 ls [])) → ∀ (H : Heap) (locs : List Loc) (ls : Array Slot), fI D cI cS Z K σ H → va_S (aZ Z) s.heap H locs → lv_has ls 12 [(0, .ref (Z + o)), (1, .int a1), (2, .int a2), (3, .int a3), (4, .int v_2), (5, .int y_5), (6, .int y_6), (7, .int y_7), (8, .int y_8)] → W p l e { frames := 1, cells := 0, slots := 0, locals := 22 } s m args below meth c H locs 0 0 (MQ below (Qv D cI cS Z K σ') args s 0 0 (aZ Z)) (F0 m 25 ls []) := by
      intro nn
      induction nn with
      | zero =>
        intro y_5 y_6 y_7 y_8 z_9 z_10 hq
        exact (lp_0 hq).elim
      | succ nn ih_13 =>
        intro y_5 y_6 y_7 y_8 z_9 z_10 hq kn_15 H locs ls hI hS hl
        obtain ⟨wb_11, hf, hk_14⟩ := lp_e hq
        rw [b_X5_layWeft_25] at hf
        have ih_13 := fun (y_5 : Int32) (y_6 : Int32) (y_7 : Int32) (y_8 : Int32) q => ih_13 y_5 y_6 y_7 y_8 z_9 z_10 q kn_15
        refine lv_iload hx hb dX5_layWeft_25 (lv_at hl 8 rfl) ?_
        refine lv_aload_n hx hb dX5_layWeft_27 rfl (lv_at hl 0 rfl) ?_
        refine gX5_12 (o' := (o + 1)) hx hb hts hown hG hI hL rfl dX5_layWeft_28 ?_
        refine gX5_111 hx hb hts hown hG hI (ly_sub_5_warp hL) dX5_layWeft_31 ?_
        refine lv_icmp_ge (tgt := 126) hx hb dX5_layWeft_34 (by decide) (fun c_52 => ?_) (fun c_52 => ?_)
        · have hf := pos_e c_52 hf
          obtain rfl := so_e hf
          obtain ⟨rfl, rfl⟩ := q2_e (lk_r hk_14)
          exact kn_15 _ _ _ hI hS (lv_sub hl [0, 1, 2, 5, 6] rfl)
        · have hf := neg_e c_52 hf
          refine lv_iload hx hb dX5_layWeft_37 (lv_at hl 4 rfl) ?_
          obtain ⟨v_36, ev_36, hf⟩ := vl_e hf
          have HJ_38 : ∀ (H : Heap) (locs : List Loc) (ls : Array Slot), fI D cI cS Z K σ H → va_S (aZ Z) s.heap H locs → lv_has ls 12 [(0, .ref (Z + o)), (1, .int a1), (2, .int a2), (3, .int a3), (4, .int v_2), (5, .int y_5), (6, .int y_6), (7, .int y_7), (8, .int y_8)] → W p l e { frames := 1, cells := 0, slots := 0, locals := 22 } s m args below meth c H locs 0 0 (MQ below (Qv D cI cS Z K σ') args s 0 0 (aZ Z)) (F0 m 59 ls [.int v_36]) := by
            intro H locs ls hI hS hl
            refine lv_istore (lv' := [(9, .int v_36), (0, .ref (Z + o)), (1, .int a1), (2, .int a2), (3, .int a3), (4, .int v_2), (5, .int y_5), (6, .int y_6), (7, .int y_7), (8, .int y_8)]) hx hb dX5_layWeft_59 hl (by decide) rfl (fun ls hl => ?_)
            refine lv_iload_n hx hb dX5_layWeft_61 rfl (lv_at hl 3 rfl) ?_
            refine lv_iload hx hb dX5_layWeft_62 (lv_at hl 0 rfl) ?_
            obtain ⟨r_39, hr_39, hf⟩ := bi_e hf
            refine kX5_114 hx hb hml hts hown hG hI hS hl.1 (As := [.int a2, .int v_36]) (c_X7_bitOf l D cI cS Z K a2 v_36 σ _ hr_39) ⟨(Nat.le_of_ble_eq_true rfl), (Nat.le_of_ble_eq_true rfl)⟩ rfl (Nat.le_of_ble_eq_true rfl) ⟨(Nat.le_of_ble_eq_true rfl), (Nat.le_of_ble_eq_true rfl)⟩ dX5_layWeft_64 (fun H locs hI hS => ?_)
            refine lv_istore (lv' := [(10, .int r_39), (9, .int v_36), (0, .ref (Z + o)), (1, .int a1), (2, .int a2), (3, .int a3), (4, .int v_2), (5, .int y_5), (6, .int y_6), (7, .int y_7), (8, .int y_8)]) hx hb dX5_layWeft_67 hl (by decide) rfl (fun ls hl => ?_)
            refine lv_iload hx hb dX5_layWeft_69 (lv_at hl 10 rfl) ?_
            obtain ⟨v_42, ev_42, hf⟩ := vl_e hf
            have HJ_44 : ∀ (H : Heap) (locs : List Loc) (ls : Array Slot), fI D cI cS Z K σ H → va_S (aZ Z) s.heap H locs → lv_has ls 12 [(0, .ref (Z + o)), (1, .int a1), (2, .int a2), (3, .int a3), (4, .int v_2), (5, .int y_5), (6, .int y_6), (8, .int y_8), (9, .int v_36), (10, .int r_39)] → W p l e { frames := 1, cells := 0, slots := 0, locals := 22 } s m args below meth c H locs 0 0 (MQ below (Qv D cI cS Z K σ') args s 0 0 (aZ Z)) (F0 m 86 ls [.int v_42]) := by
              intro H locs ls hI hS hl
              refine lv_istore (lv' := [(11, .int v_42), (0, .ref (Z + o)), (1, .int a1), (2, .int a2), (3, .int a3), (4, .int v_2), (5, .int y_5), (6, .int y_6), (8, .int y_8), (9, .int v_36), (10, .int r_39)]) hx hb dX5_layWeft_86 hl (by decide) rfl (fun ls hl => ?_)
              refine lv_iload hx hb dX5_layWeft_88 (lv_at hl 0 rfl) ?_
              refine lv_iload_n hx hb dX5_layWeft_90 rfl (lv_at hl 4 rfl) ?_
              refine lv_iload hx hb dX5_layWeft_91 (lv_at hl 7 rfl) ?_
              refine lv_isub hx hb dX5_layWeft_93 ?_
              refine lv_icmp_le (tgt := 100) hx hb dX5_layWeft_94 (by decide) (fun c_48 => ?_) (fun c_48 => ?_)
              · have hf := pos_e c_48 hf
                refine lv_iload hx hb dX5_layWeft_100 (lv_at hl 7 rfl) ?_
                refine lv_iload hx hb dX5_layWeft_102 (lv_at hl 0 rfl) ?_
                refine lv_iadd hx hb dX5_layWeft_104 ?_
                obtain ⟨x_45, ex_45, hf⟩ := vl_e hf
                refine mm_name ex_45 ?_
                refine lv_istore (lv' := [(6, .int x_45), (11, .int v_42), (0, .ref (Z + o)), (1, .int a1), (2, .int a2), (3, .int a3), (4, .int v_2), (5, .int y_5), (8, .int y_8), (9, .int v_36), (10, .int r_39)]) hx hb dX5_layWeft_105 hl (by decide) rfl (fun ls hl => ?_)
                refine lv_iload hx hb dX5_layWeft_107 (lv_at hl 7 rfl) ?_
                refine lv_iconst (v := 1) hx hb dX5_layWeft_109 (by decide) ?_
                refine lv_iload hx hb dX5_layWeft_110 (lv_at hl 9 rfl) ?_
                refine lv_ishl hx hb dX5_layWeft_112 ?_
                refine lv_ior hx hb dX5_layWeft_113 ?_
                obtain ⟨x_46, ex_46, hf⟩ := vl_e hf
                refine mm_name ex_46 ?_
                refine lv_istore (lv' := [(5, .int x_46), (6, .int x_45), (11, .int v_42), (0, .ref (Z + o)), (1, .int a1), (2, .int a2), (3, .int a3), (4, .int v_2), (8, .int y_8), (9, .int v_36), (10, .int r_39)]) hx hb dX5_layWeft_114 hl (by decide) rfl (fun ls hl => ?_)
                refine lv_iload hx hb dX5_layWeft_116 (lv_at hl 10 rfl) ?_
                refine lv_istore (lv' := [(7, .int r_39), (5, .int x_46), (6, .int x_45), (11, .int v_42), (0, .ref (Z + o)), (1, .int a1), (2, .int a2), (3, .int a3), (4, .int v_2), (8, .int y_8), (9, .int v_36), (10, .int r_39)]) hx hb dX5_layWeft_118 hl (by decide) rfl (fun ls hl => ?_)
                obtain ⟨x_47, ex_47, hf⟩ := vl_e hf
                refine lv_iinc (v := x_47) (lv' := [(8, .int x_47), (7, .int r_39), (5, .int x_46), (6, .int x_45), (11, .int v_42), (0, .ref (Z + o)), (1, .int a1), (2, .int a2), (3, .int a3), (4, .int v_2), (9, .int v_36), (10, .int r_39)]) hx hb dX5_layWeft_120 hl (k := 9) rfl (by rw [ex_47]; rfl) (by decide) rfl (fun ls hl => ?_)
                refine lv_goto (tgt := 25) hx hb dX5_layWeft_123 (by decide) ?_
                obtain rfl := so_e hf
                exact ih_13 x_46 x_45 r_39 x_47 hk_14 _ _ _ hI hS (lv_sub hl [5, 6, 7, 8, 9, 2, 3, 1, 0] rfl)
              · have hf := neg_e c_48 hf
                refine lv_goto (tgt := 126) hx hb dX5_layWeft_97 (by decide) ?_
                obtain rfl := so_e hf
                obtain ⟨rfl, rfl⟩ := q2_e (lk_r hk_14)
                exact kn_15 _ _ _ hI hS (lv_sub hl [1, 2, 3, 6, 7] rfl)
            clear hf
            have hf := ev_42.symm
            refine lv_if_eq (tgt := 81) hx hb dX5_layWeft_71 (by decide) (fun c_50 => ?_) (fun c_50 => ?_)
            · have hf := pos_e c_50 hf
              refine lv_iconst (v := 1) hx hb dX5_layWeft_81 (by decide) ?_
              refine lv_goto (tgt := 86) hx hb dX5_layWeft_82 (by decide) ?_
              refine mm_name hf.symm ?_
              exact HJ_44 _ _ _ hI hS (lv_sub hl [2, 3, 4, 5, 6, 7, 8, 10, 1, 0] rfl)
            · have hf := neg_e c_50 hf
              refine lv_iload hx hb dX5_layWeft_74 (lv_at hl 0 rfl) ?_
              refine lv_iload hx hb dX5_layWeft_76 (lv_at hl 9 rfl) ?_
              refine lv_icmp_ne (tgt := 85) hx hb dX5_layWeft_78 (by decide) (fun c_49 => ?_) (fun c_49 => ?_)
              · have hf := neg_e c_49 hf
                refine lv_iconst (v := 2) hx hb dX5_layWeft_85 (by decide) ?_
                refine mm_name hf.symm ?_
                exact HJ_44 _ _ _ hI hS (lv_sub hl [2, 3, 4, 5, 6, 7, 8, 10, 1, 0] rfl)
              · have hf := pos_e c_49 hf
                refine lv_iconst (v := 1) hx hb dX5_layWeft_81 (by decide) ?_
                refine lv_goto (tgt := 86) hx hb dX5_layWeft_82 (by decide) ?_
                refine mm_name hf.symm ?_
                exact HJ_44 _ _ _ hI hS (lv_sub hl [2, 3, 4, 5, 6, 7, 8, 10, 1, 0] rfl)
          clear hf
          have hf := ev_36.symm
          refine lv_if_eq (tgt := 47) hx hb dX5_layWeft_39 (by decide) (fun c_51 => ?_) (fun c_51 => ?_)
          · have hf := pos_e c_51 hf
            refine lv_aload_n hx hb dX5_layWeft_47 rfl (lv_at hl 0 rfl) ?_
            refine gX5_12 (o' := (o + 1)) hx hb hts hown hG hI hL rfl dX5_layWeft_48 ?_
            refine gX5_111 hx hb hts hown hG hI (ly_sub_5_warp hL) dX5_layWeft_51 ?_
            refine lv_iconst (v := 1) hx hb dX5_layWeft_54 (by decide) ?_
            refine lv_isub hx hb dX5_layWeft_55 ?_
            refine lv_iload hx hb dX5_layWeft_56 (lv_at hl 8 rfl) ?_
            refine lv_isub hx hb dX5_layWeft_58 ?_
            refine mm_name hf.symm ?_
            exact HJ_38 _ _ _ hI hS (lv_sub hl [0, 1, 2, 3, 4, 5, 6, 7, 8] rfl)
          · have hf := neg_e c_51 hf
            refine lv_iload hx hb dX5_layWeft_42 (lv_at hl 8 rfl) ?_
            refine lv_goto (tgt := 59) hx hb dX5_layWeft_44 (by decide) ?_
            refine mm_name hf.symm ?_
            exact HJ_38 _ _ _ hI hS (lv_sub hl [0, 1, 2, 3, 4, 5, 6, 7, 8] rfl)
    obtain ⟨z_9, z_10, hy, hf⟩ := b2_e hf
    refine L_12 FU 0 0 (-1) 0 _ _ hy ?_ _ _ _ hI hS (lv_sub hl [5, 6, 7, 8, 4, 3, 2, 1, 0] rfl)
    clear L_12
    intro H locs ls hI hS hl
    refine lv_aload_n hx hb dX5_layWeft_126 rfl (lv_at hl 0 rfl) ?_
    refine gX5_37 (o' := (o + 15)) hx hb hts hown hG hI hL rfl dX5_layWeft_127 ?_
    refine gX5_118 (o' := (o + 22)) hx hb hts hown hG hI (ly_sub_5_cloth hL) rfl dX5_layWeft_130 ?_
    refine lv_iload_n hx hb dX5_layWeft_133 rfl (lv_at hl 1 rfl) ?_
    refine lv_iload_n hx hb dX5_layWeft_134 rfl (lv_at hl 2 rfl) ?_
    refine lv_iload hx hb dX5_layWeft_135 (lv_at hl 3 rfl) ?_
    refine lv_iand hx hb dX5_layWeft_137 ?_
    obtain ⟨σ_55, hσ_55, hf⟩ := bi_e hf
    refine kX5_86 hx hb hml hts hown hG hI hS hl.1 (ly_sub_2_aboveOf (ly_sub_5_cloth hL)) (As := [.int a1, .int (a2 &&& z_9)]) (c_X4_put l D cI cS Z K (o + 22) 64 (ly_sub_2_aboveOf (ly_sub_5_cloth hL)) a1 (a2 &&& z_9) σ _ hσ_55) ⟨(Nat.le_of_ble_eq_true rfl), (Nat.le_of_ble_eq_true rfl)⟩ rfl (Nat.le_of_ble_eq_true rfl) ⟨(Nat.le_of_ble_eq_true rfl), (Nat.le_of_ble_eq_true rfl)⟩ dX5_layWeft_138 (fun H locs hI hS => ?_)
    refine lv_aload_n hx hb dX5_layWeft_141 rfl (lv_at hl 0 rfl) ?_
    refine gX5_37 (o' := (o + 15)) hx hb hts hown hG hI hL rfl dX5_layWeft_142 ?_
    refine gX5_121 (o' := (o + 24)) hx hb hts hown hG hI (ly_sub_5_cloth hL) rfl dX5_layWeft_145 ?_
    refine lv_iload_n hx hb dX5_layWeft_148 rfl (lv_at hl 1 rfl) ?_
    refine lv_aload_n hx hb dX5_layWeft_149 rfl (lv_at hl 0 rfl) ?_
    refine gX5_12 (o' := (o + 1)) hx hb hts hown hG hI hL rfl dX5_layWeft_150 ?_
    obtain ⟨r_56, hr_56, hf⟩ := bi_e hf
    refine kX5_124 hx hb hml hts hown hG hI hS hl.1 (ly_sub_5_warp hL) (As := []) (c_X6_allEnds l D cI cS Z K (o + 1) (ly_sub_5_warp hL) σ_55 _ hr_56) ⟨(Nat.le_of_ble_eq_true rfl), (Nat.le_of_ble_eq_true rfl)⟩ rfl (Nat.le_of_ble_eq_true rfl) ⟨(Nat.le_of_ble_eq_true rfl), (Nat.le_of_ble_eq_true rfl)⟩ dX5_layWeft_153 (fun H locs hI hS => ?_)
    refine lv_iload hx hb dX5_layWeft_156 (lv_at hl 3 rfl) ?_
    refine lv_iconst (v := (-1)) hx hb dX5_layWeft_158 (by decide) ?_
    refine lv_ixor hx hb dX5_layWeft_159 ?_
    refine lv_iand hx hb dX5_layWeft_160 ?_
    obtain ⟨σ_58, hσ_58, hf⟩ := bi_e hf
    refine kX5_86 hx hb hml hts hown hG hI hS hl.1 (ly_sub_2_missingOf (ly_sub_5_cloth hL)) (As := [.int a1, .int (r_56 &&& (z_9 ^^^ (-1)))]) (c_X4_put l D cI cS Z K (o + 24) 64 (ly_sub_2_missingOf (ly_sub_5_cloth hL)) a1 (r_56 &&& (z_9 ^^^ (-1))) σ_55 _ hσ_58) ⟨(Nat.le_of_ble_eq_true rfl), (Nat.le_of_ble_eq_true rfl)⟩ rfl (Nat.le_of_ble_eq_true rfl) ⟨(Nat.le_of_ble_eq_true rfl), (Nat.le_of_ble_eq_true rfl)⟩ dX5_layWeft_161 (fun H locs hI hS => ?_)
    refine lv_aload_n hx hb dX5_layWeft_164 rfl (lv_at hl 0 rfl) ?_
    refine gX5_37 (o' := (o + 15)) hx hb hts hown hG hI hL rfl dX5_layWeft_165 ?_
    refine gX5_105 (o' := (o + 20)) hx hb hts hown hG hI (ly_sub_5_cloth hL) rfl dX5_layWeft_168 ?_
    refine lv_iload_n hx hb dX5_layWeft_171 rfl (lv_at hl 1 rfl) ?_
    refine lv_iload hx hb dX5_layWeft_172 (lv_at hl 4 rfl) ?_
    obtain ⟨σ_60, hσ_60, hf⟩ := bi_e hf
    refine kX5_86 hx hb hml hts hown hG hI hS hl.1 (ly_sub_2_usedOf (ly_sub_5_cloth hL)) (As := [.int a1, .int z_10]) (c_X4_put l D cI cS Z K (o + 20) 64 (ly_sub_2_usedOf (ly_sub_5_cloth hL)) a1 z_10 σ_58 _ hσ_60) ⟨(Nat.le_of_ble_eq_true rfl), (Nat.le_of_ble_eq_true rfl)⟩ rfl (Nat.le_of_ble_eq_true rfl) ⟨(Nat.le_of_ble_eq_true rfl), (Nat.le_of_ble_eq_true rfl)⟩ dX5_layWeft_174 (fun H locs hI hS => ?_)
    obtain rfl := so_e hf
    exact mm_vret hx hb hr hlocks hI hS dX5_layWeft_177
  clear hf
  have hf := ev_2.symm
  refine lv_if_ne (tgt := 10) hx hb dX5_layWeft_3 (by decide) (fun c_61 => ?_) (fun c_61 => ?_)
  · have hf := neg_e c_61 hf
    refine lv_iconst (v := 0) hx hb dX5_layWeft_10 (by decide) ?_
    refine mm_name hf.symm ?_
    exact HJ_4 _ _ _ hI hS (lv_sub hl [0, 1, 2, 3] rfl)
  · have hf := pos_e c_61 hf
    refine lv_iconst (v := 1) hx hb dX5_layWeft_6 (by decide) ?_
    refine lv_goto (tgt := 11) hx hb dX5_layWeft_7 (by decide) ?_
    refine mm_name hf.symm ?_
    exact HJ_4 _ _ _ hI hS (lv_sub hl [0, 1, 2, 3] rfl)
def f_X5_makePick (o : Nat) (σ : Nat → Nat → Int32) : Option (Nat → Nat → Int32) := vl (σ (o + 15) 0) fun x_1 => bi (f_X4_at (o + 11) 24 (σ (o + 8) 1) σ) fun r_2 => bi (f_X4_at (o + 9) 24 (σ (o + 8) 1) σ) fun r_3 => bi (f_X4_put (o + 16) 64 x_1 r_2 σ) fun σ_5 => bi (f_X4_put (o + 18) 64 x_1 (σ_5 (o + 8) 1) σ_5) fun σ_7 => bi (f_X6_endsOn (o + 1) r_3 σ_7) fun r_8 => bi (f_X4_put (o + 26) 64 x_1 r_8 σ_7) fun σ_10 => bi (f_X6_liftedShafts (o + 1) r_3 σ_10) fun r_11 => bi (f_X6_endsOn (o + 1) r_11 σ_10) fun r_12 => bi (f_X4_at (o + 13) 10 r_2 σ_10) fun r_13 => bi (f_X5_layWeft o x_1 r_12 r_13 σ_10) fun σ_15 => bi (f_X4_at (o + 13) 10 r_2 σ_15) fun r_16 => bi (f_X4_at (o + 20) 64 x_1 σ_15) fun r_17 => bi (f_X4_put (o + 13) 10 r_2 (r_16 - r_17) σ_15) fun σ_19 => vl (wr σ_19 (o + 15) 0 (x_1 + 1)) fun σ_20 => bi (f_X0_barAfter (o + 8) (σ_20 (o + 8) 1) σ_20) fun r_21 => vl (wr σ_20 (o + 8) 1 r_21) fun σ_22 => some σ_22
set_option maxHeartbeats 4000000 in
set_option maxRecDepth 100000 in
theorem c_X5_makePick (l : Launch) (D : va_G) (cI cS : ClassId) (Z : Nat) (K : Nat → Nat) (o : Nat) (hL : ly K o lyState) (σ : Nat → Nat → Int32) (σ' : Nat → Nat → Int32) (hf : f_X5_makePick o σ = some σ') : Met l yX5_makePick (wsT yX5_makePick cX5_makePick 4 none) { frames := 2, cells := 0, slots := 0, locals := 53 } (Pm D cI cS Z K [.ref (Z + o)] σ) (Qv D cI cS Z K σ') 0 0 (aZ Z) := by
  refine mm_met (lv := [(0, .ref (Z + o))]) (by decide) (Nat.le_of_ble_eq_true rfl) rfl ?_
  intro p e s m args below meth c ls hx hb hr hml hts hown hlocks hG hl hI hS
  have hown : s.vm.findClass RX5 = some m.cls := hown
  rw [f_X5_makePick] at hf
  refine lv_aload_n hx hb dX5_makePick_0 rfl (lv_at hl 0 rfl) ?_
  refine gX5_37 (o' := (o + 15)) hx hb hts hown hG hI hL rfl dX5_makePick_1 ?_
  refine gX5_56 hx hb hts hown hG hI (ly_sub_5_cloth hL) dX5_makePick_4 ?_
  obtain ⟨x_1, ex_1, hf⟩ := vl_e hf
  refine mm_name ex_1 ?_
  refine lv_istore_n (lv' := [(1, .int x_1), (0, .ref (Z + o))]) hx hb dX5_makePick_7 rfl hl (by decide) rfl (fun ls hl => ?_)
  refine lv_aload_n hx hb dX5_makePick_8 rfl (lv_at hl 1 rfl) ?_
  refine gX5_21 (o' := (o + 8)) hx hb hts hown hG hI hL rfl dX5_makePick_9 ?_
  refine gX5_72 (o' := (o + 11)) hx hb hts hown hG hI (ly_sub_5_chain hL) rfl dX5_makePick_12 ?_
  refine lv_aload_n hx hb dX5_makePick_15 rfl (lv_at hl 1 rfl) ?_
  refine gX5_21 (o' := (o + 8)) hx hb hts hown hG hI hL rfl dX5_makePick_16 ?_
  refine gX5_75 hx hb hts hown hG hI (ly_sub_5_chain hL) dX5_makePick_19 ?_
  obtain ⟨r_2, hr_2, hf⟩ := bi_e hf
  refine kX5_78 hx hb hml hts hown hG hI hS hl.1 (ly_sub_0_colorOf (ly_sub_5_chain hL)) (As := [.int (σ (o + 8) 1)]) (c_X4_at l D cI cS Z K (o + 11) 24 (ly_sub_0_colorOf (ly_sub_5_chain hL)) (σ (o + 8) 1) σ _ hr_2) ⟨(Nat.le_of_ble_eq_true rfl), (Nat.le_of_ble_eq_true rfl)⟩ rfl (Nat.le_of_ble_eq_true rfl) ⟨(Nat.le_of_ble_eq_true rfl), (Nat.le_of_ble_eq_true rfl)⟩ dX5_makePick_22 (fun H locs hI hS => ?_)
  refine lv_istore_n (lv' := [(2, .int r_2), (1, .int x_1), (0, .ref (Z + o))]) hx hb dX5_makePick_25 rfl hl (by decide) rfl (fun ls hl => ?_)
  refine lv_aload_n hx hb dX5_makePick_26 rfl (lv_at hl 2 rfl) ?_
  refine gX5_21 (o' := (o + 8)) hx hb hts hown hG hI hL rfl dX5_makePick_27 ?_
  refine gX5_82 (o' := (o + 9)) hx hb hts hown hG hI (ly_sub_5_chain hL) rfl dX5_makePick_30 ?_
  refine lv_aload_n hx hb dX5_makePick_33 rfl (lv_at hl 2 rfl) ?_
  refine gX5_21 (o' := (o + 8)) hx hb hts hown hG hI hL rfl dX5_makePick_34 ?_
  refine gX5_75 hx hb hts hown hG hI (ly_sub_5_chain hL) dX5_makePick_37 ?_
  obtain ⟨r_3, hr_3, hf⟩ := bi_e hf
  refine kX5_78 hx hb hml hts hown hG hI hS hl.1 (ly_sub_0_liftOf (ly_sub_5_chain hL)) (As := [.int (σ (o + 8) 1)]) (c_X4_at l D cI cS Z K (o + 9) 24 (ly_sub_0_liftOf (ly_sub_5_chain hL)) (σ (o + 8) 1) σ _ hr_3) ⟨(Nat.le_of_ble_eq_true rfl), (Nat.le_of_ble_eq_true rfl)⟩ rfl (Nat.le_of_ble_eq_true rfl) ⟨(Nat.le_of_ble_eq_true rfl), (Nat.le_of_ble_eq_true rfl)⟩ dX5_makePick_40 (fun H locs hI hS => ?_)
  refine lv_istore_n (lv' := [(3, .int r_3), (2, .int r_2), (1, .int x_1), (0, .ref (Z + o))]) hx hb dX5_makePick_43 rfl hl (by decide) rfl (fun ls hl => ?_)
  refine lv_aload_n hx hb dX5_makePick_44 rfl (lv_at hl 3 rfl) ?_
  refine gX5_37 (o' := (o + 15)) hx hb hts hown hG hI hL rfl dX5_makePick_45 ?_
  refine gX5_85 (o' := (o + 16)) hx hb hts hown hG hI (ly_sub_5_cloth hL) rfl dX5_makePick_48 ?_
  refine lv_iload_n hx hb dX5_makePick_51 rfl (lv_at hl 2 rfl) ?_
  refine lv_iload_n hx hb dX5_makePick_52 rfl (lv_at hl 1 rfl) ?_
  obtain ⟨σ_5, hσ_5, hf⟩ := bi_e hf
  refine kX5_86 hx hb hml hts hown hG hI hS hl.1 (ly_sub_2_colorOf (ly_sub_5_cloth hL)) (As := [.int x_1, .int r_2]) (c_X4_put l D cI cS Z K (o + 16) 64 (ly_sub_2_colorOf (ly_sub_5_cloth hL)) x_1 r_2 σ _ hσ_5) ⟨(Nat.le_of_ble_eq_true rfl), (Nat.le_of_ble_eq_true rfl)⟩ rfl (Nat.le_of_ble_eq_true rfl) ⟨(Nat.le_of_ble_eq_true rfl), (Nat.le_of_ble_eq_true rfl)⟩ dX5_makePick_53 (fun H locs hI hS => ?_)
  refine lv_aload_n hx hb dX5_makePick_56 rfl (lv_at hl 3 rfl) ?_
  refine gX5_37 (o' := (o + 15)) hx hb hts hown hG hI hL rfl dX5_makePick_57 ?_
  refine gX5_89 (o' := (o + 18)) hx hb hts hown hG hI (ly_sub_5_cloth hL) rfl dX5_makePick_60 ?_
  refine lv_iload_n hx hb dX5_makePick_63 rfl (lv_at hl 2 rfl) ?_
  refine lv_aload_n hx hb dX5_makePick_64 rfl (lv_at hl 3 rfl) ?_
  refine gX5_21 (o' := (o + 8)) hx hb hts hown hG hI hL rfl dX5_makePick_65 ?_
  refine gX5_75 hx hb hts hown hG hI (ly_sub_5_chain hL) dX5_makePick_68 ?_
  obtain ⟨σ_7, hσ_7, hf⟩ := bi_e hf
  refine kX5_86 hx hb hml hts hown hG hI hS hl.1 (ly_sub_2_barOf (ly_sub_5_cloth hL)) (As := [.int x_1, .int (σ_5 (o + 8) 1)]) (c_X4_put l D cI cS Z K (o + 18) 64 (ly_sub_2_barOf (ly_sub_5_cloth hL)) x_1 (σ_5 (o + 8) 1) σ_5 _ hσ_7) ⟨(Nat.le_of_ble_eq_true rfl), (Nat.le_of_ble_eq_true rfl)⟩ rfl (Nat.le_of_ble_eq_true rfl) ⟨(Nat.le_of_ble_eq_true rfl), (Nat.le_of_ble_eq_true rfl)⟩ dX5_makePick_71 (fun H locs hI hS => ?_)
  refine lv_aload_n hx hb dX5_makePick_74 rfl (lv_at hl 3 rfl) ?_
  refine gX5_37 (o' := (o + 15)) hx hb hts hown hG hI hL rfl dX5_makePick_75 ?_
  refine gX5_92 (o' := (o + 26)) hx hb hts hown hG hI (ly_sub_5_cloth hL) rfl dX5_makePick_78 ?_
  refine lv_iload_n hx hb dX5_makePick_81 rfl (lv_at hl 2 rfl) ?_
  refine lv_aload_n hx hb dX5_makePick_82 rfl (lv_at hl 3 rfl) ?_
  refine gX5_12 (o' := (o + 1)) hx hb hts hown hG hI hL rfl dX5_makePick_83 ?_
  refine lv_iload_n hx hb dX5_makePick_86 rfl (lv_at hl 0 rfl) ?_
  obtain ⟨r_8, hr_8, hf⟩ := bi_e hf
  refine kX5_95 hx hb hml hts hown hG hI hS hl.1 (ly_sub_5_warp hL) (As := [.int r_3]) (c_X6_endsOn l D cI cS Z K (o + 1) (ly_sub_5_warp hL) r_3 σ_7 _ hr_8) ⟨(Nat.le_of_ble_eq_true rfl), (Nat.le_of_ble_eq_true rfl)⟩ rfl (Nat.le_of_ble_eq_true rfl) ⟨(Nat.le_of_ble_eq_true rfl), (Nat.le_of_ble_eq_true rfl)⟩ dX5_makePick_87 (fun H locs hI hS => ?_)
  obtain ⟨σ_10, hσ_10, hf⟩ := bi_e hf
  refine kX5_86 hx hb hml hts hown hG hI hS hl.1 (ly_sub_2_planOf (ly_sub_5_cloth hL)) (As := [.int x_1, .int r_8]) (c_X4_put l D cI cS Z K (o + 26) 64 (ly_sub_2_planOf (ly_sub_5_cloth hL)) x_1 r_8 σ_7 _ hσ_10) ⟨(Nat.le_of_ble_eq_true rfl), (Nat.le_of_ble_eq_true rfl)⟩ rfl (Nat.le_of_ble_eq_true rfl) ⟨(Nat.le_of_ble_eq_true rfl), (Nat.le_of_ble_eq_true rfl)⟩ dX5_makePick_90 (fun H locs hI hS => ?_)
  refine lv_aload_n hx hb dX5_makePick_93 rfl (lv_at hl 3 rfl) ?_
  refine lv_iload_n hx hb dX5_makePick_94 rfl (lv_at hl 2 rfl) ?_
  refine lv_aload_n hx hb dX5_makePick_95 rfl (lv_at hl 3 rfl) ?_
  refine gX5_12 (o' := (o + 1)) hx hb hts hown hG hI hL rfl dX5_makePick_96 ?_
  refine lv_aload_n hx hb dX5_makePick_99 rfl (lv_at hl 3 rfl) ?_
  refine gX5_12 (o' := (o + 1)) hx hb hts hown hG hI hL rfl dX5_makePick_100 ?_
  refine lv_iload_n hx hb dX5_makePick_103 rfl (lv_at hl 0 rfl) ?_
  obtain ⟨r_11, hr_11, hf⟩ := bi_e hf
  refine kX5_98 hx hb hml hts hown hG hI hS hl.1 (ly_sub_5_warp hL) (As := [.int r_3]) (c_X6_liftedShafts l D cI cS Z K (o + 1) (ly_sub_5_warp hL) r_3 σ_10 _ hr_11) ⟨(Nat.le_of_ble_eq_true rfl), (Nat.le_of_ble_eq_true rfl)⟩ rfl (Nat.le_of_ble_eq_true rfl) ⟨(Nat.le_of_ble_eq_true rfl), (Nat.le_of_ble_eq_true rfl)⟩ dX5_makePick_104 (fun H locs hI hS => ?_)
  obtain ⟨r_12, hr_12, hf⟩ := bi_e hf
  refine kX5_95 hx hb hml hts hown hG hI hS hl.1 (ly_sub_5_warp hL) (As := [.int r_11]) (c_X6_endsOn l D cI cS Z K (o + 1) (ly_sub_5_warp hL) r_11 σ_10 _ hr_12) ⟨(Nat.le_of_ble_eq_true rfl), (Nat.le_of_ble_eq_true rfl)⟩ rfl (Nat.le_of_ble_eq_true rfl) ⟨(Nat.le_of_ble_eq_true rfl), (Nat.le_of_ble_eq_true rfl)⟩ dX5_makePick_107 (fun H locs hI hS => ?_)
  refine lv_aload_n hx hb dX5_makePick_110 rfl (lv_at hl 3 rfl) ?_
  refine gX5_30 (o' := (o + 13)) hx hb hts hown hG hI hL rfl dX5_makePick_111 ?_
  refine lv_iload_n hx hb dX5_makePick_114 rfl (lv_at hl 1 rfl) ?_
  obtain ⟨r_13, hr_13, hf⟩ := bi_e hf
  refine kX5_78 hx hb hml hts hown hG hI hS hl.1 (ly_sub_5_bobbins hL) (As := [.int r_2]) (c_X4_at l D cI cS Z K (o + 13) 10 (ly_sub_5_bobbins hL) r_2 σ_10 _ hr_13) ⟨(Nat.le_of_ble_eq_true rfl), (Nat.le_of_ble_eq_true rfl)⟩ rfl (Nat.le_of_ble_eq_true rfl) ⟨(Nat.le_of_ble_eq_true rfl), (Nat.le_of_ble_eq_true rfl)⟩ dX5_makePick_115 (fun H locs hI hS => ?_)
  obtain ⟨σ_15, hσ_15, hf⟩ := bi_e hf
  refine kX5_101 hx hb hml hts hown hG hI hS hl.1 hL (As := [.int x_1, .int r_12, .int r_13]) (c_X5_layWeft l D cI cS Z K o hL x_1 r_12 r_13 σ_10 _ hσ_15) ⟨(Nat.le_of_ble_eq_true rfl), (Nat.le_of_ble_eq_true rfl)⟩ rfl (Nat.le_of_ble_eq_true rfl) ⟨(Nat.le_of_ble_eq_true rfl), (Nat.le_of_ble_eq_true rfl)⟩ dX5_makePick_118 (fun H locs hI hS => ?_)
  refine lv_aload_n hx hb dX5_makePick_121 rfl (lv_at hl 3 rfl) ?_
  refine gX5_30 (o' := (o + 13)) hx hb hts hown hG hI hL rfl dX5_makePick_122 ?_
  refine lv_iload_n hx hb dX5_makePick_125 rfl (lv_at hl 1 rfl) ?_
  refine lv_aload_n hx hb dX5_makePick_126 rfl (lv_at hl 3 rfl) ?_
  refine gX5_30 (o' := (o + 13)) hx hb hts hown hG hI hL rfl dX5_makePick_127 ?_
  refine lv_iload_n hx hb dX5_makePick_130 rfl (lv_at hl 1 rfl) ?_
  obtain ⟨r_16, hr_16, hf⟩ := bi_e hf
  refine kX5_78 hx hb hml hts hown hG hI hS hl.1 (ly_sub_5_bobbins hL) (As := [.int r_2]) (c_X4_at l D cI cS Z K (o + 13) 10 (ly_sub_5_bobbins hL) r_2 σ_15 _ hr_16) ⟨(Nat.le_of_ble_eq_true rfl), (Nat.le_of_ble_eq_true rfl)⟩ rfl (Nat.le_of_ble_eq_true rfl) ⟨(Nat.le_of_ble_eq_true rfl), (Nat.le_of_ble_eq_true rfl)⟩ dX5_makePick_131 (fun H locs hI hS => ?_)
  refine lv_aload_n hx hb dX5_makePick_134 rfl (lv_at hl 3 rfl) ?_
  refine gX5_37 (o' := (o + 15)) hx hb hts hown hG hI hL rfl dX5_makePick_135 ?_
  refine gX5_105 (o' := (o + 20)) hx hb hts hown hG hI (ly_sub_5_cloth hL) rfl dX5_makePick_138 ?_
  refine lv_iload_n hx hb dX5_makePick_141 rfl (lv_at hl 2 rfl) ?_
  obtain ⟨r_17, hr_17, hf⟩ := bi_e hf
  refine kX5_78 hx hb hml hts hown hG hI hS hl.1 (ly_sub_2_usedOf (ly_sub_5_cloth hL)) (As := [.int x_1]) (c_X4_at l D cI cS Z K (o + 20) 64 (ly_sub_2_usedOf (ly_sub_5_cloth hL)) x_1 σ_15 _ hr_17) ⟨(Nat.le_of_ble_eq_true rfl), (Nat.le_of_ble_eq_true rfl)⟩ rfl (Nat.le_of_ble_eq_true rfl) ⟨(Nat.le_of_ble_eq_true rfl), (Nat.le_of_ble_eq_true rfl)⟩ dX5_makePick_142 (fun H locs hI hS => ?_)
  refine lv_isub hx hb dX5_makePick_145 ?_
  obtain ⟨σ_19, hσ_19, hf⟩ := bi_e hf
  refine kX5_86 hx hb hml hts hown hG hI hS hl.1 (ly_sub_5_bobbins hL) (As := [.int r_2, .int (r_16 - r_17)]) (c_X4_put l D cI cS Z K (o + 13) 10 (ly_sub_5_bobbins hL) r_2 (r_16 - r_17) σ_15 _ hσ_19) ⟨(Nat.le_of_ble_eq_true rfl), (Nat.le_of_ble_eq_true rfl)⟩ rfl (Nat.le_of_ble_eq_true rfl) ⟨(Nat.le_of_ble_eq_true rfl), (Nat.le_of_ble_eq_true rfl)⟩ dX5_makePick_146 (fun H locs hI hS => ?_)
  refine lv_aload_n hx hb dX5_makePick_149 rfl (lv_at hl 3 rfl) ?_
  refine gX5_37 (o' := (o + 15)) hx hb hts hown hG hI hL rfl dX5_makePick_150 ?_
  refine lv_iload_n hx hb dX5_makePick_153 rfl (lv_at hl 2 rfl) ?_
  refine lv_iconst (v := 1) hx hb dX5_makePick_154 (by decide) ?_
  refine lv_iadd hx hb dX5_makePick_155 ?_
  obtain ⟨σ_20, eσ_20, hf⟩ := vl_e hf
  refine pX5_56 hx hb hts hown hG hI hS (ly_sub_5_cloth hL) dX5_makePick_156 (fun H locs hI hS => ?_)
  rw [← eσ_20] at hI
  refine lv_aload_n hx hb dX5_makePick_159 rfl (lv_at hl 3 rfl) ?_
  refine gX5_21 (o' := (o + 8)) hx hb hts hown hG hI hL rfl dX5_makePick_160 ?_
  refine lv_aload_n hx hb dX5_makePick_163 rfl (lv_at hl 3 rfl) ?_
  refine gX5_21 (o' := (o + 8)) hx hb hts hown hG hI hL rfl dX5_makePick_164 ?_
  refine lv_aload_n hx hb dX5_makePick_167 rfl (lv_at hl 3 rfl) ?_
  refine gX5_21 (o' := (o + 8)) hx hb hts hown hG hI hL rfl dX5_makePick_168 ?_
  refine gX5_75 hx hb hts hown hG hI (ly_sub_5_chain hL) dX5_makePick_171 ?_
  obtain ⟨r_21, hr_21, hf⟩ := bi_e hf
  refine kX5_108 hx hb hml hts hown hG hI hS hl.1 (ly_sub_5_chain hL) (As := [.int (σ_20 (o + 8) 1)]) (c_X0_barAfter l D cI cS Z K (o + 8) (ly_sub_5_chain hL) (σ_20 (o + 8) 1) σ_20 _ hr_21) ⟨(Nat.le_of_ble_eq_true rfl), (Nat.le_of_ble_eq_true rfl)⟩ rfl (Nat.le_of_ble_eq_true rfl) ⟨(Nat.le_of_ble_eq_true rfl), (Nat.le_of_ble_eq_true rfl)⟩ dX5_makePick_174 (fun H locs hI hS => ?_)
  obtain ⟨σ_22, eσ_22, hf⟩ := vl_e hf
  refine pX5_75 hx hb hts hown hG hI hS (ly_sub_5_chain hL) dX5_makePick_177 (fun H locs hI hS => ?_)
  rw [← eσ_22] at hI
  obtain rfl := so_e hf
  exact mm_vret hx hb hr hlocks hI hS dX5_makePick_180
