/-! 11.loom: mirrored programs and contracts (written by wip/p29/gen.py) -/
def f_X7_setEnd (a1 : Int32) (a2 : Int32) (a3 : Int32) (σ : Nat → Nat → Int32) : Option (Int32 × (Nat → Nat → Int32)) := bi (f_X6_hasEnd 2 a1 σ) fun r_1 => if r_1 = 0 then (some ((-1), σ)) else (bi (f_X6_hasShaft 2 a2 σ) fun r_2 => if r_2 = 0 then (some ((-1), σ)) else (bi (f_X7_isColor a3 σ) fun r_3 => if r_3 = 0 then (some ((-1), σ)) else (bi (f_X3_keep σ) fun σ_5 => bi (f_X4_at 3 32 a1 σ_5) fun r_6 => bi (f_X4_at 5 32 a1 σ_5) fun r_7 => vl ((10 * r_6) + r_7) fun x_8 => bi (f_X4_put 3 32 a1 a2 σ_5) fun σ_10 => bi (f_X4_put 5 32 a1 a3 σ_10) fun σ_12 => some (x_8, σ_12))))
set_option maxHeartbeats 4000000 in
set_option maxRecDepth 100000 in
theorem c_X7_setEnd (l : Launch) (D : va_G) (cI cS : ClassId) (Z : Nat) (K : Nat → Nat) (hL : ly K 0 lyLoom) (a1 : Int32) (a2 : Int32) (a3 : Int32) (σ : Nat → Nat → Int32) (r : Int32) (σ' : Nat → Nat → Int32) (hf : f_X7_setEnd a1 a2 a3 σ = some (r, σ')) : Met l yX7_setEnd (wsT yX7_setEnd cX7_setEnd 6 (some .int)) { frames := 6, cells := 0, slots := 0, locals := 146 } (Pm D cI cS Z K [.ref (Z + 0), .int a1, .int a2, .int a3] σ) (Qi D cI cS Z K r σ') 0 0 (aZ Z) := by
  refine mm_met (lv := [(0, .ref (Z + 0)), (1, .int a1), (2, .int a2), (3, .int a3)]) (by decide) (Nat.le_of_ble_eq_true rfl) rfl ?_
  intro p e s m args below meth c ls hx hb hr hml hts hown hlocks hG hl hI hS
  have hown : s.vm.findClass RX7 = some m.cls := hown
  rw [f_X7_setEnd] at hf
  refine lv_aload_n hx hb dX7_setEnd_0 rfl (lv_at hl 0 rfl) ?_
  refine gX7_10 (o' := 1) hx hb hts hown hG hI hL rfl dX7_setEnd_1 ?_
  refine gX7_64 (o' := 2) hx hb hts hown hG hI (ly_sub_7_now hL) rfl dX7_setEnd_4 ?_
  refine lv_astore (lv' := [(4, .ref (Z + 2)), (0, .ref (Z + 0)), (1, .int a1), (2, .int a2), (3, .int a3)]) hx hb dX7_setEnd_7 hl (by decide) rfl (fun ls hl => ?_)
  refine lv_aload hx hb dX7_setEnd_9 (lv_at hl 0 rfl) ?_
  refine lv_iload_n hx hb dX7_setEnd_11 rfl (lv_at hl 2 rfl) ?_
  obtain ⟨r_1, hr_1, hf⟩ := bi_e hf
  refine kX7_68 hx hb hml hts hown hG hI hS hl.1 (ly_sub_5_warp (ly_sub_7_now hL)) (As := [.int a1]) (c_X6_hasEnd l D cI cS Z K 2 (ly_sub_5_warp (ly_sub_7_now hL)) a1 σ _ hr_1) ⟨(Nat.le_of_ble_eq_true rfl), (Nat.le_of_ble_eq_true rfl)⟩ rfl (Nat.le_of_ble_eq_true rfl) ⟨(Nat.le_of_ble_eq_true rfl), (Nat.le_of_ble_eq_true rfl)⟩ dX7_setEnd_12 (fun hzr_1 H locs hI hS => ?_)
  refine lv_if_eq (tgt := 34) hx hb dX7_setEnd_15 (by decide) (fun c_15 => ?_) (fun c_15 => ?_)
  · have hf := pos_e c_15 hf
    refine lv_iconst (v := (-1)) hx hb dX7_setEnd_34 (by decide) ?_
    obtain ⟨rfl, rfl⟩ := sp_e hf
    exact mm_ret hx hb hr hlocks rfl hI hS dX7_setEnd_35
  · have hf := neg_e c_15 hf
    refine lv_aload hx hb dX7_setEnd_18 (lv_at hl 0 rfl) ?_
    refine lv_iload_n hx hb dX7_setEnd_20 rfl (lv_at hl 3 rfl) ?_
    obtain ⟨r_2, hr_2, hf⟩ := bi_e hf
    refine kX7_74 hx hb hml hts hown hG hI hS hl.1 (ly_sub_5_warp (ly_sub_7_now hL)) (As := [.int a2]) (c_X6_hasShaft l D cI cS Z K 2 (ly_sub_5_warp (ly_sub_7_now hL)) a2 σ _ hr_2) ⟨(Nat.le_of_ble_eq_true rfl), (Nat.le_of_ble_eq_true rfl)⟩ rfl (Nat.le_of_ble_eq_true rfl) ⟨(Nat.le_of_ble_eq_true rfl), (Nat.le_of_ble_eq_true rfl)⟩ dX7_setEnd_21 (fun hzr_2 H locs hI hS => ?_)
    refine lv_if_eq (tgt := 34) hx hb dX7_setEnd_24 (by decide) (fun c_14 => ?_) (fun c_14 => ?_)
    · have hf := pos_e c_14 hf
      refine lv_iconst (v := (-1)) hx hb dX7_setEnd_34 (by decide) ?_
      obtain ⟨rfl, rfl⟩ := sp_e hf
      exact mm_ret hx hb hr hlocks rfl hI hS dX7_setEnd_35
    · have hf := neg_e c_14 hf
      refine lv_iload_n hx hb dX7_setEnd_27 rfl (lv_at hl 4 rfl) ?_
      obtain ⟨r_3, hr_3, hf⟩ := bi_e hf
      refine kX7_77 hx hb hml hts hown hG hI hS hl.1 (As := [.int a3]) (c_X7_isColor l D cI cS Z K a3 σ _ hr_3) ⟨(Nat.le_of_ble_eq_true rfl), (Nat.le_of_ble_eq_true rfl)⟩ rfl (Nat.le_of_ble_eq_true rfl) ⟨(Nat.le_of_ble_eq_true rfl), (Nat.le_of_ble_eq_true rfl)⟩ dX7_setEnd_28 (fun hzr_3 H locs hI hS => ?_)
      refine lv_if_ne (tgt := 36) hx hb dX7_setEnd_31 (by decide) (fun c_13 => ?_) (fun c_13 => ?_)
      · have hf := neg_e c_13 hf
        refine lv_aload_n hx hb dX7_setEnd_36 rfl (lv_at hl 1 rfl) ?_
        refine gX7_19 (o' := 29) hx hb hts hown hG hI hL rfl dX7_setEnd_37 ?_
        refine lv_aload_n hx hb dX7_setEnd_40 rfl (lv_at hl 1 rfl) ?_
        refine gX7_10 (o' := 1) hx hb hts hown hG hI hL rfl dX7_setEnd_41 ?_
        obtain ⟨σ_5, hσ_5, hf⟩ := bi_e hf
        refine kX7_46 hx hb hml hts hown hG hI hS hl.1 (ly_sub_7_history hL) (As := [.ref (Z + 1)]) (c_X3_keep l D cI cS Z K (ly_sub_7_history hL) (ly_sub_7_now hL) σ _ hσ_5) ⟨(Nat.le_of_ble_eq_true rfl), (Nat.le_of_ble_eq_true rfl)⟩ rfl (Nat.le_of_ble_eq_true rfl) ⟨(Nat.le_of_ble_eq_true rfl), (Nat.le_of_ble_eq_true rfl)⟩ dX7_setEnd_44 (fun H locs hI hS => ?_)
        refine lv_bipush (v := 10) hx hb dX7_setEnd_47 (by decide) ?_
        refine lv_aload hx hb dX7_setEnd_49 (lv_at hl 0 rfl) ?_
        refine gX7_80 (o' := 3) hx hb hts hown hG hI (ly_sub_5_warp (ly_sub_7_now hL)) rfl dX7_setEnd_51 ?_
        refine lv_iload_n hx hb dX7_setEnd_54 rfl (lv_at hl 2 rfl) ?_
        obtain ⟨r_6, hr_6, hf⟩ := bi_e hf
        refine kX7_83 hx hb hml hts hown hG hI hS hl.1 (ly_sub_6_shaftOf (ly_sub_5_warp (ly_sub_7_now hL))) (As := [.int a1]) (c_X4_at l D cI cS Z K 3 32 (ly_sub_6_shaftOf (ly_sub_5_warp (ly_sub_7_now hL))) a1 σ_5 _ hr_6) ⟨(Nat.le_of_ble_eq_true rfl), (Nat.le_of_ble_eq_true rfl)⟩ rfl (Nat.le_of_ble_eq_true rfl) ⟨(Nat.le_of_ble_eq_true rfl), (Nat.le_of_ble_eq_true rfl)⟩ dX7_setEnd_55 (fun H locs hI hS => ?_)
        refine lv_imul hx hb dX7_setEnd_58 ?_
        refine lv_aload hx hb dX7_setEnd_59 (lv_at hl 0 rfl) ?_
        refine gX7_87 (o' := 5) hx hb hts hown hG hI (ly_sub_5_warp (ly_sub_7_now hL)) rfl dX7_setEnd_61 ?_
        refine lv_iload_n hx hb dX7_setEnd_64 rfl (lv_at hl 2 rfl) ?_
        obtain ⟨r_7, hr_7, hf⟩ := bi_e hf
        refine kX7_83 hx hb hml hts hown hG hI hS hl.1 (ly_sub_6_colorOf (ly_sub_5_warp (ly_sub_7_now hL))) (As := [.int a1]) (c_X4_at l D cI cS Z K 5 32 (ly_sub_6_colorOf (ly_sub_5_warp (ly_sub_7_now hL))) a1 σ_5 _ hr_7) ⟨(Nat.le_of_ble_eq_true rfl), (Nat.le_of_ble_eq_true rfl)⟩ rfl (Nat.le_of_ble_eq_true rfl) ⟨(Nat.le_of_ble_eq_true rfl), (Nat.le_of_ble_eq_true rfl)⟩ dX7_setEnd_65 (fun H locs hI hS => ?_)
        refine lv_iadd hx hb dX7_setEnd_68 ?_
        obtain ⟨x_8, ex_8, hf⟩ := vl_e hf
        refine mm_name ex_8 ?_
        refine lv_istore (lv' := [(5, .int x_8), (4, .ref (Z + 2)), (0, .ref (Z + 0)), (1, .int a1), (2, .int a2), (3, .int a3)]) hx hb dX7_setEnd_69 hl (by decide) rfl (fun ls hl => ?_)
        refine lv_aload hx hb dX7_setEnd_71 (lv_at hl 1 rfl) ?_
        refine gX7_80 (o' := 3) hx hb hts hown hG hI (ly_sub_5_warp (ly_sub_7_now hL)) rfl dX7_setEnd_73 ?_
        refine lv_iload_n hx hb dX7_setEnd_76 rfl (lv_at hl 3 rfl) ?_
        refine lv_iload_n hx hb dX7_setEnd_77 rfl (lv_at hl 4 rfl) ?_
        obtain ⟨σ_10, hσ_10, hf⟩ := bi_e hf
        refine kX7_90 hx hb hml hts hown hG hI hS hl.1 (ly_sub_6_shaftOf (ly_sub_5_warp (ly_sub_7_now hL))) (As := [.int a1, .int a2]) (c_X4_put l D cI cS Z K 3 32 (ly_sub_6_shaftOf (ly_sub_5_warp (ly_sub_7_now hL))) a1 a2 σ_5 _ hσ_10) ⟨(Nat.le_of_ble_eq_true rfl), (Nat.le_of_ble_eq_true rfl)⟩ rfl (Nat.le_of_ble_eq_true rfl) ⟨(Nat.le_of_ble_eq_true rfl), (Nat.le_of_ble_eq_true rfl)⟩ dX7_setEnd_78 (fun H locs hI hS => ?_)
        refine lv_aload hx hb dX7_setEnd_81 (lv_at hl 1 rfl) ?_
        refine gX7_87 (o' := 5) hx hb hts hown hG hI (ly_sub_5_warp (ly_sub_7_now hL)) rfl dX7_setEnd_83 ?_
        refine lv_iload_n hx hb dX7_setEnd_86 rfl (lv_at hl 3 rfl) ?_
        refine lv_iload_n hx hb dX7_setEnd_87 rfl (lv_at hl 5 rfl) ?_
        obtain ⟨σ_12, hσ_12, hf⟩ := bi_e hf
        refine kX7_90 hx hb hml hts hown hG hI hS hl.1 (ly_sub_6_colorOf (ly_sub_5_warp (ly_sub_7_now hL))) (As := [.int a1, .int a3]) (c_X4_put l D cI cS Z K 5 32 (ly_sub_6_colorOf (ly_sub_5_warp (ly_sub_7_now hL))) a1 a3 σ_10 _ hσ_12) ⟨(Nat.le_of_ble_eq_true rfl), (Nat.le_of_ble_eq_true rfl)⟩ rfl (Nat.le_of_ble_eq_true rfl) ⟨(Nat.le_of_ble_eq_true rfl), (Nat.le_of_ble_eq_true rfl)⟩ dX7_setEnd_88 (fun H locs hI hS => ?_)
        refine lv_iload hx hb dX7_setEnd_91 (lv_at hl 0 rfl) ?_
        obtain ⟨rfl, rfl⟩ := sp_e hf
        exact mm_ret hx hb hr hlocks rfl hI hS dX7_setEnd_93
      · have hf := pos_e c_13 hf
        refine lv_iconst (v := (-1)) hx hb dX7_setEnd_34 (by decide) ?_
        obtain ⟨rfl, rfl⟩ := sp_e hf
        exact mm_ret hx hb hr hlocks rfl hI hS dX7_setEnd_35
def f_X7_setFault (a1 : Int32) (a2 : Int32) (σ : Nat → Nat → Int32) : Option (Int32 × (Nat → Nat → Int32)) := bi (f_X6_hasShaft 2 a1 σ) fun r_1 => if r_1 = 0 then (some ((-1), σ)) else (bi (f_X7_isBetween a2 0 2 σ) fun r_2 => if r_2 = 0 then (some ((-1), σ)) else (bi (f_X3_keep σ) fun σ_4 => bi (f_X4_at 7 8 a1 σ_4) fun r_5 => bi (f_X4_put 7 8 a1 a2 σ_4) fun σ_7 => some (r_5, σ_7)))
set_option maxHeartbeats 4000000 in
set_option maxRecDepth 100000 in
theorem c_X7_setFault (l : Launch) (D : va_G) (cI cS : ClassId) (Z : Nat) (K : Nat → Nat) (hL : ly K 0 lyLoom) (a1 : Int32) (a2 : Int32) (σ : Nat → Nat → Int32) (r : Int32) (σ' : Nat → Nat → Int32) (hf : f_X7_setFault a1 a2 σ = some (r, σ')) : Met l yX7_setFault (wsT yX7_setFault cX7_setFault 4 (some .int)) { frames := 6, cells := 0, slots := 0, locals := 146 } (Pm D cI cS Z K [.ref (Z + 0), .int a1, .int a2] σ) (Qi D cI cS Z K r σ') 0 0 (aZ Z) := by
  refine mm_met (lv := [(0, .ref (Z + 0)), (1, .int a1), (2, .int a2)]) (by decide) (Nat.le_of_ble_eq_true rfl) rfl ?_
  intro p e s m args below meth c ls hx hb hr hml hts hown hlocks hG hl hI hS
  have hown : s.vm.findClass RX7 = some m.cls := hown
  rw [f_X7_setFault] at hf
  refine lv_aload_n hx hb dX7_setFault_0 rfl (lv_at hl 0 rfl) ?_
  refine gX7_10 (o' := 1) hx hb hts hown hG hI hL rfl dX7_setFault_1 ?_
  refine gX7_64 (o' := 2) hx hb hts hown hG hI (ly_sub_7_now hL) rfl dX7_setFault_4 ?_
  refine lv_iload_n hx hb dX7_setFault_7 rfl (lv_at hl 1 rfl) ?_
  obtain ⟨r_1, hr_1, hf⟩ := bi_e hf
  refine kX7_74 hx hb hml hts hown hG hI hS hl.1 (ly_sub_5_warp (ly_sub_7_now hL)) (As := [.int a1]) (c_X6_hasShaft l D cI cS Z K 2 (ly_sub_5_warp (ly_sub_7_now hL)) a1 σ _ hr_1) ⟨(Nat.le_of_ble_eq_true rfl), (Nat.le_of_ble_eq_true rfl)⟩ rfl (Nat.le_of_ble_eq_true rfl) ⟨(Nat.le_of_ble_eq_true rfl), (Nat.le_of_ble_eq_true rfl)⟩ dX7_setFault_8 (fun hzr_1 H locs hI hS => ?_)
  refine lv_if_eq (tgt := 23) hx hb dX7_setFault_11 (by decide) (fun c_9 => ?_) (fun c_9 => ?_)
  · have hf := pos_e c_9 hf
    refine lv_iconst (v := (-1)) hx hb dX7_setFault_23 (by decide) ?_
    obtain ⟨rfl, rfl⟩ := sp_e hf
    exact mm_ret hx hb hr hlocks rfl hI hS dX7_setFault_24
  · have hf := neg_e c_9 hf
    refine lv_iload_n hx hb dX7_setFault_14 rfl (lv_at hl 2 rfl) ?_
    refine lv_iconst (v := 0) hx hb dX7_setFault_15 (by decide) ?_
    refine lv_iconst (v := 2) hx hb dX7_setFault_16 (by decide) ?_
    obtain ⟨r_2, hr_2, hf⟩ := bi_e hf
    refine kX7_42 hx hb hml hts hown hG hI hS hl.1 (As := [.int a2, .int 0, .int 2]) (c_X7_isBetween l D cI cS Z K a2 0 2 σ _ hr_2) ⟨(Nat.le_of_ble_eq_true rfl), (Nat.le_of_ble_eq_true rfl)⟩ rfl (Nat.le_of_ble_eq_true rfl) ⟨(Nat.le_of_ble_eq_true rfl), (Nat.le_of_ble_eq_true rfl)⟩ dX7_setFault_17 (fun hzr_2 H locs hI hS => ?_)
    refine lv_if_ne (tgt := 25) hx hb dX7_setFault_20 (by decide) (fun c_8 => ?_) (fun c_8 => ?_)
    · have hf := neg_e c_8 hf
      refine lv_aload_n hx hb dX7_setFault_25 rfl (lv_at hl 0 rfl) ?_
      refine gX7_19 (o' := 29) hx hb hts hown hG hI hL rfl dX7_setFault_26 ?_
      refine lv_aload_n hx hb dX7_setFault_29 rfl (lv_at hl 0 rfl) ?_
      refine gX7_10 (o' := 1) hx hb hts hown hG hI hL rfl dX7_setFault_30 ?_
      obtain ⟨σ_4, hσ_4, hf⟩ := bi_e hf
      refine kX7_46 hx hb hml hts hown hG hI hS hl.1 (ly_sub_7_history hL) (As := [.ref (Z + 1)]) (c_X3_keep l D cI cS Z K (ly_sub_7_history hL) (ly_sub_7_now hL) σ _ hσ_4) ⟨(Nat.le_of_ble_eq_true rfl), (Nat.le_of_ble_eq_true rfl)⟩ rfl (Nat.le_of_ble_eq_true rfl) ⟨(Nat.le_of_ble_eq_true rfl), (Nat.le_of_ble_eq_true rfl)⟩ dX7_setFault_33 (fun H locs hI hS => ?_)
      refine lv_aload_n hx hb dX7_setFault_36 rfl (lv_at hl 0 rfl) ?_
      refine gX7_10 (o' := 1) hx hb hts hown hG hI hL rfl dX7_setFault_37 ?_
      refine gX7_64 (o' := 2) hx hb hts hown hG hI (ly_sub_7_now hL) rfl dX7_setFault_40 ?_
      refine gX7_93 (o' := 7) hx hb hts hown hG hI (ly_sub_5_warp (ly_sub_7_now hL)) rfl dX7_setFault_43 ?_
      refine lv_iload_n hx hb dX7_setFault_46 rfl (lv_at hl 1 rfl) ?_
      obtain ⟨r_5, hr_5, hf⟩ := bi_e hf
      refine kX7_83 hx hb hml hts hown hG hI hS hl.1 (ly_sub_6_faultOf (ly_sub_5_warp (ly_sub_7_now hL))) (As := [.int a1]) (c_X4_at l D cI cS Z K 7 8 (ly_sub_6_faultOf (ly_sub_5_warp (ly_sub_7_now hL))) a1 σ_4 _ hr_5) ⟨(Nat.le_of_ble_eq_true rfl), (Nat.le_of_ble_eq_true rfl)⟩ rfl (Nat.le_of_ble_eq_true rfl) ⟨(Nat.le_of_ble_eq_true rfl), (Nat.le_of_ble_eq_true rfl)⟩ dX7_setFault_47 (fun H locs hI hS => ?_)
      refine lv_istore_n (lv' := [(3, .int r_5), (0, .ref (Z + 0)), (1, .int a1), (2, .int a2)]) hx hb dX7_setFault_50 rfl hl (by decide) rfl (fun ls hl => ?_)
      refine lv_aload_n hx hb dX7_setFault_51 rfl (lv_at hl 1 rfl) ?_
      refine gX7_10 (o' := 1) hx hb hts hown hG hI hL rfl dX7_setFault_52 ?_
      refine gX7_64 (o' := 2) hx hb hts hown hG hI (ly_sub_7_now hL) rfl dX7_setFault_55 ?_
      refine gX7_93 (o' := 7) hx hb hts hown hG hI (ly_sub_5_warp (ly_sub_7_now hL)) rfl dX7_setFault_58 ?_
      refine lv_iload_n hx hb dX7_setFault_61 rfl (lv_at hl 2 rfl) ?_
      refine lv_iload_n hx hb dX7_setFault_62 rfl (lv_at hl 3 rfl) ?_
      obtain ⟨σ_7, hσ_7, hf⟩ := bi_e hf
      refine kX7_90 hx hb hml hts hown hG hI hS hl.1 (ly_sub_6_faultOf (ly_sub_5_warp (ly_sub_7_now hL))) (As := [.int a1, .int a2]) (c_X4_put l D cI cS Z K 7 8 (ly_sub_6_faultOf (ly_sub_5_warp (ly_sub_7_now hL))) a1 a2 σ_4 _ hσ_7) ⟨(Nat.le_of_ble_eq_true rfl), (Nat.le_of_ble_eq_true rfl)⟩ rfl (Nat.le_of_ble_eq_true rfl) ⟨(Nat.le_of_ble_eq_true rfl), (Nat.le_of_ble_eq_true rfl)⟩ dX7_setFault_63 (fun H locs hI hS => ?_)
      refine lv_iload_n hx hb dX7_setFault_66 rfl (lv_at hl 0 rfl) ?_
      obtain ⟨rfl, rfl⟩ := sp_e hf
      exact mm_ret hx hb hr hlocks rfl hI hS dX7_setFault_67
    · have hf := pos_e c_8 hf
      refine lv_iconst (v := (-1)) hx hb dX7_setFault_23 (by decide) ?_
      obtain ⟨rfl, rfl⟩ := sp_e hf
      exact mm_ret hx hb hr hlocks rfl hI hS dX7_setFault_24
def f_X7_addBar (a1 : Int32) (a2 : Int32) (σ : Nat → Nat → Int32) : Option (Int32 × (Nat → Nat → Int32)) := bi (f_X6_isLift 2 a1 σ) fun r_1 => if r_1 = 0 then (some ((-1), σ)) else (bi (f_X7_isColor a2 σ) fun r_2 => if r_2 = 0 then (some ((-1), σ)) else (bi (f_X0_isFull 9 σ) fun r_3 => if r_3 = 0 then (bi (f_X3_keep σ) fun σ_5 => bi (f_X0_addLast 9 a1 a2 σ_5) fun σ_7 => some ((σ_7 9 0) - 1, σ_7)) else (some ((-3), σ))))
set_option maxHeartbeats 4000000 in
set_option maxRecDepth 100000 in
theorem c_X7_addBar (l : Launch) (D : va_G) (cI cS : ClassId) (Z : Nat) (K : Nat → Nat) (hL : ly K 0 lyLoom) (a1 : Int32) (a2 : Int32) (σ : Nat → Nat → Int32) (r : Int32) (σ' : Nat → Nat → Int32) (hf : f_X7_addBar a1 a2 σ = some (r, σ')) : Met l yX7_addBar (wsT yX7_addBar cX7_addBar 3 (some .int)) { frames := 6, cells := 0, slots := 0, locals := 146 } (Pm D cI cS Z K [.ref (Z + 0), .int a1, .int a2] σ) (Qi D cI cS Z K r σ') 0 0 (aZ Z) := by
  refine mm_met (lv := [(0, .ref (Z + 0)), (1, .int a1), (2, .int a2)]) (by decide) (Nat.le_of_ble_eq_true rfl) rfl ?_
  intro p e s m args below meth c ls hx hb hr hml hts hown hlocks hG hl hI hS
  have hown : s.vm.findClass RX7 = some m.cls := hown
  rw [f_X7_addBar] at hf
  refine lv_aload_n hx hb dX7_addBar_0 rfl (lv_at hl 0 rfl) ?_
  refine gX7_10 (o' := 1) hx hb hts hown hG hI hL rfl dX7_addBar_1 ?_
  refine gX7_64 (o' := 2) hx hb hts hown hG hI (ly_sub_7_now hL) rfl dX7_addBar_4 ?_
  refine lv_iload_n hx hb dX7_addBar_7 rfl (lv_at hl 1 rfl) ?_
  obtain ⟨r_1, hr_1, hf⟩ := bi_e hf
  refine kX7_96 hx hb hml hts hown hG hI hS hl.1 (ly_sub_5_warp (ly_sub_7_now hL)) (As := [.int a1]) (c_X6_isLift l D cI cS Z K 2 (ly_sub_5_warp (ly_sub_7_now hL)) a1 σ _ hr_1) ⟨(Nat.le_of_ble_eq_true rfl), (Nat.le_of_ble_eq_true rfl)⟩ rfl (Nat.le_of_ble_eq_true rfl) ⟨(Nat.le_of_ble_eq_true rfl), (Nat.le_of_ble_eq_true rfl)⟩ dX7_addBar_8 (fun hzr_1 H locs hI hS => ?_)
  refine lv_if_eq (tgt := 21) hx hb dX7_addBar_11 (by decide) (fun c_10 => ?_) (fun c_10 => ?_)
  · have hf := pos_e c_10 hf
    refine lv_iconst (v := (-1)) hx hb dX7_addBar_21 (by decide) ?_
    obtain ⟨rfl, rfl⟩ := sp_e hf
    exact mm_ret hx hb hr hlocks rfl hI hS dX7_addBar_22
  · have hf := neg_e c_10 hf
    refine lv_iload_n hx hb dX7_addBar_14 rfl (lv_at hl 2 rfl) ?_
    obtain ⟨r_2, hr_2, hf⟩ := bi_e hf
    refine kX7_77 hx hb hml hts hown hG hI hS hl.1 (As := [.int a2]) (c_X7_isColor l D cI cS Z K a2 σ _ hr_2) ⟨(Nat.le_of_ble_eq_true rfl), (Nat.le_of_ble_eq_true rfl)⟩ rfl (Nat.le_of_ble_eq_true rfl) ⟨(Nat.le_of_ble_eq_true rfl), (Nat.le_of_ble_eq_true rfl)⟩ dX7_addBar_15 (fun hzr_2 H locs hI hS => ?_)
    refine lv_if_ne (tgt := 23) hx hb dX7_addBar_18 (by decide) (fun c_9 => ?_) (fun c_9 => ?_)
    · have hf := neg_e c_9 hf
      refine lv_aload_n hx hb dX7_addBar_23 rfl (lv_at hl 0 rfl) ?_
      refine gX7_10 (o' := 1) hx hb hts hown hG hI hL rfl dX7_addBar_24 ?_
      refine gX7_99 (o' := 9) hx hb hts hown hG hI (ly_sub_7_now hL) rfl dX7_addBar_27 ?_
      obtain ⟨r_3, hr_3, hf⟩ := bi_e hf
      refine kX7_103 hx hb hml hts hown hG hI hS hl.1 (ly_sub_5_chain (ly_sub_7_now hL)) (As := []) (c_X0_isFull l D cI cS Z K 9 (ly_sub_5_chain (ly_sub_7_now hL)) σ _ hr_3) ⟨(Nat.le_of_ble_eq_true rfl), (Nat.le_of_ble_eq_true rfl)⟩ rfl (Nat.le_of_ble_eq_true rfl) ⟨(Nat.le_of_ble_eq_true rfl), (Nat.le_of_ble_eq_true rfl)⟩ dX7_addBar_30 (fun hzr_3 H locs hI hS => ?_)
      refine lv_if_eq (tgt := 39) hx hb dX7_addBar_33 (by decide) (fun c_8 => ?_) (fun c_8 => ?_)
      · have hf := pos_e c_8 hf
        refine lv_aload_n hx hb dX7_addBar_39 rfl (lv_at hl 0 rfl) ?_
        refine gX7_19 (o' := 29) hx hb hts hown hG hI hL rfl dX7_addBar_40 ?_
        refine lv_aload_n hx hb dX7_addBar_43 rfl (lv_at hl 0 rfl) ?_
        refine gX7_10 (o' := 1) hx hb hts hown hG hI hL rfl dX7_addBar_44 ?_
        obtain ⟨σ_5, hσ_5, hf⟩ := bi_e hf
        refine kX7_46 hx hb hml hts hown hG hI hS hl.1 (ly_sub_7_history hL) (As := [.ref (Z + 1)]) (c_X3_keep l D cI cS Z K (ly_sub_7_history hL) (ly_sub_7_now hL) σ _ hσ_5) ⟨(Nat.le_of_ble_eq_true rfl), (Nat.le_of_ble_eq_true rfl)⟩ rfl (Nat.le_of_ble_eq_true rfl) ⟨(Nat.le_of_ble_eq_true rfl), (Nat.le_of_ble_eq_true rfl)⟩ dX7_addBar_47 (fun H locs hI hS => ?_)
        refine lv_aload_n hx hb dX7_addBar_50 rfl (lv_at hl 0 rfl) ?_
        refine gX7_10 (o' := 1) hx hb hts hown hG hI hL rfl dX7_addBar_51 ?_
        refine gX7_99 (o' := 9) hx hb hts hown hG hI (ly_sub_7_now hL) rfl dX7_addBar_54 ?_
        refine lv_iload_n hx hb dX7_addBar_57 rfl (lv_at hl 1 rfl) ?_
        refine lv_iload_n hx hb dX7_addBar_58 rfl (lv_at hl 2 rfl) ?_
        obtain ⟨σ_7, hσ_7, hf⟩ := bi_e hf
        refine kX7_109 hx hb hml hts hown hG hI hS hl.1 (ly_sub_5_chain (ly_sub_7_now hL)) (As := [.int a1, .int a2]) (c_X0_addLast l D cI cS Z K 9 (ly_sub_5_chain (ly_sub_7_now hL)) a1 a2 σ_5 _ hσ_7) ⟨(Nat.le_of_ble_eq_true rfl), (Nat.le_of_ble_eq_true rfl)⟩ rfl (Nat.le_of_ble_eq_true rfl) ⟨(Nat.le_of_ble_eq_true rfl), (Nat.le_of_ble_eq_true rfl)⟩ dX7_addBar_59 (fun H locs hI hS => ?_)
        refine lv_aload_n hx hb dX7_addBar_62 rfl (lv_at hl 0 rfl) ?_
        refine gX7_10 (o' := 1) hx hb hts hown hG hI hL rfl dX7_addBar_63 ?_
        refine gX7_99 (o' := 9) hx hb hts hown hG hI (ly_sub_7_now hL) rfl dX7_addBar_66 ?_
        refine gX7_112 hx hb hts hown hG hI (ly_sub_5_chain (ly_sub_7_now hL)) dX7_addBar_69 ?_
        refine lv_iconst (v := 1) hx hb dX7_addBar_72 (by decide) ?_
        refine lv_isub hx hb dX7_addBar_73 ?_
        obtain ⟨rfl, rfl⟩ := sp_e hf
        exact mm_ret hx hb hr hlocks rfl hI hS dX7_addBar_74
      · have hf := neg_e c_8 hf
        refine lv_bipush (v := (-3)) hx hb dX7_addBar_36 (by decide) ?_
        obtain ⟨rfl, rfl⟩ := sp_e hf
        exact mm_ret hx hb hr hlocks rfl hI hS dX7_addBar_38
    · have hf := pos_e c_9 hf
      refine lv_iconst (v := (-1)) hx hb dX7_addBar_21 (by decide) ?_
      obtain ⟨rfl, rfl⟩ := sp_e hf
      exact mm_ret hx hb hr hlocks rfl hI hS dX7_addBar_22
def f_X7_setBar (a1 : Int32) (a2 : Int32) (a3 : Int32) (σ : Nat → Nat → Int32) : Option (Int32 × (Nat → Nat → Int32)) := bi (f_X0_hasBar 9 a1 σ) fun r_1 => if r_1 = 0 then (some ((-1), σ)) else (bi (f_X6_isLift 2 a2 σ) fun r_2 => if r_2 = 0 then (some ((-1), σ)) else (bi (f_X7_isColor a3 σ) fun r_3 => if r_3 = 0 then (some ((-1), σ)) else (bi (f_X3_keep σ) fun σ_5 => bi (f_X4_at 10 24 a1 σ_5) fun r_6 => bi (f_X4_at 12 24 a1 σ_5) fun r_7 => vl ((10 * r_6) + r_7) fun x_8 => bi (f_X4_put 10 24 a1 a2 σ_5) fun σ_10 => bi (f_X4_put 12 24 a1 a3 σ_10) fun σ_12 => some (x_8, σ_12))))
set_option maxHeartbeats 4000000 in
set_option maxRecDepth 100000 in
theorem c_X7_setBar (l : Launch) (D : va_G) (cI cS : ClassId) (Z : Nat) (K : Nat → Nat) (hL : ly K 0 lyLoom) (a1 : Int32) (a2 : Int32) (a3 : Int32) (σ : Nat → Nat → Int32) (r : Int32) (σ' : Nat → Nat → Int32) (hf : f_X7_setBar a1 a2 a3 σ = some (r, σ')) : Met l yX7_setBar (wsT yX7_setBar cX7_setBar 6 (some .int)) { frames := 6, cells := 0, slots := 0, locals := 146 } (Pm D cI cS Z K [.ref (Z + 0), .int a1, .int a2, .int a3] σ) (Qi D cI cS Z K r σ') 0 0 (aZ Z) := by
  refine mm_met (lv := [(0, .ref (Z + 0)), (1, .int a1), (2, .int a2), (3, .int a3)]) (by decide) (Nat.le_of_ble_eq_true rfl) rfl ?_
  intro p e s m args below meth c ls hx hb hr hml hts hown hlocks hG hl hI hS
  have hown : s.vm.findClass RX7 = some m.cls := hown
  rw [f_X7_setBar] at hf
  refine lv_aload_n hx hb dX7_setBar_0 rfl (lv_at hl 0 rfl) ?_
  refine gX7_10 (o' := 1) hx hb hts hown hG hI hL rfl dX7_setBar_1 ?_
  refine gX7_99 (o' := 9) hx hb hts hown hG hI (ly_sub_7_now hL) rfl dX7_setBar_4 ?_
  refine lv_astore (lv' := [(4, .ref (Z + 9)), (0, .ref (Z + 0)), (1, .int a1), (2, .int a2), (3, .int a3)]) hx hb dX7_setBar_7 hl (by decide) rfl (fun ls hl => ?_)
  refine lv_aload hx hb dX7_setBar_9 (lv_at hl 0 rfl) ?_
  refine lv_iload_n hx hb dX7_setBar_11 rfl (lv_at hl 2 rfl) ?_
  obtain ⟨r_1, hr_1, hf⟩ := bi_e hf
  refine kX7_115 hx hb hml hts hown hG hI hS hl.1 (ly_sub_5_chain (ly_sub_7_now hL)) (As := [.int a1]) (c_X0_hasBar l D cI cS Z K 9 (ly_sub_5_chain (ly_sub_7_now hL)) a1 σ _ hr_1) ⟨(Nat.le_of_ble_eq_true rfl), (Nat.le_of_ble_eq_true rfl)⟩ rfl (Nat.le_of_ble_eq_true rfl) ⟨(Nat.le_of_ble_eq_true rfl), (Nat.le_of_ble_eq_true rfl)⟩ dX7_setBar_12 (fun hzr_1 H locs hI hS => ?_)
  refine lv_if_eq (tgt := 39) hx hb dX7_setBar_15 (by decide) (fun c_15 => ?_) (fun c_15 => ?_)
  · have hf := pos_e c_15 hf
    refine lv_iconst (v := (-1)) hx hb dX7_setBar_39 (by decide) ?_
    obtain ⟨rfl, rfl⟩ := sp_e hf
    exact mm_ret hx hb hr hlocks rfl hI hS dX7_setBar_40
  · have hf := neg_e c_15 hf
    refine lv_aload_n hx hb dX7_setBar_18 rfl (lv_at hl 1 rfl) ?_
    refine gX7_10 (o' := 1) hx hb hts hown hG hI hL rfl dX7_setBar_19 ?_
    refine gX7_64 (o' := 2) hx hb hts hown hG hI (ly_sub_7_now hL) rfl dX7_setBar_22 ?_
    refine lv_iload_n hx hb dX7_setBar_25 rfl (lv_at hl 3 rfl) ?_
    obtain ⟨r_2, hr_2, hf⟩ := bi_e hf
    refine kX7_96 hx hb hml hts hown hG hI hS hl.1 (ly_sub_5_warp (ly_sub_7_now hL)) (As := [.int a2]) (c_X6_isLift l D cI cS Z K 2 (ly_sub_5_warp (ly_sub_7_now hL)) a2 σ _ hr_2) ⟨(Nat.le_of_ble_eq_true rfl), (Nat.le_of_ble_eq_true rfl)⟩ rfl (Nat.le_of_ble_eq_true rfl) ⟨(Nat.le_of_ble_eq_true rfl), (Nat.le_of_ble_eq_true rfl)⟩ dX7_setBar_26 (fun hzr_2 H locs hI hS => ?_)
    refine lv_if_eq (tgt := 39) hx hb dX7_setBar_29 (by decide) (fun c_14 => ?_) (fun c_14 => ?_)
    · have hf := pos_e c_14 hf
      refine lv_iconst (v := (-1)) hx hb dX7_setBar_39 (by decide) ?_
      obtain ⟨rfl, rfl⟩ := sp_e hf
      exact mm_ret hx hb hr hlocks rfl hI hS dX7_setBar_40
    · have hf := neg_e c_14 hf
      refine lv_iload_n hx hb dX7_setBar_32 rfl (lv_at hl 4 rfl) ?_
      obtain ⟨r_3, hr_3, hf⟩ := bi_e hf
      refine kX7_77 hx hb hml hts hown hG hI hS hl.1 (As := [.int a3]) (c_X7_isColor l D cI cS Z K a3 σ _ hr_3) ⟨(Nat.le_of_ble_eq_true rfl), (Nat.le_of_ble_eq_true rfl)⟩ rfl (Nat.le_of_ble_eq_true rfl) ⟨(Nat.le_of_ble_eq_true rfl), (Nat.le_of_ble_eq_true rfl)⟩ dX7_setBar_33 (fun hzr_3 H locs hI hS => ?_)
      refine lv_if_ne (tgt := 41) hx hb dX7_setBar_36 (by decide) (fun c_13 => ?_) (fun c_13 => ?_)
      · have hf := neg_e c_13 hf
        refine lv_aload_n hx hb dX7_setBar_41 rfl (lv_at hl 1 rfl) ?_
        refine gX7_19 (o' := 29) hx hb hts hown hG hI hL rfl dX7_setBar_42 ?_
        refine lv_aload_n hx hb dX7_setBar_45 rfl (lv_at hl 1 rfl) ?_
        refine gX7_10 (o' := 1) hx hb hts hown hG hI hL rfl dX7_setBar_46 ?_
        obtain ⟨σ_5, hσ_5, hf⟩ := bi_e hf
        refine kX7_46 hx hb hml hts hown hG hI hS hl.1 (ly_sub_7_history hL) (As := [.ref (Z + 1)]) (c_X3_keep l D cI cS Z K (ly_sub_7_history hL) (ly_sub_7_now hL) σ _ hσ_5) ⟨(Nat.le_of_ble_eq_true rfl), (Nat.le_of_ble_eq_true rfl)⟩ rfl (Nat.le_of_ble_eq_true rfl) ⟨(Nat.le_of_ble_eq_true rfl), (Nat.le_of_ble_eq_true rfl)⟩ dX7_setBar_49 (fun H locs hI hS => ?_)
        refine lv_bipush (v := 10) hx hb dX7_setBar_52 (by decide) ?_
        refine lv_aload hx hb dX7_setBar_54 (lv_at hl 0 rfl) ?_
        refine gX7_118 (o' := 10) hx hb hts hown hG hI (ly_sub_5_chain (ly_sub_7_now hL)) rfl dX7_setBar_56 ?_
        refine lv_iload_n hx hb dX7_setBar_59 rfl (lv_at hl 2 rfl) ?_
        obtain ⟨r_6, hr_6, hf⟩ := bi_e hf
        refine kX7_83 hx hb hml hts hown hG hI hS hl.1 (ly_sub_0_liftOf (ly_sub_5_chain (ly_sub_7_now hL))) (As := [.int a1]) (c_X4_at l D cI cS Z K 10 24 (ly_sub_0_liftOf (ly_sub_5_chain (ly_sub_7_now hL))) a1 σ_5 _ hr_6) ⟨(Nat.le_of_ble_eq_true rfl), (Nat.le_of_ble_eq_true rfl)⟩ rfl (Nat.le_of_ble_eq_true rfl) ⟨(Nat.le_of_ble_eq_true rfl), (Nat.le_of_ble_eq_true rfl)⟩ dX7_setBar_60 (fun H locs hI hS => ?_)
        refine lv_imul hx hb dX7_setBar_63 ?_
        refine lv_aload hx hb dX7_setBar_64 (lv_at hl 0 rfl) ?_
        refine gX7_121 (o' := 12) hx hb hts hown hG hI (ly_sub_5_chain (ly_sub_7_now hL)) rfl dX7_setBar_66 ?_
        refine lv_iload_n hx hb dX7_setBar_69 rfl (lv_at hl 2 rfl) ?_
        obtain ⟨r_7, hr_7, hf⟩ := bi_e hf
        refine kX7_83 hx hb hml hts hown hG hI hS hl.1 (ly_sub_0_colorOf (ly_sub_5_chain (ly_sub_7_now hL))) (As := [.int a1]) (c_X4_at l D cI cS Z K 12 24 (ly_sub_0_colorOf (ly_sub_5_chain (ly_sub_7_now hL))) a1 σ_5 _ hr_7) ⟨(Nat.le_of_ble_eq_true rfl), (Nat.le_of_ble_eq_true rfl)⟩ rfl (Nat.le_of_ble_eq_true rfl) ⟨(Nat.le_of_ble_eq_true rfl), (Nat.le_of_ble_eq_true rfl)⟩ dX7_setBar_70 (fun H locs hI hS => ?_)
        refine lv_iadd hx hb dX7_setBar_73 ?_
        obtain ⟨x_8, ex_8, hf⟩ := vl_e hf
        refine mm_name ex_8 ?_
        refine lv_istore (lv' := [(5, .int x_8), (4, .ref (Z + 9)), (0, .ref (Z + 0)), (1, .int a1), (2, .int a2), (3, .int a3)]) hx hb dX7_setBar_74 hl (by decide) rfl (fun ls hl => ?_)
        refine lv_aload hx hb dX7_setBar_76 (lv_at hl 1 rfl) ?_
        refine gX7_118 (o' := 10) hx hb hts hown hG hI (ly_sub_5_chain (ly_sub_7_now hL)) rfl dX7_setBar_78 ?_
        refine lv_iload_n hx hb dX7_setBar_81 rfl (lv_at hl 3 rfl) ?_
        refine lv_iload_n hx hb dX7_setBar_82 rfl (lv_at hl 4 rfl) ?_
        obtain ⟨σ_10, hσ_10, hf⟩ := bi_e hf
        refine kX7_90 hx hb hml hts hown hG hI hS hl.1 (ly_sub_0_liftOf (ly_sub_5_chain (ly_sub_7_now hL))) (As := [.int a1, .int a2]) (c_X4_put l D cI cS Z K 10 24 (ly_sub_0_liftOf (ly_sub_5_chain (ly_sub_7_now hL))) a1 a2 σ_5 _ hσ_10) ⟨(Nat.le_of_ble_eq_true rfl), (Nat.le_of_ble_eq_true rfl)⟩ rfl (Nat.le_of_ble_eq_true rfl) ⟨(Nat.le_of_ble_eq_true rfl), (Nat.le_of_ble_eq_true rfl)⟩ dX7_setBar_83 (fun H locs hI hS => ?_)
        refine lv_aload hx hb dX7_setBar_86 (lv_at hl 1 rfl) ?_
        refine gX7_121 (o' := 12) hx hb hts hown hG hI (ly_sub_5_chain (ly_sub_7_now hL)) rfl dX7_setBar_88 ?_
        refine lv_iload_n hx hb dX7_setBar_91 rfl (lv_at hl 3 rfl) ?_
        refine lv_iload_n hx hb dX7_setBar_92 rfl (lv_at hl 5 rfl) ?_
        obtain ⟨σ_12, hσ_12, hf⟩ := bi_e hf
        refine kX7_90 hx hb hml hts hown hG hI hS hl.1 (ly_sub_0_colorOf (ly_sub_5_chain (ly_sub_7_now hL))) (As := [.int a1, .int a3]) (c_X4_put l D cI cS Z K 12 24 (ly_sub_0_colorOf (ly_sub_5_chain (ly_sub_7_now hL))) a1 a3 σ_10 _ hσ_12) ⟨(Nat.le_of_ble_eq_true rfl), (Nat.le_of_ble_eq_true rfl)⟩ rfl (Nat.le_of_ble_eq_true rfl) ⟨(Nat.le_of_ble_eq_true rfl), (Nat.le_of_ble_eq_true rfl)⟩ dX7_setBar_93 (fun H locs hI hS => ?_)
        refine lv_iload hx hb dX7_setBar_96 (lv_at hl 0 rfl) ?_
        obtain ⟨rfl, rfl⟩ := sp_e hf
        exact mm_ret hx hb hr hlocks rfl hI hS dX7_setBar_98
      · have hf := pos_e c_13 hf
        refine lv_iconst (v := (-1)) hx hb dX7_setBar_39 (by decide) ?_
        obtain ⟨rfl, rfl⟩ := sp_e hf
        exact mm_ret hx hb hr hlocks rfl hI hS dX7_setBar_40
def f_X7_setDirection (a1 : Int32) (σ : Nat → Nat → Int32) : Option (Int32 × (Nat → Nat → Int32)) := bi (f_X7_isBetween a1 0 1 σ) fun r_1 => if r_1 = 0 then (some ((-1), σ)) else (bi (f_X3_keep σ) fun σ_3 => vl (σ_3 9 2) fun x_4 => vl (wr σ_3 9 2 a1) fun σ_5 => some (x_4, σ_5))
set_option maxHeartbeats 4000000 in
set_option maxRecDepth 100000 in
theorem c_X7_setDirection (l : Launch) (D : va_G) (cI cS : ClassId) (Z : Nat) (K : Nat → Nat) (hL : ly K 0 lyLoom) (a1 : Int32) (σ : Nat → Nat → Int32) (r : Int32) (σ' : Nat → Nat → Int32) (hf : f_X7_setDirection a1 σ = some (r, σ')) : Met l yX7_setDirection (wsT yX7_setDirection cX7_setDirection 3 (some .int)) { frames := 6, cells := 0, slots := 0, locals := 146 } (Pm D cI cS Z K [.ref (Z + 0), .int a1] σ) (Qi D cI cS Z K r σ') 0 0 (aZ Z) := by
  refine mm_met (lv := [(0, .ref (Z + 0)), (1, .int a1)]) (by decide) (Nat.le_of_ble_eq_true rfl) rfl ?_
  intro p e s m args below meth c ls hx hb hr hml hts hown hlocks hG hl hI hS
  have hown : s.vm.findClass RX7 = some m.cls := hown
  rw [f_X7_setDirection] at hf
  refine lv_iload_n hx hb dX7_setDirection_0 rfl (lv_at hl 1 rfl) ?_
  refine lv_iconst (v := 0) hx hb dX7_setDirection_1 (by decide) ?_
  refine lv_iconst (v := 1) hx hb dX7_setDirection_2 (by decide) ?_
  obtain ⟨r_1, hr_1, hf⟩ := bi_e hf
  refine kX7_42 hx hb hml hts hown hG hI hS hl.1 (As := [.int a1, .int 0, .int 1]) (c_X7_isBetween l D cI cS Z K a1 0 1 σ _ hr_1) ⟨(Nat.le_of_ble_eq_true rfl), (Nat.le_of_ble_eq_true rfl)⟩ rfl (Nat.le_of_ble_eq_true rfl) ⟨(Nat.le_of_ble_eq_true rfl), (Nat.le_of_ble_eq_true rfl)⟩ dX7_setDirection_3 (fun hzr_1 H locs hI hS => ?_)
  refine lv_if_ne (tgt := 11) hx hb dX7_setDirection_6 (by decide) (fun c_6 => ?_) (fun c_6 => ?_)
  · have hf := neg_e c_6 hf
    refine lv_aload_n hx hb dX7_setDirection_11 rfl (lv_at hl 0 rfl) ?_
    refine gX7_19 (o' := 29) hx hb hts hown hG hI hL rfl dX7_setDirection_12 ?_
    refine lv_aload_n hx hb dX7_setDirection_15 rfl (lv_at hl 0 rfl) ?_
    refine gX7_10 (o' := 1) hx hb hts hown hG hI hL rfl dX7_setDirection_16 ?_
    obtain ⟨σ_3, hσ_3, hf⟩ := bi_e hf
    refine kX7_46 hx hb hml hts hown hG hI hS hl.1 (ly_sub_7_history hL) (As := [.ref (Z + 1)]) (c_X3_keep l D cI cS Z K (ly_sub_7_history hL) (ly_sub_7_now hL) σ _ hσ_3) ⟨(Nat.le_of_ble_eq_true rfl), (Nat.le_of_ble_eq_true rfl)⟩ rfl (Nat.le_of_ble_eq_true rfl) ⟨(Nat.le_of_ble_eq_true rfl), (Nat.le_of_ble_eq_true rfl)⟩ dX7_setDirection_19 (fun H locs hI hS => ?_)
    refine lv_aload_n hx hb dX7_setDirection_22 rfl (lv_at hl 0 rfl) ?_
    refine gX7_10 (o' := 1) hx hb hts hown hG hI hL rfl dX7_setDirection_23 ?_
    refine gX7_99 (o' := 9) hx hb hts hown hG hI (ly_sub_7_now hL) rfl dX7_setDirection_26 ?_
    refine gX7_122 hx hb hts hown hG hI (ly_sub_5_chain (ly_sub_7_now hL)) dX7_setDirection_29 ?_
    obtain ⟨x_4, ex_4, hf⟩ := vl_e hf
    refine mm_name ex_4 ?_
    refine lv_istore_n (lv' := [(2, .int x_4), (0, .ref (Z + 0)), (1, .int a1)]) hx hb dX7_setDirection_32 rfl hl (by decide) rfl (fun ls hl => ?_)
    refine lv_aload_n hx hb dX7_setDirection_33 rfl (lv_at hl 1 rfl) ?_
    refine gX7_10 (o' := 1) hx hb hts hown hG hI hL rfl dX7_setDirection_34 ?_
    refine gX7_99 (o' := 9) hx hb hts hown hG hI (ly_sub_7_now hL) rfl dX7_setDirection_37 ?_
    refine lv_iload_n hx hb dX7_setDirection_40 rfl (lv_at hl 2 rfl) ?_
    obtain ⟨σ_5, eσ_5, hf⟩ := vl_e hf
    refine pX7_122 hx hb hts hown hG hI hS (ly_sub_5_chain (ly_sub_7_now hL)) dX7_setDirection_41 (fun H locs hI hS => ?_)
    rw [← eσ_5] at hI
    refine lv_iload_n hx hb dX7_setDirection_44 rfl (lv_at hl 0 rfl) ?_
    obtain ⟨rfl, rfl⟩ := sp_e hf
    exact mm_ret hx hb hr hlocks rfl hI hS dX7_setDirection_45
  · have hf := pos_e c_6 hf
    refine lv_iconst (v := (-1)) hx hb dX7_setDirection_9 (by decide) ?_
    obtain ⟨rfl, rfl⟩ := sp_e hf
    exact mm_ret hx hb hr hlocks rfl hI hS dX7_setDirection_10
def f_X7_turnTo (a1 : Int32) (σ : Nat → Nat → Int32) : Option (Int32 × (Nat → Nat → Int32)) := bi (f_X0_hasBar 9 a1 σ) fun r_1 => if r_1 = 0 then (some ((-1), σ)) else (bi (f_X3_keep σ) fun σ_3 => vl (σ_3 9 1) fun x_4 => vl (wr σ_3 9 1 a1) fun σ_5 => some (x_4, σ_5))
set_option maxHeartbeats 4000000 in
set_option maxRecDepth 100000 in
theorem c_X7_turnTo (l : Launch) (D : va_G) (cI cS : ClassId) (Z : Nat) (K : Nat → Nat) (hL : ly K 0 lyLoom) (a1 : Int32) (σ : Nat → Nat → Int32) (r : Int32) (σ' : Nat → Nat → Int32) (hf : f_X7_turnTo a1 σ = some (r, σ')) : Met l yX7_turnTo (wsT yX7_turnTo cX7_turnTo 3 (some .int)) { frames := 6, cells := 0, slots := 0, locals := 146 } (Pm D cI cS Z K [.ref (Z + 0), .int a1] σ) (Qi D cI cS Z K r σ') 0 0 (aZ Z) := by
  refine mm_met (lv := [(0, .ref (Z + 0)), (1, .int a1)]) (by decide) (Nat.le_of_ble_eq_true rfl) rfl ?_
  intro p e s m args below meth c ls hx hb hr hml hts hown hlocks hG hl hI hS
  have hown : s.vm.findClass RX7 = some m.cls := hown
  rw [f_X7_turnTo] at hf
  refine lv_aload_n hx hb dX7_turnTo_0 rfl (lv_at hl 0 rfl) ?_
  refine gX7_10 (o' := 1) hx hb hts hown hG hI hL rfl dX7_turnTo_1 ?_
  refine gX7_99 (o' := 9) hx hb hts hown hG hI (ly_sub_7_now hL) rfl dX7_turnTo_4 ?_
  refine lv_iload_n hx hb dX7_turnTo_7 rfl (lv_at hl 1 rfl) ?_
  obtain ⟨r_1, hr_1, hf⟩ := bi_e hf
  refine kX7_115 hx hb hml hts hown hG hI hS hl.1 (ly_sub_5_chain (ly_sub_7_now hL)) (As := [.int a1]) (c_X0_hasBar l D cI cS Z K 9 (ly_sub_5_chain (ly_sub_7_now hL)) a1 σ _ hr_1) ⟨(Nat.le_of_ble_eq_true rfl), (Nat.le_of_ble_eq_true rfl)⟩ rfl (Nat.le_of_ble_eq_true rfl) ⟨(Nat.le_of_ble_eq_true rfl), (Nat.le_of_ble_eq_true rfl)⟩ dX7_turnTo_8 (fun hzr_1 H locs hI hS => ?_)
  refine lv_if_ne (tgt := 16) hx hb dX7_turnTo_11 (by decide) (fun c_6 => ?_) (fun c_6 => ?_)
  · have hf := neg_e c_6 hf
    refine lv_aload_n hx hb dX7_turnTo_16 rfl (lv_at hl 0 rfl) ?_
    refine gX7_19 (o' := 29) hx hb hts hown hG hI hL rfl dX7_turnTo_17 ?_
    refine lv_aload_n hx hb dX7_turnTo_20 rfl (lv_at hl 0 rfl) ?_
    refine gX7_10 (o' := 1) hx hb hts hown hG hI hL rfl dX7_turnTo_21 ?_
    obtain ⟨σ_3, hσ_3, hf⟩ := bi_e hf
    refine kX7_46 hx hb hml hts hown hG hI hS hl.1 (ly_sub_7_history hL) (As := [.ref (Z + 1)]) (c_X3_keep l D cI cS Z K (ly_sub_7_history hL) (ly_sub_7_now hL) σ _ hσ_3) ⟨(Nat.le_of_ble_eq_true rfl), (Nat.le_of_ble_eq_true rfl)⟩ rfl (Nat.le_of_ble_eq_true rfl) ⟨(Nat.le_of_ble_eq_true rfl), (Nat.le_of_ble_eq_true rfl)⟩ dX7_turnTo_24 (fun H locs hI hS => ?_)
    refine lv_aload_n hx hb dX7_turnTo_27 rfl (lv_at hl 0 rfl) ?_
    refine gX7_10 (o' := 1) hx hb hts hown hG hI hL rfl dX7_turnTo_28 ?_
    refine gX7_99 (o' := 9) hx hb hts hown hG hI (ly_sub_7_now hL) rfl dX7_turnTo_31 ?_
    refine gX7_125 hx hb hts hown hG hI (ly_sub_5_chain (ly_sub_7_now hL)) dX7_turnTo_34 ?_
    obtain ⟨x_4, ex_4, hf⟩ := vl_e hf
    refine mm_name ex_4 ?_
    refine lv_istore_n (lv' := [(2, .int x_4), (0, .ref (Z + 0)), (1, .int a1)]) hx hb dX7_turnTo_37 rfl hl (by decide) rfl (fun ls hl => ?_)
    refine lv_aload_n hx hb dX7_turnTo_38 rfl (lv_at hl 1 rfl) ?_
    refine gX7_10 (o' := 1) hx hb hts hown hG hI hL rfl dX7_turnTo_39 ?_
    refine gX7_99 (o' := 9) hx hb hts hown hG hI (ly_sub_7_now hL) rfl dX7_turnTo_42 ?_
    refine lv_iload_n hx hb dX7_turnTo_45 rfl (lv_at hl 2 rfl) ?_
    obtain ⟨σ_5, eσ_5, hf⟩ := vl_e hf
    refine pX7_125 hx hb hts hown hG hI hS (ly_sub_5_chain (ly_sub_7_now hL)) dX7_turnTo_46 (fun H locs hI hS => ?_)
    rw [← eσ_5] at hI
    refine lv_iload_n hx hb dX7_turnTo_49 rfl (lv_at hl 0 rfl) ?_
    obtain ⟨rfl, rfl⟩ := sp_e hf
    exact mm_ret hx hb hr hlocks rfl hI hS dX7_turnTo_50
  · have hf := pos_e c_6 hf
    refine lv_iconst (v := (-1)) hx hb dX7_turnTo_14 (by decide) ?_
    obtain ⟨rfl, rfl⟩ := sp_e hf
    exact mm_ret hx hb hr hlocks rfl hI hS dX7_turnTo_15
def f_X7_wind (a1 : Int32) (a2 : Int32) (σ : Nat → Nat → Int32) : Option (Int32 × (Nat → Nat → Int32)) := bi (f_X7_isColor a1 σ) fun r_1 => if r_1 = 0 then (some ((-1), σ)) else (bi (f_X7_isBetween a2 0 9999 σ) fun r_2 => if r_2 = 0 then (some ((-1), σ)) else (bi (f_X3_keep σ) fun σ_4 => bi (f_X4_at 14 10 a1 σ_4) fun r_5 => bi (f_X4_put 14 10 a1 a2 σ_4) fun σ_7 => some (r_5, σ_7)))
set_option maxHeartbeats 4000000 in
set_option maxRecDepth 100000 in
theorem c_X7_wind (l : Launch) (D : va_G) (cI cS : ClassId) (Z : Nat) (K : Nat → Nat) (hL : ly K 0 lyLoom) (a1 : Int32) (a2 : Int32) (σ : Nat → Nat → Int32) (r : Int32) (σ' : Nat → Nat → Int32) (hf : f_X7_wind a1 a2 σ = some (r, σ')) : Met l yX7_wind (wsT yX7_wind cX7_wind 4 (some .int)) { frames := 6, cells := 0, slots := 0, locals := 146 } (Pm D cI cS Z K [.ref (Z + 0), .int a1, .int a2] σ) (Qi D cI cS Z K r σ') 0 0 (aZ Z) := by
  refine mm_met (lv := [(0, .ref (Z + 0)), (1, .int a1), (2, .int a2)]) (by decide) (Nat.le_of_ble_eq_true rfl) rfl ?_
  intro p e s m args below meth c ls hx hb hr hml hts hown hlocks hG hl hI hS
  have hown : s.vm.findClass RX7 = some m.cls := hown
  rw [f_X7_wind] at hf
  refine lv_iload_n hx hb dX7_wind_0 rfl (lv_at hl 1 rfl) ?_
  obtain ⟨r_1, hr_1, hf⟩ := bi_e hf
  refine kX7_77 hx hb hml hts hown hG hI hS hl.1 (As := [.int a1]) (c_X7_isColor l D cI cS Z K a1 σ _ hr_1) ⟨(Nat.le_of_ble_eq_true rfl), (Nat.le_of_ble_eq_true rfl)⟩ rfl (Nat.le_of_ble_eq_true rfl) ⟨(Nat.le_of_ble_eq_true rfl), (Nat.le_of_ble_eq_true rfl)⟩ dX7_wind_1 (fun hzr_1 H locs hI hS => ?_)
  refine lv_if_eq (tgt := 18) hx hb dX7_wind_4 (by decide) (fun c_9 => ?_) (fun c_9 => ?_)
  · have hf := pos_e c_9 hf
    refine lv_iconst (v := (-1)) hx hb dX7_wind_18 (by decide) ?_
    obtain ⟨rfl, rfl⟩ := sp_e hf
    exact mm_ret hx hb hr hlocks rfl hI hS dX7_wind_19
  · have hf := neg_e c_9 hf
    refine lv_iload_n hx hb dX7_wind_7 rfl (lv_at hl 2 rfl) ?_
    refine lv_iconst (v := 0) hx hb dX7_wind_8 (by decide) ?_
    refine lv_sipush (v := 9999) hx hb dX7_wind_9 (by decide) ?_
    obtain ⟨r_2, hr_2, hf⟩ := bi_e hf
    refine kX7_42 hx hb hml hts hown hG hI hS hl.1 (As := [.int a2, .int 0, .int 9999]) (c_X7_isBetween l D cI cS Z K a2 0 9999 σ _ hr_2) ⟨(Nat.le_of_ble_eq_true rfl), (Nat.le_of_ble_eq_true rfl)⟩ rfl (Nat.le_of_ble_eq_true rfl) ⟨(Nat.le_of_ble_eq_true rfl), (Nat.le_of_ble_eq_true rfl)⟩ dX7_wind_12 (fun hzr_2 H locs hI hS => ?_)
    refine lv_if_ne (tgt := 20) hx hb dX7_wind_15 (by decide) (fun c_8 => ?_) (fun c_8 => ?_)
    · have hf := neg_e c_8 hf
      refine lv_aload_n hx hb dX7_wind_20 rfl (lv_at hl 0 rfl) ?_
      refine gX7_19 (o' := 29) hx hb hts hown hG hI hL rfl dX7_wind_21 ?_
      refine lv_aload_n hx hb dX7_wind_24 rfl (lv_at hl 0 rfl) ?_
      refine gX7_10 (o' := 1) hx hb hts hown hG hI hL rfl dX7_wind_25 ?_
      obtain ⟨σ_4, hσ_4, hf⟩ := bi_e hf
      refine kX7_46 hx hb hml hts hown hG hI hS hl.1 (ly_sub_7_history hL) (As := [.ref (Z + 1)]) (c_X3_keep l D cI cS Z K (ly_sub_7_history hL) (ly_sub_7_now hL) σ _ hσ_4) ⟨(Nat.le_of_ble_eq_true rfl), (Nat.le_of_ble_eq_true rfl)⟩ rfl (Nat.le_of_ble_eq_true rfl) ⟨(Nat.le_of_ble_eq_true rfl), (Nat.le_of_ble_eq_true rfl)⟩ dX7_wind_28 (fun H locs hI hS => ?_)
      refine lv_aload_n hx hb dX7_wind_31 rfl (lv_at hl 0 rfl) ?_
      refine gX7_10 (o' := 1) hx hb hts hown hG hI hL rfl dX7_wind_32 ?_
      refine gX7_128 (o' := 14) hx hb hts hown hG hI (ly_sub_7_now hL) rfl dX7_wind_35 ?_
      refine lv_iload_n hx hb dX7_wind_38 rfl (lv_at hl 1 rfl) ?_
      obtain ⟨r_5, hr_5, hf⟩ := bi_e hf
      refine kX7_83 hx hb hml hts hown hG hI hS hl.1 (ly_sub_5_bobbins (ly_sub_7_now hL)) (As := [.int a1]) (c_X4_at l D cI cS Z K 14 10 (ly_sub_5_bobbins (ly_sub_7_now hL)) a1 σ_4 _ hr_5) ⟨(Nat.le_of_ble_eq_true rfl), (Nat.le_of_ble_eq_true rfl)⟩ rfl (Nat.le_of_ble_eq_true rfl) ⟨(Nat.le_of_ble_eq_true rfl), (Nat.le_of_ble_eq_true rfl)⟩ dX7_wind_39 (fun H locs hI hS => ?_)
      refine lv_istore_n (lv' := [(3, .int r_5), (0, .ref (Z + 0)), (1, .int a1), (2, .int a2)]) hx hb dX7_wind_42 rfl hl (by decide) rfl (fun ls hl => ?_)
      refine lv_aload_n hx hb dX7_wind_43 rfl (lv_at hl 1 rfl) ?_
      refine gX7_10 (o' := 1) hx hb hts hown hG hI hL rfl dX7_wind_44 ?_
      refine gX7_128 (o' := 14) hx hb hts hown hG hI (ly_sub_7_now hL) rfl dX7_wind_47 ?_
      refine lv_iload_n hx hb dX7_wind_50 rfl (lv_at hl 2 rfl) ?_
      refine lv_iload_n hx hb dX7_wind_51 rfl (lv_at hl 3 rfl) ?_
      obtain ⟨σ_7, hσ_7, hf⟩ := bi_e hf
      refine kX7_90 hx hb hml hts hown hG hI hS hl.1 (ly_sub_5_bobbins (ly_sub_7_now hL)) (As := [.int a1, .int a2]) (c_X4_put l D cI cS Z K 14 10 (ly_sub_5_bobbins (ly_sub_7_now hL)) a1 a2 σ_4 _ hσ_7) ⟨(Nat.le_of_ble_eq_true rfl), (Nat.le_of_ble_eq_true rfl)⟩ rfl (Nat.le_of_ble_eq_true rfl) ⟨(Nat.le_of_ble_eq_true rfl), (Nat.le_of_ble_eq_true rfl)⟩ dX7_wind_52 (fun H locs hI hS => ?_)
      refine lv_iload_n hx hb dX7_wind_55 rfl (lv_at hl 0 rfl) ?_
      obtain ⟨rfl, rfl⟩ := sp_e hf
      exact mm_ret hx hb hr hlocks rfl hI hS dX7_wind_56
    · have hf := pos_e c_8 hf
      refine lv_iconst (v := (-1)) hx hb dX7_wind_18 (by decide) ?_
      obtain ⟨rfl, rfl⟩ := sp_e hf
      exact mm_ret hx hb hr hlocks rfl hI hS dX7_wind_19
def b_X7_takeOut_55 (a1 : Int32) : Int32 × (Nat → Nat → Int32) → Option ((Int32 × (Nat → Nat → Int32)) ⊕ ((Nat → Nat → Int32)))
  | (y_4, σ_5) => if a1 ≤ y_4 then (some (.inr σ_5)) else (bi (f_X5_takeOutLastRow 1 σ_5) fun σ_18 => vl (y_4 + 1) fun x_19 => some (.inl (x_19, σ_18)))
def f_X7_takeOut (a1 : Int32) (σ : Nat → Nat → Int32) : Option (Int32 × (Nat → Nat → Int32)) := bi (f_X7_isBetween a1 1 64 σ) fun r_1 => if r_1 = 0 then (some ((-1), σ)) else (if (σ 16 0) < a1 then (some ((-2), σ)) else (if (σ 9 0) = 0 then (some ((-2), σ)) else (bi (f_X3_keep σ) fun σ_3 => bi (lp (b_X7_takeOut_55 a1) FU (0, σ_3)) fun σ_6 => some (σ_6 16 0, σ_6))))
set_option maxHeartbeats 4000000 in
set_option maxRecDepth 100000 in
theorem c_X7_takeOut (l : Launch) (D : va_G) (cI cS : ClassId) (Z : Nat) (K : Nat → Nat) (hL : ly K 0 lyLoom) (a1 : Int32) (σ : Nat → Nat → Int32) (r : Int32) (σ' : Nat → Nat → Int32) (hf : f_X7_takeOut a1 σ = some (r, σ')) : Met l yX7_takeOut (wsT yX7_takeOut cX7_takeOut 3 (some .int)) { frames := 6, cells := 0, slots := 0, locals := 146 } (Pm D cI cS Z K [.ref (Z + 0), .int a1] σ) (Qi D cI cS Z K r σ') 0 0 (aZ Z) := by
  refine mm_met (lv := [(0, .ref (Z + 0)), (1, .int a1)]) (by decide) (Nat.le_of_ble_eq_true rfl) rfl ?_
  intro p e s m args below meth c ls hx hb hr hml hts hown hlocks hG hl hI hS
  have hown : s.vm.findClass RX7 = some m.cls := hown
  rw [f_X7_takeOut] at hf
  refine lv_iload_n hx hb dX7_takeOut_0 rfl (lv_at hl 1 rfl) ?_
  refine lv_iconst (v := 1) hx hb dX7_takeOut_1 (by decide) ?_
  refine lv_bipush (v := 64) hx hb dX7_takeOut_2 (by decide) ?_
  obtain ⟨r_1, hr_1, hf⟩ := bi_e hf
  refine kX7_42 hx hb hml hts hown hG hI hS hl.1 (As := [.int a1, .int 1, .int 64]) (c_X7_isBetween l D cI cS Z K a1 1 64 σ _ hr_1) ⟨(Nat.le_of_ble_eq_true rfl), (Nat.le_of_ble_eq_true rfl)⟩ rfl (Nat.le_of_ble_eq_true rfl) ⟨(Nat.le_of_ble_eq_true rfl), (Nat.le_of_ble_eq_true rfl)⟩ dX7_takeOut_4 (fun hzr_1 H locs hI hS => ?_)
  refine lv_if_ne (tgt := 12) hx hb dX7_takeOut_7 (by decide) (fun c_24 => ?_) (fun c_24 => ?_)
  · have hf := neg_e c_24 hf
    refine lv_iload_n hx hb dX7_takeOut_12 rfl (lv_at hl 1 rfl) ?_
    refine lv_aload_n hx hb dX7_takeOut_13 rfl (lv_at hl 0 rfl) ?_
    refine gX7_10 (o' := 1) hx hb hts hown hG hI hL rfl dX7_takeOut_14 ?_
    refine gX7_50 (o' := 16) hx hb hts hown hG hI (ly_sub_7_now hL) rfl dX7_takeOut_17 ?_
    refine gX7_54 hx hb hts hown hG hI (ly_sub_5_cloth (ly_sub_7_now hL)) dX7_takeOut_20 ?_
    refine lv_icmp_gt (tgt := 39) hx hb dX7_takeOut_23 (by decide) (fun c_23 => ?_) (fun c_23 => ?_)
    · have hf := pos_e c_23 hf
      refine lv_bipush (v := (-2)) hx hb dX7_takeOut_39 (by decide) ?_
      obtain ⟨rfl, rfl⟩ := sp_e hf
      exact mm_ret hx hb hr hlocks rfl hI hS dX7_takeOut_41
    · have hf := neg_e c_23 hf
      refine lv_aload_n hx hb dX7_takeOut_26 rfl (lv_at hl 0 rfl) ?_
      refine gX7_10 (o' := 1) hx hb hts hown hG hI hL rfl dX7_takeOut_27 ?_
      refine gX7_99 (o' := 9) hx hb hts hown hG hI (ly_sub_7_now hL) rfl dX7_takeOut_30 ?_
      refine gX7_112 hx hb hts hown hG hI (ly_sub_5_chain (ly_sub_7_now hL)) dX7_takeOut_33 ?_
      refine lv_if_ne (tgt := 42) hx hb dX7_takeOut_36 (by decide) (fun c_22 => ?_) (fun c_22 => ?_)
      · have hf := neg_e c_22 hf
        refine lv_aload_n hx hb dX7_takeOut_42 rfl (lv_at hl 0 rfl) ?_
        refine gX7_19 (o' := 29) hx hb hts hown hG hI hL rfl dX7_takeOut_43 ?_
        refine lv_aload_n hx hb dX7_takeOut_46 rfl (lv_at hl 0 rfl) ?_
        refine gX7_10 (o' := 1) hx hb hts hown hG hI hL rfl dX7_takeOut_47 ?_
        obtain ⟨σ_3, hσ_3, hf⟩ := bi_e hf
        refine kX7_46 hx hb hml hts hown hG hI hS hl.1 (ly_sub_7_history hL) (As := [.ref (Z + 1)]) (c_X3_keep l D cI cS Z K (ly_sub_7_history hL) (ly_sub_7_now hL) σ _ hσ_3) ⟨(Nat.le_of_ble_eq_true rfl), (Nat.le_of_ble_eq_true rfl)⟩ rfl (Nat.le_of_ble_eq_true rfl) ⟨(Nat.le_of_ble_eq_true rfl), (Nat.le_of_ble_eq_true rfl)⟩ dX7_takeOut_50 (fun H locs hI hS => ?_)
        refine lv_iconst (v := 0) hx hb dX7_takeOut_53 (by decide) ?_
        refine lv_istore_n (lv' := [(2, .int 0), (0, .ref (Z + 0)), (1, .int a1)]) hx hb dX7_takeOut_54 rfl hl (by decide) rfl (fun ls hl => ?_)
        have L_8 : ∀ (nn : Nat) (y_4 : Int32) (σ_5 : Nat → Nat → Int32) (σ_6 : Nat → Nat → Int32), lp (b_X7_takeOut_55 a1) nn (y_4, σ_5) = some σ_6 → (∀ (H : Heap) (locs : List Loc) (ls : Array Slot), fI D cI cS Z K σ_6 H → va_S (aZ Z) s.heap H locs → lv_has ls 3 [(0, .ref (Z + 0))] → W p l e { frames := 6, cells := 0, slots := 0, locals := 146 } s m args below meth c H locs 0 0 (MQ below (Qi D cI cS Z K r σ') args s 0 0 (aZ Z)) (F0 m 73 ls [])) → ∀ (H : Heap) (locs : List Loc) (ls : Array Slot), fI D cI cS Z K σ_5 H → va_S (aZ Z) s.heap H locs → lv_has ls 3 [(0, .ref (Z + 0)), (1, .int a1), (2, .int y_4)] → W p l e { frames := 6, cells := 0, slots := 0, locals := 146 } s m args below meth c H locs 0 0 (MQ below (Qi D cI cS Z K r σ') args s 0 0 (aZ Z)) (F0 m 55 ls []) := by
          intro nn
          induction nn with
          | zero =>
            intro y_4 σ_5 σ_6 hq
            exact (lp_0 hq).elim
          | succ nn ih_9 =>
            intro y_4 σ_5 σ_6 hq kn_11 H locs ls hI hS hl
            obtain ⟨wb_7, hf, hk_10⟩ := lp_e hq
            rw [b_X7_takeOut_55] at hf
            have ih_9 := fun (y_4 : Int32) (σ_5 : Nat → Nat → Int32) q => ih_9 y_4 σ_5 σ_6 q kn_11
            refine lv_iload_n hx hb dX7_takeOut_55 rfl (lv_at hl 2 rfl) ?_
            refine lv_iload_n hx hb dX7_takeOut_56 rfl (lv_at hl 1 rfl) ?_
            refine lv_icmp_ge (tgt := 73) hx hb dX7_takeOut_57 (by decide) (fun c_20 => ?_) (fun c_20 => ?_)
            · have hf := pos_e c_20 hf
              obtain rfl := so_e hf
              obtain rfl := lk_r hk_10
              exact kn_11 _ _ _ hI hS (lv_sub hl [0] rfl)
            · have hf := neg_e c_20 hf
              refine lv_aload_n hx hb dX7_takeOut_60 rfl (lv_at hl 0 rfl) ?_
              refine gX7_10 (o' := 1) hx hb hts hown hG hI hL rfl dX7_takeOut_61 ?_
              obtain ⟨σ_18, hσ_18, hf⟩ := bi_e hf
              refine kX7_158 hx hb hml hts hown hG hI hS hl.1 (ly_sub_7_now hL) (As := []) (c_X5_takeOutLastRow l D cI cS Z K 1 (ly_sub_7_now hL) σ_5 _ hσ_18) ⟨(Nat.le_of_ble_eq_true rfl), (Nat.le_of_ble_eq_true rfl)⟩ rfl (Nat.le_of_ble_eq_true rfl) ⟨(Nat.le_of_ble_eq_true rfl), (Nat.le_of_ble_eq_true rfl)⟩ dX7_takeOut_64 (fun H locs hI hS => ?_)
              obtain ⟨x_19, ex_19, hf⟩ := vl_e hf
              refine lv_iinc (v := x_19) (lv' := [(2, .int x_19), (0, .ref (Z + 0)), (1, .int a1)]) hx hb dX7_takeOut_67 hl (k := 2) rfl (by rw [ex_19]; rfl) (by decide) rfl (fun ls hl => ?_)
              refine lv_goto (tgt := 55) hx hb dX7_takeOut_70 (by decide) ?_
              obtain rfl := so_e hf
              exact ih_9 x_19 σ_18 hk_10 _ _ _ hI hS (lv_sub hl [1, 2, 0] rfl)
        obtain ⟨σ_6, hy, hf⟩ := bi_e hf
        refine L_8 FU 0 σ_3 _ hy ?_ _ _ _ hI hS (lv_sub hl [1, 2, 0] rfl)
        clear L_8
        intro H locs ls hI hS hl
        refine lv_aload_n hx hb dX7_takeOut_73 rfl (lv_at hl 0 rfl) ?_
        refine gX7_10 (o' := 1) hx hb hts hown hG hI hL rfl dX7_takeOut_74 ?_
        refine gX7_50 (o' := 16) hx hb hts hown hG hI (ly_sub_7_now hL) rfl dX7_takeOut_77 ?_
        refine gX7_54 hx hb hts hown hG hI (ly_sub_5_cloth (ly_sub_7_now hL)) dX7_takeOut_80 ?_
        obtain ⟨rfl, rfl⟩ := sp_e hf
        exact mm_ret hx hb hr hlocks rfl hI hS dX7_takeOut_83
      · have hf := pos_e c_22 hf
        refine lv_bipush (v := (-2)) hx hb dX7_takeOut_39 (by decide) ?_
        obtain ⟨rfl, rfl⟩ := sp_e hf
        exact mm_ret hx hb hr hlocks rfl hI hS dX7_takeOut_41
  · have hf := pos_e c_24 hf
    refine lv_iconst (v := (-1)) hx hb dX7_takeOut_10 (by decide) ?_
    obtain ⟨rfl, rfl⟩ := sp_e hf
    exact mm_ret hx hb hr hlocks rfl hI hS dX7_takeOut_11
def f_X7_cutOff  (σ : Nat → Nat → Int32) : Option (Int32 × (Nat → Nat → Int32)) := bi (f_X2_isStanding 16 σ) fun r_1 => if r_1 = 0 then (bi (f_X3_keep σ) fun σ_3 => vl (σ_3 16 0) fun x_4 => vl (wr σ_3 16 0 0) fun σ_5 => some (x_4, σ_5)) else (some ((-2), σ))
set_option maxHeartbeats 4000000 in
set_option maxRecDepth 100000 in
theorem c_X7_cutOff (l : Launch) (D : va_G) (cI cS : ClassId) (Z : Nat) (K : Nat → Nat) (hL : ly K 0 lyLoom) (σ : Nat → Nat → Int32) (r : Int32) (σ' : Nat → Nat → Int32) (hf : f_X7_cutOff σ = some (r, σ')) : Met l yX7_cutOff (wsT yX7_cutOff cX7_cutOff 2 (some .int)) { frames := 6, cells := 0, slots := 0, locals := 146 } (Pm D cI cS Z K [.ref (Z + 0)] σ) (Qi D cI cS Z K r σ') 0 0 (aZ Z) := by
  refine mm_met (lv := [(0, .ref (Z + 0))]) (by decide) (Nat.le_of_ble_eq_true rfl) rfl ?_
  intro p e s m args below meth c ls hx hb hr hml hts hown hlocks hG hl hI hS
  have hown : s.vm.findClass RX7 = some m.cls := hown
  rw [f_X7_cutOff] at hf
  refine lv_aload_n hx hb dX7_cutOff_0 rfl (lv_at hl 0 rfl) ?_
  refine gX7_10 (o' := 1) hx hb hts hown hG hI hL rfl dX7_cutOff_1 ?_
  refine gX7_50 (o' := 16) hx hb hts hown hG hI (ly_sub_7_now hL) rfl dX7_cutOff_4 ?_
  obtain ⟨r_1, hr_1, hf⟩ := bi_e hf
  refine kX7_151 hx hb hml hts hown hG hI hS hl.1 (ly_sub_5_cloth (ly_sub_7_now hL)) (As := []) (c_X2_isStanding l D cI cS Z K 16 (ly_sub_5_cloth (ly_sub_7_now hL)) σ _ hr_1) ⟨(Nat.le_of_ble_eq_true rfl), (Nat.le_of_ble_eq_true rfl)⟩ rfl (Nat.le_of_ble_eq_true rfl) ⟨(Nat.le_of_ble_eq_true rfl), (Nat.le_of_ble_eq_true rfl)⟩ dX7_cutOff_7 (fun hzr_1 H locs hI hS => ?_)
  refine lv_if_eq (tgt := 16) hx hb dX7_cutOff_10 (by decide) (fun c_6 => ?_) (fun c_6 => ?_)
  · have hf := pos_e c_6 hf
    refine lv_aload_n hx hb dX7_cutOff_16 rfl (lv_at hl 0 rfl) ?_
    refine gX7_19 (o' := 29) hx hb hts hown hG hI hL rfl dX7_cutOff_17 ?_
    refine lv_aload_n hx hb dX7_cutOff_20 rfl (lv_at hl 0 rfl) ?_
    refine gX7_10 (o' := 1) hx hb hts hown hG hI hL rfl dX7_cutOff_21 ?_
    obtain ⟨σ_3, hσ_3, hf⟩ := bi_e hf
    refine kX7_46 hx hb hml hts hown hG hI hS hl.1 (ly_sub_7_history hL) (As := [.ref (Z + 1)]) (c_X3_keep l D cI cS Z K (ly_sub_7_history hL) (ly_sub_7_now hL) σ _ hσ_3) ⟨(Nat.le_of_ble_eq_true rfl), (Nat.le_of_ble_eq_true rfl)⟩ rfl (Nat.le_of_ble_eq_true rfl) ⟨(Nat.le_of_ble_eq_true rfl), (Nat.le_of_ble_eq_true rfl)⟩ dX7_cutOff_24 (fun H locs hI hS => ?_)
    refine lv_aload_n hx hb dX7_cutOff_27 rfl (lv_at hl 0 rfl) ?_
    refine gX7_10 (o' := 1) hx hb hts hown hG hI hL rfl dX7_cutOff_28 ?_
    refine gX7_50 (o' := 16) hx hb hts hown hG hI (ly_sub_7_now hL) rfl dX7_cutOff_31 ?_
    refine gX7_54 hx hb hts hown hG hI (ly_sub_5_cloth (ly_sub_7_now hL)) dX7_cutOff_34 ?_
    obtain ⟨x_4, ex_4, hf⟩ := vl_e hf
    refine mm_name ex_4 ?_
    refine lv_istore_n (lv' := [(1, .int x_4), (0, .ref (Z + 0))]) hx hb dX7_cutOff_37 rfl hl (by decide) rfl (fun ls hl => ?_)
    refine lv_aload_n hx hb dX7_cutOff_38 rfl (lv_at hl 1 rfl) ?_
    refine gX7_10 (o' := 1) hx hb hts hown hG hI hL rfl dX7_cutOff_39 ?_
    refine gX7_50 (o' := 16) hx hb hts hown hG hI (ly_sub_7_now hL) rfl dX7_cutOff_42 ?_
    refine lv_iconst (v := 0) hx hb dX7_cutOff_45 (by decide) ?_
    obtain ⟨σ_5, eσ_5, hf⟩ := vl_e hf
    refine pX7_54 hx hb hts hown hG hI hS (ly_sub_5_cloth (ly_sub_7_now hL)) dX7_cutOff_46 (fun H locs hI hS => ?_)
    rw [← eσ_5] at hI
    refine lv_iload_n hx hb dX7_cutOff_49 rfl (lv_at hl 0 rfl) ?_
    obtain ⟨rfl, rfl⟩ := sp_e hf
    exact mm_ret hx hb hr hlocks rfl hI hS dX7_cutOff_50
  · have hf := neg_e c_6 hf
    refine lv_bipush (v := (-2)) hx hb dX7_cutOff_13 (by decide) ?_
    obtain ⟨rfl, rfl⟩ := sp_e hf
    exact mm_ret hx hb hr hlocks rfl hI hS dX7_cutOff_15
def f_X7_setLoom (a1 : Int32) (a2 : Int32) (σ : Nat → Nat → Int32) : Option (Int32 × (Nat → Nat → Int32)) := bi (f_X7_isBetween a1 2 8 σ) fun r_1 => if r_1 = 0 then (some ((-1), σ)) else (bi (f_X7_isBetween a2 4 32 σ) fun r_2 => if r_2 = 0 then (some ((-1), σ)) else (bi (f_X3_keep σ) fun σ_4 => vl (σ_4 16 0) fun x_5 => bi (f_X5_reset 1 a1 a2 σ_4) fun σ_7 => some (x_5, σ_7)))
set_option maxHeartbeats 4000000 in
set_option maxRecDepth 100000 in
theorem c_X7_setLoom (l : Launch) (D : va_G) (cI cS : ClassId) (Z : Nat) (K : Nat → Nat) (hL : ly K 0 lyLoom) (a1 : Int32) (a2 : Int32) (σ : Nat → Nat → Int32) (r : Int32) (σ' : Nat → Nat → Int32) (hf : f_X7_setLoom a1 a2 σ = some (r, σ')) : Met l yX7_setLoom (wsT yX7_setLoom cX7_setLoom 4 (some .int)) { frames := 6, cells := 0, slots := 0, locals := 146 } (Pm D cI cS Z K [.ref (Z + 0), .int a1, .int a2] σ) (Qi D cI cS Z K r σ') 0 0 (aZ Z) := by
  refine mm_met (lv := [(0, .ref (Z + 0)), (1, .int a1), (2, .int a2)]) (by decide) (Nat.le_of_ble_eq_true rfl) rfl ?_
  intro p e s m args below meth c ls hx hb hr hml hts hown hlocks hG hl hI hS
  have hown : s.vm.findClass RX7 = some m.cls := hown
  rw [f_X7_setLoom] at hf
  refine lv_iload_n hx hb dX7_setLoom_0 rfl (lv_at hl 1 rfl) ?_
  refine lv_iconst (v := 2) hx hb dX7_setLoom_1 (by decide) ?_
  refine lv_bipush (v := 8) hx hb dX7_setLoom_2 (by decide) ?_
  obtain ⟨r_1, hr_1, hf⟩ := bi_e hf
  refine kX7_42 hx hb hml hts hown hG hI hS hl.1 (As := [.int a1, .int 2, .int 8]) (c_X7_isBetween l D cI cS Z K a1 2 8 σ _ hr_1) ⟨(Nat.le_of_ble_eq_true rfl), (Nat.le_of_ble_eq_true rfl)⟩ rfl (Nat.le_of_ble_eq_true rfl) ⟨(Nat.le_of_ble_eq_true rfl), (Nat.le_of_ble_eq_true rfl)⟩ dX7_setLoom_4 (fun hzr_1 H locs hI hS => ?_)
  refine lv_if_eq (tgt := 20) hx hb dX7_setLoom_7 (by decide) (fun c_9 => ?_) (fun c_9 => ?_)
  · have hf := pos_e c_9 hf
    refine lv_iconst (v := (-1)) hx hb dX7_setLoom_20 (by decide) ?_
    obtain ⟨rfl, rfl⟩ := sp_e hf
    exact mm_ret hx hb hr hlocks rfl hI hS dX7_setLoom_21
  · have hf := neg_e c_9 hf
    refine lv_iload_n hx hb dX7_setLoom_10 rfl (lv_at hl 2 rfl) ?_
    refine lv_iconst (v := 4) hx hb dX7_setLoom_11 (by decide) ?_
    refine lv_bipush (v := 32) hx hb dX7_setLoom_12 (by decide) ?_
    obtain ⟨r_2, hr_2, hf⟩ := bi_e hf
    refine kX7_42 hx hb hml hts hown hG hI hS hl.1 (As := [.int a2, .int 4, .int 32]) (c_X7_isBetween l D cI cS Z K a2 4 32 σ _ hr_2) ⟨(Nat.le_of_ble_eq_true rfl), (Nat.le_of_ble_eq_true rfl)⟩ rfl (Nat.le_of_ble_eq_true rfl) ⟨(Nat.le_of_ble_eq_true rfl), (Nat.le_of_ble_eq_true rfl)⟩ dX7_setLoom_14 (fun hzr_2 H locs hI hS => ?_)
    refine lv_if_ne (tgt := 22) hx hb dX7_setLoom_17 (by decide) (fun c_8 => ?_) (fun c_8 => ?_)
    · have hf := neg_e c_8 hf
      refine lv_aload_n hx hb dX7_setLoom_22 rfl (lv_at hl 0 rfl) ?_
      refine gX7_19 (o' := 29) hx hb hts hown hG hI hL rfl dX7_setLoom_23 ?_
      refine lv_aload_n hx hb dX7_setLoom_26 rfl (lv_at hl 0 rfl) ?_
      refine gX7_10 (o' := 1) hx hb hts hown hG hI hL rfl dX7_setLoom_27 ?_
      obtain ⟨σ_4, hσ_4, hf⟩ := bi_e hf
      refine kX7_46 hx hb hml hts hown hG hI hS hl.1 (ly_sub_7_history hL) (As := [.ref (Z + 1)]) (c_X3_keep l D cI cS Z K (ly_sub_7_history hL) (ly_sub_7_now hL) σ _ hσ_4) ⟨(Nat.le_of_ble_eq_true rfl), (Nat.le_of_ble_eq_true rfl)⟩ rfl (Nat.le_of_ble_eq_true rfl) ⟨(Nat.le_of_ble_eq_true rfl), (Nat.le_of_ble_eq_true rfl)⟩ dX7_setLoom_30 (fun H locs hI hS => ?_)
      refine lv_aload_n hx hb dX7_setLoom_33 rfl (lv_at hl 0 rfl) ?_
      refine gX7_10 (o' := 1) hx hb hts hown hG hI hL rfl dX7_setLoom_34 ?_
      refine gX7_50 (o' := 16) hx hb hts hown hG hI (ly_sub_7_now hL) rfl dX7_setLoom_37 ?_
      refine gX7_54 hx hb hts hown hG hI (ly_sub_5_cloth (ly_sub_7_now hL)) dX7_setLoom_40 ?_
      obtain ⟨x_5, ex_5, hf⟩ := vl_e hf
      refine mm_name ex_5 ?_
      refine lv_istore_n (lv' := [(3, .int x_5), (0, .ref (Z + 0)), (1, .int a1), (2, .int a2)]) hx hb dX7_setLoom_43 rfl hl (by decide) rfl (fun ls hl => ?_)
      refine lv_aload_n hx hb dX7_setLoom_44 rfl (lv_at hl 1 rfl) ?_
      refine gX7_10 (o' := 1) hx hb hts hown hG hI hL rfl dX7_setLoom_45 ?_
      refine lv_iload_n hx hb dX7_setLoom_48 rfl (lv_at hl 2 rfl) ?_
      refine lv_iload_n hx hb dX7_setLoom_49 rfl (lv_at hl 3 rfl) ?_
      obtain ⟨σ_7, hσ_7, hf⟩ := bi_e hf
      refine kX7_60 hx hb hml hts hown hG hI hS hl.1 (ly_sub_7_now hL) (As := [.int a1, .int a2]) (c_X5_reset l D cI cS Z K 1 (ly_sub_7_now hL) a1 a2 σ_4 _ hσ_7) ⟨(Nat.le_of_ble_eq_true rfl), (Nat.le_of_ble_eq_true rfl)⟩ rfl (Nat.le_of_ble_eq_true rfl) ⟨(Nat.le_of_ble_eq_true rfl), (Nat.le_of_ble_eq_true rfl)⟩ dX7_setLoom_50 (fun H locs hI hS => ?_)
      refine lv_iload_n hx hb dX7_setLoom_53 rfl (lv_at hl 0 rfl) ?_
      obtain ⟨rfl, rfl⟩ := sp_e hf
      exact mm_ret hx hb hr hlocks rfl hI hS dX7_setLoom_54
    · have hf := pos_e c_8 hf
      refine lv_iconst (v := (-1)) hx hb dX7_setLoom_20 (by decide) ?_
      obtain ⟨rfl, rfl⟩ := sp_e hf
      exact mm_ret hx hb hr hlocks rfl hI hS dX7_setLoom_21
def b_X7_weave_70 (a1 : Int32) : Int32 × (Nat → Nat → Int32) → Option ((Int32 × (Nat → Nat → Int32)) ⊕ (Int32 × (Nat → Nat → Int32)))
  | (y_6, σ_7) => if a1 ≤ y_6 then (some (.inr (y_6, σ_7))) else (bi (f_X2_isFull 16 σ_7) fun r_24 => if r_24 = 0 then (bi (f_X2_isStanding 16 σ_7) fun r_25 => if r_25 = 0 then (bi (f_X5_makePick 1 σ_7) fun σ_27 => vl (y_6 + 1) fun x_28 => some (.inl (x_28, σ_27))) else (some (.inr (y_6, σ_7)))) else (some (.inr (y_6, σ_7))))
def f_X7_weave (a1 : Int32) (σ : Nat → Nat → Int32) : Option (Int32 × (Nat → Nat → Int32)) := bi (f_X7_isBetween a1 1 64 σ) fun r_1 => if r_1 = 0 then (some ((-1), σ)) else (if (σ 9 0) = 0 then (some ((-2), σ)) else (bi (f_X2_isStanding 16 σ) fun r_2 => if r_2 = 0 then (bi (f_X2_isFull 16 σ) fun r_3 => if r_3 = 0 then (bi (f_X3_keep σ) fun σ_5 => b2 (lp (b_X7_weave_70 a1) FU (0, σ_5)) fun z_8 σ_9 => some (z_8, σ_9)) else (some ((-3), σ))) else (some ((-2), σ))))
set_option maxHeartbeats 4000000 in
set_option maxRecDepth 100000 in
theorem c_X7_weave (l : Launch) (D : va_G) (cI cS : ClassId) (Z : Nat) (K : Nat → Nat) (hL : ly K 0 lyLoom) (a1 : Int32) (σ : Nat → Nat → Int32) (r : Int32) (σ' : Nat → Nat → Int32) (hf : f_X7_weave a1 σ = some (r, σ')) : Met l yX7_weave (wsT yX7_weave cX7_weave 3 (some .int)) { frames := 6, cells := 0, slots := 0, locals := 146 } (Pm D cI cS Z K [.ref (Z + 0), .int a1] σ) (Qi D cI cS Z K r σ') 0 0 (aZ Z) := by
  refine mm_met (lv := [(0, .ref (Z + 0)), (1, .int a1)]) (by decide) (Nat.le_of_ble_eq_true rfl) rfl ?_
  intro p e s m args below meth c ls hx hb hr hml hts hown hlocks hG hl hI hS
  have hown : s.vm.findClass RX7 = some m.cls := hown
  rw [f_X7_weave] at hf
  refine lv_iload_n hx hb dX7_weave_0 rfl (lv_at hl 1 rfl) ?_
  refine lv_iconst (v := 1) hx hb dX7_weave_1 (by decide) ?_
  refine lv_bipush (v := 64) hx hb dX7_weave_2 (by decide) ?_
  obtain ⟨r_1, hr_1, hf⟩ := bi_e hf
  refine kX7_42 hx hb hml hts hown hG hI hS hl.1 (As := [.int a1, .int 1, .int 64]) (c_X7_isBetween l D cI cS Z K a1 1 64 σ _ hr_1) ⟨(Nat.le_of_ble_eq_true rfl), (Nat.le_of_ble_eq_true rfl)⟩ rfl (Nat.le_of_ble_eq_true rfl) ⟨(Nat.le_of_ble_eq_true rfl), (Nat.le_of_ble_eq_true rfl)⟩ dX7_weave_4 (fun hzr_1 H locs hI hS => ?_)
  refine lv_if_ne (tgt := 12) hx hb dX7_weave_7 (by decide) (fun c_36 => ?_) (fun c_36 => ?_)
  · have hf := neg_e c_36 hf
    refine lv_aload_n hx hb dX7_weave_12 rfl (lv_at hl 0 rfl) ?_
    refine gX7_10 (o' := 1) hx hb hts hown hG hI hL rfl dX7_weave_13 ?_
    refine gX7_99 (o' := 9) hx hb hts hown hG hI (ly_sub_7_now hL) rfl dX7_weave_16 ?_
    refine gX7_112 hx hb hts hown hG hI (ly_sub_5_chain (ly_sub_7_now hL)) dX7_weave_19 ?_
    refine lv_if_eq (tgt := 38) hx hb dX7_weave_22 (by decide) (fun c_35 => ?_) (fun c_35 => ?_)
    · have hf := pos_e c_35 hf
      refine lv_bipush (v := (-2)) hx hb dX7_weave_38 (by decide) ?_
      obtain ⟨rfl, rfl⟩ := sp_e hf
      exact mm_ret hx hb hr hlocks rfl hI hS dX7_weave_40
    · have hf := neg_e c_35 hf
      refine lv_aload_n hx hb dX7_weave_25 rfl (lv_at hl 0 rfl) ?_
      refine gX7_10 (o' := 1) hx hb hts hown hG hI hL rfl dX7_weave_26 ?_
      refine gX7_50 (o' := 16) hx hb hts hown hG hI (ly_sub_7_now hL) rfl dX7_weave_29 ?_
      obtain ⟨r_2, hr_2, hf⟩ := bi_e hf
      refine kX7_151 hx hb hml hts hown hG hI hS hl.1 (ly_sub_5_cloth (ly_sub_7_now hL)) (As := []) (c_X2_isStanding l D cI cS Z K 16 (ly_sub_5_cloth (ly_sub_7_now hL)) σ _ hr_2) ⟨(Nat.le_of_ble_eq_true rfl), (Nat.le_of_ble_eq_true rfl)⟩ rfl (Nat.le_of_ble_eq_true rfl) ⟨(Nat.le_of_ble_eq_true rfl), (Nat.le_of_ble_eq_true rfl)⟩ dX7_weave_32 (fun hzr_2 H locs hI hS => ?_)
      refine lv_if_eq (tgt := 41) hx hb dX7_weave_35 (by decide) (fun c_34 => ?_) (fun c_34 => ?_)
      · have hf := pos_e c_34 hf
        refine lv_aload_n hx hb dX7_weave_41 rfl (lv_at hl 0 rfl) ?_
        refine gX7_10 (o' := 1) hx hb hts hown hG hI hL rfl dX7_weave_42 ?_
        refine gX7_50 (o' := 16) hx hb hts hown hG hI (ly_sub_7_now hL) rfl dX7_weave_45 ?_
        obtain ⟨r_3, hr_3, hf⟩ := bi_e hf
        refine kX7_154 hx hb hml hts hown hG hI hS hl.1 (ly_sub_5_cloth (ly_sub_7_now hL)) (As := []) (c_X2_isFull l D cI cS Z K 16 (ly_sub_5_cloth (ly_sub_7_now hL)) σ _ hr_3) ⟨(Nat.le_of_ble_eq_true rfl), (Nat.le_of_ble_eq_true rfl)⟩ rfl (Nat.le_of_ble_eq_true rfl) ⟨(Nat.le_of_ble_eq_true rfl), (Nat.le_of_ble_eq_true rfl)⟩ dX7_weave_48 (fun hzr_3 H locs hI hS => ?_)
        refine lv_if_eq (tgt := 57) hx hb dX7_weave_51 (by decide) (fun c_33 => ?_) (fun c_33 => ?_)
        · have hf := pos_e c_33 hf
          refine lv_aload_n hx hb dX7_weave_57 rfl (lv_at hl 0 rfl) ?_
          refine gX7_19 (o' := 29) hx hb hts hown hG hI hL rfl dX7_weave_58 ?_
          refine lv_aload_n hx hb dX7_weave_61 rfl (lv_at hl 0 rfl) ?_
          refine gX7_10 (o' := 1) hx hb hts hown hG hI hL rfl dX7_weave_62 ?_
          obtain ⟨σ_5, hσ_5, hf⟩ := bi_e hf
          refine kX7_46 hx hb hml hts hown hG hI hS hl.1 (ly_sub_7_history hL) (As := [.ref (Z + 1)]) (c_X3_keep l D cI cS Z K (ly_sub_7_history hL) (ly_sub_7_now hL) σ _ hσ_5) ⟨(Nat.le_of_ble_eq_true rfl), (Nat.le_of_ble_eq_true rfl)⟩ rfl (Nat.le_of_ble_eq_true rfl) ⟨(Nat.le_of_ble_eq_true rfl), (Nat.le_of_ble_eq_true rfl)⟩ dX7_weave_65 (fun H locs hI hS => ?_)
          refine lv_iconst (v := 0) hx hb dX7_weave_68 (by decide) ?_
          refine lv_istore_n (lv' := [(2, .int 0), (0, .ref (Z + 0)), (1, .int a1)]) hx hb dX7_weave_69 rfl hl (by decide) rfl (fun ls hl => ?_)
          have L_11 : ∀ (nn : Nat) (y_6 : Int32) (σ_7 : Nat → Nat → Int32) (z_8 : Int32) (σ_9 : Nat → Nat → Int32), lp (b_X7_weave_70 a1) nn (y_6, σ_7) = some (z_8, σ_9) → (∀ (H : Heap) (locs : List Loc) (ls : Array Slot), fI D cI cS Z K σ_9 H → va_S (aZ Z) s.heap H locs → lv_has ls 3 [(2, .int z_8)] → W p l e { frames := 6, cells := 0, slots := 0, locals := 146 } s m args below meth c H locs 0 0 (MQ below (Qi D cI cS Z K r σ') args s 0 0 (aZ Z)) (F0 m 114 ls [])) → ∀ (H : Heap) (locs : List Loc) (ls : Array Slot), fI D cI cS Z K σ_7 H → va_S (aZ Z) s.heap H locs → lv_has ls 3 [(0, .ref (Z + 0)), (1, .int a1), (2, .int y_6)] → W p l e { frames := 6, cells := 0, slots := 0, locals := 146 } s m args below meth c H locs 0 0 (MQ below (Qi D cI cS Z K r σ') args s 0 0 (aZ Z)) (F0 m 70 ls []) := by
            intro nn
            induction nn with
            | zero =>
              intro y_6 σ_7 z_8 σ_9 hq
              exact (lp_0 hq).elim
            | succ nn ih_12 =>
              intro y_6 σ_7 z_8 σ_9 hq kn_14 H locs ls hI hS hl
              obtain ⟨wb_10, hf, hk_13⟩ := lp_e hq
              rw [b_X7_weave_70] at hf
              have ih_12 := fun (y_6 : Int32) (σ_7 : Nat → Nat → Int32) q => ih_12 y_6 σ_7 z_8 σ_9 q kn_14
              refine lv_iload_n hx hb dX7_weave_70 rfl (lv_at hl 2 rfl) ?_
              refine lv_iload_n hx hb dX7_weave_71 rfl (lv_at hl 1 rfl) ?_
              refine lv_icmp_ge (tgt := 114) hx hb dX7_weave_72 (by decide) (fun c_31 => ?_) (fun c_31 => ?_)
              · have hf := pos_e c_31 hf
                obtain rfl := so_e hf
                obtain ⟨rfl, rfl⟩ := q2_e (lk_r hk_13)
                exact kn_14 _ _ _ hI hS (lv_sub hl [2] rfl)
              · have hf := neg_e c_31 hf
                refine lv_aload_n hx hb dX7_weave_75 rfl (lv_at hl 0 rfl) ?_
                refine gX7_10 (o' := 1) hx hb hts hown hG hI hL rfl dX7_weave_76 ?_
                refine gX7_50 (o' := 16) hx hb hts hown hG hI (ly_sub_7_now hL) rfl dX7_weave_79 ?_
                obtain ⟨r_24, hr_24, hf⟩ := bi_e hf
                refine kX7_154 hx hb hml hts hown hG hI hS hl.1 (ly_sub_5_cloth (ly_sub_7_now hL)) (As := []) (c_X2_isFull l D cI cS Z K 16 (ly_sub_5_cloth (ly_sub_7_now hL)) σ_7 _ hr_24) ⟨(Nat.le_of_ble_eq_true rfl), (Nat.le_of_ble_eq_true rfl)⟩ rfl (Nat.le_of_ble_eq_true rfl) ⟨(Nat.le_of_ble_eq_true rfl), (Nat.le_of_ble_eq_true rfl)⟩ dX7_weave_82 (fun hzr_24 H locs hI hS => ?_)
                refine lv_if_ne (tgt := 114) hx hb dX7_weave_85 (by decide) (fun c_30 => ?_) (fun c_30 => ?_)
                · have hf := neg_e c_30 hf
                  obtain rfl := so_e hf
                  obtain ⟨rfl, rfl⟩ := q2_e (lk_r hk_13)
                  exact kn_14 _ _ _ hI hS (lv_sub hl [2] rfl)
                · have hf := pos_e c_30 hf
                  refine lv_aload_n hx hb dX7_weave_88 rfl (lv_at hl 0 rfl) ?_
                  refine gX7_10 (o' := 1) hx hb hts hown hG hI hL rfl dX7_weave_89 ?_
                  refine gX7_50 (o' := 16) hx hb hts hown hG hI (ly_sub_7_now hL) rfl dX7_weave_92 ?_
                  obtain ⟨r_25, hr_25, hf⟩ := bi_e hf
                  refine kX7_151 hx hb hml hts hown hG hI hS hl.1 (ly_sub_5_cloth (ly_sub_7_now hL)) (As := []) (c_X2_isStanding l D cI cS Z K 16 (ly_sub_5_cloth (ly_sub_7_now hL)) σ_7 _ hr_25) ⟨(Nat.le_of_ble_eq_true rfl), (Nat.le_of_ble_eq_true rfl)⟩ rfl (Nat.le_of_ble_eq_true rfl) ⟨(Nat.le_of_ble_eq_true rfl), (Nat.le_of_ble_eq_true rfl)⟩ dX7_weave_95 (fun hzr_25 H locs hI hS => ?_)
                  refine lv_if_ne (tgt := 114) hx hb dX7_weave_98 (by decide) (fun c_29 => ?_) (fun c_29 => ?_)
                  · have hf := neg_e c_29 hf
                    obtain rfl := so_e hf
                    obtain ⟨rfl, rfl⟩ := q2_e (lk_r hk_13)
                    exact kn_14 _ _ _ hI hS (lv_sub hl [2] rfl)
                  · have hf := pos_e c_29 hf
                    refine lv_aload_n hx hb dX7_weave_101 rfl (lv_at hl 0 rfl) ?_
                    refine gX7_10 (o' := 1) hx hb hts hown hG hI hL rfl dX7_weave_102 ?_
                    obtain ⟨σ_27, hσ_27, hf⟩ := bi_e hf
                    refine kX7_155 hx hb hml hts hown hG hI hS hl.1 (ly_sub_7_now hL) (As := []) (c_X5_makePick l D cI cS Z K 1 (ly_sub_7_now hL) σ_7 _ hσ_27) ⟨(Nat.le_of_ble_eq_true rfl), (Nat.le_of_ble_eq_true rfl)⟩ rfl (Nat.le_of_ble_eq_true rfl) ⟨(Nat.le_of_ble_eq_true rfl), (Nat.le_of_ble_eq_true rfl)⟩ dX7_weave_105 (fun H locs hI hS => ?_)
                    obtain ⟨x_28, ex_28, hf⟩ := vl_e hf
                    refine lv_iinc (v := x_28) (lv' := [(2, .int x_28), (0, .ref (Z + 0)), (1, .int a1)]) hx hb dX7_weave_108 hl (k := 2) rfl (by rw [ex_28]; rfl) (by decide) rfl (fun ls hl => ?_)
                    refine lv_goto (tgt := 70) hx hb dX7_weave_111 (by decide) ?_
                    obtain rfl := so_e hf
                    exact ih_12 x_28 σ_27 hk_13 _ _ _ hI hS (lv_sub hl [1, 2, 0] rfl)
          obtain ⟨z_8, σ_9, hy, hf⟩ := b2_e hf
          refine L_11 FU 0 σ_5 _ _ hy ?_ _ _ _ hI hS (lv_sub hl [1, 2, 0] rfl)
          clear L_11
          intro H locs ls hI hS hl
          refine lv_iload_n hx hb dX7_weave_114 rfl (lv_at hl 0 rfl) ?_
          obtain ⟨rfl, rfl⟩ := sp_e hf
          exact mm_ret hx hb hr hlocks rfl hI hS dX7_weave_115
        · have hf := neg_e c_33 hf
          refine lv_bipush (v := (-3)) hx hb dX7_weave_54 (by decide) ?_
          obtain ⟨rfl, rfl⟩ := sp_e hf
          exact mm_ret hx hb hr hlocks rfl hI hS dX7_weave_56
      · have hf := neg_e c_34 hf
        refine lv_bipush (v := (-2)) hx hb dX7_weave_38 (by decide) ?_
        obtain ⟨rfl, rfl⟩ := sp_e hf
        exact mm_ret hx hb hr hlocks rfl hI hS dX7_weave_40
  · have hf := pos_e c_36 hf
    refine lv_iconst (v := (-1)) hx hb dX7_weave_10 (by decide) ?_
    obtain ⟨rfl, rfl⟩ := sp_e hf
    exact mm_ret hx hb hr hlocks rfl hI hS dX7_weave_11
def f_X7_count (a1 : Int32) (σ : Nat → Nat → Int32) : Option Int32 := if a1 = 0 then (some (σ 2 0)) else (if a1 = 1 then (some (σ 2 1)) else (if a1 = 2 then (some (σ 9 0)) else (if a1 = 3 then (if (σ 9 0) = 0 then (some (-9)) else (some (σ 9 1))) else (if a1 = 4 then (some (σ 9 2)) else (if a1 = 5 then (some (σ 16 0)) else (if a1 = 6 then (bi (f_X2_isStanding 16 σ) fun r_9 => if r_9 = 0 then (some 0) else (some 1)) else (if a1 = 7 then (bi (f_X2_wrongPlaces 16 σ) fun r_12 => some r_12) else (if a1 = 8 then (some (σ 29 2)) else (if a1 = 9 then (some (σ 171 2)) else (some (-1)))))))))))
set_option maxHeartbeats 4000000 in
set_option maxRecDepth 100000 in
theorem c_X7_count (l : Launch) (D : va_G) (cI cS : ClassId) (Z : Nat) (K : Nat → Nat) (hL : ly K 0 lyLoom) (a1 : Int32) (σ : Nat → Nat → Int32) (r : Int32) (hf : f_X7_count a1 σ = some r) : Met l yX7_count (wsT yX7_count cX7_count 2 (some .int)) { frames := 3, cells := 0, slots := 0, locals := 64 } (Pm D cI cS Z K [.ref (Z + 0), .int a1] σ) (Qi D cI cS Z K r σ) 0 0 (aZ Z) := by
  refine mm_met (lv := [(0, .ref (Z + 0)), (1, .int a1)]) (by decide) (Nat.le_of_ble_eq_true rfl) rfl ?_
  intro p e s m args below meth c ls hx hb hr hml hts hown hlocks hG hl hI hS
  have hown : s.vm.findClass RX7 = some m.cls := hown
  rw [f_X7_count] at hf
  refine lv_iload_n hx hb dX7_count_0 rfl (lv_at hl 1 rfl) ?_
  by_cases c_1 : a1 = 0
  · have hf := pos_e c_1 hf
    refine lv_tableIn (off := 55) (tgt := 56) hx hb dX7_count_1 (by rw [c_1]; decide) (by rw [c_1]; decide) (by rw [c_1]; rfl) (by decide) ?_
    refine lv_aload_n hx hb dX7_count_56 rfl (lv_at hl 0 rfl) ?_
    refine gX7_10 (o' := 1) hx hb hts hown hG hI hL rfl dX7_count_57 ?_
    refine gX7_64 (o' := 2) hx hb hts hown hG hI (ly_sub_7_now hL) rfl dX7_count_60 ?_
    refine gX7_137 hx hb hts hown hG hI (ly_sub_5_warp (ly_sub_7_now hL)) dX7_count_63 ?_
    obtain rfl := so_e hf
    exact mm_ret hx hb hr hlocks rfl hI hS dX7_count_66
  have hf := neg_e c_1 hf
  by_cases c_2 : a1 = 1
  · have hf := pos_e c_2 hf
    refine lv_tableIn (off := 66) (tgt := 67) hx hb dX7_count_1 (by rw [c_2]; decide) (by rw [c_2]; decide) (by rw [c_2]; rfl) (by decide) ?_
    refine lv_aload_n hx hb dX7_count_67 rfl (lv_at hl 0 rfl) ?_
    refine gX7_10 (o' := 1) hx hb hts hown hG hI hL rfl dX7_count_68 ?_
    refine gX7_64 (o' := 2) hx hb hts hown hG hI (ly_sub_7_now hL) rfl dX7_count_71 ?_
    refine gX7_167 hx hb hts hown hG hI (ly_sub_5_warp (ly_sub_7_now hL)) dX7_count_74 ?_
    obtain rfl := so_e hf
    exact mm_ret hx hb hr hlocks rfl hI hS dX7_count_77
  have hf := neg_e c_2 hf
  by_cases c_3 : a1 = 2
  · have hf := pos_e c_3 hf
    refine lv_tableIn (off := 77) (tgt := 78) hx hb dX7_count_1 (by rw [c_3]; decide) (by rw [c_3]; decide) (by rw [c_3]; rfl) (by decide) ?_
    refine lv_aload_n hx hb dX7_count_78 rfl (lv_at hl 0 rfl) ?_
    refine gX7_10 (o' := 1) hx hb hts hown hG hI hL rfl dX7_count_79 ?_
    refine gX7_99 (o' := 9) hx hb hts hown hG hI (ly_sub_7_now hL) rfl dX7_count_82 ?_
    refine gX7_112 hx hb hts hown hG hI (ly_sub_5_chain (ly_sub_7_now hL)) dX7_count_85 ?_
    obtain rfl := so_e hf
    exact mm_ret hx hb hr hlocks rfl hI hS dX7_count_88
  have hf := neg_e c_3 hf
  by_cases c_4 : a1 = 3
  · have hf := pos_e c_4 hf
    refine lv_tableIn (off := 88) (tgt := 89) hx hb dX7_count_1 (by rw [c_4]; decide) (by rw [c_4]; decide) (by rw [c_4]; rfl) (by decide) ?_
    refine lv_aload_n hx hb dX7_count_89 rfl (lv_at hl 0 rfl) ?_
    refine gX7_10 (o' := 1) hx hb hts hown hG hI hL rfl dX7_count_90 ?_
    refine gX7_99 (o' := 9) hx hb hts hown hG hI (ly_sub_7_now hL) rfl dX7_count_93 ?_
    refine gX7_112 hx hb hts hown hG hI (ly_sub_5_chain (ly_sub_7_now hL)) dX7_count_96 ?_
    refine lv_if_ne (tgt := 107) hx hb dX7_count_99 (by decide) (fun c_5 => ?_) (fun c_5 => ?_)
    · have hf := neg_e c_5 hf
      refine lv_aload_n hx hb dX7_count_107 rfl (lv_at hl 0 rfl) ?_
      refine gX7_10 (o' := 1) hx hb hts hown hG hI hL rfl dX7_count_108 ?_
      refine gX7_99 (o' := 9) hx hb hts hown hG hI (ly_sub_7_now hL) rfl dX7_count_111 ?_
      refine gX7_125 hx hb hts hown hG hI (ly_sub_5_chain (ly_sub_7_now hL)) dX7_count_114 ?_
      obtain rfl := so_e hf
      exact mm_ret hx hb hr hlocks rfl hI hS dX7_count_117
    · have hf := pos_e c_5 hf
      refine lv_bipush (v := (-9)) hx hb dX7_count_102 (by decide) ?_
      refine lv_goto (tgt := 117) hx hb dX7_count_104 (by decide) ?_
      obtain rfl := so_e hf
      exact mm_ret hx hb hr hlocks rfl hI hS dX7_count_117
  have hf := neg_e c_4 hf
  by_cases c_6 : a1 = 4
  · have hf := pos_e c_6 hf
    refine lv_tableIn (off := 117) (tgt := 118) hx hb dX7_count_1 (by rw [c_6]; decide) (by rw [c_6]; decide) (by rw [c_6]; rfl) (by decide) ?_
    refine lv_aload_n hx hb dX7_count_118 rfl (lv_at hl 0 rfl) ?_
    refine gX7_10 (o' := 1) hx hb hts hown hG hI hL rfl dX7_count_119 ?_
    refine gX7_99 (o' := 9) hx hb hts hown hG hI (ly_sub_7_now hL) rfl dX7_count_122 ?_
    refine gX7_122 hx hb hts hown hG hI (ly_sub_5_chain (ly_sub_7_now hL)) dX7_count_125 ?_
    obtain rfl := so_e hf
    exact mm_ret hx hb hr hlocks rfl hI hS dX7_count_128
  have hf := neg_e c_6 hf
  by_cases c_7 : a1 = 5
  · have hf := pos_e c_7 hf
    refine lv_tableIn (off := 128) (tgt := 129) hx hb dX7_count_1 (by rw [c_7]; decide) (by rw [c_7]; decide) (by rw [c_7]; rfl) (by decide) ?_
    refine lv_aload_n hx hb dX7_count_129 rfl (lv_at hl 0 rfl) ?_
    refine gX7_10 (o' := 1) hx hb hts hown hG hI hL rfl dX7_count_130 ?_
    refine gX7_50 (o' := 16) hx hb hts hown hG hI (ly_sub_7_now hL) rfl dX7_count_133 ?_
    refine gX7_54 hx hb hts hown hG hI (ly_sub_5_cloth (ly_sub_7_now hL)) dX7_count_136 ?_
    obtain rfl := so_e hf
    exact mm_ret hx hb hr hlocks rfl hI hS dX7_count_139
  have hf := neg_e c_7 hf
  by_cases c_8 : a1 = 6
  · have hf := pos_e c_8 hf
    refine lv_tableIn (off := 139) (tgt := 140) hx hb dX7_count_1 (by rw [c_8]; decide) (by rw [c_8]; decide) (by rw [c_8]; rfl) (by decide) ?_
    refine lv_aload_n hx hb dX7_count_140 rfl (lv_at hl 0 rfl) ?_
    refine gX7_10 (o' := 1) hx hb hts hown hG hI hL rfl dX7_count_141 ?_
    refine gX7_50 (o' := 16) hx hb hts hown hG hI (ly_sub_7_now hL) rfl dX7_count_144 ?_
    obtain ⟨r_9, hr_9, hf⟩ := bi_e hf
    refine kX7_151 hx hb hml hts hown hG hI hS hl.1 (ly_sub_5_cloth (ly_sub_7_now hL)) (As := []) (c_X2_isStanding l D cI cS Z K 16 (ly_sub_5_cloth (ly_sub_7_now hL)) σ _ hr_9) ⟨(Nat.le_of_ble_eq_true rfl), (Nat.le_of_ble_eq_true rfl)⟩ rfl (Nat.le_of_ble_eq_true rfl) ⟨(Nat.le_of_ble_eq_true rfl), (Nat.le_of_ble_eq_true rfl)⟩ dX7_count_147 (fun hzr_9 H locs hI hS => ?_)
    refine lv_if_eq (tgt := 157) hx hb dX7_count_150 (by decide) (fun c_10 => ?_) (fun c_10 => ?_)
    · have hf := pos_e c_10 hf
      refine lv_iconst (v := 0) hx hb dX7_count_157 (by decide) ?_
      obtain rfl := so_e hf
      exact mm_ret hx hb hr hlocks rfl hI hS dX7_count_158
    · have hf := neg_e c_10 hf
      refine lv_iconst (v := 1) hx hb dX7_count_153 (by decide) ?_
      refine lv_goto (tgt := 158) hx hb dX7_count_154 (by decide) ?_
      obtain rfl := so_e hf
      exact mm_ret hx hb hr hlocks rfl hI hS dX7_count_158
  have hf := neg_e c_8 hf
  by_cases c_11 : a1 = 7
  · have hf := pos_e c_11 hf
    refine lv_tableIn (off := 158) (tgt := 159) hx hb dX7_count_1 (by rw [c_11]; decide) (by rw [c_11]; decide) (by rw [c_11]; rfl) (by decide) ?_
    refine lv_aload_n hx hb dX7_count_159 rfl (lv_at hl 0 rfl) ?_
    refine gX7_10 (o' := 1) hx hb hts hown hG hI hL rfl dX7_count_160 ?_
    refine gX7_50 (o' := 16) hx hb hts hown hG hI (ly_sub_7_now hL) rfl dX7_count_163 ?_
    obtain ⟨r_12, hr_12, hf⟩ := bi_e hf
    refine kX7_170 hx hb hml hts hown hG hI hS hl.1 (ly_sub_5_cloth (ly_sub_7_now hL)) (As := []) (c_X2_wrongPlaces l D cI cS Z K 16 (ly_sub_5_cloth (ly_sub_7_now hL)) σ _ hr_12) ⟨(Nat.le_of_ble_eq_true rfl), (Nat.le_of_ble_eq_true rfl)⟩ rfl (Nat.le_of_ble_eq_true rfl) ⟨(Nat.le_of_ble_eq_true rfl), (Nat.le_of_ble_eq_true rfl)⟩ dX7_count_166 (fun H locs hI hS => ?_)
    obtain rfl := so_e hf
    exact mm_ret hx hb hr hlocks rfl hI hS dX7_count_169
  have hf := neg_e c_11 hf
  by_cases c_13 : a1 = 8
  · have hf := pos_e c_13 hf
    refine lv_tableIn (off := 169) (tgt := 170) hx hb dX7_count_1 (by rw [c_13]; decide) (by rw [c_13]; decide) (by rw [c_13]; rfl) (by decide) ?_
    refine lv_aload_n hx hb dX7_count_170 rfl (lv_at hl 0 rfl) ?_
    refine gX7_19 (o' := 29) hx hb hts hown hG hI hL rfl dX7_count_171 ?_
    refine gX7_161 hx hb hts hown hG hI (ly_sub_7_history hL) dX7_count_174 ?_
    obtain rfl := so_e hf
    exact mm_ret hx hb hr hlocks rfl hI hS dX7_count_177
  have hf := neg_e c_13 hf
  by_cases c_14 : a1 = 9
  · have hf := pos_e c_14 hf
    refine lv_tableIn (off := 177) (tgt := 178) hx hb dX7_count_1 (by rw [c_14]; decide) (by rw [c_14]; decide) (by rw [c_14]; rfl) (by decide) ?_
    refine lv_aload_n hx hb dX7_count_178 rfl (lv_at hl 0 rfl) ?_
    refine gX7_26 (o' := 171) hx hb hts hown hG hI hL rfl dX7_count_179 ?_
    refine gX7_134 hx hb hts hown hG hI (ly_sub_7_reader hL) dX7_count_182 ?_
    obtain rfl := so_e hf
    exact mm_ret hx hb hr hlocks rfl hI hS dX7_count_185
  have hf := neg_e c_14 hf
  refine lv_tableOut (tgt := 186) hx hb dX7_count_1 (sw_out9 c_1 c_2 c_3 c_4 c_6 c_7 c_8 c_11 c_13 c_14) (by decide) ?_
  refine lv_iconst (v := (-1)) hx hb dX7_count_186 (by decide) ?_
  obtain rfl := so_e hf
  exact mm_ret hx hb hr hlocks rfl hI hS dX7_count_187
def f_X7_end (a1 : Int32) (a2 : Int32) (σ : Nat → Nat → Int32) : Option Int32 := bi (f_X6_hasEnd 2 a1 σ) fun r_1 => if r_1 = 0 then (some (-1)) else (if a2 = 0 then (bi (f_X4_at 3 32 a1 σ) fun r_3 => some r_3) else (if a2 = 1 then (bi (f_X4_at 5 32 a1 σ) fun r_5 => some r_5) else (if a2 = 2 then (bi (f_X2_rowsAbove 16 a1 σ) fun r_7 => some r_7) else (if a2 = 3 then (bi (f_X2_rowsWrong 16 a1 σ) fun r_9 => some r_9) else (if a2 = 4 then (bi (f_X2_longestFloat 16 0 a1 (σ 16 0) σ) fun r_11 => some r_11) else (some (-1)))))))
set_option maxHeartbeats 4000000 in
set_option maxRecDepth 100000 in
theorem c_X7_end (l : Launch) (D : va_G) (cI cS : ClassId) (Z : Nat) (K : Nat → Nat) (hL : ly K 0 lyLoom) (a1 : Int32) (a2 : Int32) (σ : Nat → Nat → Int32) (r : Int32) (hf : f_X7_end a1 a2 σ = some r) : Met l yX7_end (wsT yX7_end cX7_end 3 (some .int)) { frames := 4, cells := 0, slots := 0, locals := 94 } (Pm D cI cS Z K [.ref (Z + 0), .int a1, .int a2] σ) (Qi D cI cS Z K r σ) 0 0 (aZ Z) := by
  refine mm_met (lv := [(0, .ref (Z + 0)), (1, .int a1), (2, .int a2)]) (by decide) (Nat.le_of_ble_eq_true rfl) rfl ?_
  intro p e s m args below meth c ls hx hb hr hml hts hown hlocks hG hl hI hS
  have hown : s.vm.findClass RX7 = some m.cls := hown
  rw [f_X7_end] at hf
  refine lv_aload_n hx hb dX7_end_0 rfl (lv_at hl 0 rfl) ?_
  refine gX7_10 (o' := 1) hx hb hts hown hG hI hL rfl dX7_end_1 ?_
  refine gX7_64 (o' := 2) hx hb hts hown hG hI (ly_sub_7_now hL) rfl dX7_end_4 ?_
  refine lv_iload_n hx hb dX7_end_7 rfl (lv_at hl 1 rfl) ?_
  obtain ⟨r_1, hr_1, hf⟩ := bi_e hf
  refine kX7_68 hx hb hml hts hown hG hI hS hl.1 (ly_sub_5_warp (ly_sub_7_now hL)) (As := [.int a1]) (c_X6_hasEnd l D cI cS Z K 2 (ly_sub_5_warp (ly_sub_7_now hL)) a1 σ _ hr_1) ⟨(Nat.le_of_ble_eq_true rfl), (Nat.le_of_ble_eq_true rfl)⟩ rfl (Nat.le_of_ble_eq_true rfl) ⟨(Nat.le_of_ble_eq_true rfl), (Nat.le_of_ble_eq_true rfl)⟩ dX7_end_8 (fun hzr_1 H locs hI hS => ?_)
  refine lv_if_ne (tgt := 16) hx hb dX7_end_11 (by decide) (fun c_12 => ?_) (fun c_12 => ?_)
  · have hf := neg_e c_12 hf
    refine lv_iload_n hx hb dX7_end_16 rfl (lv_at hl 2 rfl) ?_
    by_cases c_2 : a2 = 0
    · have hf := pos_e c_2 hf
      refine lv_tableIn (off := 35) (tgt := 52) hx hb dX7_end_17 (by rw [c_2]; decide) (by rw [c_2]; decide) (by rw [c_2]; rfl) (by decide) ?_
      refine lv_aload_n hx hb dX7_end_52 rfl (lv_at hl 0 rfl) ?_
      refine gX7_10 (o' := 1) hx hb hts hown hG hI hL rfl dX7_end_53 ?_
      refine gX7_64 (o' := 2) hx hb hts hown hG hI (ly_sub_7_now hL) rfl dX7_end_56 ?_
      refine gX7_80 (o' := 3) hx hb hts hown hG hI (ly_sub_5_warp (ly_sub_7_now hL)) rfl dX7_end_59 ?_
      refine lv_iload_n hx hb dX7_end_62 rfl (lv_at hl 1 rfl) ?_
      obtain ⟨r_3, hr_3, hf⟩ := bi_e hf
      refine kX7_83 hx hb hml hts hown hG hI hS hl.1 (ly_sub_6_shaftOf (ly_sub_5_warp (ly_sub_7_now hL))) (As := [.int a1]) (c_X4_at l D cI cS Z K 3 32 (ly_sub_6_shaftOf (ly_sub_5_warp (ly_sub_7_now hL))) a1 σ _ hr_3) ⟨(Nat.le_of_ble_eq_true rfl), (Nat.le_of_ble_eq_true rfl)⟩ rfl (Nat.le_of_ble_eq_true rfl) ⟨(Nat.le_of_ble_eq_true rfl), (Nat.le_of_ble_eq_true rfl)⟩ dX7_end_63 (fun H locs hI hS => ?_)
      obtain rfl := so_e hf
      exact mm_ret hx hb hr hlocks rfl hI hS dX7_end_66
    have hf := neg_e c_2 hf
    by_cases c_4 : a2 = 1
    · have hf := pos_e c_4 hf
      refine lv_tableIn (off := 50) (tgt := 67) hx hb dX7_end_17 (by rw [c_4]; decide) (by rw [c_4]; decide) (by rw [c_4]; rfl) (by decide) ?_
      refine lv_aload_n hx hb dX7_end_67 rfl (lv_at hl 0 rfl) ?_
      refine gX7_10 (o' := 1) hx hb hts hown hG hI hL rfl dX7_end_68 ?_
      refine gX7_64 (o' := 2) hx hb hts hown hG hI (ly_sub_7_now hL) rfl dX7_end_71 ?_
      refine gX7_87 (o' := 5) hx hb hts hown hG hI (ly_sub_5_warp (ly_sub_7_now hL)) rfl dX7_end_74 ?_
      refine lv_iload_n hx hb dX7_end_77 rfl (lv_at hl 1 rfl) ?_
      obtain ⟨r_5, hr_5, hf⟩ := bi_e hf
      refine kX7_83 hx hb hml hts hown hG hI hS hl.1 (ly_sub_6_colorOf (ly_sub_5_warp (ly_sub_7_now hL))) (As := [.int a1]) (c_X4_at l D cI cS Z K 5 32 (ly_sub_6_colorOf (ly_sub_5_warp (ly_sub_7_now hL))) a1 σ _ hr_5) ⟨(Nat.le_of_ble_eq_true rfl), (Nat.le_of_ble_eq_true rfl)⟩ rfl (Nat.le_of_ble_eq_true rfl) ⟨(Nat.le_of_ble_eq_true rfl), (Nat.le_of_ble_eq_true rfl)⟩ dX7_end_78 (fun H locs hI hS => ?_)
      obtain rfl := so_e hf
      exact mm_ret hx hb hr hlocks rfl hI hS dX7_end_81
    have hf := neg_e c_4 hf
    by_cases c_6 : a2 = 2
    · have hf := pos_e c_6 hf
      refine lv_tableIn (off := 65) (tgt := 82) hx hb dX7_end_17 (by rw [c_6]; decide) (by rw [c_6]; decide) (by rw [c_6]; rfl) (by decide) ?_
      refine lv_aload_n hx hb dX7_end_82 rfl (lv_at hl 0 rfl) ?_
      refine gX7_10 (o' := 1) hx hb hts hown hG hI hL rfl dX7_end_83 ?_
      refine gX7_50 (o' := 16) hx hb hts hown hG hI (ly_sub_7_now hL) rfl dX7_end_86 ?_
      refine lv_iload_n hx hb dX7_end_89 rfl (lv_at hl 1 rfl) ?_
      obtain ⟨r_7, hr_7, hf⟩ := bi_e hf
      refine kX7_174 hx hb hml hts hown hG hI hS hl.1 (ly_sub_5_cloth (ly_sub_7_now hL)) (As := [.int a1]) (c_X2_rowsAbove l D cI cS Z K 16 (ly_sub_5_cloth (ly_sub_7_now hL)) a1 σ _ hr_7) ⟨(Nat.le_of_ble_eq_true rfl), (Nat.le_of_ble_eq_true rfl)⟩ rfl (Nat.le_of_ble_eq_true rfl) ⟨(Nat.le_of_ble_eq_true rfl), (Nat.le_of_ble_eq_true rfl)⟩ dX7_end_90 (fun H locs hI hS => ?_)
      obtain rfl := so_e hf
      exact mm_ret hx hb hr hlocks rfl hI hS dX7_end_93
    have hf := neg_e c_6 hf
    by_cases c_8 : a2 = 3
    · have hf := pos_e c_8 hf
      refine lv_tableIn (off := 77) (tgt := 94) hx hb dX7_end_17 (by rw [c_8]; decide) (by rw [c_8]; decide) (by rw [c_8]; rfl) (by decide) ?_
      refine lv_aload_n hx hb dX7_end_94 rfl (lv_at hl 0 rfl) ?_
      refine gX7_10 (o' := 1) hx hb hts hown hG hI hL rfl dX7_end_95 ?_
      refine gX7_50 (o' := 16) hx hb hts hown hG hI (ly_sub_7_now hL) rfl dX7_end_98 ?_
      refine lv_iload_n hx hb dX7_end_101 rfl (lv_at hl 1 rfl) ?_
      obtain ⟨r_9, hr_9, hf⟩ := bi_e hf
      refine kX7_177 hx hb hml hts hown hG hI hS hl.1 (ly_sub_5_cloth (ly_sub_7_now hL)) (As := [.int a1]) (c_X2_rowsWrong l D cI cS Z K 16 (ly_sub_5_cloth (ly_sub_7_now hL)) a1 σ _ hr_9) ⟨(Nat.le_of_ble_eq_true rfl), (Nat.le_of_ble_eq_true rfl)⟩ rfl (Nat.le_of_ble_eq_true rfl) ⟨(Nat.le_of_ble_eq_true rfl), (Nat.le_of_ble_eq_true rfl)⟩ dX7_end_102 (fun H locs hI hS => ?_)
      obtain rfl := so_e hf
      exact mm_ret hx hb hr hlocks rfl hI hS dX7_end_105
    have hf := neg_e c_8 hf
    by_cases c_10 : a2 = 4
    · have hf := pos_e c_10 hf
      refine lv_tableIn (off := 89) (tgt := 106) hx hb dX7_end_17 (by rw [c_10]; decide) (by rw [c_10]; decide) (by rw [c_10]; rfl) (by decide) ?_
      refine lv_aload_n hx hb dX7_end_106 rfl (lv_at hl 0 rfl) ?_
      refine gX7_10 (o' := 1) hx hb hts hown hG hI hL rfl dX7_end_107 ?_
      refine gX7_50 (o' := 16) hx hb hts hown hG hI (ly_sub_7_now hL) rfl dX7_end_110 ?_
      refine lv_iconst (v := 0) hx hb dX7_end_113 (by decide) ?_
      refine lv_iload_n hx hb dX7_end_114 rfl (lv_at hl 1 rfl) ?_
      refine lv_aload_n hx hb dX7_end_115 rfl (lv_at hl 0 rfl) ?_
      refine gX7_10 (o' := 1) hx hb hts hown hG hI hL rfl dX7_end_116 ?_
      refine gX7_50 (o' := 16) hx hb hts hown hG hI (ly_sub_7_now hL) rfl dX7_end_119 ?_
      refine gX7_54 hx hb hts hown hG hI (ly_sub_5_cloth (ly_sub_7_now hL)) dX7_end_122 ?_
      obtain ⟨r_11, hr_11, hf⟩ := bi_e hf
      refine kX7_180 hx hb hml hts hown hG hI hS hl.1 (ly_sub_5_cloth (ly_sub_7_now hL)) (As := [.int 0, .int a1, .int (σ 16 0)]) (c_X2_longestFloat l D cI cS Z K 16 (ly_sub_5_cloth (ly_sub_7_now hL)) 0 a1 (σ 16 0) σ _ hr_11) ⟨(Nat.le_of_ble_eq_true rfl), (Nat.le_of_ble_eq_true rfl)⟩ rfl (Nat.le_of_ble_eq_true rfl) ⟨(Nat.le_of_ble_eq_true rfl), (Nat.le_of_ble_eq_true rfl)⟩ dX7_end_125 (fun H locs hI hS => ?_)
      obtain rfl := so_e hf
      exact mm_ret hx hb hr hlocks rfl hI hS dX7_end_128
    have hf := neg_e c_10 hf
    refine lv_tableOut (tgt := 129) hx hb dX7_end_17 (sw_out4 c_2 c_4 c_6 c_8 c_10) (by decide) ?_
    refine lv_iconst (v := (-1)) hx hb dX7_end_129 (by decide) ?_
    obtain rfl := so_e hf
    exact mm_ret hx hb hr hlocks rfl hI hS dX7_end_130
  · have hf := pos_e c_12 hf
    refine lv_iconst (v := (-1)) hx hb dX7_end_14 (by decide) ?_
    obtain rfl := so_e hf
    exact mm_ret hx hb hr hlocks rfl hI hS dX7_end_15
def f_X7_bar (a1 : Int32) (a2 : Int32) (σ : Nat → Nat → Int32) : Option Int32 := bi (f_X0_hasBar 9 a1 σ) fun r_1 => if r_1 = 0 then (some (-1)) else (bi (f_X4_at 10 24 a1 σ) fun r_2 => if a2 = 0 then (some r_2) else (if a2 = 1 then (bi (f_X4_at 12 24 a1 σ) fun r_5 => some r_5) else (if a2 = 2 then (bi (f_X6_liftedShafts 2 r_2 σ) fun r_7 => some r_7) else (if a2 = 3 then (bi (f_X6_yarnOfWholePick 2 r_2 σ) fun r_9 => some r_9) else (some (-1))))))
set_option maxHeartbeats 4000000 in
set_option maxRecDepth 100000 in
theorem c_X7_bar (l : Launch) (D : va_G) (cI cS : ClassId) (Z : Nat) (K : Nat → Nat) (hL : ly K 0 lyLoom) (a1 : Int32) (a2 : Int32) (σ : Nat → Nat → Int32) (r : Int32) (hf : f_X7_bar a1 a2 σ = some r) : Met l yX7_bar (wsT yX7_bar cX7_bar 4 (some .int)) { frames := 3, cells := 0, slots := 0, locals := 68 } (Pm D cI cS Z K [.ref (Z + 0), .int a1, .int a2] σ) (Qi D cI cS Z K r σ) 0 0 (aZ Z) := by
  refine mm_met (lv := [(0, .ref (Z + 0)), (1, .int a1), (2, .int a2)]) (by decide) (Nat.le_of_ble_eq_true rfl) rfl ?_
  intro p e s m args below meth c ls hx hb hr hml hts hown hlocks hG hl hI hS
  have hown : s.vm.findClass RX7 = some m.cls := hown
  rw [f_X7_bar] at hf
  refine lv_aload_n hx hb dX7_bar_0 rfl (lv_at hl 0 rfl) ?_
  refine gX7_10 (o' := 1) hx hb hts hown hG hI hL rfl dX7_bar_1 ?_
  refine gX7_99 (o' := 9) hx hb hts hown hG hI (ly_sub_7_now hL) rfl dX7_bar_4 ?_
  refine lv_iload_n hx hb dX7_bar_7 rfl (lv_at hl 1 rfl) ?_
  obtain ⟨r_1, hr_1, hf⟩ := bi_e hf
  refine kX7_115 hx hb hml hts hown hG hI hS hl.1 (ly_sub_5_chain (ly_sub_7_now hL)) (As := [.int a1]) (c_X0_hasBar l D cI cS Z K 9 (ly_sub_5_chain (ly_sub_7_now hL)) a1 σ _ hr_1) ⟨(Nat.le_of_ble_eq_true rfl), (Nat.le_of_ble_eq_true rfl)⟩ rfl (Nat.le_of_ble_eq_true rfl) ⟨(Nat.le_of_ble_eq_true rfl), (Nat.le_of_ble_eq_true rfl)⟩ dX7_bar_8 (fun hzr_1 H locs hI hS => ?_)
  refine lv_if_ne (tgt := 16) hx hb dX7_bar_11 (by decide) (fun c_10 => ?_) (fun c_10 => ?_)
  · have hf := neg_e c_10 hf
    refine lv_aload_n hx hb dX7_bar_16 rfl (lv_at hl 0 rfl) ?_
    refine gX7_10 (o' := 1) hx hb hts hown hG hI hL rfl dX7_bar_17 ?_
    refine gX7_99 (o' := 9) hx hb hts hown hG hI (ly_sub_7_now hL) rfl dX7_bar_20 ?_
    refine gX7_118 (o' := 10) hx hb hts hown hG hI (ly_sub_5_chain (ly_sub_7_now hL)) rfl dX7_bar_23 ?_
    refine lv_iload_n hx hb dX7_bar_26 rfl (lv_at hl 1 rfl) ?_
    obtain ⟨r_2, hr_2, hf⟩ := bi_e hf
    refine kX7_83 hx hb hml hts hown hG hI hS hl.1 (ly_sub_0_liftOf (ly_sub_5_chain (ly_sub_7_now hL))) (As := [.int a1]) (c_X4_at l D cI cS Z K 10 24 (ly_sub_0_liftOf (ly_sub_5_chain (ly_sub_7_now hL))) a1 σ _ hr_2) ⟨(Nat.le_of_ble_eq_true rfl), (Nat.le_of_ble_eq_true rfl)⟩ rfl (Nat.le_of_ble_eq_true rfl) ⟨(Nat.le_of_ble_eq_true rfl), (Nat.le_of_ble_eq_true rfl)⟩ dX7_bar_27 (fun H locs hI hS => ?_)
    refine lv_istore_n (lv' := [(3, .int r_2), (0, .ref (Z + 0)), (1, .int a1), (2, .int a2)]) hx hb dX7_bar_30 rfl hl (by decide) rfl (fun ls hl => ?_)
    refine lv_iload_n hx hb dX7_bar_31 rfl (lv_at hl 3 rfl) ?_
    by_cases c_3 : a2 = 0
    · have hf := pos_e c_3 hf
      refine lv_tableIn (off := 32) (tgt := 64) hx hb dX7_bar_32 (by rw [c_3]; decide) (by rw [c_3]; decide) (by rw [c_3]; rfl) (by decide) ?_
      refine lv_iload_n hx hb dX7_bar_64 rfl (lv_at hl 0 rfl) ?_
      obtain rfl := so_e hf
      exact mm_ret hx hb hr hlocks rfl hI hS dX7_bar_65
    have hf := neg_e c_3 hf
    by_cases c_4 : a2 = 1
    · have hf := pos_e c_4 hf
      refine lv_tableIn (off := 34) (tgt := 66) hx hb dX7_bar_32 (by rw [c_4]; decide) (by rw [c_4]; decide) (by rw [c_4]; rfl) (by decide) ?_
      refine lv_aload_n hx hb dX7_bar_66 rfl (lv_at hl 1 rfl) ?_
      refine gX7_10 (o' := 1) hx hb hts hown hG hI hL rfl dX7_bar_67 ?_
      refine gX7_99 (o' := 9) hx hb hts hown hG hI (ly_sub_7_now hL) rfl dX7_bar_70 ?_
      refine gX7_121 (o' := 12) hx hb hts hown hG hI (ly_sub_5_chain (ly_sub_7_now hL)) rfl dX7_bar_73 ?_
      refine lv_iload_n hx hb dX7_bar_76 rfl (lv_at hl 2 rfl) ?_
      obtain ⟨r_5, hr_5, hf⟩ := bi_e hf
      refine kX7_83 hx hb hml hts hown hG hI hS hl.1 (ly_sub_0_colorOf (ly_sub_5_chain (ly_sub_7_now hL))) (As := [.int a1]) (c_X4_at l D cI cS Z K 12 24 (ly_sub_0_colorOf (ly_sub_5_chain (ly_sub_7_now hL))) a1 σ _ hr_5) ⟨(Nat.le_of_ble_eq_true rfl), (Nat.le_of_ble_eq_true rfl)⟩ rfl (Nat.le_of_ble_eq_true rfl) ⟨(Nat.le_of_ble_eq_true rfl), (Nat.le_of_ble_eq_true rfl)⟩ dX7_bar_77 (fun H locs hI hS => ?_)
      obtain rfl := so_e hf
      exact mm_ret hx hb hr hlocks rfl hI hS dX7_bar_80
    have hf := neg_e c_4 hf
    by_cases c_6 : a2 = 2
    · have hf := pos_e c_6 hf
      refine lv_tableIn (off := 49) (tgt := 81) hx hb dX7_bar_32 (by rw [c_6]; decide) (by rw [c_6]; decide) (by rw [c_6]; rfl) (by decide) ?_
      refine lv_aload_n hx hb dX7_bar_81 rfl (lv_at hl 1 rfl) ?_
      refine gX7_10 (o' := 1) hx hb hts hown hG hI hL rfl dX7_bar_82 ?_
      refine gX7_64 (o' := 2) hx hb hts hown hG hI (ly_sub_7_now hL) rfl dX7_bar_85 ?_
      refine lv_iload_n hx hb dX7_bar_88 rfl (lv_at hl 0 rfl) ?_
      obtain ⟨r_7, hr_7, hf⟩ := bi_e hf
      refine kX7_184 hx hb hml hts hown hG hI hS hl.1 (ly_sub_5_warp (ly_sub_7_now hL)) (As := [.int r_2]) (c_X6_liftedShafts l D cI cS Z K 2 (ly_sub_5_warp (ly_sub_7_now hL)) r_2 σ _ hr_7) ⟨(Nat.le_of_ble_eq_true rfl), (Nat.le_of_ble_eq_true rfl)⟩ rfl (Nat.le_of_ble_eq_true rfl) ⟨(Nat.le_of_ble_eq_true rfl), (Nat.le_of_ble_eq_true rfl)⟩ dX7_bar_89 (fun H locs hI hS => ?_)
      obtain rfl := so_e hf
      exact mm_ret hx hb hr hlocks rfl hI hS dX7_bar_92
    have hf := neg_e c_6 hf
    by_cases c_8 : a2 = 3
    · have hf := pos_e c_8 hf
      refine lv_tableIn (off := 61) (tgt := 93) hx hb dX7_bar_32 (by rw [c_8]; decide) (by rw [c_8]; decide) (by rw [c_8]; rfl) (by decide) ?_
      refine lv_aload_n hx hb dX7_bar_93 rfl (lv_at hl 1 rfl) ?_
      refine gX7_10 (o' := 1) hx hb hts hown hG hI hL rfl dX7_bar_94 ?_
      refine gX7_64 (o' := 2) hx hb hts hown hG hI (ly_sub_7_now hL) rfl dX7_bar_97 ?_
      refine lv_iload_n hx hb dX7_bar_100 rfl (lv_at hl 0 rfl) ?_
      obtain ⟨r_9, hr_9, hf⟩ := bi_e hf
      refine kX7_187 hx hb hml hts hown hG hI hS hl.1 (ly_sub_5_warp (ly_sub_7_now hL)) (As := [.int r_2]) (c_X6_yarnOfWholePick l D cI cS Z K 2 (ly_sub_5_warp (ly_sub_7_now hL)) r_2 σ _ hr_9) ⟨(Nat.le_of_ble_eq_true rfl), (Nat.le_of_ble_eq_true rfl)⟩ rfl (Nat.le_of_ble_eq_true rfl) ⟨(Nat.le_of_ble_eq_true rfl), (Nat.le_of_ble_eq_true rfl)⟩ dX7_bar_101 (fun H locs hI hS => ?_)
      obtain rfl := so_e hf
      exact mm_ret hx hb hr hlocks rfl hI hS dX7_bar_104
    have hf := neg_e c_8 hf
    refine lv_tableOut (tgt := 105) hx hb dX7_bar_32 (sw_out3 c_3 c_4 c_6 c_8) (by decide) ?_
    refine lv_iconst (v := (-1)) hx hb dX7_bar_105 (by decide) ?_
    obtain rfl := so_e hf
    exact mm_ret hx hb hr hlocks rfl hI hS dX7_bar_106
  · have hf := pos_e c_10 hf
    refine lv_iconst (v := (-1)) hx hb dX7_bar_14 (by decide) ?_
    obtain rfl := so_e hf
    exact mm_ret hx hb hr hlocks rfl hI hS dX7_bar_15
def f_X7_yarn (a1 : Int32) (σ : Nat → Nat → Int32) : Option Int32 := bi (f_X7_isColor a1 σ) fun r_1 => if r_1 = 0 then (some (-1)) else (bi (f_X4_at 14 10 a1 σ) fun r_2 => some r_2)
set_option maxHeartbeats 4000000 in
set_option maxRecDepth 100000 in
theorem c_X7_yarn (l : Launch) (D : va_G) (cI cS : ClassId) (Z : Nat) (K : Nat → Nat) (hL : ly K 0 lyLoom) (a1 : Int32) (σ : Nat → Nat → Int32) (r : Int32) (hf : f_X7_yarn a1 σ = some r) : Met l yX7_yarn (wsT yX7_yarn cX7_yarn 2 (some .int)) { frames := 2, cells := 0, slots := 0, locals := 42 } (Pm D cI cS Z K [.ref (Z + 0), .int a1] σ) (Qi D cI cS Z K r σ) 0 0 (aZ Z) := by
  refine mm_met (lv := [(0, .ref (Z + 0)), (1, .int a1)]) (by decide) (Nat.le_of_ble_eq_true rfl) rfl ?_
  intro p e s m args below meth c ls hx hb hr hml hts hown hlocks hG hl hI hS
  have hown : s.vm.findClass RX7 = some m.cls := hown
  rw [f_X7_yarn] at hf
  refine lv_iload_n hx hb dX7_yarn_0 rfl (lv_at hl 1 rfl) ?_
  obtain ⟨r_1, hr_1, hf⟩ := bi_e hf
  refine kX7_77 hx hb hml hts hown hG hI hS hl.1 (As := [.int a1]) (c_X7_isColor l D cI cS Z K a1 σ _ hr_1) ⟨(Nat.le_of_ble_eq_true rfl), (Nat.le_of_ble_eq_true rfl)⟩ rfl (Nat.le_of_ble_eq_true rfl) ⟨(Nat.le_of_ble_eq_true rfl), (Nat.le_of_ble_eq_true rfl)⟩ dX7_yarn_1 (fun hzr_1 H locs hI hS => ?_)
  refine lv_if_eq (tgt := 21) hx hb dX7_yarn_4 (by decide) (fun c_3 => ?_) (fun c_3 => ?_)
  · have hf := pos_e c_3 hf
    refine lv_iconst (v := (-1)) hx hb dX7_yarn_21 (by decide) ?_
    obtain rfl := so_e hf
    exact mm_ret hx hb hr hlocks rfl hI hS dX7_yarn_22
  · have hf := neg_e c_3 hf
    refine lv_aload_n hx hb dX7_yarn_7 rfl (lv_at hl 0 rfl) ?_
    refine gX7_10 (o' := 1) hx hb hts hown hG hI hL rfl dX7_yarn_8 ?_
    refine gX7_128 (o' := 14) hx hb hts hown hG hI (ly_sub_7_now hL) rfl dX7_yarn_11 ?_
    refine lv_iload_n hx hb dX7_yarn_14 rfl (lv_at hl 1 rfl) ?_
    obtain ⟨r_2, hr_2, hf⟩ := bi_e hf
    refine kX7_83 hx hb hml hts hown hG hI hS hl.1 (ly_sub_5_bobbins (ly_sub_7_now hL)) (As := [.int a1]) (c_X4_at l D cI cS Z K 14 10 (ly_sub_5_bobbins (ly_sub_7_now hL)) a1 σ _ hr_2) ⟨(Nat.le_of_ble_eq_true rfl), (Nat.le_of_ble_eq_true rfl)⟩ rfl (Nat.le_of_ble_eq_true rfl) ⟨(Nat.le_of_ble_eq_true rfl), (Nat.le_of_ble_eq_true rfl)⟩ dX7_yarn_15 (fun H locs hI hS => ?_)
    refine lv_goto (tgt := 22) hx hb dX7_yarn_18 (by decide) ?_
    obtain rfl := so_e hf
    exact mm_ret hx hb hr hlocks rfl hI hS dX7_yarn_22
def f_X7_row (a1 : Int32) (a2 : Int32) (σ : Nat → Nat → Int32) : Option Int32 := bi (f_X2_hasRow 16 a1 σ) fun r_1 => if r_1 = 0 then (some (-1)) else (if a2 = 0 then (bi (f_X4_at 17 64 a1 σ) fun r_3 => some r_3) else (if a2 = 1 then (bi (f_X4_at 19 64 a1 σ) fun r_5 => some r_5) else (if a2 = 2 then (bi (f_X4_at 21 64 a1 σ) fun r_7 => some r_7) else (if a2 = 3 then (bi (f_X4_at 23 64 a1 σ) fun r_9 => bi (f_J6_bitCount r_9 σ) fun r_10 => some r_10) else (if a2 = 4 then (bi (f_X4_at 25 64 a1 σ) fun r_12 => bi (f_J6_bitCount r_12 σ) fun r_13 => some r_13) else (if a2 = 5 then (bi (f_X2_wrongEnds 16 a1 σ) fun r_15 => bi (f_J6_bitCount r_15 σ) fun r_16 => some r_16) else (if a2 = 6 then (bi (f_X2_longestFloat 16 1 a1 (σ 2 1) σ) fun r_18 => some r_18) else (some (-1)))))))))
set_option maxHeartbeats 4000000 in
set_option maxRecDepth 100000 in
theorem c_X7_row (l : Launch) (D : va_G) (cI cS : ClassId) (Z : Nat) (K : Nat → Nat) (hL : ly K 0 lyLoom) (a1 : Int32) (a2 : Int32) (σ : Nat → Nat → Int32) (r : Int32) (hf : f_X7_row a1 a2 σ = some r) : Met l yX7_row (wsT yX7_row cX7_row 4 (some .int)) { frames := 4, cells := 0, slots := 0, locals := 94 } (Pm D cI cS Z K [.ref (Z + 0), .int a1, .int a2] σ) (Qi D cI cS Z K r σ) 0 0 (aZ Z) := by
  refine mm_met (lv := [(0, .ref (Z + 0)), (1, .int a1), (2, .int a2)]) (by decide) (Nat.le_of_ble_eq_true rfl) rfl ?_
  intro p e s m args below meth c ls hx hb hr hml hts hown hlocks hG hl hI hS
  have hown : s.vm.findClass RX7 = some m.cls := hown
  rw [f_X7_row] at hf
  refine lv_aload_n hx hb dX7_row_0 rfl (lv_at hl 0 rfl) ?_
  refine gX7_10 (o' := 1) hx hb hts hown hG hI hL rfl dX7_row_1 ?_
  refine gX7_50 (o' := 16) hx hb hts hown hG hI (ly_sub_7_now hL) rfl dX7_row_4 ?_
  refine lv_astore_n (lv' := [(3, .ref (Z + 16)), (0, .ref (Z + 0)), (1, .int a1), (2, .int a2)]) hx hb dX7_row_7 rfl hl (by decide) rfl (fun ls hl => ?_)
  refine lv_aload_n hx hb dX7_row_8 rfl (lv_at hl 0 rfl) ?_
  refine lv_iload_n hx hb dX7_row_9 rfl (lv_at hl 2 rfl) ?_
  obtain ⟨r_1, hr_1, hf⟩ := bi_e hf
  refine kX7_190 hx hb hml hts hown hG hI hS hl.1 (ly_sub_5_cloth (ly_sub_7_now hL)) (As := [.int a1]) (c_X2_hasRow l D cI cS Z K 16 (ly_sub_5_cloth (ly_sub_7_now hL)) a1 σ _ hr_1) ⟨(Nat.le_of_ble_eq_true rfl), (Nat.le_of_ble_eq_true rfl)⟩ rfl (Nat.le_of_ble_eq_true rfl) ⟨(Nat.le_of_ble_eq_true rfl), (Nat.le_of_ble_eq_true rfl)⟩ dX7_row_10 (fun hzr_1 H locs hI hS => ?_)
  refine lv_if_ne (tgt := 18) hx hb dX7_row_13 (by decide) (fun c_19 => ?_) (fun c_19 => ?_)
  · have hf := neg_e c_19 hf
    refine lv_iload_n hx hb dX7_row_18 rfl (lv_at hl 3 rfl) ?_
    by_cases c_2 : a2 = 0
    · have hf := pos_e c_2 hf
      refine lv_tableIn (off := 41) (tgt := 60) hx hb dX7_row_19 (by rw [c_2]; decide) (by rw [c_2]; decide) (by rw [c_2]; rfl) (by decide) ?_
      refine lv_aload_n hx hb dX7_row_60 rfl (lv_at hl 0 rfl) ?_
      refine gX7_193 (o' := 17) hx hb hts hown hG hI (ly_sub_5_cloth (ly_sub_7_now hL)) rfl dX7_row_61 ?_
      refine lv_iload_n hx hb dX7_row_64 rfl (lv_at hl 2 rfl) ?_
      obtain ⟨r_3, hr_3, hf⟩ := bi_e hf
      refine kX7_83 hx hb hml hts hown hG hI hS hl.1 (ly_sub_2_colorOf (ly_sub_5_cloth (ly_sub_7_now hL))) (As := [.int a1]) (c_X4_at l D cI cS Z K 17 64 (ly_sub_2_colorOf (ly_sub_5_cloth (ly_sub_7_now hL))) a1 σ _ hr_3) ⟨(Nat.le_of_ble_eq_true rfl), (Nat.le_of_ble_eq_true rfl)⟩ rfl (Nat.le_of_ble_eq_true rfl) ⟨(Nat.le_of_ble_eq_true rfl), (Nat.le_of_ble_eq_true rfl)⟩ dX7_row_65 (fun H locs hI hS => ?_)
      obtain rfl := so_e hf
      exact mm_ret hx hb hr hlocks rfl hI hS dX7_row_68
    have hf := neg_e c_2 hf
    by_cases c_4 : a2 = 1
    · have hf := pos_e c_4 hf
      refine lv_tableIn (off := 50) (tgt := 69) hx hb dX7_row_19 (by rw [c_4]; decide) (by rw [c_4]; decide) (by rw [c_4]; rfl) (by decide) ?_
      refine lv_aload_n hx hb dX7_row_69 rfl (lv_at hl 0 rfl) ?_
      refine gX7_194 (o' := 19) hx hb hts hown hG hI (ly_sub_5_cloth (ly_sub_7_now hL)) rfl dX7_row_70 ?_
      refine lv_iload_n hx hb dX7_row_73 rfl (lv_at hl 2 rfl) ?_
      obtain ⟨r_5, hr_5, hf⟩ := bi_e hf
      refine kX7_83 hx hb hml hts hown hG hI hS hl.1 (ly_sub_2_barOf (ly_sub_5_cloth (ly_sub_7_now hL))) (As := [.int a1]) (c_X4_at l D cI cS Z K 19 64 (ly_sub_2_barOf (ly_sub_5_cloth (ly_sub_7_now hL))) a1 σ _ hr_5) ⟨(Nat.le_of_ble_eq_true rfl), (Nat.le_of_ble_eq_true rfl)⟩ rfl (Nat.le_of_ble_eq_true rfl) ⟨(Nat.le_of_ble_eq_true rfl), (Nat.le_of_ble_eq_true rfl)⟩ dX7_row_74 (fun H locs hI hS => ?_)
      obtain rfl := so_e hf
      exact mm_ret hx hb hr hlocks rfl hI hS dX7_row_77
    have hf := neg_e c_4 hf
    by_cases c_6 : a2 = 2
    · have hf := pos_e c_6 hf
      refine lv_tableIn (off := 59) (tgt := 78) hx hb dX7_row_19 (by rw [c_6]; decide) (by rw [c_6]; decide) (by rw [c_6]; rfl) (by decide) ?_
      refine lv_aload_n hx hb dX7_row_78 rfl (lv_at hl 0 rfl) ?_
      refine gX7_197 (o' := 21) hx hb hts hown hG hI (ly_sub_5_cloth (ly_sub_7_now hL)) rfl dX7_row_79 ?_
      refine lv_iload_n hx hb dX7_row_82 rfl (lv_at hl 2 rfl) ?_
      obtain ⟨r_7, hr_7, hf⟩ := bi_e hf
      refine kX7_83 hx hb hml hts hown hG hI hS hl.1 (ly_sub_2_usedOf (ly_sub_5_cloth (ly_sub_7_now hL))) (As := [.int a1]) (c_X4_at l D cI cS Z K 21 64 (ly_sub_2_usedOf (ly_sub_5_cloth (ly_sub_7_now hL))) a1 σ _ hr_7) ⟨(Nat.le_of_ble_eq_true rfl), (Nat.le_of_ble_eq_true rfl)⟩ rfl (Nat.le_of_ble_eq_true rfl) ⟨(Nat.le_of_ble_eq_true rfl), (Nat.le_of_ble_eq_true rfl)⟩ dX7_row_83 (fun H locs hI hS => ?_)
      obtain rfl := so_e hf
      exact mm_ret hx hb hr hlocks rfl hI hS dX7_row_86
    have hf := neg_e c_6 hf
    by_cases c_8 : a2 = 3
    · have hf := pos_e c_8 hf
      refine lv_tableIn (off := 68) (tgt := 87) hx hb dX7_row_19 (by rw [c_8]; decide) (by rw [c_8]; decide) (by rw [c_8]; rfl) (by decide) ?_
      refine lv_aload_n hx hb dX7_row_87 rfl (lv_at hl 0 rfl) ?_
      refine gX7_200 (o' := 23) hx hb hts hown hG hI (ly_sub_5_cloth (ly_sub_7_now hL)) rfl dX7_row_88 ?_
      refine lv_iload_n hx hb dX7_row_91 rfl (lv_at hl 2 rfl) ?_
      obtain ⟨r_9, hr_9, hf⟩ := bi_e hf
      refine kX7_83 hx hb hml hts hown hG hI hS hl.1 (ly_sub_2_aboveOf (ly_sub_5_cloth (ly_sub_7_now hL))) (As := [.int a1]) (c_X4_at l D cI cS Z K 23 64 (ly_sub_2_aboveOf (ly_sub_5_cloth (ly_sub_7_now hL))) a1 σ _ hr_9) ⟨(Nat.le_of_ble_eq_true rfl), (Nat.le_of_ble_eq_true rfl)⟩ rfl (Nat.le_of_ble_eq_true rfl) ⟨(Nat.le_of_ble_eq_true rfl), (Nat.le_of_ble_eq_true rfl)⟩ dX7_row_92 (fun H locs hI hS => ?_)
      obtain ⟨r_10, hr_10, hf⟩ := bi_e hf
      refine kX7_203 hx hb hml hts hown hG hI hS hl.1 (As := [.int r_9]) (c_J6_bitCount l D cI cS Z K r_9 σ _ hr_10) ⟨(Nat.le_of_ble_eq_true rfl), (Nat.le_of_ble_eq_true rfl)⟩ rfl (Nat.le_of_ble_eq_true rfl) ⟨(Nat.le_of_ble_eq_true rfl), (Nat.le_of_ble_eq_true rfl)⟩ dX7_row_95 (fun H locs hI hS => ?_)
      obtain rfl := so_e hf
      exact mm_ret hx hb hr hlocks rfl hI hS dX7_row_98
    have hf := neg_e c_8 hf
    by_cases c_11 : a2 = 4
    · have hf := pos_e c_11 hf
      refine lv_tableIn (off := 80) (tgt := 99) hx hb dX7_row_19 (by rw [c_11]; decide) (by rw [c_11]; decide) (by rw [c_11]; rfl) (by decide) ?_
      refine lv_aload_n hx hb dX7_row_99 rfl (lv_at hl 0 rfl) ?_
      refine gX7_208 (o' := 25) hx hb hts hown hG hI (ly_sub_5_cloth (ly_sub_7_now hL)) rfl dX7_row_100 ?_
      refine lv_iload_n hx hb dX7_row_103 rfl (lv_at hl 2 rfl) ?_
      obtain ⟨r_12, hr_12, hf⟩ := bi_e hf
      refine kX7_83 hx hb hml hts hown hG hI hS hl.1 (ly_sub_2_missingOf (ly_sub_5_cloth (ly_sub_7_now hL))) (As := [.int a1]) (c_X4_at l D cI cS Z K 25 64 (ly_sub_2_missingOf (ly_sub_5_cloth (ly_sub_7_now hL))) a1 σ _ hr_12) ⟨(Nat.le_of_ble_eq_true rfl), (Nat.le_of_ble_eq_true rfl)⟩ rfl (Nat.le_of_ble_eq_true rfl) ⟨(Nat.le_of_ble_eq_true rfl), (Nat.le_of_ble_eq_true rfl)⟩ dX7_row_104 (fun H locs hI hS => ?_)
      obtain ⟨r_13, hr_13, hf⟩ := bi_e hf
      refine kX7_203 hx hb hml hts hown hG hI hS hl.1 (As := [.int r_12]) (c_J6_bitCount l D cI cS Z K r_12 σ _ hr_13) ⟨(Nat.le_of_ble_eq_true rfl), (Nat.le_of_ble_eq_true rfl)⟩ rfl (Nat.le_of_ble_eq_true rfl) ⟨(Nat.le_of_ble_eq_true rfl), (Nat.le_of_ble_eq_true rfl)⟩ dX7_row_107 (fun H locs hI hS => ?_)
      obtain rfl := so_e hf
      exact mm_ret hx hb hr hlocks rfl hI hS dX7_row_110
    have hf := neg_e c_11 hf
    by_cases c_14 : a2 = 5
    · have hf := pos_e c_14 hf
      refine lv_tableIn (off := 92) (tgt := 111) hx hb dX7_row_19 (by rw [c_14]; decide) (by rw [c_14]; decide) (by rw [c_14]; rfl) (by decide) ?_
      refine lv_aload_n hx hb dX7_row_111 rfl (lv_at hl 0 rfl) ?_
      refine lv_iload_n hx hb dX7_row_112 rfl (lv_at hl 2 rfl) ?_
      obtain ⟨r_15, hr_15, hf⟩ := bi_e hf
      refine kX7_211 hx hb hml hts hown hG hI hS hl.1 (ly_sub_5_cloth (ly_sub_7_now hL)) (As := [.int a1]) (c_X2_wrongEnds l D cI cS Z K 16 (ly_sub_5_cloth (ly_sub_7_now hL)) a1 σ _ hr_15) ⟨(Nat.le_of_ble_eq_true rfl), (Nat.le_of_ble_eq_true rfl)⟩ rfl (Nat.le_of_ble_eq_true rfl) ⟨(Nat.le_of_ble_eq_true rfl), (Nat.le_of_ble_eq_true rfl)⟩ dX7_row_113 (fun H locs hI hS => ?_)
      obtain ⟨r_16, hr_16, hf⟩ := bi_e hf
      refine kX7_203 hx hb hml hts hown hG hI hS hl.1 (As := [.int r_15]) (c_J6_bitCount l D cI cS Z K r_15 σ _ hr_16) ⟨(Nat.le_of_ble_eq_true rfl), (Nat.le_of_ble_eq_true rfl)⟩ rfl (Nat.le_of_ble_eq_true rfl) ⟨(Nat.le_of_ble_eq_true rfl), (Nat.le_of_ble_eq_true rfl)⟩ dX7_row_116 (fun H locs hI hS => ?_)
      obtain rfl := so_e hf
      exact mm_ret hx hb hr hlocks rfl hI hS dX7_row_119
    have hf := neg_e c_14 hf
    by_cases c_17 : a2 = 6
    · have hf := pos_e c_17 hf
      refine lv_tableIn (off := 101) (tgt := 120) hx hb dX7_row_19 (by rw [c_17]; decide) (by rw [c_17]; decide) (by rw [c_17]; rfl) (by decide) ?_
      refine lv_aload_n hx hb dX7_row_120 rfl (lv_at hl 0 rfl) ?_
      refine lv_iconst (v := 1) hx hb dX7_row_121 (by decide) ?_
      refine lv_iload_n hx hb dX7_row_122 rfl (lv_at hl 2 rfl) ?_
      refine lv_aload_n hx hb dX7_row_123 rfl (lv_at hl 1 rfl) ?_
      refine gX7_10 (o' := 1) hx hb hts hown hG hI hL rfl dX7_row_124 ?_
      refine gX7_64 (o' := 2) hx hb hts hown hG hI (ly_sub_7_now hL) rfl dX7_row_127 ?_
      refine gX7_167 hx hb hts hown hG hI (ly_sub_5_warp (ly_sub_7_now hL)) dX7_row_130 ?_
      obtain ⟨r_18, hr_18, hf⟩ := bi_e hf
      refine kX7_180 hx hb hml hts hown hG hI hS hl.1 (ly_sub_5_cloth (ly_sub_7_now hL)) (As := [.int 1, .int a1, .int (σ 2 1)]) (c_X2_longestFloat l D cI cS Z K 16 (ly_sub_5_cloth (ly_sub_7_now hL)) 1 a1 (σ 2 1) σ _ hr_18) ⟨(Nat.le_of_ble_eq_true rfl), (Nat.le_of_ble_eq_true rfl)⟩ rfl (Nat.le_of_ble_eq_true rfl) ⟨(Nat.le_of_ble_eq_true rfl), (Nat.le_of_ble_eq_true rfl)⟩ dX7_row_133 (fun H locs hI hS => ?_)
      obtain rfl := so_e hf
      exact mm_ret hx hb hr hlocks rfl hI hS dX7_row_136
    have hf := neg_e c_17 hf
    refine lv_tableOut (tgt := 137) hx hb dX7_row_19 (sw_out6 c_2 c_4 c_6 c_8 c_11 c_14 c_17) (by decide) ?_
    refine lv_iconst (v := (-1)) hx hb dX7_row_137 (by decide) ?_
    obtain rfl := so_e hf
    exact mm_ret hx hb hr hlocks rfl hI hS dX7_row_138
  · have hf := pos_e c_19 hf
    refine lv_iconst (v := (-1)) hx hb dX7_row_16 (by decide) ?_
    obtain rfl := so_e hf
    exact mm_ret hx hb hr hlocks rfl hI hS dX7_row_17
def b_X7_repeat_20 (σ : Nat → Nat → Int32) (x_1 : Int32) : Int32 → Option ((Int32) ⊕ ((Int32) ⊕ (Unit)))
  | y_2 => if x_1 ≤ y_2 then (some (.inr (.inr ()))) else (bi (f_X2_repeatsAfter 16 y_2 σ) fun r_13 => if r_13 = 0 then (vl (y_2 + 1) fun x_14 => some (.inl x_14)) else (some (.inr (.inl y_2))))
def f_X7_repeat  (σ : Nat → Nat → Int32) : Option Int32 := vl (σ 16 0) fun x_1 => if x_1 = 0 then (some (-9)) else (bi (lp (b_X7_repeat_20 σ x_1) FU 1) fun yy_17 => sm yy_17 (fun rv => some rv) fun _ => some x_1)
set_option maxHeartbeats 4000000 in
set_option maxRecDepth 100000 in
theorem c_X7_repeat (l : Launch) (D : va_G) (cI cS : ClassId) (Z : Nat) (K : Nat → Nat) (hL : ly K 0 lyLoom) (σ : Nat → Nat → Int32) (r : Int32) (hf : f_X7_repeat σ = some r) : Met l yX7_repeat (wsT yX7_repeat cX7_repeat 3 (some .int)) { frames := 3, cells := 0, slots := 0, locals := 65 } (Pm D cI cS Z K [.ref (Z + 0)] σ) (Qi D cI cS Z K r σ) 0 0 (aZ Z) := by
  refine mm_met (lv := [(0, .ref (Z + 0))]) (by decide) (Nat.le_of_ble_eq_true rfl) rfl ?_
  intro p e s m args below meth c ls hx hb hr hml hts hown hlocks hG hl hI hS
  have hown : s.vm.findClass RX7 = some m.cls := hown
  rw [f_X7_repeat] at hf
  refine lv_aload_n hx hb dX7_repeat_0 rfl (lv_at hl 0 rfl) ?_
  refine gX7_10 (o' := 1) hx hb hts hown hG hI hL rfl dX7_repeat_1 ?_
  refine gX7_50 (o' := 16) hx hb hts hown hG hI (ly_sub_7_now hL) rfl dX7_repeat_4 ?_
  refine gX7_54 hx hb hts hown hG hI (ly_sub_5_cloth (ly_sub_7_now hL)) dX7_repeat_7 ?_
  obtain ⟨x_1, ex_1, hf⟩ := vl_e hf
  refine mm_name ex_1 ?_
  refine lv_istore_n (lv' := [(1, .int x_1), (0, .ref (Z + 0))]) hx hb dX7_repeat_10 rfl hl (by decide) rfl (fun ls hl => ?_)
  refine lv_iload_n hx hb dX7_repeat_11 rfl (lv_at hl 0 rfl) ?_
  refine lv_if_ne (tgt := 18) hx hb dX7_repeat_12 (by decide) (fun c_18 => ?_) (fun c_18 => ?_)
  · have hf := neg_e c_18 hf
    refine lv_iconst (v := 1) hx hb dX7_repeat_18 (by decide) ?_
    refine lv_istore_n (lv' := [(2, .int 1), (1, .int x_1), (0, .ref (Z + 0))]) hx hb dX7_repeat_19 rfl hl (by decide) rfl (fun ls hl => ?_)
    have L_4 : ∀ (nn : Nat) (y_2 : Int32) (yy_17 : ((Int32) ⊕ (Unit))), lp (b_X7_repeat_20 σ x_1) nn y_2 = some yy_17 → (∀ rv, yy_17 = .inl rv → some rv = some r) → (yy_17 = .inr () → ∀ (H : Heap) (locs : List Loc) (ls : Array Slot), fI D cI cS Z K σ H → va_S (aZ Z) s.heap H locs → lv_has ls 3 [(1, .int x_1)] → W p l e { frames := 3, cells := 0, slots := 0, locals := 65 } s m args below meth c H locs 0 0 (MQ below (Qi D cI cS Z K r σ) args s 0 0 (aZ Z)) (F0 m 47 ls [])) → ∀ (H : Heap) (locs : List Loc) (ls : Array Slot), fI D cI cS Z K σ H → va_S (aZ Z) s.heap H locs → lv_has ls 3 [(0, .ref (Z + 0)), (1, .int x_1), (2, .int y_2)] → W p l e { frames := 3, cells := 0, slots := 0, locals := 65 } s m args below meth c H locs 0 0 (MQ below (Qi D cI cS Z K r σ) args s 0 0 (aZ Z)) (F0 m 20 ls []) := by
      intro nn
      induction nn with
      | zero =>
        intro y_2 yy_17 hq
        exact (lp_0 hq).elim
      | succ nn ih_5 =>
        intro y_2 yy_17 hq hret_8 kn_7 H locs ls hI hS hl
        obtain ⟨wb_3, hf, hk_6⟩ := lp_e hq
        rw [b_X7_repeat_20] at hf
        have ih_5 := fun (y_2 : Int32) q => ih_5 y_2 yy_17 q hret_8 kn_7
        refine lv_iload_n hx hb dX7_repeat_20 rfl (lv_at hl 2 rfl) ?_
        refine lv_iload_n hx hb dX7_repeat_21 rfl (lv_at hl 1 rfl) ?_
        refine lv_icmp_ge (tgt := 47) hx hb dX7_repeat_22 (by decide) (fun c_16 => ?_) (fun c_16 => ?_)
        · have hf := pos_e c_16 hf
          obtain rfl := so_e hf
          obtain rfl := lk_r hk_6
          exact kn_7 rfl _ _ _ hI hS (lv_sub hl [1] rfl)
        · have hf := neg_e c_16 hf
          refine lv_aload_n hx hb dX7_repeat_25 rfl (lv_at hl 0 rfl) ?_
          refine gX7_10 (o' := 1) hx hb hts hown hG hI hL rfl dX7_repeat_26 ?_
          refine gX7_50 (o' := 16) hx hb hts hown hG hI (ly_sub_7_now hL) rfl dX7_repeat_29 ?_
          refine lv_iload_n hx hb dX7_repeat_32 rfl (lv_at hl 2 rfl) ?_
          obtain ⟨r_13, hr_13, hf⟩ := bi_e hf
          refine kX7_231 hx hb hml hts hown hG hI hS hl.1 (ly_sub_5_cloth (ly_sub_7_now hL)) (As := [.int y_2]) (c_X2_repeatsAfter l D cI cS Z K 16 (ly_sub_5_cloth (ly_sub_7_now hL)) y_2 σ _ hr_13) ⟨(Nat.le_of_ble_eq_true rfl), (Nat.le_of_ble_eq_true rfl)⟩ rfl (Nat.le_of_ble_eq_true rfl) ⟨(Nat.le_of_ble_eq_true rfl), (Nat.le_of_ble_eq_true rfl)⟩ dX7_repeat_33 (fun hzr_13 H locs hI hS => ?_)
          refine lv_if_eq (tgt := 41) hx hb dX7_repeat_36 (by decide) (fun c_15 => ?_) (fun c_15 => ?_)
          · have hf := pos_e c_15 hf
            obtain ⟨x_14, ex_14, hf⟩ := vl_e hf
            refine lv_iinc (v := x_14) (lv' := [(2, .int x_14), (0, .ref (Z + 0)), (1, .int x_1)]) hx hb dX7_repeat_41 hl (k := 2) rfl (by rw [ex_14]; rfl) (by decide) rfl (fun ls hl => ?_)
            refine lv_goto (tgt := 20) hx hb dX7_repeat_44 (by decide) ?_
            obtain rfl := so_e hf
            exact ih_5 x_14 hk_6 _ _ _ hI hS (lv_sub hl [1, 2, 0] rfl)
          · have hf := neg_e c_15 hf
            refine lv_iload_n hx hb dX7_repeat_39 rfl (lv_at hl 2 rfl) ?_
            obtain rfl := so_e hf
            obtain rfl := lk_r hk_6
            have hf := hret_8 _ rfl
            obtain rfl := so_e hf
            exact mm_ret hx hb hr hlocks rfl hI hS dX7_repeat_40
    obtain ⟨yy_17, hy, hf⟩ := bi_e hf
    refine L_4 FU 1 _ hy (fun rv hv => ?_) (fun hv => ?_) _ _ _ hI hS (lv_sub hl [2, 1, 0] rfl)
    · subst hv
      exact hf
    subst hv
    clear L_4
    intro H locs ls hI hS hl
    have hf := sm_e hf
    refine lv_iload_n hx hb dX7_repeat_47 rfl (lv_at hl 0 rfl) ?_
    obtain rfl := so_e hf
    exact mm_ret hx hb hr hlocks rfl hI hS dX7_repeat_48
  · have hf := pos_e c_18 hf
    refine lv_bipush (v := (-9)) hx hb dX7_repeat_15 (by decide) ?_
    obtain rfl := so_e hf
    exact mm_ret hx hb hr hlocks rfl hI hS dX7_repeat_17
def f_X7_seenColor (a1 : Int32) (a2 : Int32) (a3 : Int32) (σ : Nat → Nat → Int32) : Option Int32 := if a3 = 1 then (bi (f_X4_at 5 32 a2 σ) fun r_2 => some r_2) else (bi (f_X4_at 17 64 a1 σ) fun r_1 => some r_1)
set_option maxHeartbeats 4000000 in
set_option maxRecDepth 100000 in
theorem c_X7_seenColor (l : Launch) (D : va_G) (cI cS : ClassId) (Z : Nat) (K : Nat → Nat) (hL : ly K 0 lyLoom) (a1 : Int32) (a2 : Int32) (a3 : Int32) (σ : Nat → Nat → Int32) (r : Int32) (hf : f_X7_seenColor a1 a2 a3 σ = some r) : Met l yX7_seenColor (wsT yX7_seenColor cX7_seenColor 4 (some .int)) { frames := 1, cells := 0, slots := 0, locals := 21 } (Pm D cI cS Z K [.ref (Z + 0), .int a1, .int a2, .int a3] σ) (Qi D cI cS Z K r σ) 0 0 (aZ Z) := by
  refine mm_met (lv := [(0, .ref (Z + 0)), (1, .int a1), (2, .int a2), (3, .int a3)]) (by decide) (Nat.le_of_ble_eq_true rfl) rfl ?_
  intro p e s m args below meth c ls hx hb hr hml hts hown hlocks hG hl hI hS
  have hown : s.vm.findClass RX7 = some m.cls := hown
  rw [f_X7_seenColor] at hf
  refine lv_iload_n hx hb dX7_seenColor_0 rfl (lv_at hl 3 rfl) ?_
  refine lv_iconst (v := 1) hx hb dX7_seenColor_1 (by decide) ?_
  refine lv_icmp_ne (tgt := 22) hx hb dX7_seenColor_2 (by decide) (fun c_3 => ?_) (fun c_3 => ?_)
  · have hf := neg_e c_3 hf
    refine lv_aload_n hx hb dX7_seenColor_22 rfl (lv_at hl 0 rfl) ?_
    refine gX7_10 (o' := 1) hx hb hts hown hG hI hL rfl dX7_seenColor_23 ?_
    refine gX7_50 (o' := 16) hx hb hts hown hG hI (ly_sub_7_now hL) rfl dX7_seenColor_26 ?_
    refine gX7_193 (o' := 17) hx hb hts hown hG hI (ly_sub_5_cloth (ly_sub_7_now hL)) rfl dX7_seenColor_29 ?_
    refine lv_iload_n hx hb dX7_seenColor_32 rfl (lv_at hl 1 rfl) ?_
    obtain ⟨r_1, hr_1, hf⟩ := bi_e hf
    refine kX7_83 hx hb hml hts hown hG hI hS hl.1 (ly_sub_2_colorOf (ly_sub_5_cloth (ly_sub_7_now hL))) (As := [.int a1]) (c_X4_at l D cI cS Z K 17 64 (ly_sub_2_colorOf (ly_sub_5_cloth (ly_sub_7_now hL))) a1 σ _ hr_1) ⟨(Nat.le_of_ble_eq_true rfl), (Nat.le_of_ble_eq_true rfl)⟩ rfl (Nat.le_of_ble_eq_true rfl) ⟨(Nat.le_of_ble_eq_true rfl), (Nat.le_of_ble_eq_true rfl)⟩ dX7_seenColor_33 (fun H locs hI hS => ?_)
    obtain rfl := so_e hf
    exact mm_ret hx hb hr hlocks rfl hI hS dX7_seenColor_36
  · have hf := pos_e c_3 hf
    refine lv_aload_n hx hb dX7_seenColor_5 rfl (lv_at hl 0 rfl) ?_
    refine gX7_10 (o' := 1) hx hb hts hown hG hI hL rfl dX7_seenColor_6 ?_
    refine gX7_64 (o' := 2) hx hb hts hown hG hI (ly_sub_7_now hL) rfl dX7_seenColor_9 ?_
    refine gX7_87 (o' := 5) hx hb hts hown hG hI (ly_sub_5_warp (ly_sub_7_now hL)) rfl dX7_seenColor_12 ?_
    refine lv_iload_n hx hb dX7_seenColor_15 rfl (lv_at hl 2 rfl) ?_
    obtain ⟨r_2, hr_2, hf⟩ := bi_e hf
    refine kX7_83 hx hb hml hts hown hG hI hS hl.1 (ly_sub_6_colorOf (ly_sub_5_warp (ly_sub_7_now hL))) (As := [.int a2]) (c_X4_at l D cI cS Z K 5 32 (ly_sub_6_colorOf (ly_sub_5_warp (ly_sub_7_now hL))) a2 σ _ hr_2) ⟨(Nat.le_of_ble_eq_true rfl), (Nat.le_of_ble_eq_true rfl)⟩ rfl (Nat.le_of_ble_eq_true rfl) ⟨(Nat.le_of_ble_eq_true rfl), (Nat.le_of_ble_eq_true rfl)⟩ dX7_seenColor_16 (fun H locs hI hS => ?_)
    refine lv_goto (tgt := 36) hx hb dX7_seenColor_19 (by decide) ?_
    obtain rfl := so_e hf
    exact mm_ret hx hb hr hlocks rfl hI hS dX7_seenColor_36
def f_X7_cell (a1 : Int32) (a2 : Int32) (a3 : Int32) (σ : Nat → Nat → Int32) : Option Int32 := bi (f_X2_hasRow 16 a1 σ) fun r_1 => if r_1 = 0 then (some (-1)) else (bi (f_X6_hasEnd 2 a2 σ) fun r_2 => if r_2 = 0 then (some (-1)) else (bi (f_X2_sideAt 16 a1 a2 σ) fun r_3 => if a3 = 0 then (if r_3 = (-1) then (some (-9)) else (some r_3)) else (if a3 = 1 then (if r_3 = (-1) then (some (-9)) else (bi (f_X7_seenColor a1 a2 r_3 σ) fun r_7 => some r_7)) else (if a3 = 2 then (bi (f_X2_wrongEnds 16 a1 σ) fun r_10 => bi (f_X7_bitOf r_10 a2 σ) fun r_11 => some r_11) else (if a3 = 3 then (bi (f_X4_at 27 64 a1 σ) fun r_13 => bi (f_X7_bitOf r_13 a2 σ) fun r_14 => some r_14) else (some (-1)))))))
set_option maxHeartbeats 4000000 in
set_option maxRecDepth 100000 in
theorem c_X7_cell (l : Launch) (D : va_G) (cI cS : ClassId) (Z : Nat) (K : Nat → Nat) (hL : ly K 0 lyLoom) (a1 : Int32) (a2 : Int32) (a3 : Int32) (σ : Nat → Nat → Int32) (r : Int32) (hf : f_X7_cell a1 a2 a3 σ = some r) : Met l yX7_cell (wsT yX7_cell cX7_cell 5 (some .int)) { frames := 2, cells := 0, slots := 0, locals := 44 } (Pm D cI cS Z K [.ref (Z + 0), .int a1, .int a2, .int a3] σ) (Qi D cI cS Z K r σ) 0 0 (aZ Z) := by
  refine mm_met (lv := [(0, .ref (Z + 0)), (1, .int a1), (2, .int a2), (3, .int a3)]) (by decide) (Nat.le_of_ble_eq_true rfl) rfl ?_
  intro p e s m args below meth c ls hx hb hr hml hts hown hlocks hG hl hI hS
  have hown : s.vm.findClass RX7 = some m.cls := hown
  rw [f_X7_cell] at hf
  refine lv_aload_n hx hb dX7_cell_0 rfl (lv_at hl 0 rfl) ?_
  refine gX7_10 (o' := 1) hx hb hts hown hG hI hL rfl dX7_cell_1 ?_
  refine gX7_50 (o' := 16) hx hb hts hown hG hI (ly_sub_7_now hL) rfl dX7_cell_4 ?_
  refine lv_iload_n hx hb dX7_cell_7 rfl (lv_at hl 1 rfl) ?_
  obtain ⟨r_1, hr_1, hf⟩ := bi_e hf
  refine kX7_190 hx hb hml hts hown hG hI hS hl.1 (ly_sub_5_cloth (ly_sub_7_now hL)) (As := [.int a1]) (c_X2_hasRow l D cI cS Z K 16 (ly_sub_5_cloth (ly_sub_7_now hL)) a1 σ _ hr_1) ⟨(Nat.le_of_ble_eq_true rfl), (Nat.le_of_ble_eq_true rfl)⟩ rfl (Nat.le_of_ble_eq_true rfl) ⟨(Nat.le_of_ble_eq_true rfl), (Nat.le_of_ble_eq_true rfl)⟩ dX7_cell_8 (fun hzr_1 H locs hI hS => ?_)
  refine lv_if_eq (tgt := 28) hx hb dX7_cell_11 (by decide) (fun c_16 => ?_) (fun c_16 => ?_)
  · have hf := pos_e c_16 hf
    refine lv_iconst (v := (-1)) hx hb dX7_cell_28 (by decide) ?_
    obtain rfl := so_e hf
    exact mm_ret hx hb hr hlocks rfl hI hS dX7_cell_29
  · have hf := neg_e c_16 hf
    refine lv_aload_n hx hb dX7_cell_14 rfl (lv_at hl 0 rfl) ?_
    refine gX7_10 (o' := 1) hx hb hts hown hG hI hL rfl dX7_cell_15 ?_
    refine gX7_64 (o' := 2) hx hb hts hown hG hI (ly_sub_7_now hL) rfl dX7_cell_18 ?_
    refine lv_iload_n hx hb dX7_cell_21 rfl (lv_at hl 2 rfl) ?_
    obtain ⟨r_2, hr_2, hf⟩ := bi_e hf
    refine kX7_68 hx hb hml hts hown hG hI hS hl.1 (ly_sub_5_warp (ly_sub_7_now hL)) (As := [.int a2]) (c_X6_hasEnd l D cI cS Z K 2 (ly_sub_5_warp (ly_sub_7_now hL)) a2 σ _ hr_2) ⟨(Nat.le_of_ble_eq_true rfl), (Nat.le_of_ble_eq_true rfl)⟩ rfl (Nat.le_of_ble_eq_true rfl) ⟨(Nat.le_of_ble_eq_true rfl), (Nat.le_of_ble_eq_true rfl)⟩ dX7_cell_22 (fun hzr_2 H locs hI hS => ?_)
    refine lv_if_ne (tgt := 30) hx hb dX7_cell_25 (by decide) (fun c_15 => ?_) (fun c_15 => ?_)
    · have hf := neg_e c_15 hf
      refine lv_aload_n hx hb dX7_cell_30 rfl (lv_at hl 0 rfl) ?_
      refine gX7_10 (o' := 1) hx hb hts hown hG hI hL rfl dX7_cell_31 ?_
      refine gX7_50 (o' := 16) hx hb hts hown hG hI (ly_sub_7_now hL) rfl dX7_cell_34 ?_
      refine lv_iload_n hx hb dX7_cell_37 rfl (lv_at hl 1 rfl) ?_
      refine lv_iload_n hx hb dX7_cell_38 rfl (lv_at hl 2 rfl) ?_
      obtain ⟨r_3, hr_3, hf⟩ := bi_e hf
      refine kX7_214 hx hb hml hts hown hG hI hS hl.1 (ly_sub_5_cloth (ly_sub_7_now hL)) (As := [.int a1, .int a2]) (c_X2_sideAt l D cI cS Z K 16 (ly_sub_5_cloth (ly_sub_7_now hL)) a1 a2 σ _ hr_3) ⟨(Nat.le_of_ble_eq_true rfl), (Nat.le_of_ble_eq_true rfl)⟩ rfl (Nat.le_of_ble_eq_true rfl) ⟨(Nat.le_of_ble_eq_true rfl), (Nat.le_of_ble_eq_true rfl)⟩ dX7_cell_39 (fun H locs hI hS => ?_)
      refine lv_istore (lv' := [(4, .int r_3), (0, .ref (Z + 0)), (1, .int a1), (2, .int a2), (3, .int a3)]) hx hb dX7_cell_42 hl (by decide) rfl (fun ls hl => ?_)
      refine lv_iload_n hx hb dX7_cell_44 rfl (lv_at hl 4 rfl) ?_
      by_cases c_4 : a3 = 0
      · have hf := pos_e c_4 hf
        refine lv_tableIn (off := 31) (tgt := 76) hx hb dX7_cell_45 (by rw [c_4]; decide) (by rw [c_4]; decide) (by rw [c_4]; rfl) (by decide) ?_
        refine lv_iload hx hb dX7_cell_76 (lv_at hl 0 rfl) ?_
        refine lv_iconst (v := (-1)) hx hb dX7_cell_78 (by decide) ?_
        refine lv_icmp_ne (tgt := 87) hx hb dX7_cell_79 (by decide) (fun c_5 => ?_) (fun c_5 => ?_)
        · have hf := neg_e c_5 hf
          refine lv_iload hx hb dX7_cell_87 (lv_at hl 0 rfl) ?_
          obtain rfl := so_e hf
          exact mm_ret hx hb hr hlocks rfl hI hS dX7_cell_89
        · have hf := pos_e c_5 hf
          refine lv_bipush (v := (-9)) hx hb dX7_cell_82 (by decide) ?_
          refine lv_goto (tgt := 89) hx hb dX7_cell_84 (by decide) ?_
          obtain rfl := so_e hf
          exact mm_ret hx hb hr hlocks rfl hI hS dX7_cell_89
      have hf := neg_e c_4 hf
      by_cases c_6 : a3 = 1
      · have hf := pos_e c_6 hf
        refine lv_tableIn (off := 45) (tgt := 90) hx hb dX7_cell_45 (by rw [c_6]; decide) (by rw [c_6]; decide) (by rw [c_6]; rfl) (by decide) ?_
        refine lv_iload hx hb dX7_cell_90 (lv_at hl 0 rfl) ?_
        refine lv_iconst (v := (-1)) hx hb dX7_cell_92 (by decide) ?_
        refine lv_icmp_ne (tgt := 101) hx hb dX7_cell_93 (by decide) (fun c_8 => ?_) (fun c_8 => ?_)
        · have hf := neg_e c_8 hf
          refine lv_aload_n hx hb dX7_cell_101 rfl (lv_at hl 1 rfl) ?_
          refine lv_iload_n hx hb dX7_cell_102 rfl (lv_at hl 2 rfl) ?_
          refine lv_iload_n hx hb dX7_cell_103 rfl (lv_at hl 3 rfl) ?_
          refine lv_iload hx hb dX7_cell_104 (lv_at hl 0 rfl) ?_
          obtain ⟨r_7, hr_7, hf⟩ := bi_e hf
          refine kX7_218 hx hb hml hts hown hG hI hS hl.1 hL (As := [.int a1, .int a2, .int r_3]) (c_X7_seenColor l D cI cS Z K hL a1 a2 r_3 σ _ hr_7) ⟨(Nat.le_of_ble_eq_true rfl), (Nat.le_of_ble_eq_true rfl)⟩ rfl (Nat.le_of_ble_eq_true rfl) ⟨(Nat.le_of_ble_eq_true rfl), (Nat.le_of_ble_eq_true rfl)⟩ dX7_cell_106 (fun H locs hI hS => ?_)
          obtain rfl := so_e hf
          exact mm_ret hx hb hr hlocks rfl hI hS dX7_cell_109
        · have hf := pos_e c_8 hf
          refine lv_bipush (v := (-9)) hx hb dX7_cell_96 (by decide) ?_
          refine lv_goto (tgt := 109) hx hb dX7_cell_98 (by decide) ?_
          obtain rfl := so_e hf
          exact mm_ret hx hb hr hlocks rfl hI hS dX7_cell_109
      have hf := neg_e c_6 hf
      by_cases c_9 : a3 = 2
      · have hf := pos_e c_9 hf
        refine lv_tableIn (off := 65) (tgt := 110) hx hb dX7_cell_45 (by rw [c_9]; decide) (by rw [c_9]; decide) (by rw [c_9]; rfl) (by decide) ?_
        refine lv_aload_n hx hb dX7_cell_110 rfl (lv_at hl 1 rfl) ?_
        refine gX7_10 (o' := 1) hx hb hts hown hG hI hL rfl dX7_cell_111 ?_
        refine gX7_50 (o' := 16) hx hb hts hown hG hI (ly_sub_7_now hL) rfl dX7_cell_114 ?_
        refine lv_iload_n hx hb dX7_cell_117 rfl (lv_at hl 2 rfl) ?_
        obtain ⟨r_10, hr_10, hf⟩ := bi_e hf
        refine kX7_211 hx hb hml hts hown hG hI hS hl.1 (ly_sub_5_cloth (ly_sub_7_now hL)) (As := [.int a1]) (c_X2_wrongEnds l D cI cS Z K 16 (ly_sub_5_cloth (ly_sub_7_now hL)) a1 σ _ hr_10) ⟨(Nat.le_of_ble_eq_true rfl), (Nat.le_of_ble_eq_true rfl)⟩ rfl (Nat.le_of_ble_eq_true rfl) ⟨(Nat.le_of_ble_eq_true rfl), (Nat.le_of_ble_eq_true rfl)⟩ dX7_cell_118 (fun H locs hI hS => ?_)
        refine lv_iload_n hx hb dX7_cell_121 rfl (lv_at hl 3 rfl) ?_
        obtain ⟨r_11, hr_11, hf⟩ := bi_e hf
        refine kX7_221 hx hb hml hts hown hG hI hS hl.1 (As := [.int r_10, .int a2]) (c_X7_bitOf l D cI cS Z K r_10 a2 σ _ hr_11) ⟨(Nat.le_of_ble_eq_true rfl), (Nat.le_of_ble_eq_true rfl)⟩ rfl (Nat.le_of_ble_eq_true rfl) ⟨(Nat.le_of_ble_eq_true rfl), (Nat.le_of_ble_eq_true rfl)⟩ dX7_cell_122 (fun H locs hI hS => ?_)
        obtain rfl := so_e hf
        exact mm_ret hx hb hr hlocks rfl hI hS dX7_cell_125
      have hf := neg_e c_9 hf
      by_cases c_12 : a3 = 3
      · have hf := pos_e c_12 hf
        refine lv_tableIn (off := 81) (tgt := 126) hx hb dX7_cell_45 (by rw [c_12]; decide) (by rw [c_12]; decide) (by rw [c_12]; rfl) (by decide) ?_
        refine lv_aload_n hx hb dX7_cell_126 rfl (lv_at hl 1 rfl) ?_
        refine gX7_10 (o' := 1) hx hb hts hown hG hI hL rfl dX7_cell_127 ?_
        refine gX7_50 (o' := 16) hx hb hts hown hG hI (ly_sub_7_now hL) rfl dX7_cell_130 ?_
        refine gX7_224 (o' := 27) hx hb hts hown hG hI (ly_sub_5_cloth (ly_sub_7_now hL)) rfl dX7_cell_133 ?_
        refine lv_iload_n hx hb dX7_cell_136 rfl (lv_at hl 2 rfl) ?_
        obtain ⟨r_13, hr_13, hf⟩ := bi_e hf
        refine kX7_83 hx hb hml hts hown hG hI hS hl.1 (ly_sub_2_planOf (ly_sub_5_cloth (ly_sub_7_now hL))) (As := [.int a1]) (c_X4_at l D cI cS Z K 27 64 (ly_sub_2_planOf (ly_sub_5_cloth (ly_sub_7_now hL))) a1 σ _ hr_13) ⟨(Nat.le_of_ble_eq_true rfl), (Nat.le_of_ble_eq_true rfl)⟩ rfl (Nat.le_of_ble_eq_true rfl) ⟨(Nat.le_of_ble_eq_true rfl), (Nat.le_of_ble_eq_true rfl)⟩ dX7_cell_137 (fun H locs hI hS => ?_)
        refine lv_iload_n hx hb dX7_cell_140 rfl (lv_at hl 3 rfl) ?_
        obtain ⟨r_14, hr_14, hf⟩ := bi_e hf
        refine kX7_221 hx hb hml hts hown hG hI hS hl.1 (As := [.int r_13, .int a2]) (c_X7_bitOf l D cI cS Z K r_13 a2 σ _ hr_14) ⟨(Nat.le_of_ble_eq_true rfl), (Nat.le_of_ble_eq_true rfl)⟩ rfl (Nat.le_of_ble_eq_true rfl) ⟨(Nat.le_of_ble_eq_true rfl), (Nat.le_of_ble_eq_true rfl)⟩ dX7_cell_141 (fun H locs hI hS => ?_)
        obtain rfl := so_e hf
        exact mm_ret hx hb hr hlocks rfl hI hS dX7_cell_144
      have hf := neg_e c_12 hf
      refine lv_tableOut (tgt := 145) hx hb dX7_cell_45 (sw_out3 c_4 c_6 c_9 c_12) (by decide) ?_
      refine lv_iconst (v := (-1)) hx hb dX7_cell_145 (by decide) ?_
      obtain rfl := so_e hf
      exact mm_ret hx hb hr hlocks rfl hI hS dX7_cell_146
    · have hf := pos_e c_15 hf
      refine lv_iconst (v := (-1)) hx hb dX7_cell_28 (by decide) ?_
      obtain rfl := so_e hf
      exact mm_ret hx hb hr hlocks rfl hI hS dX7_cell_29
def b_X7_floats_84 (a1 : Int32) (a2 : Int32) (σ : Nat → Nat → Int32) (v_4 : Int32) (v_8 : Int32) : Int32 × Int32 → Option ((Int32 × Int32) ⊕ (Int32))
  | (y_11, y_12) => if v_4 ≤ y_12 then (some (.inr y_11)) else (bi (f_X2_floatsIn 16 a1 y_12 v_8 a2 σ) fun r_24 => vl (y_11 + r_24) fun x_25 => vl (y_12 + 1) fun x_26 => some (.inl (x_25, x_26)))
def f_X7_floats (a1 : Int32) (a2 : Int32) (σ : Nat → Nat → Int32) : Option Int32 := bi (f_X7_isBetween a1 0 1 σ) fun r_1 => if r_1 = 0 then (some (-1)) else (bi (f_X7_isBetween a2 1 64 σ) fun r_2 => if r_2 = 0 then (some (-1)) else (vl (α := Int32) (if a1 = 0 then (σ 2 1) else (σ 16 0)) fun v_4 => vl (α := Int32) (if a1 = 0 then (σ 16 0) else (σ 2 1)) fun v_8 => bi (lp (b_X7_floats_84 a1 a2 σ v_4 v_8) FU (0, 0)) fun z_13 => some z_13))
set_option maxHeartbeats 4000000 in
set_option maxRecDepth 100000 in
theorem c_X7_floats (l : Launch) (D : va_G) (cI cS : ClassId) (Z : Nat) (K : Nat → Nat) (hL : ly K 0 lyLoom) (a1 : Int32) (a2 : Int32) (σ : Nat → Nat → Int32) (r : Int32) (hf : f_X7_floats a1 a2 σ = some r) : Met l yX7_floats (wsT yX7_floats cX7_floats 7 (some .int)) { frames := 4, cells := 0, slots := 0, locals := 95 } (Pm D cI cS Z K [.ref (Z + 0), .int a1, .int a2] σ) (Qi D cI cS Z K r σ) 0 0 (aZ Z) := by
  refine mm_met (lv := [(0, .ref (Z + 0)), (1, .int a1), (2, .int a2)]) (by decide) (Nat.le_of_ble_eq_true rfl) rfl ?_
  intro p e s m args below meth c ls hx hb hr hml hts hown hlocks hG hl hI hS
  have hown : s.vm.findClass RX7 = some m.cls := hown
  rw [f_X7_floats] at hf
  refine lv_iload_n hx hb dX7_floats_0 rfl (lv_at hl 1 rfl) ?_
  refine lv_iconst (v := 0) hx hb dX7_floats_1 (by decide) ?_
  refine lv_iconst (v := 1) hx hb dX7_floats_2 (by decide) ?_
  obtain ⟨r_1, hr_1, hf⟩ := bi_e hf
  refine kX7_42 hx hb hml hts hown hG hI hS hl.1 (As := [.int a1, .int 0, .int 1]) (c_X7_isBetween l D cI cS Z K a1 0 1 σ _ hr_1) ⟨(Nat.le_of_ble_eq_true rfl), (Nat.le_of_ble_eq_true rfl)⟩ rfl (Nat.le_of_ble_eq_true rfl) ⟨(Nat.le_of_ble_eq_true rfl), (Nat.le_of_ble_eq_true rfl)⟩ dX7_floats_3 (fun hzr_1 H locs hI hS => ?_)
  refine lv_if_eq (tgt := 19) hx hb dX7_floats_6 (by decide) (fun c_32 => ?_) (fun c_32 => ?_)
  · have hf := pos_e c_32 hf
    refine lv_iconst (v := (-1)) hx hb dX7_floats_19 (by decide) ?_
    obtain rfl := so_e hf
    exact mm_ret hx hb hr hlocks rfl hI hS dX7_floats_20
  · have hf := neg_e c_32 hf
    refine lv_iload_n hx hb dX7_floats_9 rfl (lv_at hl 2 rfl) ?_
    refine lv_iconst (v := 1) hx hb dX7_floats_10 (by decide) ?_
    refine lv_bipush (v := 64) hx hb dX7_floats_11 (by decide) ?_
    obtain ⟨r_2, hr_2, hf⟩ := bi_e hf
    refine kX7_42 hx hb hml hts hown hG hI hS hl.1 (As := [.int a2, .int 1, .int 64]) (c_X7_isBetween l D cI cS Z K a2 1 64 σ _ hr_2) ⟨(Nat.le_of_ble_eq_true rfl), (Nat.le_of_ble_eq_true rfl)⟩ rfl (Nat.le_of_ble_eq_true rfl) ⟨(Nat.le_of_ble_eq_true rfl), (Nat.le_of_ble_eq_true rfl)⟩ dX7_floats_13 (fun hzr_2 H locs hI hS => ?_)
    refine lv_if_ne (tgt := 21) hx hb dX7_floats_16 (by decide) (fun c_31 => ?_) (fun c_31 => ?_)
    · have hf := neg_e c_31 hf
      refine lv_iload_n hx hb dX7_floats_21 rfl (lv_at hl 1 rfl) ?_
      obtain ⟨v_4, ev_4, hf⟩ := vl_e hf
      have HJ_6 : ∀ (H : Heap) (locs : List Loc) (ls : Array Slot), fI D cI cS Z K σ H → va_S (aZ Z) s.heap H locs → lv_has ls 7 [(0, .ref (Z + 0)), (1, .int a1), (2, .int a2)] → W p l e { frames := 4, cells := 0, slots := 0, locals := 95 } s m args below meth c H locs 0 0 (MQ below (Qi D cI cS Z K r σ) args s 0 0 (aZ Z)) (F0 m 48 ls [.int v_4]) := by
        intro H locs ls hI hS hl
        refine lv_istore_n (lv' := [(3, .int v_4), (0, .ref (Z + 0)), (1, .int a1), (2, .int a2)]) hx hb dX7_floats_48 rfl hl (by decide) rfl (fun ls hl => ?_)
        refine lv_iload_n hx hb dX7_floats_49 rfl (lv_at hl 2 rfl) ?_
        obtain ⟨v_8, ev_8, hf⟩ := vl_e hf
        have HJ_10 : ∀ (H : Heap) (locs : List Loc) (ls : Array Slot), fI D cI cS Z K σ H → va_S (aZ Z) s.heap H locs → lv_has ls 7 [(0, .ref (Z + 0)), (1, .int a1), (2, .int a2), (3, .int v_4)] → W p l e { frames := 4, cells := 0, slots := 0, locals := 95 } s m args below meth c H locs 0 0 (MQ below (Qi D cI cS Z K r σ) args s 0 0 (aZ Z)) (F0 m 76 ls [.int v_8]) := by
          intro H locs ls hI hS hl
          refine lv_istore (lv' := [(4, .int v_8), (0, .ref (Z + 0)), (1, .int a1), (2, .int a2), (3, .int v_4)]) hx hb dX7_floats_76 hl (by decide) rfl (fun ls hl => ?_)
          refine lv_iconst (v := 0) hx hb dX7_floats_78 (by decide) ?_
          refine lv_istore (lv' := [(5, .int 0), (4, .int v_8), (0, .ref (Z + 0)), (1, .int a1), (2, .int a2), (3, .int v_4)]) hx hb dX7_floats_79 hl (by decide) rfl (fun ls hl => ?_)
          refine lv_iconst (v := 0) hx hb dX7_floats_81 (by decide) ?_
          refine lv_istore (lv' := [(6, .int 0), (5, .int 0), (4, .int v_8), (0, .ref (Z + 0)), (1, .int a1), (2, .int a2), (3, .int v_4)]) hx hb dX7_floats_82 hl (by decide) rfl (fun ls hl => ?_)
          have L_15 : ∀ (nn : Nat) (y_11 : Int32) (y_12 : Int32) (z_13 : Int32), lp (b_X7_floats_84 a1 a2 σ v_4 v_8) nn (y_11, y_12) = some z_13 → (∀ (H : Heap) (locs : List Loc) (ls : Array Slot), fI D cI cS Z K σ H → va_S (aZ Z) s.heap H locs → lv_has ls 7 [(5, .int z_13)] → W p l e { frames := 4, cells := 0, slots := 0, locals := 95 } s m args below meth c H locs 0 0 (MQ below (Qi D cI cS Z K r σ) args s 0 0 (aZ Z)) (F0 m 117 ls [])) → ∀ (H : Heap) (locs : List Loc) (ls : Array Slot), fI D cI cS Z K σ H → va_S (aZ Z) s.heap H locs → lv_has ls 7 [(0, .ref (Z + 0)), (1, .int a1), (2, .int a2), (3, .int v_4), (4, .int v_8), (5, .int y_11), (6, .int y_12)] → W p l e { frames := 4, cells := 0, slots := 0, locals := 95 } s m args below meth c H locs 0 0 (MQ below (Qi D cI cS Z K r σ) args s 0 0 (aZ Z)) (F0 m 84 ls []) := by
            intro nn
            induction nn with
            | zero =>
              intro y_11 y_12 z_13 hq
              exact (lp_0 hq).elim
            | succ nn ih_16 =>
              intro y_11 y_12 z_13 hq kn_18 H locs ls hI hS hl
              obtain ⟨wb_14, hf, hk_17⟩ := lp_e hq
              rw [b_X7_floats_84] at hf
              have ih_16 := fun (y_11 : Int32) (y_12 : Int32) q => ih_16 y_11 y_12 z_13 q kn_18
              refine lv_iload hx hb dX7_floats_84 (lv_at hl 6 rfl) ?_
              refine lv_iload_n hx hb dX7_floats_86 rfl (lv_at hl 3 rfl) ?_
              refine lv_icmp_ge (tgt := 117) hx hb dX7_floats_87 (by decide) (fun c_27 => ?_) (fun c_27 => ?_)
              · have hf := pos_e c_27 hf
                obtain rfl := so_e hf
                obtain rfl := lk_r hk_17
                exact kn_18 _ _ _ hI hS (lv_sub hl [5] rfl)
              · have hf := neg_e c_27 hf
                refine lv_iload hx hb dX7_floats_90 (lv_at hl 5 rfl) ?_
                refine lv_aload_n hx hb dX7_floats_92 rfl (lv_at hl 0 rfl) ?_
                refine gX7_10 (o' := 1) hx hb hts hown hG hI hL rfl dX7_floats_93 ?_
                refine gX7_50 (o' := 16) hx hb hts hown hG hI (ly_sub_7_now hL) rfl dX7_floats_96 ?_
                refine lv_iload_n hx hb dX7_floats_99 rfl (lv_at hl 1 rfl) ?_
                refine lv_iload hx hb dX7_floats_100 (lv_at hl 6 rfl) ?_
                refine lv_iload hx hb dX7_floats_102 (lv_at hl 4 rfl) ?_
                refine lv_iload_n hx hb dX7_floats_104 rfl (lv_at hl 2 rfl) ?_
                obtain ⟨r_24, hr_24, hf⟩ := bi_e hf
                refine kX7_227 hx hb hml hts hown hG hI hS hl.1 (ly_sub_5_cloth (ly_sub_7_now hL)) (As := [.int a1, .int y_12, .int v_8, .int a2]) (c_X2_floatsIn l D cI cS Z K 16 (ly_sub_5_cloth (ly_sub_7_now hL)) a1 y_12 v_8 a2 σ _ hr_24) ⟨(Nat.le_of_ble_eq_true rfl), (Nat.le_of_ble_eq_true rfl)⟩ rfl (Nat.le_of_ble_eq_true rfl) ⟨(Nat.le_of_ble_eq_true rfl), (Nat.le_of_ble_eq_true rfl)⟩ dX7_floats_105 (fun H locs hI hS => ?_)
                refine lv_iadd hx hb dX7_floats_108 ?_
                obtain ⟨x_25, ex_25, hf⟩ := vl_e hf
                refine mm_name ex_25 ?_
                refine lv_istore (lv' := [(5, .int x_25), (0, .ref (Z + 0)), (1, .int a1), (2, .int a2), (3, .int v_4), (4, .int v_8), (6, .int y_12)]) hx hb dX7_floats_109 hl (by decide) rfl (fun ls hl => ?_)
                obtain ⟨x_26, ex_26, hf⟩ := vl_e hf
                refine lv_iinc (v := x_26) (lv' := [(6, .int x_26), (5, .int x_25), (0, .ref (Z + 0)), (1, .int a1), (2, .int a2), (3, .int v_4), (4, .int v_8)]) hx hb dX7_floats_111 hl (k := 6) rfl (by rw [ex_26]; rfl) (by decide) rfl (fun ls hl => ?_)
                refine lv_goto (tgt := 84) hx hb dX7_floats_114 (by decide) ?_
                obtain rfl := so_e hf
                exact ih_16 x_25 x_26 hk_17 _ _ _ hI hS (lv_sub hl [2, 3, 4, 5, 6, 1, 0] rfl)
          obtain ⟨z_13, hy, hf⟩ := bi_e hf
          refine L_15 FU 0 0 _ hy ?_ _ _ _ hI hS (lv_sub hl [3, 4, 5, 6, 2, 1, 0] rfl)
          clear L_15
          intro H locs ls hI hS hl
          refine lv_iload hx hb dX7_floats_117 (lv_at hl 0 rfl) ?_
          obtain rfl := so_e hf
          exact mm_ret hx hb hr hlocks rfl hI hS dX7_floats_119
        clear hf
        have hf := ev_8.symm
        refine lv_if_ne (tgt := 66) hx hb dX7_floats_50 (by decide) (fun c_29 => ?_) (fun c_29 => ?_)
        · have hf := neg_e c_29 hf
          refine lv_aload_n hx hb dX7_floats_66 rfl (lv_at hl 1 rfl) ?_
          refine gX7_10 (o' := 1) hx hb hts hown hG hI hL rfl dX7_floats_67 ?_
          refine gX7_64 (o' := 2) hx hb hts hown hG hI (ly_sub_7_now hL) rfl dX7_floats_70 ?_
          refine gX7_167 hx hb hts hown hG hI (ly_sub_5_warp (ly_sub_7_now hL)) dX7_floats_73 ?_
          refine mm_name hf.symm ?_
          exact HJ_10 _ _ _ hI hS (lv_sub hl [1, 2, 3, 0] rfl)
        · have hf := pos_e c_29 hf
          refine lv_aload_n hx hb dX7_floats_53 rfl (lv_at hl 1 rfl) ?_
          refine gX7_10 (o' := 1) hx hb hts hown hG hI hL rfl dX7_floats_54 ?_
          refine gX7_50 (o' := 16) hx hb hts hown hG hI (ly_sub_7_now hL) rfl dX7_floats_57 ?_
          refine gX7_54 hx hb hts hown hG hI (ly_sub_5_cloth (ly_sub_7_now hL)) dX7_floats_60 ?_
          refine lv_goto (tgt := 76) hx hb dX7_floats_63 (by decide) ?_
          refine mm_name hf.symm ?_
          exact HJ_10 _ _ _ hI hS (lv_sub hl [1, 2, 3, 0] rfl)
      clear hf
      have hf := ev_4.symm
      refine lv_if_ne (tgt := 38) hx hb dX7_floats_22 (by decide) (fun c_30 => ?_) (fun c_30 => ?_)
      · have hf := neg_e c_30 hf
        refine lv_aload_n hx hb dX7_floats_38 rfl (lv_at hl 0 rfl) ?_
        refine gX7_10 (o' := 1) hx hb hts hown hG hI hL rfl dX7_floats_39 ?_
        refine gX7_50 (o' := 16) hx hb hts hown hG hI (ly_sub_7_now hL) rfl dX7_floats_42 ?_
        refine gX7_54 hx hb hts hown hG hI (ly_sub_5_cloth (ly_sub_7_now hL)) dX7_floats_45 ?_
        refine mm_name hf.symm ?_
        exact HJ_6 _ _ _ hI hS (lv_sub hl [0, 1, 2] rfl)
      · have hf := pos_e c_30 hf
        refine lv_aload_n hx hb dX7_floats_25 rfl (lv_at hl 0 rfl) ?_
        refine gX7_10 (o' := 1) hx hb hts hown hG hI hL rfl dX7_floats_26 ?_
        refine gX7_64 (o' := 2) hx hb hts hown hG hI (ly_sub_7_now hL) rfl dX7_floats_29 ?_
        refine gX7_167 hx hb hts hown hG hI (ly_sub_5_warp (ly_sub_7_now hL)) dX7_floats_32 ?_
        refine lv_goto (tgt := 48) hx hb dX7_floats_35 (by decide) ?_
        refine mm_name hf.symm ?_
        exact HJ_6 _ _ _ hI hS (lv_sub hl [0, 1, 2] rfl)
    · have hf := pos_e c_31 hf
      refine lv_iconst (v := (-1)) hx hb dX7_floats_19 (by decide) ?_
      obtain rfl := so_e hf
      exact mm_ret hx hb hr hlocks rfl hI hS dX7_floats_20
def b_X7_differentRows_4 (σ : Nat → Nat → Int32) : Int32 × Int32 → Option ((Int32 × Int32) ⊕ (Int32))
  | (y_1, y_2) => if (σ 16 0) ≤ y_2 then (some (.inr y_1)) else (bi (f_X2_hasAlikeBefore 16 y_2 σ) fun r_16 => if r_16 = 0 then (vl (y_1 + 1) fun x_18 => vl (y_2 + 1) fun x_19 => some (.inl (x_18, x_19))) else (vl (y_2 + 1) fun x_17 => some (.inl (y_1, x_17))))
def f_X7_differentRows  (σ : Nat → Nat → Int32) : Option Int32 := bi (lp (b_X7_differentRows_4 σ) FU (0, 0)) fun z_3 => some z_3
set_option maxHeartbeats 4000000 in
set_option maxRecDepth 100000 in
theorem c_X7_differentRows (l : Launch) (D : va_G) (cI cS : ClassId) (Z : Nat) (K : Nat → Nat) (hL : ly K 0 lyLoom) (σ : Nat → Nat → Int32) (r : Int32) (hf : f_X7_differentRows σ = some r) : Met l yX7_differentRows (wsT yX7_differentRows cX7_differentRows 3 (some .int)) { frames := 3, cells := 0, slots := 0, locals := 65 } (Pm D cI cS Z K [.ref (Z + 0)] σ) (Qi D cI cS Z K r σ) 0 0 (aZ Z) := by
  refine mm_met (lv := [(0, .ref (Z + 0))]) (by decide) (Nat.le_of_ble_eq_true rfl) rfl ?_
  intro p e s m args below meth c ls hx hb hr hml hts hown hlocks hG hl hI hS
  have hown : s.vm.findClass RX7 = some m.cls := hown
  rw [f_X7_differentRows] at hf
  refine lv_iconst (v := 0) hx hb dX7_differentRows_0 (by decide) ?_
  refine lv_istore_n (lv' := [(1, .int 0), (0, .ref (Z + 0))]) hx hb dX7_differentRows_1 rfl hl (by decide) rfl (fun ls hl => ?_)
  refine lv_iconst (v := 0) hx hb dX7_differentRows_2 (by decide) ?_
  refine lv_istore_n (lv' := [(2, .int 0), (1, .int 0), (0, .ref (Z + 0))]) hx hb dX7_differentRows_3 rfl hl (by decide) rfl (fun ls hl => ?_)
  have L_5 : ∀ (nn : Nat) (y_1 : Int32) (y_2 : Int32) (z_3 : Int32), lp (b_X7_differentRows_4 σ) nn (y_1, y_2) = some z_3 → (∀ (H : Heap) (locs : List Loc) (ls : Array Slot), fI D cI cS Z K σ H → va_S (aZ Z) s.heap H locs → lv_has ls 3 [(1, .int z_3)] → W p l e { frames := 3, cells := 0, slots := 0, locals := 65 } s m args below meth c H locs 0 0 (MQ below (Qi D cI cS Z K r σ) args s 0 0 (aZ Z)) (F0 m 41 ls [])) → ∀ (H : Heap) (locs : List Loc) (ls : Array Slot), fI D cI cS Z K σ H → va_S (aZ Z) s.heap H locs → lv_has ls 3 [(0, .ref (Z + 0)), (1, .int y_1), (2, .int y_2)] → W p l e { frames := 3, cells := 0, slots := 0, locals := 65 } s m args below meth c H locs 0 0 (MQ below (Qi D cI cS Z K r σ) args s 0 0 (aZ Z)) (F0 m 4 ls []) := by
    intro nn
    induction nn with
    | zero =>
      intro y_1 y_2 z_3 hq
      exact (lp_0 hq).elim
    | succ nn ih_6 =>
      intro y_1 y_2 z_3 hq kn_8 H locs ls hI hS hl
      obtain ⟨wb_4, hf, hk_7⟩ := lp_e hq
      rw [b_X7_differentRows_4] at hf
      have ih_6 := fun (y_1 : Int32) (y_2 : Int32) q => ih_6 y_1 y_2 z_3 q kn_8
      refine lv_iload_n hx hb dX7_differentRows_4 rfl (lv_at hl 2 rfl) ?_
      refine lv_aload_n hx hb dX7_differentRows_5 rfl (lv_at hl 0 rfl) ?_
      refine gX7_10 (o' := 1) hx hb hts hown hG hI hL rfl dX7_differentRows_6 ?_
      refine gX7_50 (o' := 16) hx hb hts hown hG hI (ly_sub_7_now hL) rfl dX7_differentRows_9 ?_
      refine gX7_54 hx hb hts hown hG hI (ly_sub_5_cloth (ly_sub_7_now hL)) dX7_differentRows_12 ?_
      refine lv_icmp_ge (tgt := 41) hx hb dX7_differentRows_15 (by decide) (fun c_21 => ?_) (fun c_21 => ?_)
      · have hf := pos_e c_21 hf
        obtain rfl := so_e hf
        obtain rfl := lk_r hk_7
        exact kn_8 _ _ _ hI hS (lv_sub hl [1] rfl)
      · have hf := neg_e c_21 hf
        refine lv_aload_n hx hb dX7_differentRows_18 rfl (lv_at hl 0 rfl) ?_
        refine gX7_10 (o' := 1) hx hb hts hown hG hI hL rfl dX7_differentRows_19 ?_
        refine gX7_50 (o' := 16) hx hb hts hown hG hI (ly_sub_7_now hL) rfl dX7_differentRows_22 ?_
        refine lv_iload_n hx hb dX7_differentRows_25 rfl (lv_at hl 2 rfl) ?_
        obtain ⟨r_16, hr_16, hf⟩ := bi_e hf
        refine kX7_234 hx hb hml hts hown hG hI hS hl.1 (ly_sub_5_cloth (ly_sub_7_now hL)) (As := [.int y_2]) (c_X2_hasAlikeBefore l D cI cS Z K 16 (ly_sub_5_cloth (ly_sub_7_now hL)) y_2 σ _ hr_16) ⟨(Nat.le_of_ble_eq_true rfl), (Nat.le_of_ble_eq_true rfl)⟩ rfl (Nat.le_of_ble_eq_true rfl) ⟨(Nat.le_of_ble_eq_true rfl), (Nat.le_of_ble_eq_true rfl)⟩ dX7_differentRows_26 (fun hzr_16 H locs hI hS => ?_)
        refine lv_if_ne (tgt := 35) hx hb dX7_differentRows_29 (by decide) (fun c_20 => ?_) (fun c_20 => ?_)
        · have hf := neg_e c_20 hf
          obtain ⟨x_17, ex_17, hf⟩ := vl_e hf
          refine lv_iinc (v := x_17) (lv' := [(2, .int x_17), (0, .ref (Z + 0)), (1, .int y_1)]) hx hb dX7_differentRows_35 hl (k := 2) rfl (by rw [ex_17]; rfl) (by decide) rfl (fun ls hl => ?_)
          refine lv_goto (tgt := 4) hx hb dX7_differentRows_38 (by decide) ?_
          obtain rfl := so_e hf
          exact ih_6 y_1 x_17 hk_7 _ _ _ hI hS (lv_sub hl [1, 2, 0] rfl)
        · have hf := pos_e c_20 hf
          obtain ⟨x_18, ex_18, hf⟩ := vl_e hf
          refine lv_iinc (v := x_18) (lv' := [(1, .int x_18), (0, .ref (Z + 0)), (2, .int y_2)]) hx hb dX7_differentRows_32 hl (k := 1) rfl (by rw [ex_18]; rfl) (by decide) rfl (fun ls hl => ?_)
          obtain ⟨x_19, ex_19, hf⟩ := vl_e hf
          refine lv_iinc (v := x_19) (lv' := [(2, .int x_19), (1, .int x_18), (0, .ref (Z + 0))]) hx hb dX7_differentRows_35 hl (k := 2) rfl (by rw [ex_19]; rfl) (by decide) rfl (fun ls hl => ?_)
          refine lv_goto (tgt := 4) hx hb dX7_differentRows_38 (by decide) ?_
          obtain rfl := so_e hf
          exact ih_6 x_18 x_19 hk_7 _ _ _ hI hS (lv_sub hl [2, 1, 0] rfl)
  obtain ⟨z_3, hy, hf⟩ := bi_e hf
  refine L_5 FU 0 0 _ hy ?_ _ _ _ hI hS (lv_sub hl [2, 1, 0] rfl)
  clear L_5
  intro H locs ls hI hS hl
  refine lv_iload_n hx hb dX7_differentRows_41 rfl (lv_at hl 0 rfl) ?_
  obtain rfl := so_e hf
  exact mm_ret hx hb hr hlocks rfl hI hS dX7_differentRows_42
def f_X7_undo  (σ : Nat → Nat → Int32) : Option (Int32 × (Nat → Nat → Int32)) := if (σ 29 2) = 0 then (some ((-2), σ)) else (bi (f_X3_restoreInto σ) fun σ_2 => some (σ_2 29 2, σ_2))
set_option maxHeartbeats 4000000 in
set_option maxRecDepth 100000 in
theorem c_X7_undo (l : Launch) (D : va_G) (cI cS : ClassId) (Z : Nat) (K : Nat → Nat) (hL : ly K 0 lyLoom) (σ : Nat → Nat → Int32) (r : Int32) (σ' : Nat → Nat → Int32) (hf : f_X7_undo σ = some (r, σ')) : Met l yX7_undo (wsT yX7_undo cX7_undo 1 (some .int)) { frames := 6, cells := 0, slots := 0, locals := 147 } (Pm D cI cS Z K [.ref (Z + 0)] σ) (Qi D cI cS Z K r σ') 0 0 (aZ Z) := by
  refine mm_met (lv := [(0, .ref (Z + 0))]) (by decide) (Nat.le_of_ble_eq_true rfl) rfl ?_
  intro p e s m args below meth c ls hx hb hr hml hts hown hlocks hG hl hI hS
  have hown : s.vm.findClass RX7 = some m.cls := hown
  rw [f_X7_undo] at hf
  refine lv_aload_n hx hb dX7_undo_0 rfl (lv_at hl 0 rfl) ?_
  refine gX7_19 (o' := 29) hx hb hts hown hG hI hL rfl dX7_undo_1 ?_
  refine gX7_161 hx hb hts hown hG hI (ly_sub_7_history hL) dX7_undo_4 ?_
  refine lv_if_ne (tgt := 13) hx hb dX7_undo_7 (by decide) (fun c_3 => ?_) (fun c_3 => ?_)
  · have hf := neg_e c_3 hf
    refine lv_aload_n hx hb dX7_undo_13 rfl (lv_at hl 0 rfl) ?_
    refine gX7_19 (o' := 29) hx hb hts hown hG hI hL rfl dX7_undo_14 ?_
    refine lv_aload_n hx hb dX7_undo_17 rfl (lv_at hl 0 rfl) ?_
    refine gX7_10 (o' := 1) hx hb hts hown hG hI hL rfl dX7_undo_18 ?_
    obtain ⟨σ_2, hσ_2, hf⟩ := bi_e hf
    refine kX7_164 hx hb hml hts hown hG hI hS hl.1 (ly_sub_7_history hL) (As := [.ref (Z + 1)]) (c_X3_restoreInto l D cI cS Z K (ly_sub_7_history hL) (ly_sub_7_now hL) σ _ hσ_2) ⟨(Nat.le_of_ble_eq_true rfl), (Nat.le_of_ble_eq_true rfl)⟩ rfl (Nat.le_of_ble_eq_true rfl) ⟨(Nat.le_of_ble_eq_true rfl), (Nat.le_of_ble_eq_true rfl)⟩ dX7_undo_21 (fun H locs hI hS => ?_)
    refine lv_aload_n hx hb dX7_undo_24 rfl (lv_at hl 0 rfl) ?_
    refine gX7_19 (o' := 29) hx hb hts hown hG hI hL rfl dX7_undo_25 ?_
    refine gX7_161 hx hb hts hown hG hI (ly_sub_7_history hL) dX7_undo_28 ?_
    obtain ⟨rfl, rfl⟩ := sp_e hf
    exact mm_ret hx hb hr hlocks rfl hI hS dX7_undo_31
  · have hf := pos_e c_3 hf
    refine lv_bipush (v := (-2)) hx hb dX7_undo_10 (by decide) ?_
    obtain ⟨rfl, rfl⟩ := sp_e hf
    exact mm_ret hx hb hr hlocks rfl hI hS dX7_undo_12
def f_X7_load  (σ : Nat → Nat → Int32) : Option (Int32 × (Nat → Nat → Int32)) := b2 (f_X1_readChain (σ 2 0) σ) fun r_1 σ_2 => if r_1 = 0 then (some ((-10) - (σ_2 171 3), σ_2)) else (bi (f_X3_keep σ_2) fun σ_4 => bi (f_X0_takeBarsOf 9 174 σ_4) fun σ_6 => vl (wr σ_6 171 2 0) fun σ_7 => some (σ_7 9 0, σ_7))
set_option maxHeartbeats 4000000 in
set_option maxRecDepth 100000 in
theorem c_X7_load (l : Launch) (D : va_G) (cI cS : ClassId) (Z : Nat) (K : Nat → Nat) (hL : ly K 0 lyLoom) (σ : Nat → Nat → Int32) (r : Int32) (σ' : Nat → Nat → Int32) (hf : f_X7_load σ = some (r, σ')) : Met l yX7_load (wsT yX7_load cX7_load 1 (some .int)) { frames := 6, cells := 0, slots := 0, locals := 146 } (Pm D cI cS Z K [.ref (Z + 0)] σ) (Qi D cI cS Z K r σ') 0 0 (aZ Z) := by
  refine mm_met (lv := [(0, .ref (Z + 0))]) (by decide) (Nat.le_of_ble_eq_true rfl) rfl ?_
  intro p e s m args below meth c ls hx hb hr hml hts hown hlocks hG hl hI hS
  have hown : s.vm.findClass RX7 = some m.cls := hown
  rw [f_X7_load] at hf
  refine lv_aload_n hx hb dX7_load_0 rfl (lv_at hl 0 rfl) ?_
  refine gX7_26 (o' := 171) hx hb hts hown hG hI hL rfl dX7_load_1 ?_
  refine lv_aload_n hx hb dX7_load_4 rfl (lv_at hl 0 rfl) ?_
  refine gX7_10 (o' := 1) hx hb hts hown hG hI hL rfl dX7_load_5 ?_
  refine gX7_64 (o' := 2) hx hb hts hown hG hI (ly_sub_7_now hL) rfl dX7_load_8 ?_
  refine gX7_137 hx hb hts hown hG hI (ly_sub_5_warp (ly_sub_7_now hL)) dX7_load_11 ?_
  obtain ⟨r_1, σ_2, hr_1, hf⟩ := b2_e hf
  refine kX7_140 hx hb hml hts hown hG hI hS hl.1 (ly_sub_7_reader hL) (As := [.int (σ 2 0)]) (c_X1_readChain l D cI cS Z K (ly_sub_7_reader hL) (σ 2 0) σ _ _ hr_1) ⟨(Nat.le_of_ble_eq_true rfl), (Nat.le_of_ble_eq_true rfl)⟩ rfl (Nat.le_of_ble_eq_true rfl) ⟨(Nat.le_of_ble_eq_true rfl), (Nat.le_of_ble_eq_true rfl)⟩ dX7_load_14 (fun hzr_1 H locs hI hS => ?_)
  refine lv_if_ne (tgt := 31) hx hb dX7_load_17 (by decide) (fun c_8 => ?_) (fun c_8 => ?_)
  · have hf := neg_e c_8 hf
    refine lv_aload_n hx hb dX7_load_31 rfl (lv_at hl 0 rfl) ?_
    refine gX7_19 (o' := 29) hx hb hts hown hG hI hL rfl dX7_load_32 ?_
    refine lv_aload_n hx hb dX7_load_35 rfl (lv_at hl 0 rfl) ?_
    refine gX7_10 (o' := 1) hx hb hts hown hG hI hL rfl dX7_load_36 ?_
    obtain ⟨σ_4, hσ_4, hf⟩ := bi_e hf
    refine kX7_46 hx hb hml hts hown hG hI hS hl.1 (ly_sub_7_history hL) (As := [.ref (Z + 1)]) (c_X3_keep l D cI cS Z K (ly_sub_7_history hL) (ly_sub_7_now hL) σ_2 _ hσ_4) ⟨(Nat.le_of_ble_eq_true rfl), (Nat.le_of_ble_eq_true rfl)⟩ rfl (Nat.le_of_ble_eq_true rfl) ⟨(Nat.le_of_ble_eq_true rfl), (Nat.le_of_ble_eq_true rfl)⟩ dX7_load_39 (fun H locs hI hS => ?_)
    refine lv_aload_n hx hb dX7_load_42 rfl (lv_at hl 0 rfl) ?_
    refine gX7_10 (o' := 1) hx hb hts hown hG hI hL rfl dX7_load_43 ?_
    refine gX7_99 (o' := 9) hx hb hts hown hG hI (ly_sub_7_now hL) rfl dX7_load_46 ?_
    refine lv_aload_n hx hb dX7_load_49 rfl (lv_at hl 0 rfl) ?_
    refine gX7_26 (o' := 171) hx hb hts hown hG hI hL rfl dX7_load_50 ?_
    refine gX7_146 (o' := 174) hx hb hts hown hG hI (ly_sub_7_reader hL) rfl dX7_load_53 ?_
    obtain ⟨σ_6, hσ_6, hf⟩ := bi_e hf
    refine kX7_147 hx hb hml hts hown hG hI hS hl.1 (ly_sub_5_chain (ly_sub_7_now hL)) (As := [.ref (Z + 174)]) (c_X0_takeBarsOf l D cI cS Z K 9 (ly_sub_5_chain (ly_sub_7_now hL)) 174 (ly_sub_1_chain (ly_sub_7_reader hL)) σ_4 _ (by omega) hσ_6) ⟨(Nat.le_of_ble_eq_true rfl), (Nat.le_of_ble_eq_true rfl)⟩ rfl (Nat.le_of_ble_eq_true rfl) ⟨(Nat.le_of_ble_eq_true rfl), (Nat.le_of_ble_eq_true rfl)⟩ dX7_load_56 (fun H locs hI hS => ?_)
    refine lv_aload_n hx hb dX7_load_59 rfl (lv_at hl 0 rfl) ?_
    refine gX7_26 (o' := 171) hx hb hts hown hG hI hL rfl dX7_load_60 ?_
    refine lv_iconst (v := 0) hx hb dX7_load_63 (by decide) ?_
    obtain ⟨σ_7, eσ_7, hf⟩ := vl_e hf
    refine pX7_134 hx hb hts hown hG hI hS (ly_sub_7_reader hL) dX7_load_64 (fun H locs hI hS => ?_)
    rw [← eσ_7] at hI
    refine lv_aload_n hx hb dX7_load_67 rfl (lv_at hl 0 rfl) ?_
    refine gX7_10 (o' := 1) hx hb hts hown hG hI hL rfl dX7_load_68 ?_
    refine gX7_99 (o' := 9) hx hb hts hown hG hI (ly_sub_7_now hL) rfl dX7_load_71 ?_
    refine gX7_112 hx hb hts hown hG hI (ly_sub_5_chain (ly_sub_7_now hL)) dX7_load_74 ?_
    obtain ⟨rfl, rfl⟩ := sp_e hf
    exact mm_ret hx hb hr hlocks rfl hI hS dX7_load_77
  · have hf := pos_e c_8 hf
    refine lv_bipush (v := (-10)) hx hb dX7_load_20 (by decide) ?_
    refine lv_aload_n hx hb dX7_load_22 rfl (lv_at hl 0 rfl) ?_
    refine gX7_26 (o' := 171) hx hb hts hown hG hI hL rfl dX7_load_23 ?_
    refine gX7_143 hx hb hts hown hG hI (ly_sub_7_reader hL) dX7_load_26 ?_
    refine lv_isub hx hb dX7_load_29 ?_
    obtain ⟨rfl, rfl⟩ := sp_e hf
    exact mm_ret hx hb hr hlocks rfl hI hS dX7_load_30
def f_X7_append (a1 : Int32) (σ : Nat → Nat → Int32) : Option (Int32 × (Nat → Nat → Int32)) := bi (f_X7_isBetween a1 1 255 σ) fun r_1 => if r_1 = 0 then (some ((-1), σ)) else (bi (f_X1_isFull σ) fun r_2 => if r_2 = 0 then (bi (f_X1_addLast a1 σ) fun σ_4 => some (σ_4 171 2, σ_4)) else (some ((-3), σ)))
set_option maxHeartbeats 4000000 in
set_option maxRecDepth 100000 in
theorem c_X7_append (l : Launch) (D : va_G) (cI cS : ClassId) (Z : Nat) (K : Nat → Nat) (hL : ly K 0 lyLoom) (a1 : Int32) (σ : Nat → Nat → Int32) (r : Int32) (σ' : Nat → Nat → Int32) (hf : f_X7_append a1 σ = some (r, σ')) : Met l yX7_append (wsT yX7_append cX7_append 2 (some .int)) { frames := 2, cells := 0, slots := 0, locals := 43 } (Pm D cI cS Z K [.ref (Z + 0), .int a1] σ) (Qi D cI cS Z K r σ') 0 0 (aZ Z) := by
  refine mm_met (lv := [(0, .ref (Z + 0)), (1, .int a1)]) (by decide) (Nat.le_of_ble_eq_true rfl) rfl ?_
  intro p e s m args below meth c ls hx hb hr hml hts hown hlocks hG hl hI hS
  have hown : s.vm.findClass RX7 = some m.cls := hown
  rw [f_X7_append] at hf
  refine lv_iload_n hx hb dX7_append_0 rfl (lv_at hl 1 rfl) ?_
  refine lv_iconst (v := 1) hx hb dX7_append_1 (by decide) ?_
  refine lv_sipush (v := 255) hx hb dX7_append_2 (by decide) ?_
  obtain ⟨r_1, hr_1, hf⟩ := bi_e hf
  refine kX7_42 hx hb hml hts hown hG hI hS hl.1 (As := [.int a1, .int 1, .int 255]) (c_X7_isBetween l D cI cS Z K a1 1 255 σ _ hr_1) ⟨(Nat.le_of_ble_eq_true rfl), (Nat.le_of_ble_eq_true rfl)⟩ rfl (Nat.le_of_ble_eq_true rfl) ⟨(Nat.le_of_ble_eq_true rfl), (Nat.le_of_ble_eq_true rfl)⟩ dX7_append_5 (fun hzr_1 H locs hI hS => ?_)
  refine lv_if_ne (tgt := 13) hx hb dX7_append_8 (by decide) (fun c_6 => ?_) (fun c_6 => ?_)
  · have hf := neg_e c_6 hf
    refine lv_aload_n hx hb dX7_append_13 rfl (lv_at hl 0 rfl) ?_
    refine gX7_26 (o' := 171) hx hb hts hown hG hI hL rfl dX7_append_14 ?_
    obtain ⟨r_2, hr_2, hf⟩ := bi_e hf
    refine kX7_131 hx hb hml hts hown hG hI hS hl.1 (ly_sub_7_reader hL) (As := []) (c_X1_isFull l D cI cS Z K (ly_sub_7_reader hL) σ _ hr_2) ⟨(Nat.le_of_ble_eq_true rfl), (Nat.le_of_ble_eq_true rfl)⟩ rfl (Nat.le_of_ble_eq_true rfl) ⟨(Nat.le_of_ble_eq_true rfl), (Nat.le_of_ble_eq_true rfl)⟩ dX7_append_17 (fun hzr_2 H locs hI hS => ?_)
    refine lv_if_eq (tgt := 26) hx hb dX7_append_20 (by decide) (fun c_5 => ?_) (fun c_5 => ?_)
    · have hf := pos_e c_5 hf
      refine lv_aload_n hx hb dX7_append_26 rfl (lv_at hl 0 rfl) ?_
      refine gX7_26 (o' := 171) hx hb hts hown hG hI hL rfl dX7_append_27 ?_
      refine lv_iload_n hx hb dX7_append_30 rfl (lv_at hl 1 rfl) ?_
      obtain ⟨σ_4, hσ_4, hf⟩ := bi_e hf
      refine kX7_132 hx hb hml hts hown hG hI hS hl.1 (ly_sub_7_reader hL) (As := [.int a1]) (c_X1_addLast l D cI cS Z K (ly_sub_7_reader hL) a1 σ _ hσ_4) ⟨(Nat.le_of_ble_eq_true rfl), (Nat.le_of_ble_eq_true rfl)⟩ rfl (Nat.le_of_ble_eq_true rfl) ⟨(Nat.le_of_ble_eq_true rfl), (Nat.le_of_ble_eq_true rfl)⟩ dX7_append_31 (fun H locs hI hS => ?_)
      refine lv_aload_n hx hb dX7_append_34 rfl (lv_at hl 0 rfl) ?_
      refine gX7_26 (o' := 171) hx hb hts hown hG hI hL rfl dX7_append_35 ?_
      refine gX7_134 hx hb hts hown hG hI (ly_sub_7_reader hL) dX7_append_38 ?_
      obtain ⟨rfl, rfl⟩ := sp_e hf
      exact mm_ret hx hb hr hlocks rfl hI hS dX7_append_41
    · have hf := neg_e c_5 hf
      refine lv_bipush (v := (-3)) hx hb dX7_append_23 (by decide) ?_
      obtain ⟨rfl, rfl⟩ := sp_e hf
      exact mm_ret hx hb hr hlocks rfl hI hS dX7_append_25
  · have hf := pos_e c_6 hf
    refine lv_iconst (v := (-1)) hx hb dX7_append_11 (by decide) ?_
    obtain ⟨rfl, rfl⟩ := sp_e hf
    exact mm_ret hx hb hr hlocks rfl hI hS dX7_append_12
