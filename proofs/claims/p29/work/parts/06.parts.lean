/-! 06.parts: mirrored programs and contracts (written by wip/p29/gen.py) -/
def f_X6_hasEnd (o : Nat) (a1 : Int32) (σ : Nat → Nat → Int32) : Option Int32 := bi (f_X7_isBetween a1 0 ((σ o 1) - 1) σ) fun r_1 => some r_1
set_option maxHeartbeats 4000000 in
set_option maxRecDepth 100000 in
theorem c_X6_hasEnd (l : Launch) (D : va_G) (cI cS : ClassId) (Z : Nat) (K : Nat → Nat) (o : Nat) (hL : ly K o lyWarp) (a1 : Int32) (σ : Nat → Nat → Int32) (r : Int32) (hf : f_X6_hasEnd o a1 σ = some r) : Met l yX6_hasEnd (wsT yX6_hasEnd cX6_hasEnd 2 (some .boolean)) { frames := 1, cells := 0, slots := 0, locals := 22 } (Pm D cI cS Z K [.ref (Z + o), .int a1] σ) (Qz D cI cS Z K r σ) 0 0 (aZ Z) := by
  refine mm_met (lv := [(0, .ref (Z + o)), (1, .int a1)]) (by decide) (Nat.le_of_ble_eq_true rfl) rfl ?_
  intro p e s m args below meth c ls hx hb hr hml hts hown hlocks hG hl hI hS
  have hown : s.vm.findClass RX6 = some m.cls := hown
  rw [f_X6_hasEnd] at hf
  refine lv_iload_n hx hb dX6_hasEnd_0 rfl (lv_at hl 1 rfl) ?_
  refine lv_iconst (v := 0) hx hb dX6_hasEnd_1 (by decide) ?_
  refine lv_aload_n hx hb dX6_hasEnd_2 rfl (lv_at hl 0 rfl) ?_
  refine gX6_30 hx hb hts hown hG hI hL dX6_hasEnd_3 ?_
  refine lv_iconst (v := 1) hx hb dX6_hasEnd_6 (by decide) ?_
  refine lv_isub hx hb dX6_hasEnd_7 ?_
  obtain ⟨r_1, hr_1, hf⟩ := bi_e hf
  refine kX6_44 hx hb hml hts hown hG hI hS hl.1 (As := [.int a1, .int 0, .int ((σ o 1) - 1)]) (c_X7_isBetween l D cI cS Z K a1 0 ((σ o 1) - 1) σ _ hr_1) ⟨(Nat.le_of_ble_eq_true rfl), (Nat.le_of_ble_eq_true rfl)⟩ rfl (Nat.le_of_ble_eq_true rfl) ⟨(Nat.le_of_ble_eq_true rfl), (Nat.le_of_ble_eq_true rfl)⟩ dX6_hasEnd_8 (fun hzr_1 H locs hI hS => ?_)
  obtain rfl := so_e hf
  exact mm_zret hx hb hr hlocks hzr_1 hI hS dX6_hasEnd_11
def f_X6_hasShaft (o : Nat) (a1 : Int32) (σ : Nat → Nat → Int32) : Option Int32 := bi (f_X7_isBetween a1 0 ((σ o 0) - 1) σ) fun r_1 => some r_1
set_option maxHeartbeats 4000000 in
set_option maxRecDepth 100000 in
theorem c_X6_hasShaft (l : Launch) (D : va_G) (cI cS : ClassId) (Z : Nat) (K : Nat → Nat) (o : Nat) (hL : ly K o lyWarp) (a1 : Int32) (σ : Nat → Nat → Int32) (r : Int32) (hf : f_X6_hasShaft o a1 σ = some r) : Met l yX6_hasShaft (wsT yX6_hasShaft cX6_hasShaft 2 (some .boolean)) { frames := 1, cells := 0, slots := 0, locals := 22 } (Pm D cI cS Z K [.ref (Z + o), .int a1] σ) (Qz D cI cS Z K r σ) 0 0 (aZ Z) := by
  refine mm_met (lv := [(0, .ref (Z + o)), (1, .int a1)]) (by decide) (Nat.le_of_ble_eq_true rfl) rfl ?_
  intro p e s m args below meth c ls hx hb hr hml hts hown hlocks hG hl hI hS
  have hown : s.vm.findClass RX6 = some m.cls := hown
  rw [f_X6_hasShaft] at hf
  refine lv_iload_n hx hb dX6_hasShaft_0 rfl (lv_at hl 1 rfl) ?_
  refine lv_iconst (v := 0) hx hb dX6_hasShaft_1 (by decide) ?_
  refine lv_aload_n hx hb dX6_hasShaft_2 rfl (lv_at hl 0 rfl) ?_
  refine gX6_26 hx hb hts hown hG hI hL dX6_hasShaft_3 ?_
  refine lv_iconst (v := 1) hx hb dX6_hasShaft_6 (by decide) ?_
  refine lv_isub hx hb dX6_hasShaft_7 ?_
  obtain ⟨r_1, hr_1, hf⟩ := bi_e hf
  refine kX6_44 hx hb hml hts hown hG hI hS hl.1 (As := [.int a1, .int 0, .int ((σ o 0) - 1)]) (c_X7_isBetween l D cI cS Z K a1 0 ((σ o 0) - 1) σ _ hr_1) ⟨(Nat.le_of_ble_eq_true rfl), (Nat.le_of_ble_eq_true rfl)⟩ rfl (Nat.le_of_ble_eq_true rfl) ⟨(Nat.le_of_ble_eq_true rfl), (Nat.le_of_ble_eq_true rfl)⟩ dX6_hasShaft_8 (fun hzr_1 H locs hI hS => ?_)
  obtain rfl := so_e hf
  exact mm_zret hx hb hr hlocks hzr_1 hI hS dX6_hasShaft_11
def f_X6_copyFrom (o : Nat) (o2 : Nat) (σ : Nat → Nat → Int32) : Option (Nat → Nat → Int32) := vl (wr σ o 0 (σ o2 0)) fun σ_1 => vl (wr σ_1 o 1 (σ_1 o2 1)) fun σ_2 => bi (f_X4_copyFrom (o + 1) 32 (o2 + 1) 32 σ_2) fun σ_4 => bi (f_X4_copyFrom (o + 3) 32 (o2 + 3) 32 σ_4) fun σ_6 => bi (f_X4_copyFrom (o + 5) 8 (o2 + 5) 8 σ_6) fun σ_8 => some σ_8
set_option maxHeartbeats 4000000 in
set_option maxRecDepth 100000 in
theorem c_X6_copyFrom (l : Launch) (D : va_G) (cI cS : ClassId) (Z : Nat) (K : Nat → Nat) (o : Nat) (hL : ly K o lyWarp) (o2 : Nat) (hL2 : ly K o2 lyWarp) (σ : Nat → Nat → Int32) (σ' : Nat → Nat → Int32) (hne : o ≠ o2) (hf : f_X6_copyFrom o o2 σ = some σ') : Met l yX6_copyFrom (wsT yX6_copyFrom cX6_copyFrom 2 none) { frames := 2, cells := 0, slots := 0, locals := 61 } (Pm D cI cS Z K [.ref (Z + o), .ref (Z + o2)] σ) (Qv D cI cS Z K σ') 0 0 (aZ Z) := by
  refine mm_met (lv := [(0, .ref (Z + o)), (1, .ref (Z + o2))]) (by decide) (Nat.le_of_ble_eq_true rfl) rfl ?_
  intro p e s m args below meth c ls hx hb hr hml hts hown hlocks hG hl hI hS
  have hown : s.vm.findClass RX6 = some m.cls := hown
  rw [f_X6_copyFrom] at hf
  refine lv_aload_n hx hb dX6_copyFrom_0 rfl (lv_at hl 0 rfl) ?_
  refine lv_aload_n hx hb dX6_copyFrom_1 rfl (lv_at hl 1 rfl) ?_
  refine gX6_26 hx hb hts hown hG hI hL2 dX6_copyFrom_2 ?_
  obtain ⟨σ_1, eσ_1, hf⟩ := vl_e hf
  refine pX6_26 hx hb hts hown hG hI hS hL dX6_copyFrom_5 (fun H locs hI hS => ?_)
  rw [← eσ_1] at hI
  refine lv_aload_n hx hb dX6_copyFrom_8 rfl (lv_at hl 0 rfl) ?_
  refine lv_aload_n hx hb dX6_copyFrom_9 rfl (lv_at hl 1 rfl) ?_
  refine gX6_30 hx hb hts hown hG hI hL2 dX6_copyFrom_10 ?_
  obtain ⟨σ_2, eσ_2, hf⟩ := vl_e hf
  refine pX6_30 hx hb hts hown hG hI hS hL dX6_copyFrom_13 (fun H locs hI hS => ?_)
  rw [← eσ_2] at hI
  refine lv_aload_n hx hb dX6_copyFrom_16 rfl (lv_at hl 0 rfl) ?_
  refine gX6_14 (o' := (o + 1)) hx hb hts hown hG hI hL rfl dX6_copyFrom_17 ?_
  refine lv_aload_n hx hb dX6_copyFrom_20 rfl (lv_at hl 1 rfl) ?_
  refine gX6_14 (o' := (o2 + 1)) hx hb hts hown hG hI hL2 rfl dX6_copyFrom_21 ?_
  obtain ⟨σ_4, hσ_4, hf⟩ := bi_e hf
  refine kX6_40 hx hb hml hts hown hG hI hS hl.1 (ly_sub_6_shaftOf hL) (As := [.ref (Z + (o2 + 1))]) (c_X4_copyFrom l D cI cS Z K (o + 1) 32 (ly_sub_6_shaftOf hL) (o2 + 1) 32 (ly_sub_6_shaftOf hL2) σ_2 _ (by omega) hσ_4) ⟨(Nat.le_of_ble_eq_true rfl), (Nat.le_of_ble_eq_true rfl)⟩ rfl (Nat.le_of_ble_eq_true rfl) ⟨(Nat.le_of_ble_eq_true rfl), (Nat.le_of_ble_eq_true rfl)⟩ dX6_copyFrom_24 (fun H locs hI hS => ?_)
  refine lv_aload_n hx hb dX6_copyFrom_27 rfl (lv_at hl 0 rfl) ?_
  refine gX6_20 (o' := (o + 3)) hx hb hts hown hG hI hL rfl dX6_copyFrom_28 ?_
  refine lv_aload_n hx hb dX6_copyFrom_31 rfl (lv_at hl 1 rfl) ?_
  refine gX6_20 (o' := (o2 + 3)) hx hb hts hown hG hI hL2 rfl dX6_copyFrom_32 ?_
  obtain ⟨σ_6, hσ_6, hf⟩ := bi_e hf
  refine kX6_40 hx hb hml hts hown hG hI hS hl.1 (ly_sub_6_colorOf hL) (As := [.ref (Z + (o2 + 3))]) (c_X4_copyFrom l D cI cS Z K (o + 3) 32 (ly_sub_6_colorOf hL) (o2 + 3) 32 (ly_sub_6_colorOf hL2) σ_4 _ (by omega) hσ_6) ⟨(Nat.le_of_ble_eq_true rfl), (Nat.le_of_ble_eq_true rfl)⟩ rfl (Nat.le_of_ble_eq_true rfl) ⟨(Nat.le_of_ble_eq_true rfl), (Nat.le_of_ble_eq_true rfl)⟩ dX6_copyFrom_35 (fun H locs hI hS => ?_)
  refine lv_aload_n hx hb dX6_copyFrom_38 rfl (lv_at hl 0 rfl) ?_
  refine gX6_23 (o' := (o + 5)) hx hb hts hown hG hI hL rfl dX6_copyFrom_39 ?_
  refine lv_aload_n hx hb dX6_copyFrom_42 rfl (lv_at hl 1 rfl) ?_
  refine gX6_23 (o' := (o2 + 5)) hx hb hts hown hG hI hL2 rfl dX6_copyFrom_43 ?_
  obtain ⟨σ_8, hσ_8, hf⟩ := bi_e hf
  refine kX6_40 hx hb hml hts hown hG hI hS hl.1 (ly_sub_6_faultOf hL) (As := [.ref (Z + (o2 + 5))]) (c_X4_copyFrom l D cI cS Z K (o + 5) 8 (ly_sub_6_faultOf hL) (o2 + 5) 8 (ly_sub_6_faultOf hL2) σ_6 _ (by omega) hσ_8) ⟨(Nat.le_of_ble_eq_true rfl), (Nat.le_of_ble_eq_true rfl)⟩ rfl (Nat.le_of_ble_eq_true rfl) ⟨(Nat.le_of_ble_eq_true rfl), (Nat.le_of_ble_eq_true rfl)⟩ dX6_copyFrom_46 (fun H locs hI hS => ?_)
  obtain rfl := so_e hf
  exact mm_vret hx hb hr hlocks hI hS dX6_copyFrom_49
def f_X0_takeBarsOf (o : Nat) (o2 : Nat) (σ : Nat → Nat → Int32) : Option (Nat → Nat → Int32) := vl (wr σ o 0 (σ o2 0)) fun σ_1 => vl (wr σ_1 o 1 0) fun σ_2 => bi (f_X4_copyFrom (o + 1) 24 (o2 + 1) 24 σ_2) fun σ_4 => bi (f_X4_copyFrom (o + 3) 24 (o2 + 3) 24 σ_4) fun σ_6 => some σ_6
set_option maxHeartbeats 4000000 in
set_option maxRecDepth 100000 in
theorem c_X0_takeBarsOf (l : Launch) (D : va_G) (cI cS : ClassId) (Z : Nat) (K : Nat → Nat) (o : Nat) (hL : ly K o lyChain) (o2 : Nat) (hL2 : ly K o2 lyChain) (σ : Nat → Nat → Int32) (σ' : Nat → Nat → Int32) (hne : o ≠ o2) (hf : f_X0_takeBarsOf o o2 σ = some σ') : Met l yX0_takeBarsOf (wsT yX0_takeBarsOf cX0_takeBarsOf 2 none) { frames := 2, cells := 0, slots := 0, locals := 61 } (Pm D cI cS Z K [.ref (Z + o), .ref (Z + o2)] σ) (Qv D cI cS Z K σ') 0 0 (aZ Z) := by
  refine mm_met (lv := [(0, .ref (Z + o)), (1, .ref (Z + o2))]) (by decide) (Nat.le_of_ble_eq_true rfl) rfl ?_
  intro p e s m args below meth c ls hx hb hr hml hts hown hlocks hG hl hI hS
  have hown : s.vm.findClass RX0 = some m.cls := hown
  rw [f_X0_takeBarsOf] at hf
  refine lv_aload_n hx hb dX0_takeBarsOf_0 rfl (lv_at hl 0 rfl) ?_
  refine lv_aload_n hx hb dX0_takeBarsOf_1 rfl (lv_at hl 1 rfl) ?_
  refine gX0_23 hx hb hts hown hG hI hL2 dX0_takeBarsOf_2 ?_
  obtain ⟨σ_1, eσ_1, hf⟩ := vl_e hf
  refine pX0_23 hx hb hts hown hG hI hS hL dX0_takeBarsOf_5 (fun H locs hI hS => ?_)
  rw [← eσ_1] at hI
  refine lv_aload_n hx hb dX0_takeBarsOf_8 rfl (lv_at hl 0 rfl) ?_
  refine lv_iconst (v := 0) hx hb dX0_takeBarsOf_9 (by decide) ?_
  obtain ⟨σ_2, eσ_2, hf⟩ := vl_e hf
  refine pX0_27 hx hb hts hown hG hI hS hL dX0_takeBarsOf_10 (fun H locs hI hS => ?_)
  rw [← eσ_2] at hI
  refine lv_aload_n hx hb dX0_takeBarsOf_13 rfl (lv_at hl 0 rfl) ?_
  refine gX0_14 (o' := (o + 1)) hx hb hts hown hG hI hL rfl dX0_takeBarsOf_14 ?_
  refine lv_aload_n hx hb dX0_takeBarsOf_17 rfl (lv_at hl 1 rfl) ?_
  refine gX0_14 (o' := (o2 + 1)) hx hb hts hown hG hI hL2 rfl dX0_takeBarsOf_18 ?_
  obtain ⟨σ_4, hσ_4, hf⟩ := bi_e hf
  refine kX0_30 hx hb hml hts hown hG hI hS hl.1 (ly_sub_0_liftOf hL) (As := [.ref (Z + (o2 + 1))]) (c_X4_copyFrom l D cI cS Z K (o + 1) 24 (ly_sub_0_liftOf hL) (o2 + 1) 24 (ly_sub_0_liftOf hL2) σ_2 _ (by omega) hσ_4) ⟨(Nat.le_of_ble_eq_true rfl), (Nat.le_of_ble_eq_true rfl)⟩ rfl (Nat.le_of_ble_eq_true rfl) ⟨(Nat.le_of_ble_eq_true rfl), (Nat.le_of_ble_eq_true rfl)⟩ dX0_takeBarsOf_21 (fun H locs hI hS => ?_)
  refine lv_aload_n hx hb dX0_takeBarsOf_24 rfl (lv_at hl 0 rfl) ?_
  refine gX0_20 (o' := (o + 3)) hx hb hts hown hG hI hL rfl dX0_takeBarsOf_25 ?_
  refine lv_aload_n hx hb dX0_takeBarsOf_28 rfl (lv_at hl 1 rfl) ?_
  refine gX0_20 (o' := (o2 + 3)) hx hb hts hown hG hI hL2 rfl dX0_takeBarsOf_29 ?_
  obtain ⟨σ_6, hσ_6, hf⟩ := bi_e hf
  refine kX0_30 hx hb hml hts hown hG hI hS hl.1 (ly_sub_0_colorOf hL) (As := [.ref (Z + (o2 + 3))]) (c_X4_copyFrom l D cI cS Z K (o + 3) 24 (ly_sub_0_colorOf hL) (o2 + 3) 24 (ly_sub_0_colorOf hL2) σ_4 _ (by omega) hσ_6) ⟨(Nat.le_of_ble_eq_true rfl), (Nat.le_of_ble_eq_true rfl)⟩ rfl (Nat.le_of_ble_eq_true rfl) ⟨(Nat.le_of_ble_eq_true rfl), (Nat.le_of_ble_eq_true rfl)⟩ dX0_takeBarsOf_32 (fun H locs hI hS => ?_)
  obtain rfl := so_e hf
  exact mm_vret hx hb hr hlocks hI hS dX0_takeBarsOf_35
def f_X0_copyFrom (o : Nat) (o2 : Nat) (σ : Nat → Nat → Int32) : Option (Nat → Nat → Int32) := bi (f_X0_takeBarsOf o o2 σ) fun σ_2 => vl (wr σ_2 o 1 (σ_2 o2 1)) fun σ_3 => vl (wr σ_3 o 2 (σ_3 o2 2)) fun σ_4 => some σ_4
set_option maxHeartbeats 4000000 in
set_option maxRecDepth 100000 in
theorem c_X0_copyFrom (l : Launch) (D : va_G) (cI cS : ClassId) (Z : Nat) (K : Nat → Nat) (o : Nat) (hL : ly K o lyChain) (o2 : Nat) (hL2 : ly K o2 lyChain) (σ : Nat → Nat → Int32) (σ' : Nat → Nat → Int32) (hne : o ≠ o2) (hf : f_X0_copyFrom o o2 σ = some σ') : Met l yX0_copyFrom (wsT yX0_copyFrom cX0_copyFrom 2 none) { frames := 3, cells := 0, slots := 0, locals := 82 } (Pm D cI cS Z K [.ref (Z + o), .ref (Z + o2)] σ) (Qv D cI cS Z K σ') 0 0 (aZ Z) := by
  refine mm_met (lv := [(0, .ref (Z + o)), (1, .ref (Z + o2))]) (by decide) (Nat.le_of_ble_eq_true rfl) rfl ?_
  intro p e s m args below meth c ls hx hb hr hml hts hown hlocks hG hl hI hS
  have hown : s.vm.findClass RX0 = some m.cls := hown
  rw [f_X0_copyFrom] at hf
  refine lv_aload_n hx hb dX0_copyFrom_0 rfl (lv_at hl 0 rfl) ?_
  refine lv_aload_n hx hb dX0_copyFrom_1 rfl (lv_at hl 1 rfl) ?_
  obtain ⟨σ_2, hσ_2, hf⟩ := bi_e hf
  refine kX0_34 hx hb hml hts hown hG hI hS hl.1 hL (As := [.ref (Z + o2)]) (c_X0_takeBarsOf l D cI cS Z K o hL o2 hL2 σ _ (by omega) hσ_2) ⟨(Nat.le_of_ble_eq_true rfl), (Nat.le_of_ble_eq_true rfl)⟩ rfl (Nat.le_of_ble_eq_true rfl) ⟨(Nat.le_of_ble_eq_true rfl), (Nat.le_of_ble_eq_true rfl)⟩ dX0_copyFrom_2 (fun H locs hI hS => ?_)
  refine lv_aload_n hx hb dX0_copyFrom_5 rfl (lv_at hl 0 rfl) ?_
  refine lv_aload_n hx hb dX0_copyFrom_6 rfl (lv_at hl 1 rfl) ?_
  refine gX0_27 hx hb hts hown hG hI hL2 dX0_copyFrom_7 ?_
  obtain ⟨σ_3, eσ_3, hf⟩ := vl_e hf
  refine pX0_27 hx hb hts hown hG hI hS hL dX0_copyFrom_10 (fun H locs hI hS => ?_)
  rw [← eσ_3] at hI
  refine lv_aload_n hx hb dX0_copyFrom_13 rfl (lv_at hl 0 rfl) ?_
  refine lv_aload_n hx hb dX0_copyFrom_14 rfl (lv_at hl 1 rfl) ?_
  refine gX0_38 hx hb hts hown hG hI hL2 dX0_copyFrom_15 ?_
  obtain ⟨σ_4, eσ_4, hf⟩ := vl_e hf
  refine pX0_38 hx hb hts hown hG hI hS hL dX0_copyFrom_18 (fun H locs hI hS => ?_)
  rw [← eσ_4] at hI
  obtain rfl := so_e hf
  exact mm_vret hx hb hr hlocks hI hS dX0_copyFrom_21
def f_X2_copyFrom (o : Nat) (o2 : Nat) (σ : Nat → Nat → Int32) : Option (Nat → Nat → Int32) := vl (wr σ o 0 (σ o2 0)) fun σ_1 => bi (f_X4_copyFrom (o + 1) 64 (o2 + 1) 64 σ_1) fun σ_3 => bi (f_X4_copyFrom (o + 3) 64 (o2 + 3) 64 σ_3) fun σ_5 => bi (f_X4_copyFrom (o + 5) 64 (o2 + 5) 64 σ_5) fun σ_7 => bi (f_X4_copyFrom (o + 7) 64 (o2 + 7) 64 σ_7) fun σ_9 => bi (f_X4_copyFrom (o + 9) 64 (o2 + 9) 64 σ_9) fun σ_11 => bi (f_X4_copyFrom (o + 11) 64 (o2 + 11) 64 σ_11) fun σ_13 => some σ_13
set_option maxHeartbeats 4000000 in
set_option maxRecDepth 100000 in
theorem c_X2_copyFrom (l : Launch) (D : va_G) (cI cS : ClassId) (Z : Nat) (K : Nat → Nat) (o : Nat) (hL : ly K o lyCloth) (o2 : Nat) (hL2 : ly K o2 lyCloth) (σ : Nat → Nat → Int32) (σ' : Nat → Nat → Int32) (hne : o ≠ o2) (hf : f_X2_copyFrom o o2 σ = some σ') : Met l yX2_copyFrom (wsT yX2_copyFrom cX2_copyFrom 2 none) { frames := 2, cells := 0, slots := 0, locals := 61 } (Pm D cI cS Z K [.ref (Z + o), .ref (Z + o2)] σ) (Qv D cI cS Z K σ') 0 0 (aZ Z) := by
  refine mm_met (lv := [(0, .ref (Z + o)), (1, .ref (Z + o2))]) (by decide) (Nat.le_of_ble_eq_true rfl) rfl ?_
  intro p e s m args below meth c ls hx hb hr hml hts hown hlocks hG hl hI hS
  have hown : s.vm.findClass RX2 = some m.cls := hown
  rw [f_X2_copyFrom] at hf
  refine lv_aload_n hx hb dX2_copyFrom_0 rfl (lv_at hl 0 rfl) ?_
  refine lv_aload_n hx hb dX2_copyFrom_1 rfl (lv_at hl 1 rfl) ?_
  refine gX2_35 hx hb hts hown hG hI hL2 dX2_copyFrom_2 ?_
  obtain ⟨σ_1, eσ_1, hf⟩ := vl_e hf
  refine pX2_35 hx hb hts hown hG hI hS hL dX2_copyFrom_5 (fun H locs hI hS => ?_)
  rw [← eσ_1] at hI
  refine lv_aload_n hx hb dX2_copyFrom_8 rfl (lv_at hl 0 rfl) ?_
  refine gX2_14 (o' := (o + 1)) hx hb hts hown hG hI hL rfl dX2_copyFrom_9 ?_
  refine lv_aload_n hx hb dX2_copyFrom_12 rfl (lv_at hl 1 rfl) ?_
  refine gX2_14 (o' := (o2 + 1)) hx hb hts hown hG hI hL2 rfl dX2_copyFrom_13 ?_
  obtain ⟨σ_3, hσ_3, hf⟩ := bi_e hf
  refine kX2_39 hx hb hml hts hown hG hI hS hl.1 (ly_sub_2_colorOf hL) (As := [.ref (Z + (o2 + 1))]) (c_X4_copyFrom l D cI cS Z K (o + 1) 64 (ly_sub_2_colorOf hL) (o2 + 1) 64 (ly_sub_2_colorOf hL2) σ_1 _ (by omega) hσ_3) ⟨(Nat.le_of_ble_eq_true rfl), (Nat.le_of_ble_eq_true rfl)⟩ rfl (Nat.le_of_ble_eq_true rfl) ⟨(Nat.le_of_ble_eq_true rfl), (Nat.le_of_ble_eq_true rfl)⟩ dX2_copyFrom_16 (fun H locs hI hS => ?_)
  refine lv_aload_n hx hb dX2_copyFrom_19 rfl (lv_at hl 0 rfl) ?_
  refine gX2_20 (o' := (o + 3)) hx hb hts hown hG hI hL rfl dX2_copyFrom_20 ?_
  refine lv_aload_n hx hb dX2_copyFrom_23 rfl (lv_at hl 1 rfl) ?_
  refine gX2_20 (o' := (o2 + 3)) hx hb hts hown hG hI hL2 rfl dX2_copyFrom_24 ?_
  obtain ⟨σ_5, hσ_5, hf⟩ := bi_e hf
  refine kX2_39 hx hb hml hts hown hG hI hS hl.1 (ly_sub_2_barOf hL) (As := [.ref (Z + (o2 + 3))]) (c_X4_copyFrom l D cI cS Z K (o + 3) 64 (ly_sub_2_barOf hL) (o2 + 3) 64 (ly_sub_2_barOf hL2) σ_3 _ (by omega) hσ_5) ⟨(Nat.le_of_ble_eq_true rfl), (Nat.le_of_ble_eq_true rfl)⟩ rfl (Nat.le_of_ble_eq_true rfl) ⟨(Nat.le_of_ble_eq_true rfl), (Nat.le_of_ble_eq_true rfl)⟩ dX2_copyFrom_27 (fun H locs hI hS => ?_)
  refine lv_aload_n hx hb dX2_copyFrom_30 rfl (lv_at hl 0 rfl) ?_
  refine gX2_23 (o' := (o + 5)) hx hb hts hown hG hI hL rfl dX2_copyFrom_31 ?_
  refine lv_aload_n hx hb dX2_copyFrom_34 rfl (lv_at hl 1 rfl) ?_
  refine gX2_23 (o' := (o2 + 5)) hx hb hts hown hG hI hL2 rfl dX2_copyFrom_35 ?_
  obtain ⟨σ_7, hσ_7, hf⟩ := bi_e hf
  refine kX2_39 hx hb hml hts hown hG hI hS hl.1 (ly_sub_2_usedOf hL) (As := [.ref (Z + (o2 + 5))]) (c_X4_copyFrom l D cI cS Z K (o + 5) 64 (ly_sub_2_usedOf hL) (o2 + 5) 64 (ly_sub_2_usedOf hL2) σ_5 _ (by omega) hσ_7) ⟨(Nat.le_of_ble_eq_true rfl), (Nat.le_of_ble_eq_true rfl)⟩ rfl (Nat.le_of_ble_eq_true rfl) ⟨(Nat.le_of_ble_eq_true rfl), (Nat.le_of_ble_eq_true rfl)⟩ dX2_copyFrom_38 (fun H locs hI hS => ?_)
  refine lv_aload_n hx hb dX2_copyFrom_41 rfl (lv_at hl 0 rfl) ?_
  refine gX2_26 (o' := (o + 7)) hx hb hts hown hG hI hL rfl dX2_copyFrom_42 ?_
  refine lv_aload_n hx hb dX2_copyFrom_45 rfl (lv_at hl 1 rfl) ?_
  refine gX2_26 (o' := (o2 + 7)) hx hb hts hown hG hI hL2 rfl dX2_copyFrom_46 ?_
  obtain ⟨σ_9, hσ_9, hf⟩ := bi_e hf
  refine kX2_39 hx hb hml hts hown hG hI hS hl.1 (ly_sub_2_aboveOf hL) (As := [.ref (Z + (o2 + 7))]) (c_X4_copyFrom l D cI cS Z K (o + 7) 64 (ly_sub_2_aboveOf hL) (o2 + 7) 64 (ly_sub_2_aboveOf hL2) σ_7 _ (by omega) hσ_9) ⟨(Nat.le_of_ble_eq_true rfl), (Nat.le_of_ble_eq_true rfl)⟩ rfl (Nat.le_of_ble_eq_true rfl) ⟨(Nat.le_of_ble_eq_true rfl), (Nat.le_of_ble_eq_true rfl)⟩ dX2_copyFrom_49 (fun H locs hI hS => ?_)
  refine lv_aload_n hx hb dX2_copyFrom_52 rfl (lv_at hl 0 rfl) ?_
  refine gX2_29 (o' := (o + 9)) hx hb hts hown hG hI hL rfl dX2_copyFrom_53 ?_
  refine lv_aload_n hx hb dX2_copyFrom_56 rfl (lv_at hl 1 rfl) ?_
  refine gX2_29 (o' := (o2 + 9)) hx hb hts hown hG hI hL2 rfl dX2_copyFrom_57 ?_
  obtain ⟨σ_11, hσ_11, hf⟩ := bi_e hf
  refine kX2_39 hx hb hml hts hown hG hI hS hl.1 (ly_sub_2_missingOf hL) (As := [.ref (Z + (o2 + 9))]) (c_X4_copyFrom l D cI cS Z K (o + 9) 64 (ly_sub_2_missingOf hL) (o2 + 9) 64 (ly_sub_2_missingOf hL2) σ_9 _ (by omega) hσ_11) ⟨(Nat.le_of_ble_eq_true rfl), (Nat.le_of_ble_eq_true rfl)⟩ rfl (Nat.le_of_ble_eq_true rfl) ⟨(Nat.le_of_ble_eq_true rfl), (Nat.le_of_ble_eq_true rfl)⟩ dX2_copyFrom_60 (fun H locs hI hS => ?_)
  refine lv_aload_n hx hb dX2_copyFrom_63 rfl (lv_at hl 0 rfl) ?_
  refine gX2_32 (o' := (o + 11)) hx hb hts hown hG hI hL rfl dX2_copyFrom_64 ?_
  refine lv_aload_n hx hb dX2_copyFrom_67 rfl (lv_at hl 1 rfl) ?_
  refine gX2_32 (o' := (o2 + 11)) hx hb hts hown hG hI hL2 rfl dX2_copyFrom_68 ?_
  obtain ⟨σ_13, hσ_13, hf⟩ := bi_e hf
  refine kX2_39 hx hb hml hts hown hG hI hS hl.1 (ly_sub_2_planOf hL) (As := [.ref (Z + (o2 + 11))]) (c_X4_copyFrom l D cI cS Z K (o + 11) 64 (ly_sub_2_planOf hL) (o2 + 11) 64 (ly_sub_2_planOf hL2) σ_11 _ (by omega) hσ_13) ⟨(Nat.le_of_ble_eq_true rfl), (Nat.le_of_ble_eq_true rfl)⟩ rfl (Nat.le_of_ble_eq_true rfl) ⟨(Nat.le_of_ble_eq_true rfl), (Nat.le_of_ble_eq_true rfl)⟩ dX2_copyFrom_71 (fun H locs hI hS => ?_)
  obtain rfl := so_e hf
  exact mm_vret hx hb hr hlocks hI hS dX2_copyFrom_74
def f_X6_isLift (o : Nat) (a1 : Int32) (σ : Nat → Nat → Int32) : Option Int32 := bi (f_X7_isBetween a1 0 ((1 <<< ((σ o 0) &&& 31)) - 1) σ) fun r_1 => some r_1
set_option maxHeartbeats 4000000 in
set_option maxRecDepth 100000 in
theorem c_X6_isLift (l : Launch) (D : va_G) (cI cS : ClassId) (Z : Nat) (K : Nat → Nat) (o : Nat) (hL : ly K o lyWarp) (a1 : Int32) (σ : Nat → Nat → Int32) (r : Int32) (hf : f_X6_isLift o a1 σ = some r) : Met l yX6_isLift (wsT yX6_isLift cX6_isLift 2 (some .boolean)) { frames := 1, cells := 0, slots := 0, locals := 22 } (Pm D cI cS Z K [.ref (Z + o), .int a1] σ) (Qz D cI cS Z K r σ) 0 0 (aZ Z) := by
  refine mm_met (lv := [(0, .ref (Z + o)), (1, .int a1)]) (by decide) (Nat.le_of_ble_eq_true rfl) rfl ?_
  intro p e s m args below meth c ls hx hb hr hml hts hown hlocks hG hl hI hS
  have hown : s.vm.findClass RX6 = some m.cls := hown
  rw [f_X6_isLift] at hf
  refine lv_iload_n hx hb dX6_isLift_0 rfl (lv_at hl 1 rfl) ?_
  refine lv_iconst (v := 0) hx hb dX6_isLift_1 (by decide) ?_
  refine lv_iconst (v := 1) hx hb dX6_isLift_2 (by decide) ?_
  refine lv_aload_n hx hb dX6_isLift_3 rfl (lv_at hl 0 rfl) ?_
  refine gX6_26 hx hb hts hown hG hI hL dX6_isLift_4 ?_
  refine lv_ishl hx hb dX6_isLift_7 ?_
  refine lv_iconst (v := 1) hx hb dX6_isLift_8 (by decide) ?_
  refine lv_isub hx hb dX6_isLift_9 ?_
  obtain ⟨r_1, hr_1, hf⟩ := bi_e hf
  refine kX6_44 hx hb hml hts hown hG hI hS hl.1 (As := [.int a1, .int 0, .int ((1 <<< ((σ o 0) &&& 31)) - 1)]) (c_X7_isBetween l D cI cS Z K a1 0 ((1 <<< ((σ o 0) &&& 31)) - 1) σ _ hr_1) ⟨(Nat.le_of_ble_eq_true rfl), (Nat.le_of_ble_eq_true rfl)⟩ rfl (Nat.le_of_ble_eq_true rfl) ⟨(Nat.le_of_ble_eq_true rfl), (Nat.le_of_ble_eq_true rfl)⟩ dX6_isLift_10 (fun hzr_1 H locs hI hS => ?_)
  obtain rfl := so_e hf
  exact mm_zret hx hb hr hlocks hzr_1 hI hS dX6_isLift_13
def f_X0_isFull (o : Nat) (σ : Nat → Nat → Int32) : Option Int32 := if (σ o 0) < 24 then (some 0) else (some 1)
set_option maxHeartbeats 4000000 in
set_option maxRecDepth 100000 in
theorem c_X0_isFull (l : Launch) (D : va_G) (cI cS : ClassId) (Z : Nat) (K : Nat → Nat) (o : Nat) (hL : ly K o lyChain) (σ : Nat → Nat → Int32) (r : Int32) (hf : f_X0_isFull o σ = some r) : Met l yX0_isFull (wsT yX0_isFull cX0_isFull 1 (some .boolean)) { frames := 0, cells := 0, slots := 0, locals := 0 } (Pm D cI cS Z K [.ref (Z + o)] σ) (Qz D cI cS Z K r σ) 0 0 (aZ Z) := by
  refine mm_met (lv := [(0, .ref (Z + o))]) (by decide) (Nat.le_of_ble_eq_true rfl) rfl ?_
  intro p e s m args below meth c ls hx hb hr hml hts hown hlocks hG hl hI hS
  have hown : s.vm.findClass RX0 = some m.cls := hown
  rw [f_X0_isFull] at hf
  refine lv_aload_n hx hb dX0_isFull_0 rfl (lv_at hl 0 rfl) ?_
  refine gX0_23 hx hb hts hown hG hI hL dX0_isFull_1 ?_
  refine lv_bipush (v := 24) hx hb dX0_isFull_4 (by decide) ?_
  refine lv_icmp_lt (tgt := 13) hx hb dX0_isFull_6 (by decide) (fun c_1 => ?_) (fun c_1 => ?_)
  · have hf := pos_e c_1 hf
    refine lv_iconst (v := 0) hx hb dX0_isFull_13 (by decide) ?_
    obtain rfl := so_e hf
    exact mm_zret hx hb hr hlocks (Or.inl rfl) hI hS dX0_isFull_14
  · have hf := neg_e c_1 hf
    refine lv_iconst (v := 1) hx hb dX0_isFull_9 (by decide) ?_
    refine lv_goto (tgt := 14) hx hb dX0_isFull_10 (by decide) ?_
    obtain rfl := so_e hf
    exact mm_zret hx hb hr hlocks (Or.inr rfl) hI hS dX0_isFull_14
def f_X0_addLast (o : Nat) (a1 : Int32) (a2 : Int32) (σ : Nat → Nat → Int32) : Option (Nat → Nat → Int32) := bi (f_X0_isFull o σ) fun r_1 => if r_1 = 0 then (bi (f_X4_put (o + 1) 24 (σ o 0) a1 σ) fun σ_3 => bi (f_X4_put (o + 3) 24 (σ_3 o 0) a2 σ_3) fun σ_5 => vl (wr σ_5 o 0 ((σ_5 o 0) + 1)) fun σ_6 => some σ_6) else (some σ)
set_option maxHeartbeats 4000000 in
set_option maxRecDepth 100000 in
theorem c_X0_addLast (l : Launch) (D : va_G) (cI cS : ClassId) (Z : Nat) (K : Nat → Nat) (o : Nat) (hL : ly K o lyChain) (a1 : Int32) (a2 : Int32) (σ : Nat → Nat → Int32) (σ' : Nat → Nat → Int32) (hf : f_X0_addLast o a1 a2 σ = some σ') : Met l yX0_addLast (wsT yX0_addLast cX0_addLast 3 none) { frames := 1, cells := 0, slots := 0, locals := 22 } (Pm D cI cS Z K [.ref (Z + o), .int a1, .int a2] σ) (Qv D cI cS Z K σ') 0 0 (aZ Z) := by
  refine mm_met (lv := [(0, .ref (Z + o)), (1, .int a1), (2, .int a2)]) (by decide) (Nat.le_of_ble_eq_true rfl) rfl ?_
  intro p e s m args below meth c ls hx hb hr hml hts hown hlocks hG hl hI hS
  have hown : s.vm.findClass RX0 = some m.cls := hown
  rw [f_X0_addLast] at hf
  refine lv_aload_n hx hb dX0_addLast_0 rfl (lv_at hl 0 rfl) ?_
  obtain ⟨r_1, hr_1, hf⟩ := bi_e hf
  refine kX0_45 hx hb hml hts hown hG hI hS hl.1 hL (As := []) (c_X0_isFull l D cI cS Z K o hL σ _ hr_1) ⟨(Nat.le_of_ble_eq_true rfl), (Nat.le_of_ble_eq_true rfl)⟩ rfl (Nat.le_of_ble_eq_true rfl) ⟨(Nat.le_of_ble_eq_true rfl), (Nat.le_of_ble_eq_true rfl)⟩ dX0_addLast_1 (fun hzr_1 H locs hI hS => ?_)
  refine lv_if_ne (tgt := 41) hx hb dX0_addLast_4 (by decide) (fun c_7 => ?_) (fun c_7 => ?_)
  · have hf := neg_e c_7 hf
    obtain rfl := so_e hf
    exact mm_vret hx hb hr hlocks hI hS dX0_addLast_41
  · have hf := pos_e c_7 hf
    refine lv_aload_n hx hb dX0_addLast_7 rfl (lv_at hl 0 rfl) ?_
    refine gX0_14 (o' := (o + 1)) hx hb hts hown hG hI hL rfl dX0_addLast_8 ?_
    refine lv_aload_n hx hb dX0_addLast_11 rfl (lv_at hl 0 rfl) ?_
    refine gX0_23 hx hb hts hown hG hI hL dX0_addLast_12 ?_
    refine lv_iload_n hx hb dX0_addLast_15 rfl (lv_at hl 1 rfl) ?_
    obtain ⟨σ_3, hσ_3, hf⟩ := bi_e hf
    refine kX0_49 hx hb hml hts hown hG hI hS hl.1 (ly_sub_0_liftOf hL) (As := [.int (σ o 0), .int a1]) (c_X4_put l D cI cS Z K (o + 1) 24 (ly_sub_0_liftOf hL) (σ o 0) a1 σ _ hσ_3) ⟨(Nat.le_of_ble_eq_true rfl), (Nat.le_of_ble_eq_true rfl)⟩ rfl (Nat.le_of_ble_eq_true rfl) ⟨(Nat.le_of_ble_eq_true rfl), (Nat.le_of_ble_eq_true rfl)⟩ dX0_addLast_16 (fun H locs hI hS => ?_)
    refine lv_aload_n hx hb dX0_addLast_19 rfl (lv_at hl 0 rfl) ?_
    refine gX0_20 (o' := (o + 3)) hx hb hts hown hG hI hL rfl dX0_addLast_20 ?_
    refine lv_aload_n hx hb dX0_addLast_23 rfl (lv_at hl 0 rfl) ?_
    refine gX0_23 hx hb hts hown hG hI hL dX0_addLast_24 ?_
    refine lv_iload_n hx hb dX0_addLast_27 rfl (lv_at hl 2 rfl) ?_
    obtain ⟨σ_5, hσ_5, hf⟩ := bi_e hf
    refine kX0_49 hx hb hml hts hown hG hI hS hl.1 (ly_sub_0_colorOf hL) (As := [.int (σ_3 o 0), .int a2]) (c_X4_put l D cI cS Z K (o + 3) 24 (ly_sub_0_colorOf hL) (σ_3 o 0) a2 σ_3 _ hσ_5) ⟨(Nat.le_of_ble_eq_true rfl), (Nat.le_of_ble_eq_true rfl)⟩ rfl (Nat.le_of_ble_eq_true rfl) ⟨(Nat.le_of_ble_eq_true rfl), (Nat.le_of_ble_eq_true rfl)⟩ dX0_addLast_28 (fun H locs hI hS => ?_)
    refine lv_aload_n hx hb dX0_addLast_31 rfl (lv_at hl 0 rfl) ?_
    refine lv_dup hx hb dX0_addLast_32 rfl ?_
    refine gX0_23 hx hb hts hown hG hI hL dX0_addLast_33 ?_
    refine lv_iconst (v := 1) hx hb dX0_addLast_36 (by decide) ?_
    refine lv_iadd hx hb dX0_addLast_37 ?_
    obtain ⟨σ_6, eσ_6, hf⟩ := vl_e hf
    refine pX0_23 hx hb hts hown hG hI hS hL dX0_addLast_38 (fun H locs hI hS => ?_)
    rw [← eσ_6] at hI
    obtain rfl := so_e hf
    exact mm_vret hx hb hr hlocks hI hS dX0_addLast_41
def f_X0_hasBar (o : Nat) (a1 : Int32) (σ : Nat → Nat → Int32) : Option Int32 := bi (f_X7_isBetween a1 0 ((σ o 0) - 1) σ) fun r_1 => some r_1
set_option maxHeartbeats 4000000 in
set_option maxRecDepth 100000 in
theorem c_X0_hasBar (l : Launch) (D : va_G) (cI cS : ClassId) (Z : Nat) (K : Nat → Nat) (o : Nat) (hL : ly K o lyChain) (a1 : Int32) (σ : Nat → Nat → Int32) (r : Int32) (hf : f_X0_hasBar o a1 σ = some r) : Met l yX0_hasBar (wsT yX0_hasBar cX0_hasBar 2 (some .boolean)) { frames := 1, cells := 0, slots := 0, locals := 22 } (Pm D cI cS Z K [.ref (Z + o), .int a1] σ) (Qz D cI cS Z K r σ) 0 0 (aZ Z) := by
  refine mm_met (lv := [(0, .ref (Z + o)), (1, .int a1)]) (by decide) (Nat.le_of_ble_eq_true rfl) rfl ?_
  intro p e s m args below meth c ls hx hb hr hml hts hown hlocks hG hl hI hS
  have hown : s.vm.findClass RX0 = some m.cls := hown
  rw [f_X0_hasBar] at hf
  refine lv_iload_n hx hb dX0_hasBar_0 rfl (lv_at hl 1 rfl) ?_
  refine lv_iconst (v := 0) hx hb dX0_hasBar_1 (by decide) ?_
  refine lv_aload_n hx hb dX0_hasBar_2 rfl (lv_at hl 0 rfl) ?_
  refine gX0_23 hx hb hts hown hG hI hL dX0_hasBar_3 ?_
  refine lv_iconst (v := 1) hx hb dX0_hasBar_6 (by decide) ?_
  refine lv_isub hx hb dX0_hasBar_7 ?_
  obtain ⟨r_1, hr_1, hf⟩ := bi_e hf
  refine kX0_41 hx hb hml hts hown hG hI hS hl.1 (As := [.int a1, .int 0, .int ((σ o 0) - 1)]) (c_X7_isBetween l D cI cS Z K a1 0 ((σ o 0) - 1) σ _ hr_1) ⟨(Nat.le_of_ble_eq_true rfl), (Nat.le_of_ble_eq_true rfl)⟩ rfl (Nat.le_of_ble_eq_true rfl) ⟨(Nat.le_of_ble_eq_true rfl), (Nat.le_of_ble_eq_true rfl)⟩ dX0_hasBar_8 (fun hzr_1 H locs hI hS => ?_)
  obtain rfl := so_e hf
  exact mm_zret hx hb hr hlocks hzr_1 hI hS dX0_hasBar_11
def f_X0_barAbove (o : Nat) (a1 : Int32) (σ : Nat → Nat → Int32) : Option Int32 := if (σ o 0) ≤ (a1 + 1) then (some 0) else (some (a1 + 1))
set_option maxHeartbeats 4000000 in
set_option maxRecDepth 100000 in
theorem c_X0_barAbove (l : Launch) (D : va_G) (cI cS : ClassId) (Z : Nat) (K : Nat → Nat) (o : Nat) (hL : ly K o lyChain) (a1 : Int32) (σ : Nat → Nat → Int32) (r : Int32) (hf : f_X0_barAbove o a1 σ = some r) : Met l yX0_barAbove (wsT yX0_barAbove cX0_barAbove 2 (some .int)) { frames := 0, cells := 0, slots := 0, locals := 0 } (Pm D cI cS Z K [.ref (Z + o), .int a1] σ) (Qi D cI cS Z K r σ) 0 0 (aZ Z) := by
  refine mm_met (lv := [(0, .ref (Z + o)), (1, .int a1)]) (by decide) (Nat.le_of_ble_eq_true rfl) rfl ?_
  intro p e s m args below meth c ls hx hb hr hml hts hown hlocks hG hl hI hS
  have hown : s.vm.findClass RX0 = some m.cls := hown
  rw [f_X0_barAbove] at hf
  refine lv_iload_n hx hb dX0_barAbove_0 rfl (lv_at hl 1 rfl) ?_
  refine lv_iconst (v := 1) hx hb dX0_barAbove_1 (by decide) ?_
  refine lv_iadd hx hb dX0_barAbove_2 ?_
  refine lv_aload_n hx hb dX0_barAbove_3 rfl (lv_at hl 0 rfl) ?_
  refine gX0_23 hx hb hts hown hG hI hL dX0_barAbove_4 ?_
  refine lv_icmp_ge (tgt := 16) hx hb dX0_barAbove_7 (by decide) (fun c_1 => ?_) (fun c_1 => ?_)
  · have hf := pos_e c_1 hf
    refine lv_iconst (v := 0) hx hb dX0_barAbove_16 (by decide) ?_
    obtain rfl := so_e hf
    exact mm_ret hx hb hr hlocks rfl hI hS dX0_barAbove_17
  · have hf := neg_e c_1 hf
    refine lv_iload_n hx hb dX0_barAbove_10 rfl (lv_at hl 1 rfl) ?_
    refine lv_iconst (v := 1) hx hb dX0_barAbove_11 (by decide) ?_
    refine lv_iadd hx hb dX0_barAbove_12 ?_
    refine lv_goto (tgt := 17) hx hb dX0_barAbove_13 (by decide) ?_
    obtain rfl := so_e hf
    exact mm_ret hx hb hr hlocks rfl hI hS dX0_barAbove_17
def f_X0_barBelow (o : Nat) (a1 : Int32) (σ : Nat → Nat → Int32) : Option Int32 := if a1 ≤ 0 then (some ((σ o 0) - 1)) else (some (a1 - 1))
set_option maxHeartbeats 4000000 in
set_option maxRecDepth 100000 in
theorem c_X0_barBelow (l : Launch) (D : va_G) (cI cS : ClassId) (Z : Nat) (K : Nat → Nat) (o : Nat) (hL : ly K o lyChain) (a1 : Int32) (σ : Nat → Nat → Int32) (r : Int32) (hf : f_X0_barBelow o a1 σ = some r) : Met l yX0_barBelow (wsT yX0_barBelow cX0_barBelow 2 (some .int)) { frames := 0, cells := 0, slots := 0, locals := 0 } (Pm D cI cS Z K [.ref (Z + o), .int a1] σ) (Qi D cI cS Z K r σ) 0 0 (aZ Z) := by
  refine mm_met (lv := [(0, .ref (Z + o)), (1, .int a1)]) (by decide) (Nat.le_of_ble_eq_true rfl) rfl ?_
  intro p e s m args below meth c ls hx hb hr hml hts hown hlocks hG hl hI hS
  have hown : s.vm.findClass RX0 = some m.cls := hown
  rw [f_X0_barBelow] at hf
  refine lv_iload_n hx hb dX0_barBelow_0 rfl (lv_at hl 1 rfl) ?_
  refine lv_if_le (tgt := 10) hx hb dX0_barBelow_1 (by decide) (fun c_1 => ?_) (fun c_1 => ?_)
  · have hf := pos_e c_1 hf
    refine lv_aload_n hx hb dX0_barBelow_10 rfl (lv_at hl 0 rfl) ?_
    refine gX0_23 hx hb hts hown hG hI hL dX0_barBelow_11 ?_
    refine lv_iconst (v := 1) hx hb dX0_barBelow_14 (by decide) ?_
    refine lv_isub hx hb dX0_barBelow_15 ?_
    obtain rfl := so_e hf
    exact mm_ret hx hb hr hlocks rfl hI hS dX0_barBelow_16
  · have hf := neg_e c_1 hf
    refine lv_iload_n hx hb dX0_barBelow_4 rfl (lv_at hl 1 rfl) ?_
    refine lv_iconst (v := 1) hx hb dX0_barBelow_5 (by decide) ?_
    refine lv_isub hx hb dX0_barBelow_6 ?_
    refine lv_goto (tgt := 16) hx hb dX0_barBelow_7 (by decide) ?_
    obtain rfl := so_e hf
    exact mm_ret hx hb hr hlocks rfl hI hS dX0_barBelow_16
def f_X0_barBefore (o : Nat) (a1 : Int32) (σ : Nat → Nat → Int32) : Option Int32 := if (σ o 2) = 1 then (bi (f_X0_barAbove o a1 σ) fun r_2 => some r_2) else (bi (f_X0_barBelow o a1 σ) fun r_1 => some r_1)
set_option maxHeartbeats 4000000 in
set_option maxRecDepth 100000 in
theorem c_X0_barBefore (l : Launch) (D : va_G) (cI cS : ClassId) (Z : Nat) (K : Nat → Nat) (o : Nat) (hL : ly K o lyChain) (a1 : Int32) (σ : Nat → Nat → Int32) (r : Int32) (hf : f_X0_barBefore o a1 σ = some r) : Met l yX0_barBefore (wsT yX0_barBefore cX0_barBefore 2 (some .int)) { frames := 1, cells := 0, slots := 0, locals := 21 } (Pm D cI cS Z K [.ref (Z + o), .int a1] σ) (Qi D cI cS Z K r σ) 0 0 (aZ Z) := by
  refine mm_met (lv := [(0, .ref (Z + o)), (1, .int a1)]) (by decide) (Nat.le_of_ble_eq_true rfl) rfl ?_
  intro p e s m args below meth c ls hx hb hr hml hts hown hlocks hG hl hI hS
  have hown : s.vm.findClass RX0 = some m.cls := hown
  rw [f_X0_barBefore] at hf
  refine lv_aload_n hx hb dX0_barBefore_0 rfl (lv_at hl 0 rfl) ?_
  refine gX0_38 hx hb hts hown hG hI hL dX0_barBefore_1 ?_
  refine lv_iconst (v := 1) hx hb dX0_barBefore_4 (by decide) ?_
  refine lv_icmp_ne (tgt := 16) hx hb dX0_barBefore_5 (by decide) (fun c_3 => ?_) (fun c_3 => ?_)
  · have hf := neg_e c_3 hf
    refine lv_aload_n hx hb dX0_barBefore_16 rfl (lv_at hl 0 rfl) ?_
    refine lv_iload_n hx hb dX0_barBefore_17 rfl (lv_at hl 1 rfl) ?_
    obtain ⟨r_1, hr_1, hf⟩ := bi_e hf
    refine kX0_60 hx hb hml hts hown hG hI hS hl.1 hL (As := [.int a1]) (c_X0_barBelow l D cI cS Z K o hL a1 σ _ hr_1) ⟨(Nat.le_of_ble_eq_true rfl), (Nat.le_of_ble_eq_true rfl)⟩ rfl (Nat.le_of_ble_eq_true rfl) ⟨(Nat.le_of_ble_eq_true rfl), (Nat.le_of_ble_eq_true rfl)⟩ dX0_barBefore_18 (fun H locs hI hS => ?_)
    obtain rfl := so_e hf
    exact mm_ret hx hb hr hlocks rfl hI hS dX0_barBefore_21
  · have hf := pos_e c_3 hf
    refine lv_aload_n hx hb dX0_barBefore_8 rfl (lv_at hl 0 rfl) ?_
    refine lv_iload_n hx hb dX0_barBefore_9 rfl (lv_at hl 1 rfl) ?_
    obtain ⟨r_2, hr_2, hf⟩ := bi_e hf
    refine kX0_63 hx hb hml hts hown hG hI hS hl.1 hL (As := [.int a1]) (c_X0_barAbove l D cI cS Z K o hL a1 σ _ hr_2) ⟨(Nat.le_of_ble_eq_true rfl), (Nat.le_of_ble_eq_true rfl)⟩ rfl (Nat.le_of_ble_eq_true rfl) ⟨(Nat.le_of_ble_eq_true rfl), (Nat.le_of_ble_eq_true rfl)⟩ dX0_barBefore_10 (fun H locs hI hS => ?_)
    refine lv_goto (tgt := 21) hx hb dX0_barBefore_13 (by decide) ?_
    obtain rfl := so_e hf
    exact mm_ret hx hb hr hlocks rfl hI hS dX0_barBefore_21
def f_X2_isStanding (o : Nat) (σ : Nat → Nat → Int32) : Option Int32 := if (σ o 0) ≤ 0 then (some 0) else (bi (f_X4_at (o + 9) 64 ((σ o 0) - 1) σ) fun r_1 => if r_1 = 0 then (some 0) else (some 1))
set_option maxHeartbeats 4000000 in
set_option maxRecDepth 100000 in
theorem c_X2_isStanding (l : Launch) (D : va_G) (cI cS : ClassId) (Z : Nat) (K : Nat → Nat) (o : Nat) (hL : ly K o lyCloth) (σ : Nat → Nat → Int32) (r : Int32) (hf : f_X2_isStanding o σ = some r) : Met l yX2_isStanding (wsT yX2_isStanding cX2_isStanding 1 (some .boolean)) { frames := 1, cells := 0, slots := 0, locals := 21 } (Pm D cI cS Z K [.ref (Z + o)] σ) (Qz D cI cS Z K r σ) 0 0 (aZ Z) := by
  refine mm_met (lv := [(0, .ref (Z + o))]) (by decide) (Nat.le_of_ble_eq_true rfl) rfl ?_
  intro p e s m args below meth c ls hx hb hr hml hts hown hlocks hG hl hI hS
  have hown : s.vm.findClass RX2 = some m.cls := hown
  rw [f_X2_isStanding] at hf
  refine lv_aload_n hx hb dX2_isStanding_0 rfl (lv_at hl 0 rfl) ?_
  refine gX2_35 hx hb hts hown hG hI hL dX2_isStanding_1 ?_
  refine lv_if_le (tgt := 27) hx hb dX2_isStanding_4 (by decide) (fun c_3 => ?_) (fun c_3 => ?_)
  · have hf := pos_e c_3 hf
    refine lv_iconst (v := 0) hx hb dX2_isStanding_27 (by decide) ?_
    obtain rfl := so_e hf
    exact mm_zret hx hb hr hlocks (Or.inl rfl) hI hS dX2_isStanding_28
  · have hf := neg_e c_3 hf
    refine lv_aload_n hx hb dX2_isStanding_7 rfl (lv_at hl 0 rfl) ?_
    refine gX2_29 (o' := (o + 9)) hx hb hts hown hG hI hL rfl dX2_isStanding_8 ?_
    refine lv_aload_n hx hb dX2_isStanding_11 rfl (lv_at hl 0 rfl) ?_
    refine gX2_35 hx hb hts hown hG hI hL dX2_isStanding_12 ?_
    refine lv_iconst (v := 1) hx hb dX2_isStanding_15 (by decide) ?_
    refine lv_isub hx hb dX2_isStanding_16 ?_
    obtain ⟨r_1, hr_1, hf⟩ := bi_e hf
    refine kX2_47 hx hb hml hts hown hG hI hS hl.1 (ly_sub_2_missingOf hL) (As := [.int ((σ o 0) - 1)]) (c_X4_at l D cI cS Z K (o + 9) 64 (ly_sub_2_missingOf hL) ((σ o 0) - 1) σ _ hr_1) ⟨(Nat.le_of_ble_eq_true rfl), (Nat.le_of_ble_eq_true rfl)⟩ rfl (Nat.le_of_ble_eq_true rfl) ⟨(Nat.le_of_ble_eq_true rfl), (Nat.le_of_ble_eq_true rfl)⟩ dX2_isStanding_17 (fun H locs hI hS => ?_)
    refine lv_if_eq (tgt := 27) hx hb dX2_isStanding_20 (by decide) (fun c_2 => ?_) (fun c_2 => ?_)
    · have hf := pos_e c_2 hf
      refine lv_iconst (v := 0) hx hb dX2_isStanding_27 (by decide) ?_
      obtain rfl := so_e hf
      exact mm_zret hx hb hr hlocks (Or.inl rfl) hI hS dX2_isStanding_28
    · have hf := neg_e c_2 hf
      refine lv_iconst (v := 1) hx hb dX2_isStanding_23 (by decide) ?_
      refine lv_goto (tgt := 28) hx hb dX2_isStanding_24 (by decide) ?_
      obtain rfl := so_e hf
      exact mm_zret hx hb hr hlocks (Or.inr rfl) hI hS dX2_isStanding_28
def b_X6_reset_31 (o : Nat) : Int32 × Int32 × (Nat → Nat → Int32) → Option ((Int32 × Int32 × (Nat → Nat → Int32)) ⊕ ((Nat → Nat → Int32)))
  | (y_7, y_8, σ_9) => if 32 ≤ y_8 then (some (.inr σ_9)) else (bi (f_X4_put (o + 1) 32 y_8 y_7 σ_9) fun σ_25 => if (σ_25 o 0) ≤ (y_7 + 1) then (vl (y_8 + 1) fun x_26 => some (.inl (0, x_26, σ_25))) else (vl (y_7 + 1) fun x_27 => vl (y_8 + 1) fun x_28 => some (.inl (x_27, x_28, σ_25))))
def f_X6_reset (o : Nat) (a1 : Int32) (a2 : Int32) (σ : Nat → Nat → Int32) : Option (Nat → Nat → Int32) := vl (wr σ o 0 a1) fun σ_1 => vl (wr σ_1 o 1 a2) fun σ_2 => bi (f_X4_putAll (o + 3) 32 0 σ_2) fun σ_4 => bi (f_X4_putAll (o + 5) 8 0 σ_4) fun σ_6 => bi (lp (b_X6_reset_31 o) FU (0, 0, σ_6)) fun σ_10 => some σ_10
set_option maxHeartbeats 4000000 in
set_option maxRecDepth 100000 in
theorem c_X6_reset (l : Launch) (D : va_G) (cI cS : ClassId) (Z : Nat) (K : Nat → Nat) (o : Nat) (hL : ly K o lyWarp) (a1 : Int32) (a2 : Int32) (σ : Nat → Nat → Int32) (σ' : Nat → Nat → Int32) (hf : f_X6_reset o a1 a2 σ = some σ') : Met l yX6_reset (wsT yX6_reset cX6_reset 5 none) { frames := 1, cells := 0, slots := 0, locals := 22 } (Pm D cI cS Z K [.ref (Z + o), .int a1, .int a2] σ) (Qv D cI cS Z K σ') 0 0 (aZ Z) := by
  refine mm_met (lv := [(0, .ref (Z + o)), (1, .int a1), (2, .int a2)]) (by decide) (Nat.le_of_ble_eq_true rfl) rfl ?_
  intro p e s m args below meth c ls hx hb hr hml hts hown hlocks hG hl hI hS
  have hown : s.vm.findClass RX6 = some m.cls := hown
  rw [f_X6_reset] at hf
  refine lv_aload_n hx hb dX6_reset_0 rfl (lv_at hl 0 rfl) ?_
  refine lv_iload_n hx hb dX6_reset_1 rfl (lv_at hl 1 rfl) ?_
  obtain ⟨σ_1, eσ_1, hf⟩ := vl_e hf
  refine pX6_26 hx hb hts hown hG hI hS hL dX6_reset_2 (fun H locs hI hS => ?_)
  rw [← eσ_1] at hI
  refine lv_aload_n hx hb dX6_reset_5 rfl (lv_at hl 0 rfl) ?_
  refine lv_iload_n hx hb dX6_reset_6 rfl (lv_at hl 2 rfl) ?_
  obtain ⟨σ_2, eσ_2, hf⟩ := vl_e hf
  refine pX6_30 hx hb hts hown hG hI hS hL dX6_reset_7 (fun H locs hI hS => ?_)
  rw [← eσ_2] at hI
  refine lv_aload_n hx hb dX6_reset_10 rfl (lv_at hl 0 rfl) ?_
  refine gX6_20 (o' := (o + 3)) hx hb hts hown hG hI hL rfl dX6_reset_11 ?_
  refine lv_iconst (v := 0) hx hb dX6_reset_14 (by decide) ?_
  obtain ⟨σ_4, hσ_4, hf⟩ := bi_e hf
  refine kX6_33 hx hb hml hts hown hG hI hS hl.1 (ly_sub_6_colorOf hL) (As := [.int 0]) (c_X4_putAll l D cI cS Z K (o + 3) 32 (ly_sub_6_colorOf hL) 0 σ_2 _ hσ_4) ⟨(Nat.le_of_ble_eq_true rfl), (Nat.le_of_ble_eq_true rfl)⟩ rfl (Nat.le_of_ble_eq_true rfl) ⟨(Nat.le_of_ble_eq_true rfl), (Nat.le_of_ble_eq_true rfl)⟩ dX6_reset_15 (fun H locs hI hS => ?_)
  refine lv_aload_n hx hb dX6_reset_18 rfl (lv_at hl 0 rfl) ?_
  refine gX6_23 (o' := (o + 5)) hx hb hts hown hG hI hL rfl dX6_reset_19 ?_
  refine lv_iconst (v := 0) hx hb dX6_reset_22 (by decide) ?_
  obtain ⟨σ_6, hσ_6, hf⟩ := bi_e hf
  refine kX6_33 hx hb hml hts hown hG hI hS hl.1 (ly_sub_6_faultOf hL) (As := [.int 0]) (c_X4_putAll l D cI cS Z K (o + 5) 8 (ly_sub_6_faultOf hL) 0 σ_4 _ hσ_6) ⟨(Nat.le_of_ble_eq_true rfl), (Nat.le_of_ble_eq_true rfl)⟩ rfl (Nat.le_of_ble_eq_true rfl) ⟨(Nat.le_of_ble_eq_true rfl), (Nat.le_of_ble_eq_true rfl)⟩ dX6_reset_23 (fun H locs hI hS => ?_)
  refine lv_iconst (v := 0) hx hb dX6_reset_26 (by decide) ?_
  refine lv_istore_n (lv' := [(3, .int 0), (0, .ref (Z + o)), (1, .int a1), (2, .int a2)]) hx hb dX6_reset_27 rfl hl (by decide) rfl (fun ls hl => ?_)
  refine lv_iconst (v := 0) hx hb dX6_reset_28 (by decide) ?_
  refine lv_istore (lv' := [(4, .int 0), (3, .int 0), (0, .ref (Z + o)), (1, .int a1), (2, .int a2)]) hx hb dX6_reset_29 hl (by decide) rfl (fun ls hl => ?_)
  have L_12 : ∀ (nn : Nat) (y_7 : Int32) (y_8 : Int32) (σ_9 : Nat → Nat → Int32) (σ_10 : Nat → Nat → Int32), lp (b_X6_reset_31 o) nn (y_7, y_8, σ_9) = some σ_10 → (∀ (H : Heap) (locs : List Loc) (ls : Array Slot), fI D cI cS Z K σ_10 H → va_S (aZ Z) s.heap H locs → lv_has ls 5 [] → W p l e { frames := 1, cells := 0, slots := 0, locals := 22 } s m args below meth c H locs 0 0 (MQ below (Qv D cI cS Z K σ') args s 0 0 (aZ Z)) (F0 m 72 ls [])) → ∀ (H : Heap) (locs : List Loc) (ls : Array Slot), fI D cI cS Z K σ_9 H → va_S (aZ Z) s.heap H locs → lv_has ls 5 [(0, .ref (Z + o)), (3, .int y_7), (4, .int y_8)] → W p l e { frames := 1, cells := 0, slots := 0, locals := 22 } s m args below meth c H locs 0 0 (MQ below (Qv D cI cS Z K σ') args s 0 0 (aZ Z)) (F0 m 31 ls []) := by
    intro nn
    induction nn with
    | zero =>
      intro y_7 y_8 σ_9 σ_10 hq
      exact (lp_0 hq).elim
    | succ nn ih_13 =>
      intro y_7 y_8 σ_9 σ_10 hq kn_15 H locs ls hI hS hl
      obtain ⟨wb_11, hf, hk_14⟩ := lp_e hq
      rw [b_X6_reset_31] at hf
      have ih_13 := fun (y_7 : Int32) (y_8 : Int32) (σ_9 : Nat → Nat → Int32) q => ih_13 y_7 y_8 σ_9 σ_10 q kn_15
      refine lv_iload hx hb dX6_reset_31 (lv_at hl 2 rfl) ?_
      refine lv_bipush (v := 32) hx hb dX6_reset_33 (by decide) ?_
      refine lv_icmp_ge (tgt := 72) hx hb dX6_reset_35 (by decide) (fun c_30 => ?_) (fun c_30 => ?_)
      · have hf := pos_e c_30 hf
        obtain rfl := so_e hf
        obtain rfl := lk_r hk_14
        exact kn_15 _ _ _ hI hS (lv_sub hl [] rfl)
      · have hf := neg_e c_30 hf
        refine lv_aload_n hx hb dX6_reset_38 rfl (lv_at hl 0 rfl) ?_
        refine gX6_14 (o' := (o + 1)) hx hb hts hown hG hI hL rfl dX6_reset_39 ?_
        refine lv_iload hx hb dX6_reset_42 (lv_at hl 2 rfl) ?_
        refine lv_iload_n hx hb dX6_reset_44 rfl (lv_at hl 1 rfl) ?_
        obtain ⟨σ_25, hσ_25, hf⟩ := bi_e hf
        refine kX6_36 hx hb hml hts hown hG hI hS hl.1 (ly_sub_6_shaftOf hL) (As := [.int y_8, .int y_7]) (c_X4_put l D cI cS Z K (o + 1) 32 (ly_sub_6_shaftOf hL) y_8 y_7 σ_9 _ hσ_25) ⟨(Nat.le_of_ble_eq_true rfl), (Nat.le_of_ble_eq_true rfl)⟩ rfl (Nat.le_of_ble_eq_true rfl) ⟨(Nat.le_of_ble_eq_true rfl), (Nat.le_of_ble_eq_true rfl)⟩ dX6_reset_45 (fun H locs hI hS => ?_)
        refine lv_iload_n hx hb dX6_reset_48 rfl (lv_at hl 1 rfl) ?_
        refine lv_iconst (v := 1) hx hb dX6_reset_49 (by decide) ?_
        refine lv_iadd hx hb dX6_reset_50 ?_
        refine lv_aload_n hx hb dX6_reset_51 rfl (lv_at hl 0 rfl) ?_
        refine gX6_26 hx hb hts hown hG hI hL dX6_reset_52 ?_
        refine lv_icmp_ge (tgt := 64) hx hb dX6_reset_55 (by decide) (fun c_29 => ?_) (fun c_29 => ?_)
        · have hf := pos_e c_29 hf
          refine lv_iconst (v := 0) hx hb dX6_reset_64 (by decide) ?_
          refine lv_istore_n (lv' := [(3, .int 0), (0, .ref (Z + o)), (4, .int y_8)]) hx hb dX6_reset_65 rfl hl (by decide) rfl (fun ls hl => ?_)
          obtain ⟨x_26, ex_26, hf⟩ := vl_e hf
          refine lv_iinc (v := x_26) (lv' := [(4, .int x_26), (3, .int 0), (0, .ref (Z + o))]) hx hb dX6_reset_66 hl (k := 2) rfl (by rw [ex_26]; rfl) (by decide) rfl (fun ls hl => ?_)
          refine lv_goto (tgt := 31) hx hb dX6_reset_69 (by decide) ?_
          obtain rfl := so_e hf
          exact ih_13 0 x_26 σ_25 hk_14 _ _ _ hI hS (lv_sub hl [2, 1, 0] rfl)
        · have hf := neg_e c_29 hf
          refine lv_iload_n hx hb dX6_reset_58 rfl (lv_at hl 1 rfl) ?_
          refine lv_iconst (v := 1) hx hb dX6_reset_59 (by decide) ?_
          refine lv_iadd hx hb dX6_reset_60 ?_
          refine lv_goto (tgt := 65) hx hb dX6_reset_61 (by decide) ?_
          obtain ⟨x_27, ex_27, hf⟩ := vl_e hf
          refine mm_name ex_27 ?_
          refine lv_istore_n (lv' := [(3, .int x_27), (0, .ref (Z + o)), (4, .int y_8)]) hx hb dX6_reset_65 rfl hl (by decide) rfl (fun ls hl => ?_)
          obtain ⟨x_28, ex_28, hf⟩ := vl_e hf
          refine lv_iinc (v := x_28) (lv' := [(4, .int x_28), (3, .int x_27), (0, .ref (Z + o))]) hx hb dX6_reset_66 hl (k := 2) rfl (by rw [ex_28]; rfl) (by decide) rfl (fun ls hl => ?_)
          refine lv_goto (tgt := 31) hx hb dX6_reset_69 (by decide) ?_
          obtain rfl := so_e hf
          exact ih_13 x_27 x_28 σ_25 hk_14 _ _ _ hI hS (lv_sub hl [2, 1, 0] rfl)
  obtain ⟨σ_10, hy, hf⟩ := bi_e hf
  refine L_12 FU 0 0 σ_6 _ hy ?_ _ _ _ hI hS (lv_sub hl [2, 1, 0] rfl)
  clear L_12
  intro H locs ls hI hS hl
  obtain rfl := so_e hf
  exact mm_vret hx hb hr hlocks hI hS dX6_reset_72
def f_X0_removeBars (o : Nat) (σ : Nat → Nat → Int32) : Option (Nat → Nat → Int32) := vl (wr σ o 0 0) fun σ_1 => vl (wr σ_1 o 1 0) fun σ_2 => some σ_2
set_option maxHeartbeats 4000000 in
set_option maxRecDepth 100000 in
theorem c_X0_removeBars (l : Launch) (D : va_G) (cI cS : ClassId) (Z : Nat) (K : Nat → Nat) (o : Nat) (hL : ly K o lyChain) (σ : Nat → Nat → Int32) (σ' : Nat → Nat → Int32) (hf : f_X0_removeBars o σ = some σ') : Met l yX0_removeBars (wsT yX0_removeBars cX0_removeBars 1 none) { frames := 0, cells := 0, slots := 0, locals := 0 } (Pm D cI cS Z K [.ref (Z + o)] σ) (Qv D cI cS Z K σ') 0 0 (aZ Z) := by
  refine mm_met (lv := [(0, .ref (Z + o))]) (by decide) (Nat.le_of_ble_eq_true rfl) rfl ?_
  intro p e s m args below meth c ls hx hb hr hml hts hown hlocks hG hl hI hS
  have hown : s.vm.findClass RX0 = some m.cls := hown
  rw [f_X0_removeBars] at hf
  refine lv_aload_n hx hb dX0_removeBars_0 rfl (lv_at hl 0 rfl) ?_
  refine lv_iconst (v := 0) hx hb dX0_removeBars_1 (by decide) ?_
  obtain ⟨σ_1, eσ_1, hf⟩ := vl_e hf
  refine pX0_23 hx hb hts hown hG hI hS hL dX0_removeBars_2 (fun H locs hI hS => ?_)
  rw [← eσ_1] at hI
  refine lv_aload_n hx hb dX0_removeBars_5 rfl (lv_at hl 0 rfl) ?_
  refine lv_iconst (v := 0) hx hb dX0_removeBars_6 (by decide) ?_
  obtain ⟨σ_2, eσ_2, hf⟩ := vl_e hf
  refine pX0_27 hx hb hts hown hG hI hS hL dX0_removeBars_7 (fun H locs hI hS => ?_)
  rw [← eσ_2] at hI
  obtain rfl := so_e hf
  exact mm_vret hx hb hr hlocks hI hS dX0_removeBars_10
def f_X2_isFull (o : Nat) (σ : Nat → Nat → Int32) : Option Int32 := if (σ o 0) < 64 then (some 0) else (some 1)
set_option maxHeartbeats 4000000 in
set_option maxRecDepth 100000 in
theorem c_X2_isFull (l : Launch) (D : va_G) (cI cS : ClassId) (Z : Nat) (K : Nat → Nat) (o : Nat) (hL : ly K o lyCloth) (σ : Nat → Nat → Int32) (r : Int32) (hf : f_X2_isFull o σ = some r) : Met l yX2_isFull (wsT yX2_isFull cX2_isFull 1 (some .boolean)) { frames := 0, cells := 0, slots := 0, locals := 0 } (Pm D cI cS Z K [.ref (Z + o)] σ) (Qz D cI cS Z K r σ) 0 0 (aZ Z) := by
  refine mm_met (lv := [(0, .ref (Z + o))]) (by decide) (Nat.le_of_ble_eq_true rfl) rfl ?_
  intro p e s m args below meth c ls hx hb hr hml hts hown hlocks hG hl hI hS
  have hown : s.vm.findClass RX2 = some m.cls := hown
  rw [f_X2_isFull] at hf
  refine lv_aload_n hx hb dX2_isFull_0 rfl (lv_at hl 0 rfl) ?_
  refine gX2_35 hx hb hts hown hG hI hL dX2_isFull_1 ?_
  refine lv_bipush (v := 64) hx hb dX2_isFull_4 (by decide) ?_
  refine lv_icmp_lt (tgt := 13) hx hb dX2_isFull_6 (by decide) (fun c_1 => ?_) (fun c_1 => ?_)
  · have hf := pos_e c_1 hf
    refine lv_iconst (v := 0) hx hb dX2_isFull_13 (by decide) ?_
    obtain rfl := so_e hf
    exact mm_zret hx hb hr hlocks (Or.inl rfl) hI hS dX2_isFull_14
  · have hf := neg_e c_1 hf
    refine lv_iconst (v := 1) hx hb dX2_isFull_9 (by decide) ?_
    refine lv_goto (tgt := 14) hx hb dX2_isFull_10 (by decide) ?_
    obtain rfl := so_e hf
    exact mm_zret hx hb hr hlocks (Or.inr rfl) hI hS dX2_isFull_14
def b_X6_endsOn_4 (o : Nat) (a1 : Int32) (σ : Nat → Nat → Int32) : Int32 × Int32 → Option ((Int32 × Int32) ⊕ (Int32))
  | (y_1, y_2) => if (σ o 1) ≤ y_2 then (some (.inr y_1)) else (bi (f_X4_at (o + 1) 32 y_2 σ) fun r_15 => bi (f_X7_bitOf a1 r_15 σ) fun r_16 => vl (y_1 ||| (r_16 <<< (y_2 &&& 31))) fun x_17 => vl (y_2 + 1) fun x_18 => some (.inl (x_17, x_18)))
def f_X6_endsOn (o : Nat) (a1 : Int32) (σ : Nat → Nat → Int32) : Option Int32 := bi (lp (b_X6_endsOn_4 o a1 σ) FU (0, 0)) fun z_3 => some z_3
set_option maxHeartbeats 4000000 in
set_option maxRecDepth 100000 in
theorem c_X6_endsOn (l : Launch) (D : va_G) (cI cS : ClassId) (Z : Nat) (K : Nat → Nat) (o : Nat) (hL : ly K o lyWarp) (a1 : Int32) (σ : Nat → Nat → Int32) (r : Int32) (hf : f_X6_endsOn o a1 σ = some r) : Met l yX6_endsOn (wsT yX6_endsOn cX6_endsOn 4 (some .int)) { frames := 1, cells := 0, slots := 0, locals := 21 } (Pm D cI cS Z K [.ref (Z + o), .int a1] σ) (Qi D cI cS Z K r σ) 0 0 (aZ Z) := by
  refine mm_met (lv := [(0, .ref (Z + o)), (1, .int a1)]) (by decide) (Nat.le_of_ble_eq_true rfl) rfl ?_
  intro p e s m args below meth c ls hx hb hr hml hts hown hlocks hG hl hI hS
  have hown : s.vm.findClass RX6 = some m.cls := hown
  rw [f_X6_endsOn] at hf
  refine lv_iconst (v := 0) hx hb dX6_endsOn_0 (by decide) ?_
  refine lv_istore_n (lv' := [(2, .int 0), (0, .ref (Z + o)), (1, .int a1)]) hx hb dX6_endsOn_1 rfl hl (by decide) rfl (fun ls hl => ?_)
  refine lv_iconst (v := 0) hx hb dX6_endsOn_2 (by decide) ?_
  refine lv_istore_n (lv' := [(3, .int 0), (2, .int 0), (0, .ref (Z + o)), (1, .int a1)]) hx hb dX6_endsOn_3 rfl hl (by decide) rfl (fun ls hl => ?_)
  have L_5 : ∀ (nn : Nat) (y_1 : Int32) (y_2 : Int32) (z_3 : Int32), lp (b_X6_endsOn_4 o a1 σ) nn (y_1, y_2) = some z_3 → (∀ (H : Heap) (locs : List Loc) (ls : Array Slot), fI D cI cS Z K σ H → va_S (aZ Z) s.heap H locs → lv_has ls 4 [(2, .int z_3)] → W p l e { frames := 1, cells := 0, slots := 0, locals := 21 } s m args below meth c H locs 0 0 (MQ below (Qi D cI cS Z K r σ) args s 0 0 (aZ Z)) (F0 m 35 ls [])) → ∀ (H : Heap) (locs : List Loc) (ls : Array Slot), fI D cI cS Z K σ H → va_S (aZ Z) s.heap H locs → lv_has ls 4 [(0, .ref (Z + o)), (1, .int a1), (2, .int y_1), (3, .int y_2)] → W p l e { frames := 1, cells := 0, slots := 0, locals := 21 } s m args below meth c H locs 0 0 (MQ below (Qi D cI cS Z K r σ) args s 0 0 (aZ Z)) (F0 m 4 ls []) := by
    intro nn
    induction nn with
    | zero =>
      intro y_1 y_2 z_3 hq
      exact (lp_0 hq).elim
    | succ nn ih_6 =>
      intro y_1 y_2 z_3 hq kn_8 H locs ls hI hS hl
      obtain ⟨wb_4, hf, hk_7⟩ := lp_e hq
      rw [b_X6_endsOn_4] at hf
      have ih_6 := fun (y_1 : Int32) (y_2 : Int32) q => ih_6 y_1 y_2 z_3 q kn_8
      refine lv_iload_n hx hb dX6_endsOn_4 rfl (lv_at hl 3 rfl) ?_
      refine lv_aload_n hx hb dX6_endsOn_5 rfl (lv_at hl 0 rfl) ?_
      refine gX6_30 hx hb hts hown hG hI hL dX6_endsOn_6 ?_
      refine lv_icmp_ge (tgt := 35) hx hb dX6_endsOn_9 (by decide) (fun c_19 => ?_) (fun c_19 => ?_)
      · have hf := pos_e c_19 hf
        obtain rfl := so_e hf
        obtain rfl := lk_r hk_7
        exact kn_8 _ _ _ hI hS (lv_sub hl [2] rfl)
      · have hf := neg_e c_19 hf
        refine lv_iload_n hx hb dX6_endsOn_12 rfl (lv_at hl 2 rfl) ?_
        refine lv_iload_n hx hb dX6_endsOn_13 rfl (lv_at hl 1 rfl) ?_
        refine lv_aload_n hx hb dX6_endsOn_14 rfl (lv_at hl 0 rfl) ?_
        refine gX6_14 (o' := (o + 1)) hx hb hts hown hG hI hL rfl dX6_endsOn_15 ?_
        refine lv_iload_n hx hb dX6_endsOn_18 rfl (lv_at hl 3 rfl) ?_
        obtain ⟨r_15, hr_15, hf⟩ := bi_e hf
        refine kX6_48 hx hb hml hts hown hG hI hS hl.1 (ly_sub_6_shaftOf hL) (As := [.int y_2]) (c_X4_at l D cI cS Z K (o + 1) 32 (ly_sub_6_shaftOf hL) y_2 σ _ hr_15) ⟨(Nat.le_of_ble_eq_true rfl), (Nat.le_of_ble_eq_true rfl)⟩ rfl (Nat.le_of_ble_eq_true rfl) ⟨(Nat.le_of_ble_eq_true rfl), (Nat.le_of_ble_eq_true rfl)⟩ dX6_endsOn_19 (fun H locs hI hS => ?_)
        obtain ⟨r_16, hr_16, hf⟩ := bi_e hf
        refine kX6_52 hx hb hml hts hown hG hI hS hl.1 (As := [.int a1, .int r_15]) (c_X7_bitOf l D cI cS Z K a1 r_15 σ _ hr_16) ⟨(Nat.le_of_ble_eq_true rfl), (Nat.le_of_ble_eq_true rfl)⟩ rfl (Nat.le_of_ble_eq_true rfl) ⟨(Nat.le_of_ble_eq_true rfl), (Nat.le_of_ble_eq_true rfl)⟩ dX6_endsOn_22 (fun H locs hI hS => ?_)
        refine lv_iload_n hx hb dX6_endsOn_25 rfl (lv_at hl 3 rfl) ?_
        refine lv_ishl hx hb dX6_endsOn_26 ?_
        refine lv_ior hx hb dX6_endsOn_27 ?_
        obtain ⟨x_17, ex_17, hf⟩ := vl_e hf
        refine mm_name ex_17 ?_
        refine lv_istore_n (lv' := [(2, .int x_17), (0, .ref (Z + o)), (1, .int a1), (3, .int y_2)]) hx hb dX6_endsOn_28 rfl hl (by decide) rfl (fun ls hl => ?_)
        obtain ⟨x_18, ex_18, hf⟩ := vl_e hf
        refine lv_iinc (v := x_18) (lv' := [(3, .int x_18), (2, .int x_17), (0, .ref (Z + o)), (1, .int a1)]) hx hb dX6_endsOn_29 hl (k := 3) rfl (by rw [ex_18]; rfl) (by decide) rfl (fun ls hl => ?_)
        refine lv_goto (tgt := 4) hx hb dX6_endsOn_32 (by decide) ?_
        obtain rfl := so_e hf
        exact ih_6 x_17 x_18 hk_7 _ _ _ hI hS (lv_sub hl [2, 3, 1, 0] rfl)
  obtain ⟨z_3, hy, hf⟩ := bi_e hf
  refine L_5 FU 0 0 _ hy ?_ _ _ _ hI hS (lv_sub hl [2, 3, 1, 0] rfl)
  clear L_5
  intro H locs ls hI hS hl
  refine lv_iload_n hx hb dX6_endsOn_35 rfl (lv_at hl 0 rfl) ?_
  obtain rfl := so_e hf
  exact mm_ret hx hb hr hlocks rfl hI hS dX6_endsOn_36
def b_X6_liftedShafts_4 (o : Nat) (σ : Nat → Nat → Int32) : Int32 × Int32 → Option ((Int32 × Int32) ⊕ (Int32))
  | (y_1, y_2) => if (σ o 0) ≤ y_2 then (some (.inr y_1)) else (bi (f_X4_at (o + 5) 8 y_2 σ) fun r_19 => if r_19 = 1 then (vl (y_1 &&& ((1 <<< (y_2 &&& 31)) ^^^ (-1))) fun x_24 => vl (y_2 + 1) fun x_25 => some (.inl (x_24, x_25))) else (if r_19 = 2 then (vl (y_1 ||| (1 <<< (y_2 &&& 31))) fun x_21 => vl (y_2 + 1) fun x_22 => some (.inl (x_21, x_22))) else (vl (y_2 + 1) fun x_20 => some (.inl (y_1, x_20)))))
def f_X6_liftedShafts (o : Nat) (a1 : Int32) (σ : Nat → Nat → Int32) : Option Int32 := bi (lp (b_X6_liftedShafts_4 o σ) FU (a1, 0)) fun z_3 => some z_3
set_option maxHeartbeats 4000000 in
set_option maxRecDepth 100000 in
theorem c_X6_liftedShafts (l : Launch) (D : va_G) (cI cS : ClassId) (Z : Nat) (K : Nat → Nat) (o : Nat) (hL : ly K o lyWarp) (a1 : Int32) (σ : Nat → Nat → Int32) (r : Int32) (hf : f_X6_liftedShafts o a1 σ = some r) : Met l yX6_liftedShafts (wsT yX6_liftedShafts cX6_liftedShafts 5 (some .int)) { frames := 1, cells := 0, slots := 0, locals := 21 } (Pm D cI cS Z K [.ref (Z + o), .int a1] σ) (Qi D cI cS Z K r σ) 0 0 (aZ Z) := by
  refine mm_met (lv := [(0, .ref (Z + o)), (1, .int a1)]) (by decide) (Nat.le_of_ble_eq_true rfl) rfl ?_
  intro p e s m args below meth c ls hx hb hr hml hts hown hlocks hG hl hI hS
  have hown : s.vm.findClass RX6 = some m.cls := hown
  rw [f_X6_liftedShafts] at hf
  refine lv_iload_n hx hb dX6_liftedShafts_0 rfl (lv_at hl 1 rfl) ?_
  refine lv_istore_n (lv' := [(2, .int a1), (0, .ref (Z + o)), (1, .int a1)]) hx hb dX6_liftedShafts_1 rfl hl (by decide) rfl (fun ls hl => ?_)
  refine lv_iconst (v := 0) hx hb dX6_liftedShafts_2 (by decide) ?_
  refine lv_istore_n (lv' := [(3, .int 0), (2, .int a1), (0, .ref (Z + o)), (1, .int a1)]) hx hb dX6_liftedShafts_3 rfl hl (by decide) rfl (fun ls hl => ?_)
  have L_5 : ∀ (nn : Nat) (y_1 : Int32) (y_2 : Int32) (z_3 : Int32), lp (b_X6_liftedShafts_4 o σ) nn (y_1, y_2) = some z_3 → (∀ (H : Heap) (locs : List Loc) (ls : Array Slot), fI D cI cS Z K σ H → va_S (aZ Z) s.heap H locs → lv_has ls 5 [(2, .int z_3)] → W p l e { frames := 1, cells := 0, slots := 0, locals := 21 } s m args below meth c H locs 0 0 (MQ below (Qi D cI cS Z K r σ) args s 0 0 (aZ Z)) (F0 m 57 ls [])) → ∀ (H : Heap) (locs : List Loc) (ls : Array Slot), fI D cI cS Z K σ H → va_S (aZ Z) s.heap H locs → lv_has ls 5 [(0, .ref (Z + o)), (2, .int y_1), (3, .int y_2)] → W p l e { frames := 1, cells := 0, slots := 0, locals := 21 } s m args below meth c H locs 0 0 (MQ below (Qi D cI cS Z K r σ) args s 0 0 (aZ Z)) (F0 m 4 ls []) := by
    intro nn
    induction nn with
    | zero =>
      intro y_1 y_2 z_3 hq
      exact (lp_0 hq).elim
    | succ nn ih_6 =>
      intro y_1 y_2 z_3 hq kn_8 H locs ls hI hS hl
      obtain ⟨wb_4, hf, hk_7⟩ := lp_e hq
      rw [b_X6_liftedShafts_4] at hf
      have ih_6 := fun (y_1 : Int32) (y_2 : Int32) q => ih_6 y_1 y_2 z_3 q kn_8
      refine lv_iload_n hx hb dX6_liftedShafts_4 rfl (lv_at hl 2 rfl) ?_
      refine lv_aload_n hx hb dX6_liftedShafts_5 rfl (lv_at hl 0 rfl) ?_
      refine gX6_26 hx hb hts hown hG hI hL dX6_liftedShafts_6 ?_
      refine lv_icmp_ge (tgt := 57) hx hb dX6_liftedShafts_9 (by decide) (fun c_27 => ?_) (fun c_27 => ?_)
      · have hf := pos_e c_27 hf
        obtain rfl := so_e hf
        obtain rfl := lk_r hk_7
        exact kn_8 _ _ _ hI hS (lv_sub hl [1] rfl)
      · have hf := neg_e c_27 hf
        refine lv_aload_n hx hb dX6_liftedShafts_12 rfl (lv_at hl 0 rfl) ?_
        refine gX6_23 (o' := (o + 5)) hx hb hts hown hG hI hL rfl dX6_liftedShafts_13 ?_
        refine lv_iload_n hx hb dX6_liftedShafts_16 rfl (lv_at hl 2 rfl) ?_
        obtain ⟨r_19, hr_19, hf⟩ := bi_e hf
        refine kX6_48 hx hb hml hts hown hG hI hS hl.1 (ly_sub_6_faultOf hL) (As := [.int y_2]) (c_X4_at l D cI cS Z K (o + 5) 8 (ly_sub_6_faultOf hL) y_2 σ _ hr_19) ⟨(Nat.le_of_ble_eq_true rfl), (Nat.le_of_ble_eq_true rfl)⟩ rfl (Nat.le_of_ble_eq_true rfl) ⟨(Nat.le_of_ble_eq_true rfl), (Nat.le_of_ble_eq_true rfl)⟩ dX6_liftedShafts_17 (fun H locs hI hS => ?_)
        refine lv_istore (lv' := [(4, .int r_19), (0, .ref (Z + o)), (2, .int y_1), (3, .int y_2)]) hx hb dX6_liftedShafts_20 hl (by decide) rfl (fun ls hl => ?_)
        refine lv_iload hx hb dX6_liftedShafts_22 (lv_at hl 0 rfl) ?_
        refine lv_iconst (v := 1) hx hb dX6_liftedShafts_24 (by decide) ?_
        refine lv_icmp_ne (tgt := 39) hx hb dX6_liftedShafts_25 (by decide) (fun c_26 => ?_) (fun c_26 => ?_)
        · have hf := neg_e c_26 hf
          refine lv_iload hx hb dX6_liftedShafts_39 (lv_at hl 0 rfl) ?_
          refine lv_iconst (v := 2) hx hb dX6_liftedShafts_41 (by decide) ?_
          refine lv_icmp_ne (tgt := 51) hx hb dX6_liftedShafts_42 (by decide) (fun c_23 => ?_) (fun c_23 => ?_)
          · have hf := neg_e c_23 hf
            obtain ⟨x_20, ex_20, hf⟩ := vl_e hf
            refine lv_iinc (v := x_20) (lv' := [(3, .int x_20), (4, .int r_19), (0, .ref (Z + o)), (2, .int y_1)]) hx hb dX6_liftedShafts_51 hl (k := 3) rfl (by rw [ex_20]; rfl) (by decide) rfl (fun ls hl => ?_)
            refine lv_goto (tgt := 4) hx hb dX6_liftedShafts_54 (by decide) ?_
            obtain rfl := so_e hf
            exact ih_6 y_1 x_20 hk_7 _ _ _ hI hS (lv_sub hl [2, 3, 0] rfl)
          · have hf := pos_e c_23 hf
            refine lv_iload_n hx hb dX6_liftedShafts_45 rfl (lv_at hl 2 rfl) ?_
            refine lv_iconst (v := 1) hx hb dX6_liftedShafts_46 (by decide) ?_
            refine lv_iload_n hx hb dX6_liftedShafts_47 rfl (lv_at hl 3 rfl) ?_
            refine lv_ishl hx hb dX6_liftedShafts_48 ?_
            refine lv_ior hx hb dX6_liftedShafts_49 ?_
            obtain ⟨x_21, ex_21, hf⟩ := vl_e hf
            refine mm_name ex_21 ?_
            refine lv_istore_n (lv' := [(2, .int x_21), (4, .int r_19), (0, .ref (Z + o)), (3, .int y_2)]) hx hb dX6_liftedShafts_50 rfl hl (by decide) rfl (fun ls hl => ?_)
            obtain ⟨x_22, ex_22, hf⟩ := vl_e hf
            refine lv_iinc (v := x_22) (lv' := [(3, .int x_22), (2, .int x_21), (4, .int r_19), (0, .ref (Z + o))]) hx hb dX6_liftedShafts_51 hl (k := 3) rfl (by rw [ex_22]; rfl) (by decide) rfl (fun ls hl => ?_)
            refine lv_goto (tgt := 4) hx hb dX6_liftedShafts_54 (by decide) ?_
            obtain rfl := so_e hf
            exact ih_6 x_21 x_22 hk_7 _ _ _ hI hS (lv_sub hl [3, 1, 0] rfl)
        · have hf := pos_e c_26 hf
          refine lv_iload_n hx hb dX6_liftedShafts_28 rfl (lv_at hl 2 rfl) ?_
          refine lv_iconst (v := 1) hx hb dX6_liftedShafts_29 (by decide) ?_
          refine lv_iload_n hx hb dX6_liftedShafts_30 rfl (lv_at hl 3 rfl) ?_
          refine lv_ishl hx hb dX6_liftedShafts_31 ?_
          refine lv_iconst (v := (-1)) hx hb dX6_liftedShafts_32 (by decide) ?_
          refine lv_ixor hx hb dX6_liftedShafts_33 ?_
          refine lv_iand hx hb dX6_liftedShafts_34 ?_
          obtain ⟨x_24, ex_24, hf⟩ := vl_e hf
          refine mm_name ex_24 ?_
          refine lv_istore_n (lv' := [(2, .int x_24), (4, .int r_19), (0, .ref (Z + o)), (3, .int y_2)]) hx hb dX6_liftedShafts_35 rfl hl (by decide) rfl (fun ls hl => ?_)
          refine lv_goto (tgt := 51) hx hb dX6_liftedShafts_36 (by decide) ?_
          obtain ⟨x_25, ex_25, hf⟩ := vl_e hf
          refine lv_iinc (v := x_25) (lv' := [(3, .int x_25), (2, .int x_24), (4, .int r_19), (0, .ref (Z + o))]) hx hb dX6_liftedShafts_51 hl (k := 3) rfl (by rw [ex_25]; rfl) (by decide) rfl (fun ls hl => ?_)
          refine lv_goto (tgt := 4) hx hb dX6_liftedShafts_54 (by decide) ?_
          obtain rfl := so_e hf
          exact ih_6 x_24 x_25 hk_7 _ _ _ hI hS (lv_sub hl [3, 1, 0] rfl)
  obtain ⟨z_3, hy, hf⟩ := bi_e hf
  refine L_5 FU a1 0 _ hy ?_ _ _ _ hI hS (lv_sub hl [2, 1, 0] rfl)
  clear L_5
  intro H locs ls hI hS hl
  refine lv_iload_n hx hb dX6_liftedShafts_57 rfl (lv_at hl 0 rfl) ?_
  obtain rfl := so_e hf
  exact mm_ret hx hb hr hlocks rfl hI hS dX6_liftedShafts_58
def f_X6_allEnds (o : Nat) (σ : Nat → Nat → Int32) : Option Int32 := if (σ o 1) < 32 then (some ((1 <<< ((σ o 1) &&& 31)) - 1)) else (some (-1))
set_option maxHeartbeats 4000000 in
set_option maxRecDepth 100000 in
theorem c_X6_allEnds (l : Launch) (D : va_G) (cI cS : ClassId) (Z : Nat) (K : Nat → Nat) (o : Nat) (hL : ly K o lyWarp) (σ : Nat → Nat → Int32) (r : Int32) (hf : f_X6_allEnds o σ = some r) : Met l yX6_allEnds (wsT yX6_allEnds cX6_allEnds 1 (some .int)) { frames := 0, cells := 0, slots := 0, locals := 0 } (Pm D cI cS Z K [.ref (Z + o)] σ) (Qi D cI cS Z K r σ) 0 0 (aZ Z) := by
  refine mm_met (lv := [(0, .ref (Z + o))]) (by decide) (Nat.le_of_ble_eq_true rfl) rfl ?_
  intro p e s m args below meth c ls hx hb hr hml hts hown hlocks hG hl hI hS
  have hown : s.vm.findClass RX6 = some m.cls := hown
  rw [f_X6_allEnds] at hf
  refine lv_aload_n hx hb dX6_allEnds_0 rfl (lv_at hl 0 rfl) ?_
  refine gX6_30 hx hb hts hown hG hI hL dX6_allEnds_1 ?_
  refine lv_bipush (v := 32) hx hb dX6_allEnds_4 (by decide) ?_
  refine lv_icmp_lt (tgt := 13) hx hb dX6_allEnds_6 (by decide) (fun c_1 => ?_) (fun c_1 => ?_)
  · have hf := pos_e c_1 hf
    refine lv_iconst (v := 1) hx hb dX6_allEnds_13 (by decide) ?_
    refine lv_aload_n hx hb dX6_allEnds_14 rfl (lv_at hl 0 rfl) ?_
    refine gX6_30 hx hb hts hown hG hI hL dX6_allEnds_15 ?_
    refine lv_ishl hx hb dX6_allEnds_18 ?_
    refine lv_iconst (v := 1) hx hb dX6_allEnds_19 (by decide) ?_
    refine lv_isub hx hb dX6_allEnds_20 ?_
    obtain rfl := so_e hf
    exact mm_ret hx hb hr hlocks rfl hI hS dX6_allEnds_21
  · have hf := neg_e c_1 hf
    refine lv_iconst (v := (-1)) hx hb dX6_allEnds_9 (by decide) ?_
    refine lv_goto (tgt := 21) hx hb dX6_allEnds_10 (by decide) ?_
    obtain rfl := so_e hf
    exact mm_ret hx hb hr hlocks rfl hI hS dX6_allEnds_21
def f_X0_barAfter (o : Nat) (a1 : Int32) (σ : Nat → Nat → Int32) : Option Int32 := if (σ o 2) = 1 then (bi (f_X0_barBelow o a1 σ) fun r_2 => some r_2) else (bi (f_X0_barAbove o a1 σ) fun r_1 => some r_1)
set_option maxHeartbeats 4000000 in
set_option maxRecDepth 100000 in
theorem c_X0_barAfter (l : Launch) (D : va_G) (cI cS : ClassId) (Z : Nat) (K : Nat → Nat) (o : Nat) (hL : ly K o lyChain) (a1 : Int32) (σ : Nat → Nat → Int32) (r : Int32) (hf : f_X0_barAfter o a1 σ = some r) : Met l yX0_barAfter (wsT yX0_barAfter cX0_barAfter 2 (some .int)) { frames := 1, cells := 0, slots := 0, locals := 21 } (Pm D cI cS Z K [.ref (Z + o), .int a1] σ) (Qi D cI cS Z K r σ) 0 0 (aZ Z) := by
  refine mm_met (lv := [(0, .ref (Z + o)), (1, .int a1)]) (by decide) (Nat.le_of_ble_eq_true rfl) rfl ?_
  intro p e s m args below meth c ls hx hb hr hml hts hown hlocks hG hl hI hS
  have hown : s.vm.findClass RX0 = some m.cls := hown
  rw [f_X0_barAfter] at hf
  refine lv_aload_n hx hb dX0_barAfter_0 rfl (lv_at hl 0 rfl) ?_
  refine gX0_38 hx hb hts hown hG hI hL dX0_barAfter_1 ?_
  refine lv_iconst (v := 1) hx hb dX0_barAfter_4 (by decide) ?_
  refine lv_icmp_ne (tgt := 16) hx hb dX0_barAfter_5 (by decide) (fun c_3 => ?_) (fun c_3 => ?_)
  · have hf := neg_e c_3 hf
    refine lv_aload_n hx hb dX0_barAfter_16 rfl (lv_at hl 0 rfl) ?_
    refine lv_iload_n hx hb dX0_barAfter_17 rfl (lv_at hl 1 rfl) ?_
    obtain ⟨r_1, hr_1, hf⟩ := bi_e hf
    refine kX0_63 hx hb hml hts hown hG hI hS hl.1 hL (As := [.int a1]) (c_X0_barAbove l D cI cS Z K o hL a1 σ _ hr_1) ⟨(Nat.le_of_ble_eq_true rfl), (Nat.le_of_ble_eq_true rfl)⟩ rfl (Nat.le_of_ble_eq_true rfl) ⟨(Nat.le_of_ble_eq_true rfl), (Nat.le_of_ble_eq_true rfl)⟩ dX0_barAfter_18 (fun H locs hI hS => ?_)
    obtain rfl := so_e hf
    exact mm_ret hx hb hr hlocks rfl hI hS dX0_barAfter_21
  · have hf := pos_e c_3 hf
    refine lv_aload_n hx hb dX0_barAfter_8 rfl (lv_at hl 0 rfl) ?_
    refine lv_iload_n hx hb dX0_barAfter_9 rfl (lv_at hl 1 rfl) ?_
    obtain ⟨r_2, hr_2, hf⟩ := bi_e hf
    refine kX0_60 hx hb hml hts hown hG hI hS hl.1 hL (As := [.int a1]) (c_X0_barBelow l D cI cS Z K o hL a1 σ _ hr_2) ⟨(Nat.le_of_ble_eq_true rfl), (Nat.le_of_ble_eq_true rfl)⟩ rfl (Nat.le_of_ble_eq_true rfl) ⟨(Nat.le_of_ble_eq_true rfl), (Nat.le_of_ble_eq_true rfl)⟩ dX0_barAfter_10 (fun H locs hI hS => ?_)
    refine lv_goto (tgt := 21) hx hb dX0_barAfter_13 (by decide) ?_
    obtain rfl := so_e hf
    exact mm_ret hx hb hr hlocks rfl hI hS dX0_barAfter_21
def f_X2_wrongEnds (o : Nat) (a1 : Int32) (σ : Nat → Nat → Int32) : Option Int32 := bi (f_X4_at (o + 9) 64 a1 σ) fun r_1 => bi (f_X4_at (o + 7) 64 a1 σ) fun r_2 => bi (f_X4_at (o + 11) 64 a1 σ) fun r_3 => some (r_1 ||| (r_2 ^^^ r_3))
set_option maxHeartbeats 4000000 in
set_option maxRecDepth 100000 in
theorem c_X2_wrongEnds (l : Launch) (D : va_G) (cI cS : ClassId) (Z : Nat) (K : Nat → Nat) (o : Nat) (hL : ly K o lyCloth) (a1 : Int32) (σ : Nat → Nat → Int32) (r : Int32) (hf : f_X2_wrongEnds o a1 σ = some r) : Met l yX2_wrongEnds (wsT yX2_wrongEnds cX2_wrongEnds 2 (some .int)) { frames := 1, cells := 0, slots := 0, locals := 21 } (Pm D cI cS Z K [.ref (Z + o), .int a1] σ) (Qi D cI cS Z K r σ) 0 0 (aZ Z) := by
  refine mm_met (lv := [(0, .ref (Z + o)), (1, .int a1)]) (by decide) (Nat.le_of_ble_eq_true rfl) rfl ?_
  intro p e s m args below meth c ls hx hb hr hml hts hown hlocks hG hl hI hS
  have hown : s.vm.findClass RX2 = some m.cls := hown
  rw [f_X2_wrongEnds] at hf
  refine lv_aload_n hx hb dX2_wrongEnds_0 rfl (lv_at hl 0 rfl) ?_
  refine gX2_29 (o' := (o + 9)) hx hb hts hown hG hI hL rfl dX2_wrongEnds_1 ?_
  refine lv_iload_n hx hb dX2_wrongEnds_4 rfl (lv_at hl 1 rfl) ?_
  obtain ⟨r_1, hr_1, hf⟩ := bi_e hf
  refine kX2_47 hx hb hml hts hown hG hI hS hl.1 (ly_sub_2_missingOf hL) (As := [.int a1]) (c_X4_at l D cI cS Z K (o + 9) 64 (ly_sub_2_missingOf hL) a1 σ _ hr_1) ⟨(Nat.le_of_ble_eq_true rfl), (Nat.le_of_ble_eq_true rfl)⟩ rfl (Nat.le_of_ble_eq_true rfl) ⟨(Nat.le_of_ble_eq_true rfl), (Nat.le_of_ble_eq_true rfl)⟩ dX2_wrongEnds_5 (fun H locs hI hS => ?_)
  refine lv_aload_n hx hb dX2_wrongEnds_8 rfl (lv_at hl 0 rfl) ?_
  refine gX2_26 (o' := (o + 7)) hx hb hts hown hG hI hL rfl dX2_wrongEnds_9 ?_
  refine lv_iload_n hx hb dX2_wrongEnds_12 rfl (lv_at hl 1 rfl) ?_
  obtain ⟨r_2, hr_2, hf⟩ := bi_e hf
  refine kX2_47 hx hb hml hts hown hG hI hS hl.1 (ly_sub_2_aboveOf hL) (As := [.int a1]) (c_X4_at l D cI cS Z K (o + 7) 64 (ly_sub_2_aboveOf hL) a1 σ _ hr_2) ⟨(Nat.le_of_ble_eq_true rfl), (Nat.le_of_ble_eq_true rfl)⟩ rfl (Nat.le_of_ble_eq_true rfl) ⟨(Nat.le_of_ble_eq_true rfl), (Nat.le_of_ble_eq_true rfl)⟩ dX2_wrongEnds_13 (fun H locs hI hS => ?_)
  refine lv_aload_n hx hb dX2_wrongEnds_16 rfl (lv_at hl 0 rfl) ?_
  refine gX2_32 (o' := (o + 11)) hx hb hts hown hG hI hL rfl dX2_wrongEnds_17 ?_
  refine lv_iload_n hx hb dX2_wrongEnds_20 rfl (lv_at hl 1 rfl) ?_
  obtain ⟨r_3, hr_3, hf⟩ := bi_e hf
  refine kX2_47 hx hb hml hts hown hG hI hS hl.1 (ly_sub_2_planOf hL) (As := [.int a1]) (c_X4_at l D cI cS Z K (o + 11) 64 (ly_sub_2_planOf hL) a1 σ _ hr_3) ⟨(Nat.le_of_ble_eq_true rfl), (Nat.le_of_ble_eq_true rfl)⟩ rfl (Nat.le_of_ble_eq_true rfl) ⟨(Nat.le_of_ble_eq_true rfl), (Nat.le_of_ble_eq_true rfl)⟩ dX2_wrongEnds_21 (fun H locs hI hS => ?_)
  refine lv_ixor hx hb dX2_wrongEnds_24 ?_
  refine lv_ior hx hb dX2_wrongEnds_25 ?_
  obtain rfl := so_e hf
  exact mm_ret hx hb hr hlocks rfl hI hS dX2_wrongEnds_26
def b_X2_wrongPlaces_4 (o : Nat) (σ : Nat → Nat → Int32) : Int32 × Int32 → Option ((Int32 × Int32) ⊕ (Int32))
  | (y_1, y_2) => if (σ o 0) ≤ y_2 then (some (.inr y_1)) else (bi (f_X2_wrongEnds o y_2 σ) fun r_15 => bi (f_J6_bitCount r_15 σ) fun r_16 => vl (y_1 + r_16) fun x_17 => vl (y_2 + 1) fun x_18 => some (.inl (x_17, x_18)))
def f_X2_wrongPlaces (o : Nat) (σ : Nat → Nat → Int32) : Option Int32 := bi (lp (b_X2_wrongPlaces_4 o σ) FU (0, 0)) fun z_3 => some z_3
set_option maxHeartbeats 4000000 in
set_option maxRecDepth 100000 in
theorem c_X2_wrongPlaces (l : Launch) (D : va_G) (cI cS : ClassId) (Z : Nat) (K : Nat → Nat) (o : Nat) (hL : ly K o lyCloth) (σ : Nat → Nat → Int32) (r : Int32) (hf : f_X2_wrongPlaces o σ = some r) : Met l yX2_wrongPlaces (wsT yX2_wrongPlaces cX2_wrongPlaces 3 (some .int)) { frames := 2, cells := 0, slots := 0, locals := 42 } (Pm D cI cS Z K [.ref (Z + o)] σ) (Qi D cI cS Z K r σ) 0 0 (aZ Z) := by
  refine mm_met (lv := [(0, .ref (Z + o))]) (by decide) (Nat.le_of_ble_eq_true rfl) rfl ?_
  intro p e s m args below meth c ls hx hb hr hml hts hown hlocks hG hl hI hS
  have hown : s.vm.findClass RX2 = some m.cls := hown
  rw [f_X2_wrongPlaces] at hf
  refine lv_iconst (v := 0) hx hb dX2_wrongPlaces_0 (by decide) ?_
  refine lv_istore_n (lv' := [(1, .int 0), (0, .ref (Z + o))]) hx hb dX2_wrongPlaces_1 rfl hl (by decide) rfl (fun ls hl => ?_)
  refine lv_iconst (v := 0) hx hb dX2_wrongPlaces_2 (by decide) ?_
  refine lv_istore_n (lv' := [(2, .int 0), (1, .int 0), (0, .ref (Z + o))]) hx hb dX2_wrongPlaces_3 rfl hl (by decide) rfl (fun ls hl => ?_)
  have L_5 : ∀ (nn : Nat) (y_1 : Int32) (y_2 : Int32) (z_3 : Int32), lp (b_X2_wrongPlaces_4 o σ) nn (y_1, y_2) = some z_3 → (∀ (H : Heap) (locs : List Loc) (ls : Array Slot), fI D cI cS Z K σ H → va_S (aZ Z) s.heap H locs → lv_has ls 3 [(1, .int z_3)] → W p l e { frames := 2, cells := 0, slots := 0, locals := 42 } s m args below meth c H locs 0 0 (MQ below (Qi D cI cS Z K r σ) args s 0 0 (aZ Z)) (F0 m 29 ls [])) → ∀ (H : Heap) (locs : List Loc) (ls : Array Slot), fI D cI cS Z K σ H → va_S (aZ Z) s.heap H locs → lv_has ls 3 [(0, .ref (Z + o)), (1, .int y_1), (2, .int y_2)] → W p l e { frames := 2, cells := 0, slots := 0, locals := 42 } s m args below meth c H locs 0 0 (MQ below (Qi D cI cS Z K r σ) args s 0 0 (aZ Z)) (F0 m 4 ls []) := by
    intro nn
    induction nn with
    | zero =>
      intro y_1 y_2 z_3 hq
      exact (lp_0 hq).elim
    | succ nn ih_6 =>
      intro y_1 y_2 z_3 hq kn_8 H locs ls hI hS hl
      obtain ⟨wb_4, hf, hk_7⟩ := lp_e hq
      rw [b_X2_wrongPlaces_4] at hf
      have ih_6 := fun (y_1 : Int32) (y_2 : Int32) q => ih_6 y_1 y_2 z_3 q kn_8
      refine lv_iload_n hx hb dX2_wrongPlaces_4 rfl (lv_at hl 2 rfl) ?_
      refine lv_aload_n hx hb dX2_wrongPlaces_5 rfl (lv_at hl 0 rfl) ?_
      refine gX2_35 hx hb hts hown hG hI hL dX2_wrongPlaces_6 ?_
      refine lv_icmp_ge (tgt := 29) hx hb dX2_wrongPlaces_9 (by decide) (fun c_19 => ?_) (fun c_19 => ?_)
      · have hf := pos_e c_19 hf
        obtain rfl := so_e hf
        obtain rfl := lk_r hk_7
        exact kn_8 _ _ _ hI hS (lv_sub hl [1] rfl)
      · have hf := neg_e c_19 hf
        refine lv_iload_n hx hb dX2_wrongPlaces_12 rfl (lv_at hl 1 rfl) ?_
        refine lv_aload_n hx hb dX2_wrongPlaces_13 rfl (lv_at hl 0 rfl) ?_
        refine lv_iload_n hx hb dX2_wrongPlaces_14 rfl (lv_at hl 2 rfl) ?_
        obtain ⟨r_15, hr_15, hf⟩ := bi_e hf
        refine kX2_51 hx hb hml hts hown hG hI hS hl.1 hL (As := [.int y_2]) (c_X2_wrongEnds l D cI cS Z K o hL y_2 σ _ hr_15) ⟨(Nat.le_of_ble_eq_true rfl), (Nat.le_of_ble_eq_true rfl)⟩ rfl (Nat.le_of_ble_eq_true rfl) ⟨(Nat.le_of_ble_eq_true rfl), (Nat.le_of_ble_eq_true rfl)⟩ dX2_wrongPlaces_15 (fun H locs hI hS => ?_)
        obtain ⟨r_16, hr_16, hf⟩ := bi_e hf
        refine kX2_54 hx hb hml hts hown hG hI hS hl.1 (As := [.int r_15]) (c_J6_bitCount l D cI cS Z K r_15 σ _ hr_16) ⟨(Nat.le_of_ble_eq_true rfl), (Nat.le_of_ble_eq_true rfl)⟩ rfl (Nat.le_of_ble_eq_true rfl) ⟨(Nat.le_of_ble_eq_true rfl), (Nat.le_of_ble_eq_true rfl)⟩ dX2_wrongPlaces_18 (fun H locs hI hS => ?_)
        refine lv_iadd hx hb dX2_wrongPlaces_21 ?_
        obtain ⟨x_17, ex_17, hf⟩ := vl_e hf
        refine mm_name ex_17 ?_
        refine lv_istore_n (lv' := [(1, .int x_17), (0, .ref (Z + o)), (2, .int y_2)]) hx hb dX2_wrongPlaces_22 rfl hl (by decide) rfl (fun ls hl => ?_)
        obtain ⟨x_18, ex_18, hf⟩ := vl_e hf
        refine lv_iinc (v := x_18) (lv' := [(2, .int x_18), (1, .int x_17), (0, .ref (Z + o))]) hx hb dX2_wrongPlaces_23 hl (k := 2) rfl (by rw [ex_18]; rfl) (by decide) rfl (fun ls hl => ?_)
        refine lv_goto (tgt := 4) hx hb dX2_wrongPlaces_26 (by decide) ?_
        obtain rfl := so_e hf
        exact ih_6 x_17 x_18 hk_7 _ _ _ hI hS (lv_sub hl [2, 1, 0] rfl)
  obtain ⟨z_3, hy, hf⟩ := bi_e hf
  refine L_5 FU 0 0 _ hy ?_ _ _ _ hI hS (lv_sub hl [2, 1, 0] rfl)
  clear L_5
  intro H locs ls hI hS hl
  refine lv_iload_n hx hb dX2_wrongPlaces_29 rfl (lv_at hl 0 rfl) ?_
  obtain rfl := so_e hf
  exact mm_ret hx hb hr hlocks rfl hI hS dX2_wrongPlaces_30
def b_X2_rowsAbove_4 (o : Nat) (a1 : Int32) (σ : Nat → Nat → Int32) : Int32 × Int32 → Option ((Int32 × Int32) ⊕ (Int32))
  | (y_1, y_2) => if (σ o 0) ≤ y_2 then (some (.inr y_1)) else (bi (f_X4_at (o + 7) 64 y_2 σ) fun r_15 => bi (f_X7_bitOf r_15 a1 σ) fun r_16 => vl (y_1 + r_16) fun x_17 => vl (y_2 + 1) fun x_18 => some (.inl (x_17, x_18)))
def f_X2_rowsAbove (o : Nat) (a1 : Int32) (σ : Nat → Nat → Int32) : Option Int32 := bi (lp (b_X2_rowsAbove_4 o a1 σ) FU (0, 0)) fun z_3 => some z_3
set_option maxHeartbeats 4000000 in
set_option maxRecDepth 100000 in
theorem c_X2_rowsAbove (l : Launch) (D : va_G) (cI cS : ClassId) (Z : Nat) (K : Nat → Nat) (o : Nat) (hL : ly K o lyCloth) (a1 : Int32) (σ : Nat → Nat → Int32) (r : Int32) (hf : f_X2_rowsAbove o a1 σ = some r) : Met l yX2_rowsAbove (wsT yX2_rowsAbove cX2_rowsAbove 4 (some .int)) { frames := 1, cells := 0, slots := 0, locals := 21 } (Pm D cI cS Z K [.ref (Z + o), .int a1] σ) (Qi D cI cS Z K r σ) 0 0 (aZ Z) := by
  refine mm_met (lv := [(0, .ref (Z + o)), (1, .int a1)]) (by decide) (Nat.le_of_ble_eq_true rfl) rfl ?_
  intro p e s m args below meth c ls hx hb hr hml hts hown hlocks hG hl hI hS
  have hown : s.vm.findClass RX2 = some m.cls := hown
  rw [f_X2_rowsAbove] at hf
  refine lv_iconst (v := 0) hx hb dX2_rowsAbove_0 (by decide) ?_
  refine lv_istore_n (lv' := [(2, .int 0), (0, .ref (Z + o)), (1, .int a1)]) hx hb dX2_rowsAbove_1 rfl hl (by decide) rfl (fun ls hl => ?_)
  refine lv_iconst (v := 0) hx hb dX2_rowsAbove_2 (by decide) ?_
  refine lv_istore_n (lv' := [(3, .int 0), (2, .int 0), (0, .ref (Z + o)), (1, .int a1)]) hx hb dX2_rowsAbove_3 rfl hl (by decide) rfl (fun ls hl => ?_)
  have L_5 : ∀ (nn : Nat) (y_1 : Int32) (y_2 : Int32) (z_3 : Int32), lp (b_X2_rowsAbove_4 o a1 σ) nn (y_1, y_2) = some z_3 → (∀ (H : Heap) (locs : List Loc) (ls : Array Slot), fI D cI cS Z K σ H → va_S (aZ Z) s.heap H locs → lv_has ls 4 [(2, .int z_3)] → W p l e { frames := 1, cells := 0, slots := 0, locals := 21 } s m args below meth c H locs 0 0 (MQ below (Qi D cI cS Z K r σ) args s 0 0 (aZ Z)) (F0 m 33 ls [])) → ∀ (H : Heap) (locs : List Loc) (ls : Array Slot), fI D cI cS Z K σ H → va_S (aZ Z) s.heap H locs → lv_has ls 4 [(0, .ref (Z + o)), (1, .int a1), (2, .int y_1), (3, .int y_2)] → W p l e { frames := 1, cells := 0, slots := 0, locals := 21 } s m args below meth c H locs 0 0 (MQ below (Qi D cI cS Z K r σ) args s 0 0 (aZ Z)) (F0 m 4 ls []) := by
    intro nn
    induction nn with
    | zero =>
      intro y_1 y_2 z_3 hq
      exact (lp_0 hq).elim
    | succ nn ih_6 =>
      intro y_1 y_2 z_3 hq kn_8 H locs ls hI hS hl
      obtain ⟨wb_4, hf, hk_7⟩ := lp_e hq
      rw [b_X2_rowsAbove_4] at hf
      have ih_6 := fun (y_1 : Int32) (y_2 : Int32) q => ih_6 y_1 y_2 z_3 q kn_8
      refine lv_iload_n hx hb dX2_rowsAbove_4 rfl (lv_at hl 3 rfl) ?_
      refine lv_aload_n hx hb dX2_rowsAbove_5 rfl (lv_at hl 0 rfl) ?_
      refine gX2_35 hx hb hts hown hG hI hL dX2_rowsAbove_6 ?_
      refine lv_icmp_ge (tgt := 33) hx hb dX2_rowsAbove_9 (by decide) (fun c_19 => ?_) (fun c_19 => ?_)
      · have hf := pos_e c_19 hf
        obtain rfl := so_e hf
        obtain rfl := lk_r hk_7
        exact kn_8 _ _ _ hI hS (lv_sub hl [2] rfl)
      · have hf := neg_e c_19 hf
        refine lv_iload_n hx hb dX2_rowsAbove_12 rfl (lv_at hl 2 rfl) ?_
        refine lv_aload_n hx hb dX2_rowsAbove_13 rfl (lv_at hl 0 rfl) ?_
        refine gX2_26 (o' := (o + 7)) hx hb hts hown hG hI hL rfl dX2_rowsAbove_14 ?_
        refine lv_iload_n hx hb dX2_rowsAbove_17 rfl (lv_at hl 3 rfl) ?_
        obtain ⟨r_15, hr_15, hf⟩ := bi_e hf
        refine kX2_47 hx hb hml hts hown hG hI hS hl.1 (ly_sub_2_aboveOf hL) (As := [.int y_2]) (c_X4_at l D cI cS Z K (o + 7) 64 (ly_sub_2_aboveOf hL) y_2 σ _ hr_15) ⟨(Nat.le_of_ble_eq_true rfl), (Nat.le_of_ble_eq_true rfl)⟩ rfl (Nat.le_of_ble_eq_true rfl) ⟨(Nat.le_of_ble_eq_true rfl), (Nat.le_of_ble_eq_true rfl)⟩ dX2_rowsAbove_18 (fun H locs hI hS => ?_)
        refine lv_iload_n hx hb dX2_rowsAbove_21 rfl (lv_at hl 1 rfl) ?_
        obtain ⟨r_16, hr_16, hf⟩ := bi_e hf
        refine kX2_59 hx hb hml hts hown hG hI hS hl.1 (As := [.int r_15, .int a1]) (c_X7_bitOf l D cI cS Z K r_15 a1 σ _ hr_16) ⟨(Nat.le_of_ble_eq_true rfl), (Nat.le_of_ble_eq_true rfl)⟩ rfl (Nat.le_of_ble_eq_true rfl) ⟨(Nat.le_of_ble_eq_true rfl), (Nat.le_of_ble_eq_true rfl)⟩ dX2_rowsAbove_22 (fun H locs hI hS => ?_)
        refine lv_iadd hx hb dX2_rowsAbove_25 ?_
        obtain ⟨x_17, ex_17, hf⟩ := vl_e hf
        refine mm_name ex_17 ?_
        refine lv_istore_n (lv' := [(2, .int x_17), (0, .ref (Z + o)), (1, .int a1), (3, .int y_2)]) hx hb dX2_rowsAbove_26 rfl hl (by decide) rfl (fun ls hl => ?_)
        obtain ⟨x_18, ex_18, hf⟩ := vl_e hf
        refine lv_iinc (v := x_18) (lv' := [(3, .int x_18), (2, .int x_17), (0, .ref (Z + o)), (1, .int a1)]) hx hb dX2_rowsAbove_27 hl (k := 3) rfl (by rw [ex_18]; rfl) (by decide) rfl (fun ls hl => ?_)
        refine lv_goto (tgt := 4) hx hb dX2_rowsAbove_30 (by decide) ?_
        obtain rfl := so_e hf
        exact ih_6 x_17 x_18 hk_7 _ _ _ hI hS (lv_sub hl [2, 3, 1, 0] rfl)
  obtain ⟨z_3, hy, hf⟩ := bi_e hf
  refine L_5 FU 0 0 _ hy ?_ _ _ _ hI hS (lv_sub hl [2, 3, 1, 0] rfl)
  clear L_5
  intro H locs ls hI hS hl
  refine lv_iload_n hx hb dX2_rowsAbove_33 rfl (lv_at hl 0 rfl) ?_
  obtain rfl := so_e hf
  exact mm_ret hx hb hr hlocks rfl hI hS dX2_rowsAbove_34
def b_X2_rowsWrong_4 (o : Nat) (a1 : Int32) (σ : Nat → Nat → Int32) : Int32 × Int32 → Option ((Int32 × Int32) ⊕ (Int32))
  | (y_1, y_2) => if (σ o 0) ≤ y_2 then (some (.inr y_1)) else (bi (f_X2_wrongEnds o y_2 σ) fun r_15 => bi (f_X7_bitOf r_15 a1 σ) fun r_16 => vl (y_1 + r_16) fun x_17 => vl (y_2 + 1) fun x_18 => some (.inl (x_17, x_18)))
def f_X2_rowsWrong (o : Nat) (a1 : Int32) (σ : Nat → Nat → Int32) : Option Int32 := bi (lp (b_X2_rowsWrong_4 o a1 σ) FU (0, 0)) fun z_3 => some z_3
set_option maxHeartbeats 4000000 in
set_option maxRecDepth 100000 in
theorem c_X2_rowsWrong (l : Launch) (D : va_G) (cI cS : ClassId) (Z : Nat) (K : Nat → Nat) (o : Nat) (hL : ly K o lyCloth) (a1 : Int32) (σ : Nat → Nat → Int32) (r : Int32) (hf : f_X2_rowsWrong o a1 σ = some r) : Met l yX2_rowsWrong (wsT yX2_rowsWrong cX2_rowsWrong 4 (some .int)) { frames := 2, cells := 0, slots := 0, locals := 42 } (Pm D cI cS Z K [.ref (Z + o), .int a1] σ) (Qi D cI cS Z K r σ) 0 0 (aZ Z) := by
  refine mm_met (lv := [(0, .ref (Z + o)), (1, .int a1)]) (by decide) (Nat.le_of_ble_eq_true rfl) rfl ?_
  intro p e s m args below meth c ls hx hb hr hml hts hown hlocks hG hl hI hS
  have hown : s.vm.findClass RX2 = some m.cls := hown
  rw [f_X2_rowsWrong] at hf
  refine lv_iconst (v := 0) hx hb dX2_rowsWrong_0 (by decide) ?_
  refine lv_istore_n (lv' := [(2, .int 0), (0, .ref (Z + o)), (1, .int a1)]) hx hb dX2_rowsWrong_1 rfl hl (by decide) rfl (fun ls hl => ?_)
  refine lv_iconst (v := 0) hx hb dX2_rowsWrong_2 (by decide) ?_
  refine lv_istore_n (lv' := [(3, .int 0), (2, .int 0), (0, .ref (Z + o)), (1, .int a1)]) hx hb dX2_rowsWrong_3 rfl hl (by decide) rfl (fun ls hl => ?_)
  have L_5 : ∀ (nn : Nat) (y_1 : Int32) (y_2 : Int32) (z_3 : Int32), lp (b_X2_rowsWrong_4 o a1 σ) nn (y_1, y_2) = some z_3 → (∀ (H : Heap) (locs : List Loc) (ls : Array Slot), fI D cI cS Z K σ H → va_S (aZ Z) s.heap H locs → lv_has ls 4 [(2, .int z_3)] → W p l e { frames := 2, cells := 0, slots := 0, locals := 42 } s m args below meth c H locs 0 0 (MQ below (Qi D cI cS Z K r σ) args s 0 0 (aZ Z)) (F0 m 30 ls [])) → ∀ (H : Heap) (locs : List Loc) (ls : Array Slot), fI D cI cS Z K σ H → va_S (aZ Z) s.heap H locs → lv_has ls 4 [(0, .ref (Z + o)), (1, .int a1), (2, .int y_1), (3, .int y_2)] → W p l e { frames := 2, cells := 0, slots := 0, locals := 42 } s m args below meth c H locs 0 0 (MQ below (Qi D cI cS Z K r σ) args s 0 0 (aZ Z)) (F0 m 4 ls []) := by
    intro nn
    induction nn with
    | zero =>
      intro y_1 y_2 z_3 hq
      exact (lp_0 hq).elim
    | succ nn ih_6 =>
      intro y_1 y_2 z_3 hq kn_8 H locs ls hI hS hl
      obtain ⟨wb_4, hf, hk_7⟩ := lp_e hq
      rw [b_X2_rowsWrong_4] at hf
      have ih_6 := fun (y_1 : Int32) (y_2 : Int32) q => ih_6 y_1 y_2 z_3 q kn_8
      refine lv_iload_n hx hb dX2_rowsWrong_4 rfl (lv_at hl 3 rfl) ?_
      refine lv_aload_n hx hb dX2_rowsWrong_5 rfl (lv_at hl 0 rfl) ?_
      refine gX2_35 hx hb hts hown hG hI hL dX2_rowsWrong_6 ?_
      refine lv_icmp_ge (tgt := 30) hx hb dX2_rowsWrong_9 (by decide) (fun c_19 => ?_) (fun c_19 => ?_)
      · have hf := pos_e c_19 hf
        obtain rfl := so_e hf
        obtain rfl := lk_r hk_7
        exact kn_8 _ _ _ hI hS (lv_sub hl [2] rfl)
      · have hf := neg_e c_19 hf
        refine lv_iload_n hx hb dX2_rowsWrong_12 rfl (lv_at hl 2 rfl) ?_
        refine lv_aload_n hx hb dX2_rowsWrong_13 rfl (lv_at hl 0 rfl) ?_
        refine lv_iload_n hx hb dX2_rowsWrong_14 rfl (lv_at hl 3 rfl) ?_
        obtain ⟨r_15, hr_15, hf⟩ := bi_e hf
        refine kX2_51 hx hb hml hts hown hG hI hS hl.1 hL (As := [.int y_2]) (c_X2_wrongEnds l D cI cS Z K o hL y_2 σ _ hr_15) ⟨(Nat.le_of_ble_eq_true rfl), (Nat.le_of_ble_eq_true rfl)⟩ rfl (Nat.le_of_ble_eq_true rfl) ⟨(Nat.le_of_ble_eq_true rfl), (Nat.le_of_ble_eq_true rfl)⟩ dX2_rowsWrong_15 (fun H locs hI hS => ?_)
        refine lv_iload_n hx hb dX2_rowsWrong_18 rfl (lv_at hl 1 rfl) ?_
        obtain ⟨r_16, hr_16, hf⟩ := bi_e hf
        refine kX2_59 hx hb hml hts hown hG hI hS hl.1 (As := [.int r_15, .int a1]) (c_X7_bitOf l D cI cS Z K r_15 a1 σ _ hr_16) ⟨(Nat.le_of_ble_eq_true rfl), (Nat.le_of_ble_eq_true rfl)⟩ rfl (Nat.le_of_ble_eq_true rfl) ⟨(Nat.le_of_ble_eq_true rfl), (Nat.le_of_ble_eq_true rfl)⟩ dX2_rowsWrong_19 (fun H locs hI hS => ?_)
        refine lv_iadd hx hb dX2_rowsWrong_22 ?_
        obtain ⟨x_17, ex_17, hf⟩ := vl_e hf
        refine mm_name ex_17 ?_
        refine lv_istore_n (lv' := [(2, .int x_17), (0, .ref (Z + o)), (1, .int a1), (3, .int y_2)]) hx hb dX2_rowsWrong_23 rfl hl (by decide) rfl (fun ls hl => ?_)
        obtain ⟨x_18, ex_18, hf⟩ := vl_e hf
        refine lv_iinc (v := x_18) (lv' := [(3, .int x_18), (2, .int x_17), (0, .ref (Z + o)), (1, .int a1)]) hx hb dX2_rowsWrong_24 hl (k := 3) rfl (by rw [ex_18]; rfl) (by decide) rfl (fun ls hl => ?_)
        refine lv_goto (tgt := 4) hx hb dX2_rowsWrong_27 (by decide) ?_
        obtain rfl := so_e hf
        exact ih_6 x_17 x_18 hk_7 _ _ _ hI hS (lv_sub hl [2, 3, 1, 0] rfl)
  obtain ⟨z_3, hy, hf⟩ := bi_e hf
  refine L_5 FU 0 0 _ hy ?_ _ _ _ hI hS (lv_sub hl [2, 3, 1, 0] rfl)
  clear L_5
  intro H locs ls hI hS hl
  refine lv_iload_n hx hb dX2_rowsWrong_30 rfl (lv_at hl 0 rfl) ?_
  obtain rfl := so_e hf
  exact mm_ret hx hb hr hlocks rfl hI hS dX2_rowsWrong_31
def f_X2_sideAt (o : Nat) (a1 : Int32) (a2 : Int32) (σ : Nat → Nat → Int32) : Option Int32 := bi (f_X4_at (o + 9) 64 a1 σ) fun r_1 => bi (f_X7_bitOf r_1 a2 σ) fun r_2 => if r_2 = 1 then (some (-1)) else (bi (f_X4_at (o + 7) 64 a1 σ) fun r_3 => bi (f_X7_bitOf r_3 a2 σ) fun r_4 => some r_4)
set_option maxHeartbeats 4000000 in
set_option maxRecDepth 100000 in
theorem c_X2_sideAt (l : Launch) (D : va_G) (cI cS : ClassId) (Z : Nat) (K : Nat → Nat) (o : Nat) (hL : ly K o lyCloth) (a1 : Int32) (a2 : Int32) (σ : Nat → Nat → Int32) (r : Int32) (hf : f_X2_sideAt o a1 a2 σ = some r) : Met l yX2_sideAt (wsT yX2_sideAt cX2_sideAt 3 (some .int)) { frames := 1, cells := 0, slots := 0, locals := 21 } (Pm D cI cS Z K [.ref (Z + o), .int a1, .int a2] σ) (Qi D cI cS Z K r σ) 0 0 (aZ Z) := by
  refine mm_met (lv := [(0, .ref (Z + o)), (1, .int a1), (2, .int a2)]) (by decide) (Nat.le_of_ble_eq_true rfl) rfl ?_
  intro p e s m args below meth c ls hx hb hr hml hts hown hlocks hG hl hI hS
  have hown : s.vm.findClass RX2 = some m.cls := hown
  rw [f_X2_sideAt] at hf
  refine lv_aload_n hx hb dX2_sideAt_0 rfl (lv_at hl 0 rfl) ?_
  refine gX2_29 (o' := (o + 9)) hx hb hts hown hG hI hL rfl dX2_sideAt_1 ?_
  refine lv_iload_n hx hb dX2_sideAt_4 rfl (lv_at hl 1 rfl) ?_
  obtain ⟨r_1, hr_1, hf⟩ := bi_e hf
  refine kX2_47 hx hb hml hts hown hG hI hS hl.1 (ly_sub_2_missingOf hL) (As := [.int a1]) (c_X4_at l D cI cS Z K (o + 9) 64 (ly_sub_2_missingOf hL) a1 σ _ hr_1) ⟨(Nat.le_of_ble_eq_true rfl), (Nat.le_of_ble_eq_true rfl)⟩ rfl (Nat.le_of_ble_eq_true rfl) ⟨(Nat.le_of_ble_eq_true rfl), (Nat.le_of_ble_eq_true rfl)⟩ dX2_sideAt_5 (fun H locs hI hS => ?_)
  refine lv_iload_n hx hb dX2_sideAt_8 rfl (lv_at hl 2 rfl) ?_
  obtain ⟨r_2, hr_2, hf⟩ := bi_e hf
  refine kX2_59 hx hb hml hts hown hG hI hS hl.1 (As := [.int r_1, .int a2]) (c_X7_bitOf l D cI cS Z K r_1 a2 σ _ hr_2) ⟨(Nat.le_of_ble_eq_true rfl), (Nat.le_of_ble_eq_true rfl)⟩ rfl (Nat.le_of_ble_eq_true rfl) ⟨(Nat.le_of_ble_eq_true rfl), (Nat.le_of_ble_eq_true rfl)⟩ dX2_sideAt_9 (fun H locs hI hS => ?_)
  refine lv_iconst (v := 1) hx hb dX2_sideAt_12 (by decide) ?_
  refine lv_icmp_ne (tgt := 20) hx hb dX2_sideAt_13 (by decide) (fun c_5 => ?_) (fun c_5 => ?_)
  · have hf := neg_e c_5 hf
    refine lv_aload_n hx hb dX2_sideAt_20 rfl (lv_at hl 0 rfl) ?_
    refine gX2_26 (o' := (o + 7)) hx hb hts hown hG hI hL rfl dX2_sideAt_21 ?_
    refine lv_iload_n hx hb dX2_sideAt_24 rfl (lv_at hl 1 rfl) ?_
    obtain ⟨r_3, hr_3, hf⟩ := bi_e hf
    refine kX2_47 hx hb hml hts hown hG hI hS hl.1 (ly_sub_2_aboveOf hL) (As := [.int a1]) (c_X4_at l D cI cS Z K (o + 7) 64 (ly_sub_2_aboveOf hL) a1 σ _ hr_3) ⟨(Nat.le_of_ble_eq_true rfl), (Nat.le_of_ble_eq_true rfl)⟩ rfl (Nat.le_of_ble_eq_true rfl) ⟨(Nat.le_of_ble_eq_true rfl), (Nat.le_of_ble_eq_true rfl)⟩ dX2_sideAt_25 (fun H locs hI hS => ?_)
    refine lv_iload_n hx hb dX2_sideAt_28 rfl (lv_at hl 2 rfl) ?_
    obtain ⟨r_4, hr_4, hf⟩ := bi_e hf
    refine kX2_59 hx hb hml hts hown hG hI hS hl.1 (As := [.int r_3, .int a2]) (c_X7_bitOf l D cI cS Z K r_3 a2 σ _ hr_4) ⟨(Nat.le_of_ble_eq_true rfl), (Nat.le_of_ble_eq_true rfl)⟩ rfl (Nat.le_of_ble_eq_true rfl) ⟨(Nat.le_of_ble_eq_true rfl), (Nat.le_of_ble_eq_true rfl)⟩ dX2_sideAt_29 (fun H locs hI hS => ?_)
    obtain rfl := so_e hf
    exact mm_ret hx hb hr hlocks rfl hI hS dX2_sideAt_32
  · have hf := pos_e c_5 hf
    refine lv_iconst (v := (-1)) hx hb dX2_sideAt_16 (by decide) ?_
    refine lv_goto (tgt := 32) hx hb dX2_sideAt_17 (by decide) ?_
    obtain rfl := so_e hf
    exact mm_ret hx hb hr hlocks rfl hI hS dX2_sideAt_32
def f_X2_sideAlong (o : Nat) (a1 : Int32) (a2 : Int32) (a3 : Int32) (σ : Nat → Nat → Int32) : Option Int32 := if a1 = 0 then (bi (f_X2_sideAt o a3 a2 σ) fun r_2 => some r_2) else (bi (f_X2_sideAt o a2 a3 σ) fun r_1 => some r_1)
set_option maxHeartbeats 4000000 in
set_option maxRecDepth 100000 in
theorem c_X2_sideAlong (l : Launch) (D : va_G) (cI cS : ClassId) (Z : Nat) (K : Nat → Nat) (o : Nat) (hL : ly K o lyCloth) (a1 : Int32) (a2 : Int32) (a3 : Int32) (σ : Nat → Nat → Int32) (r : Int32) (hf : f_X2_sideAlong o a1 a2 a3 σ = some r) : Met l yX2_sideAlong (wsT yX2_sideAlong cX2_sideAlong 4 (some .int)) { frames := 2, cells := 0, slots := 0, locals := 43 } (Pm D cI cS Z K [.ref (Z + o), .int a1, .int a2, .int a3] σ) (Qi D cI cS Z K r σ) 0 0 (aZ Z) := by
  refine mm_met (lv := [(0, .ref (Z + o)), (1, .int a1), (2, .int a2), (3, .int a3)]) (by decide) (Nat.le_of_ble_eq_true rfl) rfl ?_
  intro p e s m args below meth c ls hx hb hr hml hts hown hlocks hG hl hI hS
  have hown : s.vm.findClass RX2 = some m.cls := hown
  rw [f_X2_sideAlong] at hf
  refine lv_iload_n hx hb dX2_sideAlong_0 rfl (lv_at hl 1 rfl) ?_
  refine lv_if_ne (tgt := 13) hx hb dX2_sideAlong_1 (by decide) (fun c_3 => ?_) (fun c_3 => ?_)
  · have hf := neg_e c_3 hf
    refine lv_aload_n hx hb dX2_sideAlong_13 rfl (lv_at hl 0 rfl) ?_
    refine lv_iload_n hx hb dX2_sideAlong_14 rfl (lv_at hl 2 rfl) ?_
    refine lv_iload_n hx hb dX2_sideAlong_15 rfl (lv_at hl 3 rfl) ?_
    obtain ⟨r_1, hr_1, hf⟩ := bi_e hf
    refine kX2_63 hx hb hml hts hown hG hI hS hl.1 hL (As := [.int a2, .int a3]) (c_X2_sideAt l D cI cS Z K o hL a2 a3 σ _ hr_1) ⟨(Nat.le_of_ble_eq_true rfl), (Nat.le_of_ble_eq_true rfl)⟩ rfl (Nat.le_of_ble_eq_true rfl) ⟨(Nat.le_of_ble_eq_true rfl), (Nat.le_of_ble_eq_true rfl)⟩ dX2_sideAlong_16 (fun H locs hI hS => ?_)
    obtain rfl := so_e hf
    exact mm_ret hx hb hr hlocks rfl hI hS dX2_sideAlong_19
  · have hf := pos_e c_3 hf
    refine lv_aload_n hx hb dX2_sideAlong_4 rfl (lv_at hl 0 rfl) ?_
    refine lv_iload_n hx hb dX2_sideAlong_5 rfl (lv_at hl 3 rfl) ?_
    refine lv_iload_n hx hb dX2_sideAlong_6 rfl (lv_at hl 2 rfl) ?_
    obtain ⟨r_2, hr_2, hf⟩ := bi_e hf
    refine kX2_63 hx hb hml hts hown hG hI hS hl.1 hL (As := [.int a3, .int a2]) (c_X2_sideAt l D cI cS Z K o hL a3 a2 σ _ hr_2) ⟨(Nat.le_of_ble_eq_true rfl), (Nat.le_of_ble_eq_true rfl)⟩ rfl (Nat.le_of_ble_eq_true rfl) ⟨(Nat.le_of_ble_eq_true rfl), (Nat.le_of_ble_eq_true rfl)⟩ dX2_sideAlong_7 (fun H locs hI hS => ?_)
    refine lv_goto (tgt := 19) hx hb dX2_sideAlong_10 (by decide) ?_
    obtain rfl := so_e hf
    exact mm_ret hx hb hr hlocks rfl hI hS dX2_sideAlong_19
def f_X2_runWith (o : Nat) (a1 : Int32) (a2 : Int32) (a3 : Int32) (σ : Nat → Nat → Int32) : Option Int32 := if a1 = (-1) then (some 0) else (if a1 = a2 then (some (a3 + 1)) else (some 1))
set_option maxHeartbeats 4000000 in
set_option maxRecDepth 100000 in
theorem c_X2_runWith (l : Launch) (D : va_G) (cI cS : ClassId) (Z : Nat) (K : Nat → Nat) (o : Nat) (hL : ly K o lyCloth) (a1 : Int32) (a2 : Int32) (a3 : Int32) (σ : Nat → Nat → Int32) (r : Int32) (hf : f_X2_runWith o a1 a2 a3 σ = some r) : Met l yX2_runWith (wsT yX2_runWith cX2_runWith 4 (some .int)) { frames := 0, cells := 0, slots := 0, locals := 0 } (Pm D cI cS Z K [.ref (Z + o), .int a1, .int a2, .int a3] σ) (Qi D cI cS Z K r σ) 0 0 (aZ Z) := by
  refine mm_met (lv := [(0, .ref (Z + o)), (1, .int a1), (2, .int a2), (3, .int a3)]) (by decide) (Nat.le_of_ble_eq_true rfl) rfl ?_
  intro p e s m args below meth c ls hx hb hr hml hts hown hlocks hG hl hI hS
  have hown : s.vm.findClass RX2 = some m.cls := hown
  rw [f_X2_runWith] at hf
  refine lv_iload_n hx hb dX2_runWith_0 rfl (lv_at hl 1 rfl) ?_
  refine lv_iconst (v := (-1)) hx hb dX2_runWith_1 (by decide) ?_
  refine lv_icmp_ne (tgt := 7) hx hb dX2_runWith_2 (by decide) (fun c_2 => ?_) (fun c_2 => ?_)
  · have hf := neg_e c_2 hf
    refine lv_iload_n hx hb dX2_runWith_7 rfl (lv_at hl 1 rfl) ?_
    refine lv_iload_n hx hb dX2_runWith_8 rfl (lv_at hl 2 rfl) ?_
    refine lv_icmp_ne (tgt := 18) hx hb dX2_runWith_9 (by decide) (fun c_1 => ?_) (fun c_1 => ?_)
    · have hf := neg_e c_1 hf
      refine lv_iconst (v := 1) hx hb dX2_runWith_18 (by decide) ?_
      obtain rfl := so_e hf
      exact mm_ret hx hb hr hlocks rfl hI hS dX2_runWith_19
    · have hf := pos_e c_1 hf
      refine lv_iload_n hx hb dX2_runWith_12 rfl (lv_at hl 3 rfl) ?_
      refine lv_iconst (v := 1) hx hb dX2_runWith_13 (by decide) ?_
      refine lv_iadd hx hb dX2_runWith_14 ?_
      refine lv_goto (tgt := 19) hx hb dX2_runWith_15 (by decide) ?_
      obtain rfl := so_e hf
      exact mm_ret hx hb hr hlocks rfl hI hS dX2_runWith_19
  · have hf := pos_e c_2 hf
    refine lv_iconst (v := 0) hx hb dX2_runWith_5 (by decide) ?_
    obtain rfl := so_e hf
    exact mm_ret hx hb hr hlocks rfl hI hS dX2_runWith_6
def b_X2_longestFloat_12 (o : Nat) (a1 : Int32) (a2 : Int32) (a3 : Int32) (σ : Nat → Nat → Int32) : Int32 × Int32 × Int32 × Int32 → Option ((Int32 × Int32 × Int32 × Int32) ⊕ (Int32))
  | (y_1, y_2, y_3, y_4) => if a3 ≤ y_4 then (some (.inr y_1)) else (bi (f_X2_sideAlong o a1 a2 y_4 σ) fun r_17 => bi (f_X2_runWith o r_17 y_3 y_2 σ) fun r_18 => vl (imax y_1 r_18) fun x_19 => vl (y_4 + 1) fun x_20 => some (.inl (x_19, r_18, r_17, x_20)))
def f_X2_longestFloat (o : Nat) (a1 : Int32) (a2 : Int32) (a3 : Int32) (σ : Nat → Nat → Int32) : Option Int32 := bi (lp (b_X2_longestFloat_12 o a1 a2 a3 σ) FU (0, 0, (-1), 0)) fun z_5 => some z_5
set_option maxHeartbeats 4000000 in
set_option maxRecDepth 100000 in
theorem c_X2_longestFloat (l : Launch) (D : va_G) (cI cS : ClassId) (Z : Nat) (K : Nat → Nat) (o : Nat) (hL : ly K o lyCloth) (a1 : Int32) (a2 : Int32) (a3 : Int32) (σ : Nat → Nat → Int32) (r : Int32) (hf : f_X2_longestFloat o a1 a2 a3 σ = some r) : Met l yX2_longestFloat (wsT yX2_longestFloat cX2_longestFloat 9 (some .int)) { frames := 3, cells := 0, slots := 0, locals := 66 } (Pm D cI cS Z K [.ref (Z + o), .int a1, .int a2, .int a3] σ) (Qi D cI cS Z K r σ) 0 0 (aZ Z) := by
  refine mm_met (lv := [(0, .ref (Z + o)), (1, .int a1), (2, .int a2), (3, .int a3)]) (by decide) (Nat.le_of_ble_eq_true rfl) rfl ?_
  intro p e s m args below meth c ls hx hb hr hml hts hown hlocks hG hl hI hS
  have hown : s.vm.findClass RX2 = some m.cls := hown
  rw [f_X2_longestFloat] at hf
  refine lv_iconst (v := 0) hx hb dX2_longestFloat_0 (by decide) ?_
  refine lv_istore (lv' := [(4, .int 0), (0, .ref (Z + o)), (1, .int a1), (2, .int a2), (3, .int a3)]) hx hb dX2_longestFloat_1 hl (by decide) rfl (fun ls hl => ?_)
  refine lv_iconst (v := 0) hx hb dX2_longestFloat_3 (by decide) ?_
  refine lv_istore (lv' := [(5, .int 0), (4, .int 0), (0, .ref (Z + o)), (1, .int a1), (2, .int a2), (3, .int a3)]) hx hb dX2_longestFloat_4 hl (by decide) rfl (fun ls hl => ?_)
  refine lv_iconst (v := (-1)) hx hb dX2_longestFloat_6 (by decide) ?_
  refine lv_istore (lv' := [(6, .int (-1)), (5, .int 0), (4, .int 0), (0, .ref (Z + o)), (1, .int a1), (2, .int a2), (3, .int a3)]) hx hb dX2_longestFloat_7 hl (by decide) rfl (fun ls hl => ?_)
  refine lv_iconst (v := 0) hx hb dX2_longestFloat_9 (by decide) ?_
  refine lv_istore (lv' := [(7, .int 0), (6, .int (-1)), (5, .int 0), (4, .int 0), (0, .ref (Z + o)), (1, .int a1), (2, .int a2), (3, .int a3)]) hx hb dX2_longestFloat_10 hl (by decide) rfl (fun ls hl => ?_)
  have L_7 : ∀ (nn : Nat) (y_1 : Int32) (y_2 : Int32) (y_3 : Int32) (y_4 : Int32) (z_5 : Int32), lp (b_X2_longestFloat_12 o a1 a2 a3 σ) nn (y_1, y_2, y_3, y_4) = some z_5 → (∀ (H : Heap) (locs : List Loc) (ls : Array Slot), fI D cI cS Z K σ H → va_S (aZ Z) s.heap H locs → lv_has ls 9 [(4, .int z_5)] → W p l e { frames := 3, cells := 0, slots := 0, locals := 66 } s m args below meth c H locs 0 0 (MQ below (Qi D cI cS Z K r σ) args s 0 0 (aZ Z)) (F0 m 59 ls [])) → ∀ (H : Heap) (locs : List Loc) (ls : Array Slot), fI D cI cS Z K σ H → va_S (aZ Z) s.heap H locs → lv_has ls 9 [(0, .ref (Z + o)), (1, .int a1), (2, .int a2), (3, .int a3), (4, .int y_1), (5, .int y_2), (6, .int y_3), (7, .int y_4)] → W p l e { frames := 3, cells := 0, slots := 0, locals := 66 } s m args below meth c H locs 0 0 (MQ below (Qi D cI cS Z K r σ) args s 0 0 (aZ Z)) (F0 m 12 ls []) := by
    intro nn
    induction nn with
    | zero =>
      intro y_1 y_2 y_3 y_4 z_5 hq
      exact (lp_0 hq).elim
    | succ nn ih_8 =>
      intro y_1 y_2 y_3 y_4 z_5 hq kn_10 H locs ls hI hS hl
      obtain ⟨wb_6, hf, hk_9⟩ := lp_e hq
      rw [b_X2_longestFloat_12] at hf
      have ih_8 := fun (y_1 : Int32) (y_2 : Int32) (y_3 : Int32) (y_4 : Int32) q => ih_8 y_1 y_2 y_3 y_4 z_5 q kn_10
      refine lv_iload hx hb dX2_longestFloat_12 (lv_at hl 7 rfl) ?_
      refine lv_iload_n hx hb dX2_longestFloat_14 rfl (lv_at hl 3 rfl) ?_
      refine lv_icmp_ge (tgt := 59) hx hb dX2_longestFloat_15 (by decide) (fun c_21 => ?_) (fun c_21 => ?_)
      · have hf := pos_e c_21 hf
        obtain rfl := so_e hf
        obtain rfl := lk_r hk_9
        exact kn_10 _ _ _ hI hS (lv_sub hl [4] rfl)
      · have hf := neg_e c_21 hf
        refine lv_aload_n hx hb dX2_longestFloat_18 rfl (lv_at hl 0 rfl) ?_
        refine lv_iload_n hx hb dX2_longestFloat_19 rfl (lv_at hl 1 rfl) ?_
        refine lv_iload_n hx hb dX2_longestFloat_20 rfl (lv_at hl 2 rfl) ?_
        refine lv_iload hx hb dX2_longestFloat_21 (lv_at hl 7 rfl) ?_
        obtain ⟨r_17, hr_17, hf⟩ := bi_e hf
        refine kX2_66 hx hb hml hts hown hG hI hS hl.1 hL (As := [.int a1, .int a2, .int y_4]) (c_X2_sideAlong l D cI cS Z K o hL a1 a2 y_4 σ _ hr_17) ⟨(Nat.le_of_ble_eq_true rfl), (Nat.le_of_ble_eq_true rfl)⟩ rfl (Nat.le_of_ble_eq_true rfl) ⟨(Nat.le_of_ble_eq_true rfl), (Nat.le_of_ble_eq_true rfl)⟩ dX2_longestFloat_23 (fun H locs hI hS => ?_)
        refine lv_istore (lv' := [(8, .int r_17), (0, .ref (Z + o)), (1, .int a1), (2, .int a2), (3, .int a3), (4, .int y_1), (5, .int y_2), (6, .int y_3), (7, .int y_4)]) hx hb dX2_longestFloat_26 hl (by decide) rfl (fun ls hl => ?_)
        refine lv_aload_n hx hb dX2_longestFloat_28 rfl (lv_at hl 1 rfl) ?_
        refine lv_iload hx hb dX2_longestFloat_29 (lv_at hl 0 rfl) ?_
        refine lv_iload hx hb dX2_longestFloat_31 (lv_at hl 7 rfl) ?_
        refine lv_iload hx hb dX2_longestFloat_33 (lv_at hl 6 rfl) ?_
        obtain ⟨r_18, hr_18, hf⟩ := bi_e hf
        refine kX2_70 hx hb hml hts hown hG hI hS hl.1 hL (As := [.int r_17, .int y_3, .int y_2]) (c_X2_runWith l D cI cS Z K o hL r_17 y_3 y_2 σ _ hr_18) ⟨(Nat.le_of_ble_eq_true rfl), (Nat.le_of_ble_eq_true rfl)⟩ rfl (Nat.le_of_ble_eq_true rfl) ⟨(Nat.le_of_ble_eq_true rfl), (Nat.le_of_ble_eq_true rfl)⟩ dX2_longestFloat_35 (fun H locs hI hS => ?_)
        refine lv_istore (lv' := [(5, .int r_18), (8, .int r_17), (0, .ref (Z + o)), (1, .int a1), (2, .int a2), (3, .int a3), (4, .int y_1), (6, .int y_3), (7, .int y_4)]) hx hb dX2_longestFloat_38 hl (by decide) rfl (fun ls hl => ?_)
        refine lv_iload hx hb dX2_longestFloat_40 (lv_at hl 1 rfl) ?_
        refine lv_istore (lv' := [(6, .int r_17), (5, .int r_18), (8, .int r_17), (0, .ref (Z + o)), (1, .int a1), (2, .int a2), (3, .int a3), (4, .int y_1), (7, .int y_4)]) hx hb dX2_longestFloat_42 hl (by decide) rfl (fun ls hl => ?_)
        refine lv_iload hx hb dX2_longestFloat_44 (lv_at hl 7 rfl) ?_
        refine lv_iload hx hb dX2_longestFloat_46 (lv_at hl 1 rfl) ?_
        refine va_mmax hx hb (hml.trans hl.1.symm) hown (hts _ (mT12 _ (List.mem_of_getElem? (i := 12) rfl))) (hts _ (mT3 _ (List.mem_of_getElem? (i := 8) rfl))) (hts _ (mT3 _ (List.mem_of_getElem? (i := 9) rfl))) (hts _ (mT3 _ (List.mem_of_getElem? (i := 10) rfl))) (Nat.le_of_ble_eq_true rfl) (Nat.le_of_ble_eq_true rfl) (Nat.le_of_ble_eq_true rfl) (Nat.le_of_ble_eq_true rfl) dX2_longestFloat_48 ?_
        refine mm_name (x := imax y_1 r_18) rfl ?_
        obtain ⟨x_19, ex_19, hf⟩ := vl_e hf
        refine mm_name ex_19 ?_
        refine lv_istore (lv' := [(4, .int x_19), (6, .int r_17), (5, .int r_18), (8, .int r_17), (0, .ref (Z + o)), (1, .int a1), (2, .int a2), (3, .int a3), (7, .int y_4)]) hx hb dX2_longestFloat_51 hl (by decide) rfl (fun ls hl => ?_)
        obtain ⟨x_20, ex_20, hf⟩ := vl_e hf
        refine lv_iinc (v := x_20) (lv' := [(7, .int x_20), (4, .int x_19), (6, .int r_17), (5, .int r_18), (8, .int r_17), (0, .ref (Z + o)), (1, .int a1), (2, .int a2), (3, .int a3)]) hx hb dX2_longestFloat_53 hl (k := 8) rfl (by rw [ex_20]; rfl) (by decide) rfl (fun ls hl => ?_)
        refine lv_goto (tgt := 12) hx hb dX2_longestFloat_56 (by decide) ?_
        obtain rfl := so_e hf
        exact ih_8 x_19 r_18 r_17 x_20 hk_9 _ _ _ hI hS (lv_sub hl [5, 6, 7, 8, 1, 3, 2, 0] rfl)
  obtain ⟨z_5, hy, hf⟩ := bi_e hf
  refine L_7 FU 0 0 (-1) 0 _ hy ?_ _ _ _ hI hS (lv_sub hl [4, 5, 6, 7, 3, 2, 1, 0] rfl)
  clear L_7
  intro H locs ls hI hS hl
  refine lv_iload hx hb dX2_longestFloat_59 (lv_at hl 0 rfl) ?_
  obtain rfl := so_e hf
  exact mm_ret hx hb hr hlocks rfl hI hS dX2_longestFloat_61
def f_X6_yarnOfWholePick (o : Nat) (a1 : Int32) (σ : Nat → Nat → Int32) : Option Int32 := bi (f_X6_liftedShafts o a1 σ) fun r_1 => bi (f_X6_endsOn o r_1 σ) fun r_2 => bi (f_X6_allEnds o σ) fun r_3 => vl ((r_2 ^^^ (usr r_2 1)) &&& (usr r_3 1)) fun x_4 => bi (f_J6_bitCount x_4 σ) fun r_5 => some ((σ o 1) + r_5)
set_option maxHeartbeats 4000000 in
set_option maxRecDepth 100000 in
theorem c_X6_yarnOfWholePick (l : Launch) (D : va_G) (cI cS : ClassId) (Z : Nat) (K : Nat → Nat) (o : Nat) (hL : ly K o lyWarp) (a1 : Int32) (σ : Nat → Nat → Int32) (r : Int32) (hf : f_X6_yarnOfWholePick o a1 σ = some r) : Met l yX6_yarnOfWholePick (wsT yX6_yarnOfWholePick cX6_yarnOfWholePick 4 (some .int)) { frames := 2, cells := 0, slots := 0, locals := 45 } (Pm D cI cS Z K [.ref (Z + o), .int a1] σ) (Qi D cI cS Z K r σ) 0 0 (aZ Z) := by
  refine mm_met (lv := [(0, .ref (Z + o)), (1, .int a1)]) (by decide) (Nat.le_of_ble_eq_true rfl) rfl ?_
  intro p e s m args below meth c ls hx hb hr hml hts hown hlocks hG hl hI hS
  have hown : s.vm.findClass RX6 = some m.cls := hown
  rw [f_X6_yarnOfWholePick] at hf
  refine lv_aload_n hx hb dX6_yarnOfWholePick_0 rfl (lv_at hl 0 rfl) ?_
  refine lv_aload_n hx hb dX6_yarnOfWholePick_1 rfl (lv_at hl 0 rfl) ?_
  refine lv_iload_n hx hb dX6_yarnOfWholePick_2 rfl (lv_at hl 1 rfl) ?_
  obtain ⟨r_1, hr_1, hf⟩ := bi_e hf
  refine kX6_56 hx hb hml hts hown hG hI hS hl.1 hL (As := [.int a1]) (c_X6_liftedShafts l D cI cS Z K o hL a1 σ _ hr_1) ⟨(Nat.le_of_ble_eq_true rfl), (Nat.le_of_ble_eq_true rfl)⟩ rfl (Nat.le_of_ble_eq_true rfl) ⟨(Nat.le_of_ble_eq_true rfl), (Nat.le_of_ble_eq_true rfl)⟩ dX6_yarnOfWholePick_3 (fun H locs hI hS => ?_)
  obtain ⟨r_2, hr_2, hf⟩ := bi_e hf
  refine kX6_59 hx hb hml hts hown hG hI hS hl.1 hL (As := [.int r_1]) (c_X6_endsOn l D cI cS Z K o hL r_1 σ _ hr_2) ⟨(Nat.le_of_ble_eq_true rfl), (Nat.le_of_ble_eq_true rfl)⟩ rfl (Nat.le_of_ble_eq_true rfl) ⟨(Nat.le_of_ble_eq_true rfl), (Nat.le_of_ble_eq_true rfl)⟩ dX6_yarnOfWholePick_6 (fun H locs hI hS => ?_)
  refine lv_istore_n (lv' := [(2, .int r_2), (0, .ref (Z + o)), (1, .int a1)]) hx hb dX6_yarnOfWholePick_9 rfl hl (by decide) rfl (fun ls hl => ?_)
  refine lv_iload_n hx hb dX6_yarnOfWholePick_10 rfl (lv_at hl 0 rfl) ?_
  refine lv_iload_n hx hb dX6_yarnOfWholePick_11 rfl (lv_at hl 0 rfl) ?_
  refine lv_iconst (v := 1) hx hb dX6_yarnOfWholePick_12 (by decide) ?_
  refine lv_iushr (v := usr r_2 1) hx hb dX6_yarnOfWholePick_13 rfl ?_
  refine lv_ixor hx hb dX6_yarnOfWholePick_14 ?_
  refine lv_aload_n hx hb dX6_yarnOfWholePick_15 rfl (lv_at hl 1 rfl) ?_
  obtain ⟨r_3, hr_3, hf⟩ := bi_e hf
  refine kX6_62 hx hb hml hts hown hG hI hS hl.1 hL (As := []) (c_X6_allEnds l D cI cS Z K o hL σ _ hr_3) ⟨(Nat.le_of_ble_eq_true rfl), (Nat.le_of_ble_eq_true rfl)⟩ rfl (Nat.le_of_ble_eq_true rfl) ⟨(Nat.le_of_ble_eq_true rfl), (Nat.le_of_ble_eq_true rfl)⟩ dX6_yarnOfWholePick_16 (fun H locs hI hS => ?_)
  refine lv_iconst (v := 1) hx hb dX6_yarnOfWholePick_19 (by decide) ?_
  refine lv_iushr (v := usr r_3 1) hx hb dX6_yarnOfWholePick_20 rfl ?_
  refine lv_iand hx hb dX6_yarnOfWholePick_21 ?_
  obtain ⟨x_4, ex_4, hf⟩ := vl_e hf
  refine mm_name ex_4 ?_
  refine lv_istore_n (lv' := [(3, .int x_4), (2, .int r_2), (0, .ref (Z + o)), (1, .int a1)]) hx hb dX6_yarnOfWholePick_22 rfl hl (by decide) rfl (fun ls hl => ?_)
  refine lv_aload_n hx hb dX6_yarnOfWholePick_23 rfl (lv_at hl 2 rfl) ?_
  refine gX6_30 hx hb hts hown hG hI hL dX6_yarnOfWholePick_24 ?_
  refine lv_iload_n hx hb dX6_yarnOfWholePick_27 rfl (lv_at hl 0 rfl) ?_
  obtain ⟨r_5, hr_5, hf⟩ := bi_e hf
  refine kX6_66 hx hb hml hts hown hG hI hS hl.1 (As := [.int x_4]) (c_J6_bitCount l D cI cS Z K x_4 σ _ hr_5) ⟨(Nat.le_of_ble_eq_true rfl), (Nat.le_of_ble_eq_true rfl)⟩ rfl (Nat.le_of_ble_eq_true rfl) ⟨(Nat.le_of_ble_eq_true rfl), (Nat.le_of_ble_eq_true rfl)⟩ dX6_yarnOfWholePick_28 (fun H locs hI hS => ?_)
  refine lv_iadd hx hb dX6_yarnOfWholePick_31 ?_
  obtain rfl := so_e hf
  exact mm_ret hx hb hr hlocks rfl hI hS dX6_yarnOfWholePick_32
def f_X2_hasRow (o : Nat) (a1 : Int32) (σ : Nat → Nat → Int32) : Option Int32 := bi (f_X7_isBetween a1 0 ((σ o 0) - 1) σ) fun r_1 => some r_1
set_option maxHeartbeats 4000000 in
set_option maxRecDepth 100000 in
theorem c_X2_hasRow (l : Launch) (D : va_G) (cI cS : ClassId) (Z : Nat) (K : Nat → Nat) (o : Nat) (hL : ly K o lyCloth) (a1 : Int32) (σ : Nat → Nat → Int32) (r : Int32) (hf : f_X2_hasRow o a1 σ = some r) : Met l yX2_hasRow (wsT yX2_hasRow cX2_hasRow 2 (some .boolean)) { frames := 1, cells := 0, slots := 0, locals := 22 } (Pm D cI cS Z K [.ref (Z + o), .int a1] σ) (Qz D cI cS Z K r σ) 0 0 (aZ Z) := by
  refine mm_met (lv := [(0, .ref (Z + o)), (1, .int a1)]) (by decide) (Nat.le_of_ble_eq_true rfl) rfl ?_
  intro p e s m args below meth c ls hx hb hr hml hts hown hlocks hG hl hI hS
  have hown : s.vm.findClass RX2 = some m.cls := hown
  rw [f_X2_hasRow] at hf
  refine lv_iload_n hx hb dX2_hasRow_0 rfl (lv_at hl 1 rfl) ?_
  refine lv_iconst (v := 0) hx hb dX2_hasRow_1 (by decide) ?_
  refine lv_aload_n hx hb dX2_hasRow_2 rfl (lv_at hl 0 rfl) ?_
  refine gX2_35 hx hb hts hown hG hI hL dX2_hasRow_3 ?_
  refine lv_iconst (v := 1) hx hb dX2_hasRow_6 (by decide) ?_
  refine lv_isub hx hb dX2_hasRow_7 ?_
  obtain ⟨r_1, hr_1, hf⟩ := bi_e hf
  refine kX2_43 hx hb hml hts hown hG hI hS hl.1 (As := [.int a1, .int 0, .int ((σ o 0) - 1)]) (c_X7_isBetween l D cI cS Z K a1 0 ((σ o 0) - 1) σ _ hr_1) ⟨(Nat.le_of_ble_eq_true rfl), (Nat.le_of_ble_eq_true rfl)⟩ rfl (Nat.le_of_ble_eq_true rfl) ⟨(Nat.le_of_ble_eq_true rfl), (Nat.le_of_ble_eq_true rfl)⟩ dX2_hasRow_8 (fun hzr_1 H locs hI hS => ?_)
  obtain rfl := so_e hf
  exact mm_zret hx hb hr hlocks hzr_1 hI hS dX2_hasRow_11
def f_X2_areAlike (o : Nat) (a1 : Int32) (a2 : Int32) (σ : Nat → Nat → Int32) : Option Int32 := bi (f_X4_at (o + 1) 64 a1 σ) fun r_1 => bi (f_X4_at (o + 1) 64 a2 σ) fun r_2 => if r_1 = r_2 then (bi (f_X4_at (o + 7) 64 a1 σ) fun r_3 => bi (f_X4_at (o + 7) 64 a2 σ) fun r_4 => if r_3 = r_4 then (bi (f_X4_at (o + 9) 64 a1 σ) fun r_5 => bi (f_X4_at (o + 9) 64 a2 σ) fun r_6 => if r_5 = r_6 then (some 1) else (some 0)) else (some 0)) else (some 0)
set_option maxHeartbeats 4000000 in
set_option maxRecDepth 100000 in
theorem c_X2_areAlike (l : Launch) (D : va_G) (cI cS : ClassId) (Z : Nat) (K : Nat → Nat) (o : Nat) (hL : ly K o lyCloth) (a1 : Int32) (a2 : Int32) (σ : Nat → Nat → Int32) (r : Int32) (hf : f_X2_areAlike o a1 a2 σ = some r) : Met l yX2_areAlike (wsT yX2_areAlike cX2_areAlike 3 (some .boolean)) { frames := 1, cells := 0, slots := 0, locals := 21 } (Pm D cI cS Z K [.ref (Z + o), .int a1, .int a2] σ) (Qz D cI cS Z K r σ) 0 0 (aZ Z) := by
  refine mm_met (lv := [(0, .ref (Z + o)), (1, .int a1), (2, .int a2)]) (by decide) (Nat.le_of_ble_eq_true rfl) rfl ?_
  intro p e s m args below meth c ls hx hb hr hml hts hown hlocks hG hl hI hS
  have hown : s.vm.findClass RX2 = some m.cls := hown
  rw [f_X2_areAlike] at hf
  refine lv_aload_n hx hb dX2_areAlike_0 rfl (lv_at hl 0 rfl) ?_
  refine gX2_14 (o' := (o + 1)) hx hb hts hown hG hI hL rfl dX2_areAlike_1 ?_
  refine lv_iload_n hx hb dX2_areAlike_4 rfl (lv_at hl 1 rfl) ?_
  obtain ⟨r_1, hr_1, hf⟩ := bi_e hf
  refine kX2_47 hx hb hml hts hown hG hI hS hl.1 (ly_sub_2_colorOf hL) (As := [.int a1]) (c_X4_at l D cI cS Z K (o + 1) 64 (ly_sub_2_colorOf hL) a1 σ _ hr_1) ⟨(Nat.le_of_ble_eq_true rfl), (Nat.le_of_ble_eq_true rfl)⟩ rfl (Nat.le_of_ble_eq_true rfl) ⟨(Nat.le_of_ble_eq_true rfl), (Nat.le_of_ble_eq_true rfl)⟩ dX2_areAlike_5 (fun H locs hI hS => ?_)
  refine lv_aload_n hx hb dX2_areAlike_8 rfl (lv_at hl 0 rfl) ?_
  refine gX2_14 (o' := (o + 1)) hx hb hts hown hG hI hL rfl dX2_areAlike_9 ?_
  refine lv_iload_n hx hb dX2_areAlike_12 rfl (lv_at hl 2 rfl) ?_
  obtain ⟨r_2, hr_2, hf⟩ := bi_e hf
  refine kX2_47 hx hb hml hts hown hG hI hS hl.1 (ly_sub_2_colorOf hL) (As := [.int a2]) (c_X4_at l D cI cS Z K (o + 1) 64 (ly_sub_2_colorOf hL) a2 σ _ hr_2) ⟨(Nat.le_of_ble_eq_true rfl), (Nat.le_of_ble_eq_true rfl)⟩ rfl (Nat.le_of_ble_eq_true rfl) ⟨(Nat.le_of_ble_eq_true rfl), (Nat.le_of_ble_eq_true rfl)⟩ dX2_areAlike_13 (fun H locs hI hS => ?_)
  refine lv_icmp_ne (tgt := 61) hx hb dX2_areAlike_16 (by decide) (fun c_9 => ?_) (fun c_9 => ?_)
  · have hf := neg_e c_9 hf
    refine lv_iconst (v := 0) hx hb dX2_areAlike_61 (by decide) ?_
    obtain rfl := so_e hf
    exact mm_zret hx hb hr hlocks (Or.inl rfl) hI hS dX2_areAlike_62
  · have hf := pos_e c_9 hf
    refine lv_aload_n hx hb dX2_areAlike_19 rfl (lv_at hl 0 rfl) ?_
    refine gX2_26 (o' := (o + 7)) hx hb hts hown hG hI hL rfl dX2_areAlike_20 ?_
    refine lv_iload_n hx hb dX2_areAlike_23 rfl (lv_at hl 1 rfl) ?_
    obtain ⟨r_3, hr_3, hf⟩ := bi_e hf
    refine kX2_47 hx hb hml hts hown hG hI hS hl.1 (ly_sub_2_aboveOf hL) (As := [.int a1]) (c_X4_at l D cI cS Z K (o + 7) 64 (ly_sub_2_aboveOf hL) a1 σ _ hr_3) ⟨(Nat.le_of_ble_eq_true rfl), (Nat.le_of_ble_eq_true rfl)⟩ rfl (Nat.le_of_ble_eq_true rfl) ⟨(Nat.le_of_ble_eq_true rfl), (Nat.le_of_ble_eq_true rfl)⟩ dX2_areAlike_24 (fun H locs hI hS => ?_)
    refine lv_aload_n hx hb dX2_areAlike_27 rfl (lv_at hl 0 rfl) ?_
    refine gX2_26 (o' := (o + 7)) hx hb hts hown hG hI hL rfl dX2_areAlike_28 ?_
    refine lv_iload_n hx hb dX2_areAlike_31 rfl (lv_at hl 2 rfl) ?_
    obtain ⟨r_4, hr_4, hf⟩ := bi_e hf
    refine kX2_47 hx hb hml hts hown hG hI hS hl.1 (ly_sub_2_aboveOf hL) (As := [.int a2]) (c_X4_at l D cI cS Z K (o + 7) 64 (ly_sub_2_aboveOf hL) a2 σ _ hr_4) ⟨(Nat.le_of_ble_eq_true rfl), (Nat.le_of_ble_eq_true rfl)⟩ rfl (Nat.le_of_ble_eq_true rfl) ⟨(Nat.le_of_ble_eq_true rfl), (Nat.le_of_ble_eq_true rfl)⟩ dX2_areAlike_32 (fun H locs hI hS => ?_)
    refine lv_icmp_ne (tgt := 61) hx hb dX2_areAlike_35 (by decide) (fun c_8 => ?_) (fun c_8 => ?_)
    · have hf := neg_e c_8 hf
      refine lv_iconst (v := 0) hx hb dX2_areAlike_61 (by decide) ?_
      obtain rfl := so_e hf
      exact mm_zret hx hb hr hlocks (Or.inl rfl) hI hS dX2_areAlike_62
    · have hf := pos_e c_8 hf
      refine lv_aload_n hx hb dX2_areAlike_38 rfl (lv_at hl 0 rfl) ?_
      refine gX2_29 (o' := (o + 9)) hx hb hts hown hG hI hL rfl dX2_areAlike_39 ?_
      refine lv_iload_n hx hb dX2_areAlike_42 rfl (lv_at hl 1 rfl) ?_
      obtain ⟨r_5, hr_5, hf⟩ := bi_e hf
      refine kX2_47 hx hb hml hts hown hG hI hS hl.1 (ly_sub_2_missingOf hL) (As := [.int a1]) (c_X4_at l D cI cS Z K (o + 9) 64 (ly_sub_2_missingOf hL) a1 σ _ hr_5) ⟨(Nat.le_of_ble_eq_true rfl), (Nat.le_of_ble_eq_true rfl)⟩ rfl (Nat.le_of_ble_eq_true rfl) ⟨(Nat.le_of_ble_eq_true rfl), (Nat.le_of_ble_eq_true rfl)⟩ dX2_areAlike_43 (fun H locs hI hS => ?_)
      refine lv_aload_n hx hb dX2_areAlike_46 rfl (lv_at hl 0 rfl) ?_
      refine gX2_29 (o' := (o + 9)) hx hb hts hown hG hI hL rfl dX2_areAlike_47 ?_
      refine lv_iload_n hx hb dX2_areAlike_50 rfl (lv_at hl 2 rfl) ?_
      obtain ⟨r_6, hr_6, hf⟩ := bi_e hf
      refine kX2_47 hx hb hml hts hown hG hI hS hl.1 (ly_sub_2_missingOf hL) (As := [.int a2]) (c_X4_at l D cI cS Z K (o + 9) 64 (ly_sub_2_missingOf hL) a2 σ _ hr_6) ⟨(Nat.le_of_ble_eq_true rfl), (Nat.le_of_ble_eq_true rfl)⟩ rfl (Nat.le_of_ble_eq_true rfl) ⟨(Nat.le_of_ble_eq_true rfl), (Nat.le_of_ble_eq_true rfl)⟩ dX2_areAlike_51 (fun H locs hI hS => ?_)
      refine lv_icmp_ne (tgt := 61) hx hb dX2_areAlike_54 (by decide) (fun c_7 => ?_) (fun c_7 => ?_)
      · have hf := neg_e c_7 hf
        refine lv_iconst (v := 0) hx hb dX2_areAlike_61 (by decide) ?_
        obtain rfl := so_e hf
        exact mm_zret hx hb hr hlocks (Or.inl rfl) hI hS dX2_areAlike_62
      · have hf := pos_e c_7 hf
        refine lv_iconst (v := 1) hx hb dX2_areAlike_57 (by decide) ?_
        refine lv_goto (tgt := 62) hx hb dX2_areAlike_58 (by decide) ?_
        obtain rfl := so_e hf
        exact mm_zret hx hb hr hlocks (Or.inr rfl) hI hS dX2_areAlike_62
def b_X2_repeatsAfter_2 (o : Nat) (a1 : Int32) (σ : Nat → Nat → Int32) : Int32 → Option ((Int32) ⊕ ((Int32) ⊕ (Unit)))
  | y_1 => if (σ o 0) ≤ y_1 then (some (.inr (.inr ()))) else (bi (f_X2_areAlike o y_1 (y_1 - a1) σ) fun r_12 => if r_12 = 0 then (some (.inr (.inl 0))) else (vl (y_1 + 1) fun x_13 => some (.inl x_13)))
def f_X2_repeatsAfter (o : Nat) (a1 : Int32) (σ : Nat → Nat → Int32) : Option Int32 := bi (lp (b_X2_repeatsAfter_2 o a1 σ) FU a1) fun yy_16 => sm yy_16 (fun rv => some rv) fun _ => some 1
set_option maxHeartbeats 4000000 in
set_option maxRecDepth 100000 in
theorem c_X2_repeatsAfter (l : Launch) (D : va_G) (cI cS : ClassId) (Z : Nat) (K : Nat → Nat) (o : Nat) (hL : ly K o lyCloth) (a1 : Int32) (σ : Nat → Nat → Int32) (r : Int32) (hf : f_X2_repeatsAfter o a1 σ = some r) : Met l yX2_repeatsAfter (wsT yX2_repeatsAfter cX2_repeatsAfter 3 (some .boolean)) { frames := 2, cells := 0, slots := 0, locals := 43 } (Pm D cI cS Z K [.ref (Z + o), .int a1] σ) (Qz D cI cS Z K r σ) 0 0 (aZ Z) := by
  refine mm_met (lv := [(0, .ref (Z + o)), (1, .int a1)]) (by decide) (Nat.le_of_ble_eq_true rfl) rfl ?_
  intro p e s m args below meth c ls hx hb hr hml hts hown hlocks hG hl hI hS
  have hown : s.vm.findClass RX2 = some m.cls := hown
  rw [f_X2_repeatsAfter] at hf
  refine lv_iload_n hx hb dX2_repeatsAfter_0 rfl (lv_at hl 1 rfl) ?_
  refine lv_istore_n (lv' := [(2, .int a1), (0, .ref (Z + o)), (1, .int a1)]) hx hb dX2_repeatsAfter_1 rfl hl (by decide) rfl (fun ls hl => ?_)
  have L_3 : ∀ (nn : Nat) (y_1 : Int32) (yy_16 : ((Int32) ⊕ (Unit))), lp (b_X2_repeatsAfter_2 o a1 σ) nn y_1 = some yy_16 → (∀ rv, yy_16 = .inl rv → some rv = some r) → (yy_16 = .inr () → ∀ (H : Heap) (locs : List Loc) (ls : Array Slot), fI D cI cS Z K σ H → va_S (aZ Z) s.heap H locs → lv_has ls 3 [] → W p l e { frames := 2, cells := 0, slots := 0, locals := 43 } s m args below meth c H locs 0 0 (MQ below (Qz D cI cS Z K r σ) args s 0 0 (aZ Z)) (F0 m 29 ls [])) → ∀ (H : Heap) (locs : List Loc) (ls : Array Slot), fI D cI cS Z K σ H → va_S (aZ Z) s.heap H locs → lv_has ls 3 [(0, .ref (Z + o)), (1, .int a1), (2, .int y_1)] → W p l e { frames := 2, cells := 0, slots := 0, locals := 43 } s m args below meth c H locs 0 0 (MQ below (Qz D cI cS Z K r σ) args s 0 0 (aZ Z)) (F0 m 2 ls []) := by
    intro nn
    induction nn with
    | zero =>
      intro y_1 yy_16 hq
      exact (lp_0 hq).elim
    | succ nn ih_4 =>
      intro y_1 yy_16 hq hret_7 kn_6 H locs ls hI hS hl
      obtain ⟨wb_2, hf, hk_5⟩ := lp_e hq
      rw [b_X2_repeatsAfter_2] at hf
      have ih_4 := fun (y_1 : Int32) q => ih_4 y_1 yy_16 q hret_7 kn_6
      refine lv_iload_n hx hb dX2_repeatsAfter_2 rfl (lv_at hl 2 rfl) ?_
      refine lv_aload_n hx hb dX2_repeatsAfter_3 rfl (lv_at hl 0 rfl) ?_
      refine gX2_35 hx hb hts hown hG hI hL dX2_repeatsAfter_4 ?_
      refine lv_icmp_ge (tgt := 29) hx hb dX2_repeatsAfter_7 (by decide) (fun c_15 => ?_) (fun c_15 => ?_)
      · have hf := pos_e c_15 hf
        obtain rfl := so_e hf
        obtain rfl := lk_r hk_5
        exact kn_6 rfl _ _ _ hI hS (lv_sub hl [] rfl)
      · have hf := neg_e c_15 hf
        refine lv_aload_n hx hb dX2_repeatsAfter_10 rfl (lv_at hl 0 rfl) ?_
        refine lv_iload_n hx hb dX2_repeatsAfter_11 rfl (lv_at hl 2 rfl) ?_
        refine lv_iload_n hx hb dX2_repeatsAfter_12 rfl (lv_at hl 2 rfl) ?_
        refine lv_iload_n hx hb dX2_repeatsAfter_13 rfl (lv_at hl 1 rfl) ?_
        refine lv_isub hx hb dX2_repeatsAfter_14 ?_
        obtain ⟨r_12, hr_12, hf⟩ := bi_e hf
        refine kX2_78 hx hb hml hts hown hG hI hS hl.1 hL (As := [.int y_1, .int (y_1 - a1)]) (c_X2_areAlike l D cI cS Z K o hL y_1 (y_1 - a1) σ _ hr_12) ⟨(Nat.le_of_ble_eq_true rfl), (Nat.le_of_ble_eq_true rfl)⟩ rfl (Nat.le_of_ble_eq_true rfl) ⟨(Nat.le_of_ble_eq_true rfl), (Nat.le_of_ble_eq_true rfl)⟩ dX2_repeatsAfter_15 (fun hzr_12 H locs hI hS => ?_)
        refine lv_if_ne (tgt := 23) hx hb dX2_repeatsAfter_18 (by decide) (fun c_14 => ?_) (fun c_14 => ?_)
        · have hf := neg_e c_14 hf
          obtain ⟨x_13, ex_13, hf⟩ := vl_e hf
          refine lv_iinc (v := x_13) (lv' := [(2, .int x_13), (0, .ref (Z + o)), (1, .int a1)]) hx hb dX2_repeatsAfter_23 hl (k := 2) rfl (by rw [ex_13]; rfl) (by decide) rfl (fun ls hl => ?_)
          refine lv_goto (tgt := 2) hx hb dX2_repeatsAfter_26 (by decide) ?_
          obtain rfl := so_e hf
          exact ih_4 x_13 hk_5 _ _ _ hI hS (lv_sub hl [1, 2, 0] rfl)
        · have hf := pos_e c_14 hf
          refine lv_iconst (v := 0) hx hb dX2_repeatsAfter_21 (by decide) ?_
          obtain rfl := so_e hf
          obtain rfl := lk_r hk_5
          have hf := hret_7 _ rfl
          obtain rfl := so_e hf
          exact mm_zret hx hb hr hlocks (Or.inl rfl) hI hS dX2_repeatsAfter_22
  obtain ⟨yy_16, hy, hf⟩ := bi_e hf
  refine L_3 FU a1 _ hy (fun rv hv => ?_) (fun hv => ?_) _ _ _ hI hS (lv_sub hl [1, 2, 0] rfl)
  · subst hv
    exact hf
  subst hv
  clear L_3
  intro H locs ls hI hS hl
  have hf := sm_e hf
  refine lv_iconst (v := 1) hx hb dX2_repeatsAfter_29 (by decide) ?_
  obtain rfl := so_e hf
  exact mm_zret hx hb hr hlocks (Or.inr rfl) hI hS dX2_repeatsAfter_30
def b_X2_floatsIn_12 (o : Nat) (a1 : Int32) (a2 : Int32) (a3 : Int32) (a4 : Int32) (σ : Nat → Nat → Int32) : Int32 × Int32 × Int32 × Int32 → Option ((Int32 × Int32 × Int32 × Int32) ⊕ (Int32))
  | (y_1, y_2, y_3, y_4) => if a3 ≤ y_4 then (some (.inr y_1)) else (bi (f_X2_sideAlong o a1 a2 y_4 σ) fun r_19 => bi (f_X2_runWith o r_19 y_3 y_2 σ) fun r_20 => if r_20 = a4 then (vl (y_1 + 1) fun x_22 => vl (y_4 + 1) fun x_23 => some (.inl (x_22, r_20, r_19, x_23))) else (vl (y_4 + 1) fun x_21 => some (.inl (y_1, r_20, r_19, x_21))))
def f_X2_floatsIn (o : Nat) (a1 : Int32) (a2 : Int32) (a3 : Int32) (a4 : Int32) (σ : Nat → Nat → Int32) : Option Int32 := bi (lp (b_X2_floatsIn_12 o a1 a2 a3 a4 σ) FU (0, 0, (-1), 0)) fun z_5 => some z_5
set_option maxHeartbeats 4000000 in
set_option maxRecDepth 100000 in
theorem c_X2_floatsIn (l : Launch) (D : va_G) (cI cS : ClassId) (Z : Nat) (K : Nat → Nat) (o : Nat) (hL : ly K o lyCloth) (a1 : Int32) (a2 : Int32) (a3 : Int32) (a4 : Int32) (σ : Nat → Nat → Int32) (r : Int32) (hf : f_X2_floatsIn o a1 a2 a3 a4 σ = some r) : Met l yX2_floatsIn (wsT yX2_floatsIn cX2_floatsIn 10 (some .int)) { frames := 3, cells := 0, slots := 0, locals := 66 } (Pm D cI cS Z K [.ref (Z + o), .int a1, .int a2, .int a3, .int a4] σ) (Qi D cI cS Z K r σ) 0 0 (aZ Z) := by
  refine mm_met (lv := [(0, .ref (Z + o)), (1, .int a1), (2, .int a2), (3, .int a3), (4, .int a4)]) (by decide) (Nat.le_of_ble_eq_true rfl) rfl ?_
  intro p e s m args below meth c ls hx hb hr hml hts hown hlocks hG hl hI hS
  have hown : s.vm.findClass RX2 = some m.cls := hown
  rw [f_X2_floatsIn] at hf
  refine lv_iconst (v := 0) hx hb dX2_floatsIn_0 (by decide) ?_
  refine lv_istore (lv' := [(5, .int 0), (0, .ref (Z + o)), (1, .int a1), (2, .int a2), (3, .int a3), (4, .int a4)]) hx hb dX2_floatsIn_1 hl (by decide) rfl (fun ls hl => ?_)
  refine lv_iconst (v := 0) hx hb dX2_floatsIn_3 (by decide) ?_
  refine lv_istore (lv' := [(6, .int 0), (5, .int 0), (0, .ref (Z + o)), (1, .int a1), (2, .int a2), (3, .int a3), (4, .int a4)]) hx hb dX2_floatsIn_4 hl (by decide) rfl (fun ls hl => ?_)
  refine lv_iconst (v := (-1)) hx hb dX2_floatsIn_6 (by decide) ?_
  refine lv_istore (lv' := [(7, .int (-1)), (6, .int 0), (5, .int 0), (0, .ref (Z + o)), (1, .int a1), (2, .int a2), (3, .int a3), (4, .int a4)]) hx hb dX2_floatsIn_7 hl (by decide) rfl (fun ls hl => ?_)
  refine lv_iconst (v := 0) hx hb dX2_floatsIn_9 (by decide) ?_
  refine lv_istore (lv' := [(8, .int 0), (7, .int (-1)), (6, .int 0), (5, .int 0), (0, .ref (Z + o)), (1, .int a1), (2, .int a2), (3, .int a3), (4, .int a4)]) hx hb dX2_floatsIn_10 hl (by decide) rfl (fun ls hl => ?_)
  have L_7 : ∀ (nn : Nat) (y_1 : Int32) (y_2 : Int32) (y_3 : Int32) (y_4 : Int32) (z_5 : Int32), lp (b_X2_floatsIn_12 o a1 a2 a3 a4 σ) nn (y_1, y_2, y_3, y_4) = some z_5 → (∀ (H : Heap) (locs : List Loc) (ls : Array Slot), fI D cI cS Z K σ H → va_S (aZ Z) s.heap H locs → lv_has ls 10 [(5, .int z_5)] → W p l e { frames := 3, cells := 0, slots := 0, locals := 66 } s m args below meth c H locs 0 0 (MQ below (Qi D cI cS Z K r σ) args s 0 0 (aZ Z)) (F0 m 60 ls [])) → ∀ (H : Heap) (locs : List Loc) (ls : Array Slot), fI D cI cS Z K σ H → va_S (aZ Z) s.heap H locs → lv_has ls 10 [(0, .ref (Z + o)), (1, .int a1), (2, .int a2), (3, .int a3), (4, .int a4), (5, .int y_1), (6, .int y_2), (7, .int y_3), (8, .int y_4)] → W p l e { frames := 3, cells := 0, slots := 0, locals := 66 } s m args below meth c H locs 0 0 (MQ below (Qi D cI cS Z K r σ) args s 0 0 (aZ Z)) (F0 m 12 ls []) := by
    intro nn
    induction nn with
    | zero =>
      intro y_1 y_2 y_3 y_4 z_5 hq
      exact (lp_0 hq).elim
    | succ nn ih_8 =>
      intro y_1 y_2 y_3 y_4 z_5 hq kn_10 H locs ls hI hS hl
      obtain ⟨wb_6, hf, hk_9⟩ := lp_e hq
      rw [b_X2_floatsIn_12] at hf
      have ih_8 := fun (y_1 : Int32) (y_2 : Int32) (y_3 : Int32) (y_4 : Int32) q => ih_8 y_1 y_2 y_3 y_4 z_5 q kn_10
      refine lv_iload hx hb dX2_floatsIn_12 (lv_at hl 8 rfl) ?_
      refine lv_iload_n hx hb dX2_floatsIn_14 rfl (lv_at hl 3 rfl) ?_
      refine lv_icmp_ge (tgt := 60) hx hb dX2_floatsIn_15 (by decide) (fun c_25 => ?_) (fun c_25 => ?_)
      · have hf := pos_e c_25 hf
        obtain rfl := so_e hf
        obtain rfl := lk_r hk_9
        exact kn_10 _ _ _ hI hS (lv_sub hl [5] rfl)
      · have hf := neg_e c_25 hf
        refine lv_aload_n hx hb dX2_floatsIn_18 rfl (lv_at hl 0 rfl) ?_
        refine lv_iload_n hx hb dX2_floatsIn_19 rfl (lv_at hl 1 rfl) ?_
        refine lv_iload_n hx hb dX2_floatsIn_20 rfl (lv_at hl 2 rfl) ?_
        refine lv_iload hx hb dX2_floatsIn_21 (lv_at hl 8 rfl) ?_
        obtain ⟨r_19, hr_19, hf⟩ := bi_e hf
        refine kX2_66 hx hb hml hts hown hG hI hS hl.1 hL (As := [.int a1, .int a2, .int y_4]) (c_X2_sideAlong l D cI cS Z K o hL a1 a2 y_4 σ _ hr_19) ⟨(Nat.le_of_ble_eq_true rfl), (Nat.le_of_ble_eq_true rfl)⟩ rfl (Nat.le_of_ble_eq_true rfl) ⟨(Nat.le_of_ble_eq_true rfl), (Nat.le_of_ble_eq_true rfl)⟩ dX2_floatsIn_23 (fun H locs hI hS => ?_)
        refine lv_istore (lv' := [(9, .int r_19), (0, .ref (Z + o)), (1, .int a1), (2, .int a2), (3, .int a3), (4, .int a4), (5, .int y_1), (6, .int y_2), (7, .int y_3), (8, .int y_4)]) hx hb dX2_floatsIn_26 hl (by decide) rfl (fun ls hl => ?_)
        refine lv_aload_n hx hb dX2_floatsIn_28 rfl (lv_at hl 1 rfl) ?_
        refine lv_iload hx hb dX2_floatsIn_29 (lv_at hl 0 rfl) ?_
        refine lv_iload hx hb dX2_floatsIn_31 (lv_at hl 8 rfl) ?_
        refine lv_iload hx hb dX2_floatsIn_33 (lv_at hl 7 rfl) ?_
        obtain ⟨r_20, hr_20, hf⟩ := bi_e hf
        refine kX2_70 hx hb hml hts hown hG hI hS hl.1 hL (As := [.int r_19, .int y_3, .int y_2]) (c_X2_runWith l D cI cS Z K o hL r_19 y_3 y_2 σ _ hr_20) ⟨(Nat.le_of_ble_eq_true rfl), (Nat.le_of_ble_eq_true rfl)⟩ rfl (Nat.le_of_ble_eq_true rfl) ⟨(Nat.le_of_ble_eq_true rfl), (Nat.le_of_ble_eq_true rfl)⟩ dX2_floatsIn_35 (fun H locs hI hS => ?_)
        refine lv_istore (lv' := [(6, .int r_20), (9, .int r_19), (0, .ref (Z + o)), (1, .int a1), (2, .int a2), (3, .int a3), (4, .int a4), (5, .int y_1), (7, .int y_3), (8, .int y_4)]) hx hb dX2_floatsIn_38 hl (by decide) rfl (fun ls hl => ?_)
        refine lv_iload hx hb dX2_floatsIn_40 (lv_at hl 1 rfl) ?_
        refine lv_istore (lv' := [(7, .int r_19), (6, .int r_20), (9, .int r_19), (0, .ref (Z + o)), (1, .int a1), (2, .int a2), (3, .int a3), (4, .int a4), (5, .int y_1), (8, .int y_4)]) hx hb dX2_floatsIn_42 hl (by decide) rfl (fun ls hl => ?_)
        refine lv_iload hx hb dX2_floatsIn_44 (lv_at hl 1 rfl) ?_
        refine lv_iload hx hb dX2_floatsIn_46 (lv_at hl 7 rfl) ?_
        refine lv_icmp_ne (tgt := 54) hx hb dX2_floatsIn_48 (by decide) (fun c_24 => ?_) (fun c_24 => ?_)
        · have hf := neg_e c_24 hf
          obtain ⟨x_21, ex_21, hf⟩ := vl_e hf
          refine lv_iinc (v := x_21) (lv' := [(8, .int x_21), (7, .int r_19), (6, .int r_20), (9, .int r_19), (0, .ref (Z + o)), (1, .int a1), (2, .int a2), (3, .int a3), (4, .int a4), (5, .int y_1)]) hx hb dX2_floatsIn_54 hl (k := 9) rfl (by rw [ex_21]; rfl) (by decide) rfl (fun ls hl => ?_)
          refine lv_goto (tgt := 12) hx hb dX2_floatsIn_57 (by decide) ?_
          obtain rfl := so_e hf
          exact ih_8 y_1 r_20 r_19 x_21 hk_9 _ _ _ hI hS (lv_sub hl [4, 5, 6, 7, 8, 9, 2, 1, 0] rfl)
        · have hf := pos_e c_24 hf
          obtain ⟨x_22, ex_22, hf⟩ := vl_e hf
          refine lv_iinc (v := x_22) (lv' := [(5, .int x_22), (7, .int r_19), (6, .int r_20), (9, .int r_19), (0, .ref (Z + o)), (1, .int a1), (2, .int a2), (3, .int a3), (4, .int a4), (8, .int y_4)]) hx hb dX2_floatsIn_51 hl (k := 8) rfl (by rw [ex_22]; rfl) (by decide) rfl (fun ls hl => ?_)
          obtain ⟨x_23, ex_23, hf⟩ := vl_e hf
          refine lv_iinc (v := x_23) (lv' := [(8, .int x_23), (5, .int x_22), (7, .int r_19), (6, .int r_20), (9, .int r_19), (0, .ref (Z + o)), (1, .int a1), (2, .int a2), (3, .int a3), (4, .int a4)]) hx hb dX2_floatsIn_54 hl (k := 9) rfl (by rw [ex_23]; rfl) (by decide) rfl (fun ls hl => ?_)
          refine lv_goto (tgt := 12) hx hb dX2_floatsIn_57 (by decide) ?_
          obtain rfl := so_e hf
          exact ih_8 x_22 r_20 r_19 x_23 hk_9 _ _ _ hI hS (lv_sub hl [5, 6, 7, 8, 9, 1, 3, 2, 0] rfl)
  obtain ⟨z_5, hy, hf⟩ := bi_e hf
  refine L_7 FU 0 0 (-1) 0 _ hy ?_ _ _ _ hI hS (lv_sub hl [4, 5, 6, 7, 8, 3, 2, 1, 0] rfl)
  clear L_7
  intro H locs ls hI hS hl
  refine lv_iload hx hb dX2_floatsIn_60 (lv_at hl 0 rfl) ?_
  obtain rfl := so_e hf
  exact mm_ret hx hb hr hlocks rfl hI hS dX2_floatsIn_62
def b_X2_hasAlikeBefore_2 (o : Nat) (a1 : Int32) (σ : Nat → Nat → Int32) : Int32 → Option ((Int32) ⊕ ((Int32) ⊕ (Unit)))
  | y_1 => if a1 ≤ y_1 then (some (.inr (.inr ()))) else (bi (f_X2_areAlike o a1 y_1 σ) fun r_12 => if r_12 = 0 then (vl (y_1 + 1) fun x_13 => some (.inl x_13)) else (some (.inr (.inl 1))))
def f_X2_hasAlikeBefore (o : Nat) (a1 : Int32) (σ : Nat → Nat → Int32) : Option Int32 := bi (lp (b_X2_hasAlikeBefore_2 o a1 σ) FU 0) fun yy_16 => sm yy_16 (fun rv => some rv) fun _ => some 0
set_option maxHeartbeats 4000000 in
set_option maxRecDepth 100000 in
theorem c_X2_hasAlikeBefore (l : Launch) (D : va_G) (cI cS : ClassId) (Z : Nat) (K : Nat → Nat) (o : Nat) (hL : ly K o lyCloth) (a1 : Int32) (σ : Nat → Nat → Int32) (r : Int32) (hf : f_X2_hasAlikeBefore o a1 σ = some r) : Met l yX2_hasAlikeBefore (wsT yX2_hasAlikeBefore cX2_hasAlikeBefore 3 (some .boolean)) { frames := 2, cells := 0, slots := 0, locals := 43 } (Pm D cI cS Z K [.ref (Z + o), .int a1] σ) (Qz D cI cS Z K r σ) 0 0 (aZ Z) := by
  refine mm_met (lv := [(0, .ref (Z + o)), (1, .int a1)]) (by decide) (Nat.le_of_ble_eq_true rfl) rfl ?_
  intro p e s m args below meth c ls hx hb hr hml hts hown hlocks hG hl hI hS
  have hown : s.vm.findClass RX2 = some m.cls := hown
  rw [f_X2_hasAlikeBefore] at hf
  refine lv_iconst (v := 0) hx hb dX2_hasAlikeBefore_0 (by decide) ?_
  refine lv_istore_n (lv' := [(2, .int 0), (0, .ref (Z + o)), (1, .int a1)]) hx hb dX2_hasAlikeBefore_1 rfl hl (by decide) rfl (fun ls hl => ?_)
  have L_3 : ∀ (nn : Nat) (y_1 : Int32) (yy_16 : ((Int32) ⊕ (Unit))), lp (b_X2_hasAlikeBefore_2 o a1 σ) nn y_1 = some yy_16 → (∀ rv, yy_16 = .inl rv → some rv = some r) → (yy_16 = .inr () → ∀ (H : Heap) (locs : List Loc) (ls : Array Slot), fI D cI cS Z K σ H → va_S (aZ Z) s.heap H locs → lv_has ls 3 [] → W p l e { frames := 2, cells := 0, slots := 0, locals := 43 } s m args below meth c H locs 0 0 (MQ below (Qz D cI cS Z K r σ) args s 0 0 (aZ Z)) (F0 m 24 ls [])) → ∀ (H : Heap) (locs : List Loc) (ls : Array Slot), fI D cI cS Z K σ H → va_S (aZ Z) s.heap H locs → lv_has ls 3 [(0, .ref (Z + o)), (1, .int a1), (2, .int y_1)] → W p l e { frames := 2, cells := 0, slots := 0, locals := 43 } s m args below meth c H locs 0 0 (MQ below (Qz D cI cS Z K r σ) args s 0 0 (aZ Z)) (F0 m 2 ls []) := by
    intro nn
    induction nn with
    | zero =>
      intro y_1 yy_16 hq
      exact (lp_0 hq).elim
    | succ nn ih_4 =>
      intro y_1 yy_16 hq hret_7 kn_6 H locs ls hI hS hl
      obtain ⟨wb_2, hf, hk_5⟩ := lp_e hq
      rw [b_X2_hasAlikeBefore_2] at hf
      have ih_4 := fun (y_1 : Int32) q => ih_4 y_1 yy_16 q hret_7 kn_6
      refine lv_iload_n hx hb dX2_hasAlikeBefore_2 rfl (lv_at hl 2 rfl) ?_
      refine lv_iload_n hx hb dX2_hasAlikeBefore_3 rfl (lv_at hl 1 rfl) ?_
      refine lv_icmp_ge (tgt := 24) hx hb dX2_hasAlikeBefore_4 (by decide) (fun c_15 => ?_) (fun c_15 => ?_)
      · have hf := pos_e c_15 hf
        obtain rfl := so_e hf
        obtain rfl := lk_r hk_5
        exact kn_6 rfl _ _ _ hI hS (lv_sub hl [] rfl)
      · have hf := neg_e c_15 hf
        refine lv_aload_n hx hb dX2_hasAlikeBefore_7 rfl (lv_at hl 0 rfl) ?_
        refine lv_iload_n hx hb dX2_hasAlikeBefore_8 rfl (lv_at hl 1 rfl) ?_
        refine lv_iload_n hx hb dX2_hasAlikeBefore_9 rfl (lv_at hl 2 rfl) ?_
        obtain ⟨r_12, hr_12, hf⟩ := bi_e hf
        refine kX2_78 hx hb hml hts hown hG hI hS hl.1 hL (As := [.int a1, .int y_1]) (c_X2_areAlike l D cI cS Z K o hL a1 y_1 σ _ hr_12) ⟨(Nat.le_of_ble_eq_true rfl), (Nat.le_of_ble_eq_true rfl)⟩ rfl (Nat.le_of_ble_eq_true rfl) ⟨(Nat.le_of_ble_eq_true rfl), (Nat.le_of_ble_eq_true rfl)⟩ dX2_hasAlikeBefore_10 (fun hzr_12 H locs hI hS => ?_)
        refine lv_if_eq (tgt := 18) hx hb dX2_hasAlikeBefore_13 (by decide) (fun c_14 => ?_) (fun c_14 => ?_)
        · have hf := pos_e c_14 hf
          obtain ⟨x_13, ex_13, hf⟩ := vl_e hf
          refine lv_iinc (v := x_13) (lv' := [(2, .int x_13), (0, .ref (Z + o)), (1, .int a1)]) hx hb dX2_hasAlikeBefore_18 hl (k := 2) rfl (by rw [ex_13]; rfl) (by decide) rfl (fun ls hl => ?_)
          refine lv_goto (tgt := 2) hx hb dX2_hasAlikeBefore_21 (by decide) ?_
          obtain rfl := so_e hf
          exact ih_4 x_13 hk_5 _ _ _ hI hS (lv_sub hl [1, 2, 0] rfl)
        · have hf := neg_e c_14 hf
          refine lv_iconst (v := 1) hx hb dX2_hasAlikeBefore_16 (by decide) ?_
          obtain rfl := so_e hf
          obtain rfl := lk_r hk_5
          have hf := hret_7 _ rfl
          obtain rfl := so_e hf
          exact mm_zret hx hb hr hlocks (Or.inr rfl) hI hS dX2_hasAlikeBefore_17
  obtain ⟨yy_16, hy, hf⟩ := bi_e hf
  refine L_3 FU 0 _ hy (fun rv hv => ?_) (fun hv => ?_) _ _ _ hI hS (lv_sub hl [1, 2, 0] rfl)
  · subst hv
    exact hf
  subst hv
  clear L_3
  intro H locs ls hI hS hl
  have hf := sm_e hf
  refine lv_iconst (v := 0) hx hb dX2_hasAlikeBefore_24 (by decide) ?_
  obtain rfl := so_e hf
  exact mm_zret hx hb hr hlocks (Or.inl rfl) hI hS dX2_hasAlikeBefore_25
def b_X0_repeatFrom_31 (o : Nat) (x_1 : Int32) : Int32 × (Nat → Nat → Int32) → Option ((Int32 × (Nat → Nat → Int32)) ⊕ ((Nat → Nat → Int32)))
  | (y_35, σ_36) => if x_1 ≤ y_35 then (some (.inr σ_36)) else (bi (f_X4_at (o + 1) 24 y_35 σ_36) fun r_50 => bi (f_X4_at (o + 3) 24 y_35 σ_36) fun r_51 => bi (f_X0_addLast o r_50 r_51 σ_36) fun σ_53 => vl (y_35 + 1) fun x_54 => some (.inl (x_54, σ_53)))
def b_X0_repeatFrom_22 (o : Nat) (a1 : Int32) (a2 : Int32) (x_1 : Int32) : Int32 × (Nat → Nat → Int32) → Option ((Int32 × (Nat → Nat → Int32)) ⊕ ((Nat → Nat → Int32)))
  | (y_2, σ_3) => if a2 ≤ y_2 then (some (.inr σ_3)) else (bi (lp (b_X0_repeatFrom_31 o x_1) FU (a1, σ_3)) fun σ_37 => vl (y_2 + 1) fun x_57 => some (.inl (x_57, σ_37)))
def f_X0_repeatFrom (o : Nat) (a1 : Int32) (a2 : Int32) (σ : Nat → Nat → Int32) : Option (Int32 × (Nat → Nat → Int32)) := vl (σ o 0) fun x_1 => if (a1 + ((x_1 - a1) * a2)) ≤ 24 then (bi (lp (b_X0_repeatFrom_22 o a1 a2 x_1) FU (1, σ)) fun σ_4 => some (1, σ_4)) else (some (0, σ))
set_option maxHeartbeats 4000000 in
set_option maxRecDepth 100000 in
theorem c_X0_repeatFrom (l : Launch) (D : va_G) (cI cS : ClassId) (Z : Nat) (K : Nat → Nat) (o : Nat) (hL : ly K o lyChain) (a1 : Int32) (a2 : Int32) (σ : Nat → Nat → Int32) (r : Int32) (σ' : Nat → Nat → Int32) (hf : f_X0_repeatFrom o a1 a2 σ = some (r, σ')) : Met l yX0_repeatFrom (wsT yX0_repeatFrom cX0_repeatFrom 6 (some .boolean)) { frames := 2, cells := 0, slots := 0, locals := 44 } (Pm D cI cS Z K [.ref (Z + o), .int a1, .int a2] σ) (Qz D cI cS Z K r σ') 0 0 (aZ Z) := by
  refine mm_met (lv := [(0, .ref (Z + o)), (1, .int a1), (2, .int a2)]) (by decide) (Nat.le_of_ble_eq_true rfl) rfl ?_
  intro p e s m args below meth c ls hx hb hr hml hts hown hlocks hG hl hI hS
  have hown : s.vm.findClass RX0 = some m.cls := hown
  rw [f_X0_repeatFrom] at hf
  refine lv_aload_n hx hb dX0_repeatFrom_0 rfl (lv_at hl 0 rfl) ?_
  refine gX0_23 hx hb hts hown hG hI hL dX0_repeatFrom_1 ?_
  obtain ⟨x_1, ex_1, hf⟩ := vl_e hf
  refine mm_name ex_1 ?_
  refine lv_istore_n (lv' := [(3, .int x_1), (0, .ref (Z + o)), (1, .int a1), (2, .int a2)]) hx hb dX0_repeatFrom_4 rfl hl (by decide) rfl (fun ls hl => ?_)
  refine lv_iload_n hx hb dX0_repeatFrom_5 rfl (lv_at hl 2 rfl) ?_
  refine lv_iload_n hx hb dX0_repeatFrom_6 rfl (lv_at hl 0 rfl) ?_
  refine lv_iload_n hx hb dX0_repeatFrom_7 rfl (lv_at hl 2 rfl) ?_
  refine lv_isub hx hb dX0_repeatFrom_8 ?_
  refine lv_iload_n hx hb dX0_repeatFrom_9 rfl (lv_at hl 3 rfl) ?_
  refine lv_imul hx hb dX0_repeatFrom_10 ?_
  refine lv_iadd hx hb dX0_repeatFrom_11 ?_
  refine lv_bipush (v := 24) hx hb dX0_repeatFrom_12 (by decide) ?_
  refine lv_icmp_le (tgt := 19) hx hb dX0_repeatFrom_14 (by decide) (fun c_60 => ?_) (fun c_60 => ?_)
  · have hf := pos_e c_60 hf
    refine lv_iconst (v := 1) hx hb dX0_repeatFrom_19 (by decide) ?_
    refine lv_istore (lv' := [(4, .int 1), (3, .int x_1), (0, .ref (Z + o)), (1, .int a1), (2, .int a2)]) hx hb dX0_repeatFrom_20 hl (by decide) rfl (fun ls hl => ?_)
    have L_6 : ∀ (nn : Nat) (y_2 : Int32) (σ_3 : Nat → Nat → Int32) (σ_4 : Nat → Nat → Int32), lp (b_X0_repeatFrom_22 o a1 a2 x_1) nn (y_2, σ_3) = some σ_4 → (∀ (H : Heap) (locs : List Loc) (ls : Array Slot), fI D cI cS Z K σ_4 H → va_S (aZ Z) s.heap H locs → lv_has ls 6 [] → W p l e { frames := 2, cells := 0, slots := 0, locals := 44 } s m args below meth c H locs 0 0 (MQ below (Qz D cI cS Z K r σ') args s 0 0 (aZ Z)) (F0 m 71 ls [])) → ∀ (H : Heap) (locs : List Loc) (ls : Array Slot), fI D cI cS Z K σ_3 H → va_S (aZ Z) s.heap H locs → lv_has ls 6 [(0, .ref (Z + o)), (1, .int a1), (2, .int a2), (3, .int x_1), (4, .int y_2)] → W p l e { frames := 2, cells := 0, slots := 0, locals := 44 } s m args below meth c H locs 0 0 (MQ below (Qz D cI cS Z K r σ') args s 0 0 (aZ Z)) (F0 m 22 ls []) := by
      intro nn
      induction nn with
      | zero =>
        intro y_2 σ_3 σ_4 hq
        exact (lp_0 hq).elim
      | succ nn ih_7 =>
        intro y_2 σ_3 σ_4 hq kn_9 H locs ls hI hS hl
        obtain ⟨wb_5, hf, hk_8⟩ := lp_e hq
        rw [b_X0_repeatFrom_22] at hf
        have ih_7 := fun (y_2 : Int32) (σ_3 : Nat → Nat → Int32) q => ih_7 y_2 σ_3 σ_4 q kn_9
        refine lv_iload hx hb dX0_repeatFrom_22 (lv_at hl 4 rfl) ?_
        refine lv_iload_n hx hb dX0_repeatFrom_24 rfl (lv_at hl 2 rfl) ?_
        refine lv_icmp_ge (tgt := 71) hx hb dX0_repeatFrom_25 (by decide) (fun c_58 => ?_) (fun c_58 => ?_)
        · have hf := pos_e c_58 hf
          obtain rfl := so_e hf
          obtain rfl := lk_r hk_8
          exact kn_9 _ _ _ hI hS (lv_sub hl [] rfl)
        · have hf := neg_e c_58 hf
          refine lv_iload_n hx hb dX0_repeatFrom_28 rfl (lv_at hl 1 rfl) ?_
          refine lv_istore (lv' := [(5, .int a1), (0, .ref (Z + o)), (1, .int a1), (2, .int a2), (3, .int x_1), (4, .int y_2)]) hx hb dX0_repeatFrom_29 hl (by decide) rfl (fun ls hl => ?_)
          have L_39 : ∀ (nn : Nat) (y_35 : Int32) (σ_36 : Nat → Nat → Int32) (σ_37 : Nat → Nat → Int32), lp (b_X0_repeatFrom_31 o x_1) nn (y_35, σ_36) = some σ_37 → (∀ (H : Heap) (locs : List Loc) (ls : Array Slot), fI D cI cS Z K σ_37 H → va_S (aZ Z) s.heap H locs → lv_has ls 6 [(0, .ref (Z + o)), (1, .int a1), (2, .int a2), (3, .int x_1), (4, .int y_2)] → W p l e { frames := 2, cells := 0, slots := 0, locals := 44 } s m args below meth c H locs 0 0 (MQ below (Qz D cI cS Z K r σ') args s 0 0 (aZ Z)) (F0 m 65 ls [])) → ∀ (H : Heap) (locs : List Loc) (ls : Array Slot), fI D cI cS Z K σ_36 H → va_S (aZ Z) s.heap H locs → lv_has ls 6 [(0, .ref (Z + o)), (1, .int a1), (2, .int a2), (3, .int x_1), (4, .int y_2), (5, .int y_35)] → W p l e { frames := 2, cells := 0, slots := 0, locals := 44 } s m args below meth c H locs 0 0 (MQ below (Qz D cI cS Z K r σ') args s 0 0 (aZ Z)) (F0 m 31 ls []) := by
            intro nn
            induction nn with
            | zero =>
              intro y_35 σ_36 σ_37 hq
              exact (lp_0 hq).elim
            | succ nn ih_40 =>
              intro y_35 σ_36 σ_37 hq kn_42 H locs ls hI hS hl
              obtain ⟨wb_38, hf, hk_41⟩ := lp_e hq
              rw [b_X0_repeatFrom_31] at hf
              have ih_40 := fun (y_35 : Int32) (σ_36 : Nat → Nat → Int32) q => ih_40 y_35 σ_36 σ_37 q kn_42
              refine lv_iload hx hb dX0_repeatFrom_31 (lv_at hl 5 rfl) ?_
              refine lv_iload_n hx hb dX0_repeatFrom_33 rfl (lv_at hl 3 rfl) ?_
              refine lv_icmp_ge (tgt := 65) hx hb dX0_repeatFrom_34 (by decide) (fun c_55 => ?_) (fun c_55 => ?_)
              · have hf := pos_e c_55 hf
                obtain rfl := so_e hf
                obtain rfl := lk_r hk_41
                exact kn_42 _ _ _ hI hS (lv_sub hl [0, 1, 2, 3, 4] rfl)
              · have hf := neg_e c_55 hf
                refine lv_aload_n hx hb dX0_repeatFrom_37 rfl (lv_at hl 0 rfl) ?_
                refine lv_aload_n hx hb dX0_repeatFrom_38 rfl (lv_at hl 0 rfl) ?_
                refine gX0_14 (o' := (o + 1)) hx hb hts hown hG hI hL rfl dX0_repeatFrom_39 ?_
                refine lv_iload hx hb dX0_repeatFrom_42 (lv_at hl 5 rfl) ?_
                obtain ⟨r_50, hr_50, hf⟩ := bi_e hf
                refine kX0_53 hx hb hml hts hown hG hI hS hl.1 (ly_sub_0_liftOf hL) (As := [.int y_35]) (c_X4_at l D cI cS Z K (o + 1) 24 (ly_sub_0_liftOf hL) y_35 σ_36 _ hr_50) ⟨(Nat.le_of_ble_eq_true rfl), (Nat.le_of_ble_eq_true rfl)⟩ rfl (Nat.le_of_ble_eq_true rfl) ⟨(Nat.le_of_ble_eq_true rfl), (Nat.le_of_ble_eq_true rfl)⟩ dX0_repeatFrom_44 (fun H locs hI hS => ?_)
                refine lv_aload_n hx hb dX0_repeatFrom_47 rfl (lv_at hl 0 rfl) ?_
                refine gX0_20 (o' := (o + 3)) hx hb hts hown hG hI hL rfl dX0_repeatFrom_48 ?_
                refine lv_iload hx hb dX0_repeatFrom_51 (lv_at hl 5 rfl) ?_
                obtain ⟨r_51, hr_51, hf⟩ := bi_e hf
                refine kX0_53 hx hb hml hts hown hG hI hS hl.1 (ly_sub_0_colorOf hL) (As := [.int y_35]) (c_X4_at l D cI cS Z K (o + 3) 24 (ly_sub_0_colorOf hL) y_35 σ_36 _ hr_51) ⟨(Nat.le_of_ble_eq_true rfl), (Nat.le_of_ble_eq_true rfl)⟩ rfl (Nat.le_of_ble_eq_true rfl) ⟨(Nat.le_of_ble_eq_true rfl), (Nat.le_of_ble_eq_true rfl)⟩ dX0_repeatFrom_53 (fun H locs hI hS => ?_)
                obtain ⟨σ_53, hσ_53, hf⟩ := bi_e hf
                refine kX0_57 hx hb hml hts hown hG hI hS hl.1 hL (As := [.int r_50, .int r_51]) (c_X0_addLast l D cI cS Z K o hL r_50 r_51 σ_36 _ hσ_53) ⟨(Nat.le_of_ble_eq_true rfl), (Nat.le_of_ble_eq_true rfl)⟩ rfl (Nat.le_of_ble_eq_true rfl) ⟨(Nat.le_of_ble_eq_true rfl), (Nat.le_of_ble_eq_true rfl)⟩ dX0_repeatFrom_56 (fun H locs hI hS => ?_)
                obtain ⟨x_54, ex_54, hf⟩ := vl_e hf
                refine lv_iinc (v := x_54) (lv' := [(5, .int x_54), (0, .ref (Z + o)), (1, .int a1), (2, .int a2), (3, .int x_1), (4, .int y_2)]) hx hb dX0_repeatFrom_59 hl (k := 5) rfl (by rw [ex_54]; rfl) (by decide) rfl (fun ls hl => ?_)
                refine lv_goto (tgt := 31) hx hb dX0_repeatFrom_62 (by decide) ?_
                obtain rfl := so_e hf
                exact ih_40 x_54 σ_53 hk_41 _ _ _ hI hS (lv_sub hl [1, 2, 3, 4, 5, 0] rfl)
          obtain ⟨σ_37, hy, hf⟩ := bi_e hf
          refine L_39 FU a1 σ_3 _ hy ?_ _ _ _ hI hS (lv_sub hl [1, 2, 3, 4, 5, 0] rfl)
          clear L_39
          intro H locs ls hI hS hl
          obtain ⟨x_57, ex_57, hf⟩ := vl_e hf
          refine lv_iinc (v := x_57) (lv' := [(4, .int x_57), (0, .ref (Z + o)), (1, .int a1), (2, .int a2), (3, .int x_1)]) hx hb dX0_repeatFrom_65 hl (k := 4) rfl (by rw [ex_57]; rfl) (by decide) rfl (fun ls hl => ?_)
          refine lv_goto (tgt := 22) hx hb dX0_repeatFrom_68 (by decide) ?_
          obtain rfl := so_e hf
          exact ih_7 x_57 σ_37 hk_8 _ _ _ hI hS (lv_sub hl [1, 2, 3, 4, 0] rfl)
    obtain ⟨σ_4, hy, hf⟩ := bi_e hf
    refine L_6 FU 1 σ _ hy ?_ _ _ _ hI hS (lv_sub hl [2, 3, 4, 1, 0] rfl)
    clear L_6
    intro H locs ls hI hS hl
    refine lv_iconst (v := 1) hx hb dX0_repeatFrom_71 (by decide) ?_
    obtain ⟨rfl, rfl⟩ := sp_e hf
    exact mm_zret hx hb hr hlocks (Or.inr rfl) hI hS dX0_repeatFrom_72
  · have hf := neg_e c_60 hf
    refine lv_iconst (v := 0) hx hb dX0_repeatFrom_17 (by decide) ?_
    obtain ⟨rfl, rfl⟩ := sp_e hf
    exact mm_zret hx hb hr hlocks (Or.inl rfl) hI hS dX0_repeatFrom_18
