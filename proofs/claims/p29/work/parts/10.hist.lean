/-! 10.hist: mirrored programs and contracts (written by wip/p29/gen.py) -/
def f_X3_keep  (σ : Nat → Nat → Int32) : Option (Nat → Nat → Int32) := ix (σ 29 1) 5 <| bi (f_X5_copyFrom (31 + 28 * (σ 29 1).toNatClampNeg) 1 σ) fun σ_2 => vl (α := Int32) (if 5 ≤ ((σ_2 29 1) + 1) then (0) else ((σ_2 29 1) + 1)) fun v_4 => vl (wr σ_2 29 1 v_4) fun σ_7 => vl (wr σ_7 29 2 (imin ((σ_7 29 2) + 1) 5)) fun σ_8 => some σ_8
set_option maxHeartbeats 4000000 in
set_option maxRecDepth 100000 in
theorem c_X3_keep (l : Launch) (D : va_G) (cI cS : ClassId) (Z : Nat) (K : Nat → Nat) (hL : ly K 29 lyHist) (hL2 : ly K 1 lyState) (σ : Nat → Nat → Int32) (σ' : Nat → Nat → Int32) (hf : f_X3_keep σ = some σ') : Met l yX3_keep (wsT yX3_keep cX3_keep 3 none) { frames := 5, cells := 0, slots := 0, locals := 124 } (Pm D cI cS Z K [.ref (Z + 29), .ref (Z + 1)] σ) (Qv D cI cS Z K σ') 0 0 (aZ Z) := by
  refine mm_met (lv := [(0, .ref (Z + 29)), (1, .ref (Z + 1))]) (by decide) (Nat.le_of_ble_eq_true rfl) rfl ?_
  intro p e s m args below meth c ls hx hb hr hml hts hown hlocks hG hl hI hS
  have hown : s.vm.findClass RX3 = some m.cls := hown
  rw [f_X3_keep] at hf
  refine lv_aload_n hx hb dX3_keep_0 rfl (lv_at hl 0 rfl) ?_
  refine lv_aload_n hx hb dX3_keep_1 rfl (lv_at hl 0 rfl) ?_
  refine gX3_18 hx hb hts hown hG hI hL dX3_keep_2 ?_
  obtain ⟨hix, hf⟩ := ix_e hf
  refine kX3_stateAt hx hb hml hts hown hG hI hS hl.1 hL hix ⟨⟨(Nat.le_of_ble_eq_true rfl), (Nat.le_of_ble_eq_true rfl)⟩, (Nat.le_of_ble_eq_true rfl), (Nat.le_of_ble_eq_true rfl), (Nat.le_of_ble_eq_true rfl)⟩ dX3_keep_5 (fun H locs hI hS => ?_)
  refine lv_astore_n (lv' := [(2, .ref (Z + (31 + 28 * (σ 29 1).toNatClampNeg))), (0, .ref (Z + 29)), (1, .ref (Z + 1))]) hx hb dX3_keep_8 rfl hl (by decide) rfl (fun ls hl => ?_)
  refine lv_aload_n hx hb dX3_keep_9 rfl (lv_at hl 0 rfl) ?_
  refine lv_ifnull hx hb dX3_keep_10 ?_
  refine lv_aload_n hx hb dX3_keep_13 rfl (lv_at hl 0 rfl) ?_
  refine lv_aload_n hx hb dX3_keep_14 rfl (lv_at hl 2 rfl) ?_
  obtain ⟨σ_2, hσ_2, hf⟩ := bi_e hf
  refine kX3_26 hx hb hml hts hown hG hI hS hl.1 (ly_ring hL hix) (As := [.ref (Z + 1)]) (c_X5_copyFrom l D cI cS Z K (31 + 28 * (σ 29 1).toNatClampNeg) (ly_ring hL hix) 1 hL2 σ _ (by omega) hσ_2) ⟨(Nat.le_of_ble_eq_true rfl), (Nat.le_of_ble_eq_true rfl)⟩ rfl (Nat.le_of_ble_eq_true rfl) ⟨(Nat.le_of_ble_eq_true rfl), (Nat.le_of_ble_eq_true rfl)⟩ dX3_keep_15 (fun H locs hI hS => ?_)
  refine lv_aload_n hx hb dX3_keep_18 rfl (lv_at hl 1 rfl) ?_
  refine lv_aload_n hx hb dX3_keep_19 rfl (lv_at hl 1 rfl) ?_
  refine gX3_18 hx hb hts hown hG hI hL dX3_keep_20 ?_
  refine lv_iconst (v := 1) hx hb dX3_keep_23 (by decide) ?_
  refine lv_iadd hx hb dX3_keep_24 ?_
  refine lv_iconst (v := 5) hx hb dX3_keep_25 (by decide) ?_
  obtain ⟨v_4, ev_4, hf⟩ := vl_e hf
  have HJ_6 : ∀ (H : Heap) (locs : List Loc) (ls : Array Slot), fI D cI cS Z K σ_2 H → va_S (aZ Z) s.heap H locs → lv_has ls 3 [(0, .ref (Z + 29))] → W p l e { frames := 5, cells := 0, slots := 0, locals := 124 } s m args below meth c H locs 0 0 (MQ below (Qv D cI cS Z K σ') args s 0 0 (aZ Z)) (F0 m 39 ls [.int v_4, .ref (Z + 29)]) := by
    intro H locs ls hI hS hl
    obtain ⟨σ_7, eσ_7, hf⟩ := vl_e hf
    refine pX3_18 hx hb hts hown hG hI hS hL dX3_keep_39 (fun H locs hI hS => ?_)
    rw [← eσ_7] at hI
    refine lv_aload_n hx hb dX3_keep_42 rfl (lv_at hl 0 rfl) ?_
    refine lv_aload_n hx hb dX3_keep_43 rfl (lv_at hl 0 rfl) ?_
    refine gX3_30 hx hb hts hown hG hI hL dX3_keep_44 ?_
    refine lv_iconst (v := 1) hx hb dX3_keep_47 (by decide) ?_
    refine lv_iadd hx hb dX3_keep_48 ?_
    refine lv_iconst (v := 5) hx hb dX3_keep_49 (by decide) ?_
    refine va_mmin hx hb (hml.trans hl.1.symm) hown (hts _ (mT7 _ (List.mem_of_getElem? (i := 14) rfl))) (hts _ (mT7 _ (List.mem_of_getElem? (i := 15) rfl))) (hts _ (mT3 _ (List.mem_of_getElem? (i := 9) rfl))) (hts _ (mT7 _ (List.mem_of_getElem? (i := 16) rfl))) (Nat.le_of_ble_eq_true rfl) (Nat.le_of_ble_eq_true rfl) (Nat.le_of_ble_eq_true rfl) (Nat.le_of_ble_eq_true rfl) dX3_keep_50 ?_
    refine mm_name (x := imin ((σ_7 29 2) + 1) 5) rfl ?_
    obtain ⟨σ_8, eσ_8, hf⟩ := vl_e hf
    refine pX3_30 hx hb hts hown hG hI hS hL dX3_keep_53 (fun H locs hI hS => ?_)
    rw [← eσ_8] at hI
    obtain rfl := so_e hf
    exact mm_vret hx hb hr hlocks hI hS dX3_keep_56
  clear hf
  have hf := ev_4.symm
  refine lv_icmp_ge (tgt := 38) hx hb dX3_keep_26 (by decide) (fun c_9 => ?_) (fun c_9 => ?_)
  · have hf := pos_e c_9 hf
    refine lv_iconst (v := 0) hx hb dX3_keep_38 (by decide) ?_
    refine mm_name hf.symm ?_
    exact HJ_6 _ _ _ hI hS (lv_sub hl [1] rfl)
  · have hf := neg_e c_9 hf
    refine lv_aload_n hx hb dX3_keep_29 rfl (lv_at hl 1 rfl) ?_
    refine gX3_18 hx hb hts hown hG hI hL dX3_keep_30 ?_
    refine lv_iconst (v := 1) hx hb dX3_keep_33 (by decide) ?_
    refine lv_iadd hx hb dX3_keep_34 ?_
    refine lv_goto (tgt := 39) hx hb dX3_keep_35 (by decide) ?_
    refine mm_name hf.symm ?_
    exact HJ_6 _ _ _ hI hS (lv_sub hl [1] rfl)
def f_X3_restoreInto  (σ : Nat → Nat → Int32) : Option (Nat → Nat → Int32) := vl (α := Int32) (if (σ 29 1) ≤ 0 then (4) else ((σ 29 1) - 1)) fun v_2 => ix v_2 5 <| if (σ 29 2) ≤ 0 then (some σ) else (bi (f_X5_copyFrom 1 (31 + 28 * v_2.toNatClampNeg) σ) fun σ_6 => vl (wr σ_6 29 1 v_2) fun σ_7 => vl (wr σ_7 29 2 ((σ_7 29 2) - 1)) fun σ_8 => some σ_8)
set_option maxHeartbeats 4000000 in
set_option maxRecDepth 100000 in
theorem c_X3_restoreInto (l : Launch) (D : va_G) (cI cS : ClassId) (Z : Nat) (K : Nat → Nat) (hL : ly K 29 lyHist) (hL2 : ly K 1 lyState) (σ : Nat → Nat → Int32) (σ' : Nat → Nat → Int32) (hf : f_X3_restoreInto σ = some σ') : Met l yX3_restoreInto (wsT yX3_restoreInto cX3_restoreInto 4 none) { frames := 5, cells := 0, slots := 0, locals := 124 } (Pm D cI cS Z K [.ref (Z + 29), .ref (Z + 1)] σ) (Qv D cI cS Z K σ') 0 0 (aZ Z) := by
  refine mm_met (lv := [(0, .ref (Z + 29)), (1, .ref (Z + 1))]) (by decide) (Nat.le_of_ble_eq_true rfl) rfl ?_
  intro p e s m args below meth c ls hx hb hr hml hts hown hlocks hG hl hI hS
  have hown : s.vm.findClass RX3 = some m.cls := hown
  rw [f_X3_restoreInto] at hf
  refine lv_aload_n hx hb dX3_restoreInto_0 rfl (lv_at hl 0 rfl) ?_
  refine gX3_18 hx hb hts hown hG hI hL dX3_restoreInto_1 ?_
  obtain ⟨v_2, ev_2, hf⟩ := vl_e hf
  have HJ_4 : ∀ (H : Heap) (locs : List Loc) (ls : Array Slot), fI D cI cS Z K σ H → va_S (aZ Z) s.heap H locs → lv_has ls 4 [(0, .ref (Z + 29)), (1, .ref (Z + 1))] → W p l e { frames := 5, cells := 0, slots := 0, locals := 124 } s m args below meth c H locs 0 0 (MQ below (Qv D cI cS Z K σ') args s 0 0 (aZ Z)) (F0 m 17 ls [.int v_2]) := by
    intro H locs ls hI hS hl
    refine lv_istore_n (lv' := [(2, .int v_2), (0, .ref (Z + 29)), (1, .ref (Z + 1))]) hx hb dX3_restoreInto_17 rfl hl (by decide) rfl (fun ls hl => ?_)
    refine lv_aload_n hx hb dX3_restoreInto_18 rfl (lv_at hl 1 rfl) ?_
    refine lv_iload_n hx hb dX3_restoreInto_19 rfl (lv_at hl 0 rfl) ?_
    obtain ⟨hix, hf⟩ := ix_e hf
    refine kX3_stateAt hx hb hml hts hown hG hI hS hl.1 hL hix ⟨⟨(Nat.le_of_ble_eq_true rfl), (Nat.le_of_ble_eq_true rfl)⟩, (Nat.le_of_ble_eq_true rfl), (Nat.le_of_ble_eq_true rfl), (Nat.le_of_ble_eq_true rfl)⟩ dX3_restoreInto_20 (fun H locs hI hS => ?_)
    refine lv_astore_n (lv' := [(3, .ref (Z + (31 + 28 * v_2.toNatClampNeg))), (2, .int v_2), (0, .ref (Z + 29)), (1, .ref (Z + 1))]) hx hb dX3_restoreInto_23 rfl hl (by decide) rfl (fun ls hl => ?_)
    refine lv_aload_n hx hb dX3_restoreInto_24 rfl (lv_at hl 0 rfl) ?_
    refine lv_ifnull hx hb dX3_restoreInto_25 ?_
    refine lv_aload_n hx hb dX3_restoreInto_28 rfl (lv_at hl 2 rfl) ?_
    refine gX3_30 hx hb hts hown hG hI hL dX3_restoreInto_29 ?_
    refine lv_if_le (tgt := 55) hx hb dX3_restoreInto_32 (by decide) (fun c_9 => ?_) (fun c_9 => ?_)
    · have hf := pos_e c_9 hf
      obtain rfl := so_e hf
      exact mm_vret hx hb hr hlocks hI hS dX3_restoreInto_55
    · have hf := neg_e c_9 hf
      refine lv_aload_n hx hb dX3_restoreInto_35 rfl (lv_at hl 3 rfl) ?_
      refine lv_aload_n hx hb dX3_restoreInto_36 rfl (lv_at hl 0 rfl) ?_
      obtain ⟨σ_6, hσ_6, hf⟩ := bi_e hf
      refine kX3_26 hx hb hml hts hown hG hI hS hl.1 hL2 (As := [.ref (Z + (31 + 28 * v_2.toNatClampNeg))]) (c_X5_copyFrom l D cI cS Z K 1 hL2 (31 + 28 * v_2.toNatClampNeg) (ly_ring hL hix) σ _ (by omega) hσ_6) ⟨(Nat.le_of_ble_eq_true rfl), (Nat.le_of_ble_eq_true rfl)⟩ rfl (Nat.le_of_ble_eq_true rfl) ⟨(Nat.le_of_ble_eq_true rfl), (Nat.le_of_ble_eq_true rfl)⟩ dX3_restoreInto_37 (fun H locs hI hS => ?_)
      refine lv_aload_n hx hb dX3_restoreInto_40 rfl (lv_at hl 2 rfl) ?_
      refine lv_iload_n hx hb dX3_restoreInto_41 rfl (lv_at hl 1 rfl) ?_
      obtain ⟨σ_7, eσ_7, hf⟩ := vl_e hf
      refine pX3_18 hx hb hts hown hG hI hS hL dX3_restoreInto_42 (fun H locs hI hS => ?_)
      rw [← eσ_7] at hI
      refine lv_aload_n hx hb dX3_restoreInto_45 rfl (lv_at hl 2 rfl) ?_
      refine lv_dup hx hb dX3_restoreInto_46 rfl ?_
      refine gX3_30 hx hb hts hown hG hI hL dX3_restoreInto_47 ?_
      refine lv_iconst (v := 1) hx hb dX3_restoreInto_50 (by decide) ?_
      refine lv_isub hx hb dX3_restoreInto_51 ?_
      obtain ⟨σ_8, eσ_8, hf⟩ := vl_e hf
      refine pX3_30 hx hb hts hown hG hI hS hL dX3_restoreInto_52 (fun H locs hI hS => ?_)
      rw [← eσ_8] at hI
      obtain rfl := so_e hf
      exact mm_vret hx hb hr hlocks hI hS dX3_restoreInto_55
  clear hf
  have hf := ev_2.symm
  refine lv_if_le (tgt := 16) hx hb dX3_restoreInto_4 (by decide) (fun c_10 => ?_) (fun c_10 => ?_)
  · have hf := pos_e c_10 hf
    refine lv_iconst (v := 4) hx hb dX3_restoreInto_16 (by decide) ?_
    refine mm_name hf.symm ?_
    exact HJ_4 _ _ _ hI hS (lv_sub hl [0, 1] rfl)
  · have hf := neg_e c_10 hf
    refine lv_aload_n hx hb dX3_restoreInto_7 rfl (lv_at hl 0 rfl) ?_
    refine gX3_18 hx hb hts hown hG hI hL dX3_restoreInto_8 ?_
    refine lv_iconst (v := 1) hx hb dX3_restoreInto_11 (by decide) ?_
    refine lv_isub hx hb dX3_restoreInto_12 ?_
    refine lv_goto (tgt := 17) hx hb dX3_restoreInto_13 (by decide) ?_
    refine mm_name hf.symm ?_
    exact HJ_4 _ _ _ hI hS (lv_sub hl [0, 1] rfl)
