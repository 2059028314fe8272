/-! 12.model: mirrored programs and contracts (written by wip/whole/gen.py) -/
def b_X8_act_51  : Int32 × (Nat → Nat → Int32) → Option ((Int32 × (Nat → Nat → Int32)) ⊕ ((Nat → Nat → Int32)))
  | (y_22, σ_23) => if 456 ≤ y_22 then (some (.inr σ_23)) else (ix y_22 456 <| ix ((456 * (σ_23 183 4)) + y_22) 2280 <| vl (wr σ_23 186 ((456 * (σ_23 183 4)) + y_22).toNatClampNeg (σ_23 184 y_22.toNatClampNeg)) fun σ_34 => vl (y_22 + 1) fun x_35 => some (.inl (x_35, σ_34)))
def b_X8_act_10  : Int32 × (Nat → Nat → Int32) → Option ((Int32 × (Nat → Nat → Int32)) ⊕ ((Nat → Nat → Int32)))
  | (y_39, σ_40) => if 1824 ≤ y_39 then (some (.inr σ_40)) else (ix (y_39 + 456) 2280 <| ix y_39 2280 <| vl (wr σ_40 186 y_39.toNatClampNeg (σ_40 186 (y_39 + 456).toNatClampNeg)) fun σ_51 => vl (y_39 + 1) fun x_52 => some (.inl (x_52, σ_51)))
def f_X8_act  (σ : Nat → Nat → Int32) : Option (Nat → Nat → Int32) := jn (α := (Nat → Nat → Int32) → _) (fun k_20 => if (σ 183 4) = 5 then (bi (lp (b_X8_act_10) FU (0, σ)) fun σ_41 => vl (wr σ_41 183 4 ((σ_41 183 4) - 1)) fun σ_55 => k_20 σ_55) else (k_20 σ)) (fun σ_19 => bi (lp (b_X8_act_51) FU (0, σ_19)) fun σ_24 => vl (wr σ_24 183 4 ((σ_24 183 4) + 1)) fun σ_38 => some σ_38)
set_option maxHeartbeats 4000000 in
set_option maxRecDepth 100000 in
theorem c_X8_act (l : Launch) (D : va_G) (cI cS : ClassId) (Z : Nat) (K : Nat → Nat) (hL : ly K 183 lyModel) (σ : Nat → Nat → Int32) (σ' : Nat → Nat → Int32) (hf : f_X8_act σ = some σ') : Met l yX8_act (wsT yX8_act cX8_act 2 none) { frames := 0, cells := 0, slots := 0, locals := 0 } (Pm D cI cS Z K [.ref (Z + 183)] σ) (Qv D cI cS Z K σ') 0 0 (aZ Z) := by
  refine mm_met (lv := [(0, .ref (Z + 183))]) (by decide) (Nat.le_of_ble_eq_true rfl) rfl ?_
  intro p e s m args below meth c ls hx hb hr hml hts hown hlocks hG hl hI hS
  have hown : s.vm.findClass RX8 = some m.cls := hown
  rw [f_X8_act] at hf
  refine lv_aload_n hx hb dX8_act_0 rfl (lv_at hl 0 rfl) ?_
  refine gX8_36 hx hb hts hown hG hI hL dX8_act_1 ?_
  refine lv_iconst (v := 5) hx hb dX8_act_4 (by decide) ?_
  obtain ⟨k_20, ek_20, hf⟩ := jn_e hf
  have HJ_21 : ∀ (σ_19 : Nat → Nat → Int32) (H : Heap) (locs : List Loc) (ls : Array Slot), k_20 σ_19 = some σ' → fI D cI cS Z K σ_19 H → va_S (aZ Z) s.heap H locs → lv_has ls 2 [(0, .ref (Z + 183))] → W p l e { frames := 0, cells := 0, slots := 0, locals := 0 } s m args below meth c H locs 0 0 (MQ below (Qv D cI cS Z K σ') args s 0 0 (aZ Z)) (F0 m 49 ls []) := by
    intro σ_19 H locs ls hf hI hS hl
    have hf := jb1 ek_20 hf
    refine lv_iconst (v := 0) hx hb dX8_act_49 (by decide) ?_
    refine lv_istore_n (lv' := [(1, .int 0), (0, .ref (Z + 183))]) hx hb dX8_act_50 rfl hl (by decide) rfl (fun ls hl => ?_)
    have L_26 : ∀ (nn : Nat) (y_22 : Int32) (σ_23 : Nat → Nat → Int32) (σ_24 : Nat → Nat → Int32), lp (b_X8_act_51) nn (y_22, σ_23) = some σ_24 → (∀ (H : Heap) (locs : List Loc) (ls : Array Slot), fI D cI cS Z K σ_24 H → va_S (aZ Z) s.heap H locs → lv_has ls 2 [(0, .ref (Z + 183))] → W p l e { frames := 0, cells := 0, slots := 0, locals := 0 } s m args below meth c H locs 0 0 (MQ below (Qv D cI cS Z K σ') args s 0 0 (aZ Z)) (F0 m 85 ls [])) → ∀ (H : Heap) (locs : List Loc) (ls : Array Slot), fI D cI cS Z K σ_23 H → va_S (aZ Z) s.heap H locs → lv_has ls 2 [(0, .ref (Z + 183)), (1, .int y_22)] → W p l e { frames := 0, cells := 0, slots := 0, locals := 0 } s m args below meth c H locs 0 0 (MQ below (Qv D cI cS Z K σ') args s 0 0 (aZ Z)) (F0 m 51 ls []) := by
      intro nn
      induction nn with
      | zero =>
        intro y_22 σ_23 σ_24 hq
        exact (lp_0 hq).elim
      | succ nn ih_27 =>
        intro y_22 σ_23 σ_24 hq kn_29 H locs ls hI hS hl
        obtain ⟨w_25, hf, hk_28⟩ := lp_e hq
        rw [b_X8_act_51] at hf
        have ih_27 := fun (y_22 : Int32) (σ_23 : Nat → Nat → Int32) q => ih_27 y_22 σ_23 σ_24 q kn_29
        refine lv_iload_n hx hb dX8_act_51 rfl (lv_at hl 1 rfl) ?_
        refine lv_sipush (v := 456) hx hb dX8_act_52 (by decide) ?_
        refine lv_icmp_ge (tgt := 85) hx hb dX8_act_55 (by decide) (fun c_36 => ?_) (fun c_36 => ?_)
        · have hf := pos_e c_36 hf
          obtain rfl := so_e hf
          obtain rfl := lk_r hk_28
          exact kn_29 _ _ _ hI hS (lv_sub hl [0] rfl)
        · have hf := neg_e c_36 hf
          refine lv_aload_n hx hb dX8_act_58 rfl (lv_at hl 0 rfl) ?_
          refine gX8_16 (o' := 186) hx hb hts hown hG hI hL rfl dX8_act_59 ?_
          refine lv_sipush (v := 456) hx hb dX8_act_62 (by decide) ?_
          refine lv_aload_n hx hb dX8_act_65 rfl (lv_at hl 0 rfl) ?_
          refine gX8_36 hx hb hts hown hG hI hL dX8_act_66 ?_
          refine lv_imul hx hb dX8_act_69 ?_
          refine lv_iload_n hx hb dX8_act_70 rfl (lv_at hl 1 rfl) ?_
          refine lv_iadd hx hb dX8_act_71 ?_
          refine lv_aload_n hx hb dX8_act_72 rfl (lv_at hl 0 rfl) ?_
          refine gX8_7 (o' := 184) hx hb hts hown hG hI hL rfl dX8_act_73 ?_
          refine lv_iload_n hx hb dX8_act_76 rfl (lv_at hl 1 rfl) ?_
          obtain ⟨hix, hf⟩ := ix_e hf
          refine mm_ald hx hb hG hI (ly_at hL 1 rfl) hix rfl dX8_act_77 ?_
          obtain ⟨hix, hf⟩ := ix_e hf
          obtain ⟨σ_34, eσ_34, hf⟩ := vl_e hf
          refine mm_ast hx hb hG hI hS (ly_at hL 3 rfl) hix rfl dX8_act_78 (fun H locs hI hS => ?_)
          rw [← eσ_34] at hI
          obtain ⟨x_35, ex_35, hf⟩ := vl_e hf
          refine lv_iinc (v := x_35) (lv' := [(1, .int x_35), (0, .ref (Z + 183))]) hx hb dX8_act_79 hl (k := 1) rfl (by rw [ex_35]; rfl) (by decide) rfl (fun ls hl => ?_)
          refine lv_goto (tgt := 51) hx hb dX8_act_82 (by decide) ?_
          obtain rfl := so_e hf
          exact ih_27 x_35 σ_34 hk_28 _ _ _ hI hS (lv_sub hl [1, 0] rfl)
    obtain ⟨σ_24, hy, hf⟩ := bi_e hf
    refine L_26 FU 0 σ_19 _ hy ?_ _ _ _ hI hS (lv_sub hl [1, 0] rfl)
    clear L_26
    intro H locs ls hI hS hl
    refine lv_aload_n hx hb dX8_act_85 rfl (lv_at hl 0 rfl) ?_
    refine lv_dup hx hb dX8_act_86 rfl ?_
    refine gX8_36 hx hb hts hown hG hI hL dX8_act_87 ?_
    refine lv_iconst (v := 1) hx hb dX8_act_90 (by decide) ?_
    refine lv_iadd hx hb dX8_act_91 ?_
    obtain ⟨σ_38, eσ_38, hf⟩ := vl_e hf
    refine pX8_36 hx hb hts hown hG hI hS hL dX8_act_92 (fun H locs hI hS => ?_)
    rw [← eσ_38] at hI
    obtain rfl := so_e hf
    exact mm_vret hx hb hr hlocks hI hS dX8_act_95
  clear ek_20
  refine lv_icmp_ne (tgt := 49) hx hb dX8_act_5 (by decide) (fun c_56 => ?_) (fun c_56 => ?_)
  · have hf := neg_e c_56 hf
    exact HJ_21 σ _ _ _ hf hI hS (lv_sub hl [0] rfl)
  · have hf := pos_e c_56 hf
    refine lv_iconst (v := 0) hx hb dX8_act_8 (by decide) ?_
    refine lv_istore_n (lv' := [(1, .int 0), (0, .ref (Z + 183))]) hx hb dX8_act_9 rfl hl (by decide) rfl (fun ls hl => ?_)
    have L_43 : ∀ (nn : Nat) (y_39 : Int32) (σ_40 : Nat → Nat → Int32) (σ_41 : Nat → Nat → Int32), lp (b_X8_act_10) nn (y_39, σ_40) = some σ_41 → (∀ (H : Heap) (locs : List Loc) (ls : Array Slot), fI D cI cS Z K σ_41 H → va_S (aZ Z) s.heap H locs → lv_has ls 2 [(0, .ref (Z + 183))] → W p l e { frames := 0, cells := 0, slots := 0, locals := 0 } s m args below meth c H locs 0 0 (MQ below (Qv D cI cS Z K σ') args s 0 0 (aZ Z)) (F0 m 39 ls [])) → ∀ (H : Heap) (locs : List Loc) (ls : Array Slot), fI D cI cS Z K σ_40 H → va_S (aZ Z) s.heap H locs → lv_has ls 2 [(0, .ref (Z + 183)), (1, .int y_39)] → W p l e { frames := 0, cells := 0, slots := 0, locals := 0 } s m args below meth c H locs 0 0 (MQ below (Qv D cI cS Z K σ') args s 0 0 (aZ Z)) (F0 m 10 ls []) := by
      intro nn
      induction nn with
      | zero =>
        intro y_39 σ_40 σ_41 hq
        exact (lp_0 hq).elim
      | succ nn ih_44 =>
        intro y_39 σ_40 σ_41 hq kn_46 H locs ls hI hS hl
        obtain ⟨w_42, hf, hk_45⟩ := lp_e hq
        rw [b_X8_act_10] at hf
        have ih_44 := fun (y_39 : Int32) (σ_40 : Nat → Nat → Int32) q => ih_44 y_39 σ_40 σ_41 q kn_46
        refine lv_iload_n hx hb dX8_act_10 rfl (lv_at hl 1 rfl) ?_
        refine lv_sipush (v := 1824) hx hb dX8_act_11 (by decide) ?_
        refine lv_icmp_ge (tgt := 39) hx hb dX8_act_14 (by decide) (fun c_53 => ?_) (fun c_53 => ?_)
        · have hf := pos_e c_53 hf
          obtain rfl := so_e hf
          obtain rfl := lk_r hk_45
          exact kn_46 _ _ _ hI hS (lv_sub hl [0] rfl)
        · have hf := neg_e c_53 hf
          refine lv_aload_n hx hb dX8_act_17 rfl (lv_at hl 0 rfl) ?_
          refine gX8_16 (o' := 186) hx hb hts hown hG hI hL rfl dX8_act_18 ?_
          refine lv_iload_n hx hb dX8_act_21 rfl (lv_at hl 1 rfl) ?_
          refine lv_aload_n hx hb dX8_act_22 rfl (lv_at hl 0 rfl) ?_
          refine gX8_16 (o' := 186) hx hb hts hown hG hI hL rfl dX8_act_23 ?_
          refine lv_iload_n hx hb dX8_act_26 rfl (lv_at hl 1 rfl) ?_
          refine lv_sipush (v := 456) hx hb dX8_act_27 (by decide) ?_
          refine lv_iadd hx hb dX8_act_30 ?_
          obtain ⟨hix, hf⟩ := ix_e hf
          refine mm_ald hx hb hG hI (ly_at hL 3 rfl) hix rfl dX8_act_31 ?_
          obtain ⟨hix, hf⟩ := ix_e hf
          obtain ⟨σ_51, eσ_51, hf⟩ := vl_e hf
          refine mm_ast hx hb hG hI hS (ly_at hL 3 rfl) hix rfl dX8_act_32 (fun H locs hI hS => ?_)
          rw [← eσ_51] at hI
          obtain ⟨x_52, ex_52, hf⟩ := vl_e hf
          refine lv_iinc (v := x_52) (lv' := [(1, .int x_52), (0, .ref (Z + 183))]) hx hb dX8_act_33 hl (k := 1) rfl (by rw [ex_52]; rfl) (by decide) rfl (fun ls hl => ?_)
          refine lv_goto (tgt := 10) hx hb dX8_act_36 (by decide) ?_
          obtain rfl := so_e hf
          exact ih_44 x_52 σ_51 hk_45 _ _ _ hI hS (lv_sub hl [1, 0] rfl)
    obtain ⟨σ_41, hy, hf⟩ := bi_e hf
    refine L_43 FU 0 σ _ hy ?_ _ _ _ hI hS (lv_sub hl [1, 0] rfl)
    clear L_43
    intro H locs ls hI hS hl
    refine lv_aload_n hx hb dX8_act_39 rfl (lv_at hl 0 rfl) ?_
    refine lv_dup hx hb dX8_act_40 rfl ?_
    refine gX8_36 hx hb hts hown hG hI hL dX8_act_41 ?_
    refine lv_iconst (v := 1) hx hb dX8_act_44 (by decide) ?_
    refine lv_isub hx hb dX8_act_45 ?_
    obtain ⟨σ_55, eσ_55, hf⟩ := vl_e hf
    refine pX8_36 hx hb hts hown hG hI hS hL dX8_act_46 (fun H locs hI hS => ?_)
    rw [← eσ_55] at hI
    exact HJ_21 σ_55 _ _ _ hf hI hS (lv_sub hl [0] rfl)
def f_X8_in (a1 : Int32) (a2 : Int32) (a3 : Int32) (σ : Nat → Nat → Int32) : Option Int32 := if a1 < a2 then (some 0) else (if a3 < a1 then (some 0) else (some 1))
set_option maxHeartbeats 4000000 in
set_option maxRecDepth 100000 in
theorem c_X8_in (l : Launch) (D : va_G) (cI cS : ClassId) (Z : Nat) (K : Nat → Nat) (a1 : Int32) (a2 : Int32) (a3 : Int32) (σ : Nat → Nat → Int32) (r : Int32) (hf : f_X8_in a1 a2 a3 σ = some r) : Met l yX8_in (wsT yX8_in cX8_in 3 (some .boolean)) { frames := 0, cells := 0, slots := 0, locals := 0 } (Pm D cI cS Z K [.int a1, .int a2, .int a3] σ) (Qz D cI cS Z K r σ) 0 0 (aZ Z) := by
  refine mm_met (lv := [(0, .int a1), (1, .int a2), (2, .int a3)]) (by decide) (Nat.le_of_ble_eq_true rfl) rfl ?_
  intro p e s m args below meth c ls hx hb hr hml hts hown hlocks hG hl hI hS
  have hown : s.vm.findClass RX8 = some m.cls := hown
  rw [f_X8_in] at hf
  refine lv_iload_n hx hb dX8_in_0 rfl (lv_at hl 0 rfl) ?_
  refine lv_iload_n hx hb dX8_in_1 rfl (lv_at hl 1 rfl) ?_
  refine lv_icmp_lt (tgt := 14) hx hb dX8_in_2 (by decide) (fun c_2 => ?_) (fun c_2 => ?_)
  · have hf := pos_e c_2 hf
    refine lv_iconst (v := 0) hx hb dX8_in_14 (by decide) ?_
    obtain rfl := so_e hf
    exact mm_zret hx hb hr hlocks (Or.inl rfl) hI hS dX8_in_15
  · have hf := neg_e c_2 hf
    refine lv_iload_n hx hb dX8_in_5 rfl (lv_at hl 0 rfl) ?_
    refine lv_iload_n hx hb dX8_in_6 rfl (lv_at hl 2 rfl) ?_
    refine lv_icmp_gt (tgt := 14) hx hb dX8_in_7 (by decide) (fun c_1 => ?_) (fun c_1 => ?_)
    · have hf := pos_e c_1 hf
      refine lv_iconst (v := 0) hx hb dX8_in_14 (by decide) ?_
      obtain rfl := so_e hf
      exact mm_zret hx hb hr hlocks (Or.inl rfl) hI hS dX8_in_15
    · have hf := neg_e c_1 hf
      refine lv_iconst (v := 1) hx hb dX8_in_10 (by decide) ?_
      refine lv_goto (tgt := 15) hx hb dX8_in_11 (by decide) ?_
      obtain rfl := so_e hf
      exact mm_zret hx hb hr hlocks (Or.inr rfl) hI hS dX8_in_15
def f_X8_isLift (a1 : Int32) (σ : Nat → Nat → Int32) : Option Int32 := bi (f_X8_in a1 0 ((1 <<< ((σ 184 0) &&& 31)) - 1) σ) fun r_1 => some r_1
set_option maxHeartbeats 4000000 in
set_option maxRecDepth 100000 in
theorem c_X8_isLift (l : Launch) (D : va_G) (cI cS : ClassId) (Z : Nat) (K : Nat → Nat) (hL : ly K 183 lyModel) (a1 : Int32) (σ : Nat → Nat → Int32) (r : Int32) (hf : f_X8_isLift a1 σ = some r) : Met l yX8_isLift (wsT yX8_isLift cX8_isLift 2 (some .boolean)) { frames := 1, cells := 0, slots := 0, locals := 22 } (Pm D cI cS Z K [.ref (Z + 183), .int a1] σ) (Qz D cI cS Z K r σ) 0 0 (aZ Z) := by
  refine mm_met (lv := [(0, .ref (Z + 183)), (1, .int a1)]) (by decide) (Nat.le_of_ble_eq_true rfl) rfl ?_
  intro p e s m args below meth c ls hx hb hr hml hts hown hlocks hG hl hI hS
  have hown : s.vm.findClass RX8 = some m.cls := hown
  rw [f_X8_isLift] at hf
  refine lv_iload_n hx hb dX8_isLift_0 rfl (lv_at hl 1 rfl) ?_
  refine lv_iconst (v := 0) hx hb dX8_isLift_1 (by decide) ?_
  refine lv_iconst (v := 1) hx hb dX8_isLift_2 (by decide) ?_
  refine lv_aload_n hx hb dX8_isLift_3 rfl (lv_at hl 0 rfl) ?_
  refine gX8_7 (o' := 184) hx hb hts hown hG hI hL rfl dX8_isLift_4 ?_
  refine lv_iconst (v := 0) hx hb dX8_isLift_7 (by decide) ?_
  refine mm_ald (k := 0) (n := 456) hx hb hG hI (ly_at hL 1 rfl) (by decide) rfl dX8_isLift_8 ?_
  refine lv_ishl hx hb dX8_isLift_9 ?_
  refine lv_iconst (v := 1) hx hb dX8_isLift_10 (by decide) ?_
  refine lv_isub hx hb dX8_isLift_11 ?_
  obtain ⟨r_1, hr_1, hf⟩ := bi_e hf
  refine kX8_39 hx hb hml hts hown hG hI hS hl.1 (As := [.int a1, .int 0, .int ((1 <<< ((σ 184 0) &&& 31)) - 1)]) (c_X8_in l D cI cS Z K a1 0 ((1 <<< ((σ 184 0) &&& 31)) - 1) σ _ hr_1) ⟨(Nat.le_of_ble_eq_true rfl), (Nat.le_of_ble_eq_true rfl)⟩ rfl (Nat.le_of_ble_eq_true rfl) ⟨(Nat.le_of_ble_eq_true rfl), (Nat.le_of_ble_eq_true rfl)⟩ dX8_isLift_12 (fun hzr_1 H locs hI hS => ?_)
  obtain rfl := so_e hf
  exact mm_zret hx hb hr hlocks hzr_1 hI hS dX8_isLift_15
def f_X8_isColor (a1 : Int32) (σ : Nat → Nat → Int32) : Option Int32 := bi (f_X8_in a1 0 9 σ) fun r_1 => some r_1
set_option maxHeartbeats 4000000 in
set_option maxRecDepth 100000 in
theorem c_X8_isColor (l : Launch) (D : va_G) (cI cS : ClassId) (Z : Nat) (K : Nat → Nat) (a1 : Int32) (σ : Nat → Nat → Int32) (r : Int32) (hf : f_X8_isColor a1 σ = some r) : Met l yX8_isColor (wsT yX8_isColor cX8_isColor 1 (some .boolean)) { frames := 1, cells := 0, slots := 0, locals := 22 } (Pm D cI cS Z K [.int a1] σ) (Qz D cI cS Z K r σ) 0 0 (aZ Z) := by
  refine mm_met (lv := [(0, .int a1)]) (by decide) (Nat.le_of_ble_eq_true rfl) rfl ?_
  intro p e s m args below meth c ls hx hb hr hml hts hown hlocks hG hl hI hS
  have hown : s.vm.findClass RX8 = some m.cls := hown
  rw [f_X8_isColor] at hf
  refine lv_iload_n hx hb dX8_isColor_0 rfl (lv_at hl 0 rfl) ?_
  refine lv_iconst (v := 0) hx hb dX8_isColor_1 (by decide) ?_
  refine lv_bipush (v := 9) hx hb dX8_isColor_2 (by decide) ?_
  obtain ⟨r_1, hr_1, hf⟩ := bi_e hf
  refine kX8_39 hx hb hml hts hown hG hI hS hl.1 (As := [.int a1, .int 0, .int 9]) (c_X8_in l D cI cS Z K a1 0 9 σ _ hr_1) ⟨(Nat.le_of_ble_eq_true rfl), (Nat.le_of_ble_eq_true rfl)⟩ rfl (Nat.le_of_ble_eq_true rfl) ⟨(Nat.le_of_ble_eq_true rfl), (Nat.le_of_ble_eq_true rfl)⟩ dX8_isColor_4 (fun hzr_1 H locs hI hS => ?_)
  obtain rfl := so_e hf
  exact mm_zret hx hb hr hlocks hzr_1 hI hS dX8_isColor_7
def f_X8_makeBar (a1 : Int32) (a2 : Int32) (a3 : Int32) (σ : Nat → Nat → Int32) : Option (Nat → Nat → Int32) := ix (78 + a1) 456 <| vl (wr σ 184 (78 + a1).toNatClampNeg a2) fun σ_1 => ix (102 + a1) 456 <| vl (wr σ_1 184 (102 + a1).toNatClampNeg a3) fun σ_2 => some σ_2
set_option maxHeartbeats 4000000 in
set_option maxRecDepth 100000 in
theorem c_X8_makeBar (l : Launch) (D : va_G) (cI cS : ClassId) (Z : Nat) (K : Nat → Nat) (hL : ly K 183 lyModel) (a1 : Int32) (a2 : Int32) (a3 : Int32) (σ : Nat → Nat → Int32) (σ' : Nat → Nat → Int32) (hf : f_X8_makeBar a1 a2 a3 σ = some σ') : Met l yX8_makeBar (wsT yX8_makeBar cX8_makeBar 4 none) { frames := 0, cells := 0, slots := 0, locals := 0 } (Pm D cI cS Z K [.ref (Z + 183), .int a1, .int a2, .int a3] σ) (Qv D cI cS Z K σ') 0 0 (aZ Z) := by
  refine mm_met (lv := [(0, .ref (Z + 183)), (1, .int a1), (2, .int a2), (3, .int a3)]) (by decide) (Nat.le_of_ble_eq_true rfl) rfl ?_
  intro p e s m args below meth c ls hx hb hr hml hts hown hlocks hG hl hI hS
  have hown : s.vm.findClass RX8 = some m.cls := hown
  rw [f_X8_makeBar] at hf
  refine lv_aload_n hx hb dX8_makeBar_0 rfl (lv_at hl 0 rfl) ?_
  refine gX8_7 (o' := 184) hx hb hts hown hG hI hL rfl dX8_makeBar_1 ?_
  refine lv_bipush (v := 78) hx hb dX8_makeBar_4 (by decide) ?_
  refine lv_iload_n hx hb dX8_makeBar_6 rfl (lv_at hl 1 rfl) ?_
  refine lv_iadd hx hb dX8_makeBar_7 ?_
  refine lv_iload_n hx hb dX8_makeBar_8 rfl (lv_at hl 2 rfl) ?_
  obtain ⟨hix, hf⟩ := ix_e hf
  obtain ⟨σ_1, eσ_1, hf⟩ := vl_e hf
  refine mm_ast hx hb hG hI hS (ly_at hL 1 rfl) hix rfl dX8_makeBar_9 (fun H locs hI hS => ?_)
  rw [← eσ_1] at hI
  refine lv_aload_n hx hb dX8_makeBar_10 rfl (lv_at hl 0 rfl) ?_
  refine gX8_7 (o' := 184) hx hb hts hown hG hI hL rfl dX8_makeBar_11 ?_
  refine lv_bipush (v := 102) hx hb dX8_makeBar_14 (by decide) ?_
  refine lv_iload_n hx hb dX8_makeBar_16 rfl (lv_at hl 1 rfl) ?_
  refine lv_iadd hx hb dX8_makeBar_17 ?_
  refine lv_iload_n hx hb dX8_makeBar_18 rfl (lv_at hl 3 rfl) ?_
  obtain ⟨hix, hf⟩ := ix_e hf
  obtain ⟨σ_2, eσ_2, hf⟩ := vl_e hf
  refine mm_ast hx hb hG hI hS (ly_at hL 1 rfl) hix rfl dX8_makeBar_19 (fun H locs hI hS => ?_)
  rw [← eσ_2] at hI
  obtain rfl := so_e hf
  exact mm_vret hx hb hr hlocks hI hS dX8_makeBar_20
def f_X8_addBar (a1 : Int32) (a2 : Int32) (σ : Nat → Nat → Int32) : Option (Int32 × (Nat → Nat → Int32)) := vl (wr σ 183 0 0) fun σ_1 => bi (f_X8_isLift a1 σ_1) fun r_2 => if r_2 = 0 then (some ((-1), σ_1)) else (bi (f_X8_isColor a2 σ_1) fun r_3 => if r_3 = 0 then (some ((-1), σ_1)) else (if (σ_1 184 2) = 24 then (some ((-3), σ_1)) else (bi (f_X8_act σ_1) fun σ_5 => vl (α := Int32) (if (σ_5 184 2) = 0 then (0) else (σ_5 184 3)) fun v_7 => vl (wr σ_5 184 3 v_7) fun σ_10 => bi (f_X8_makeBar (σ_10 184 2) a1 a2 σ_10) fun σ_12 => vl (wr σ_12 184 2 ((σ_12 184 2) + 1)) fun σ_13 => some ((σ_13 184 2) - 1, σ_13))))
set_option maxHeartbeats 4000000 in
set_option maxRecDepth 100000 in
theorem c_X8_addBar (l : Launch) (D : va_G) (cI cS : ClassId) (Z : Nat) (K : Nat → Nat) (hL : ly K 183 lyModel) (a1 : Int32) (a2 : Int32) (σ : Nat → Nat → Int32) (r : Int32) (σ' : Nat → Nat → Int32) (hf : f_X8_addBar a1 a2 σ = some (r, σ')) : Met l yX8_addBar (wsT yX8_addBar cX8_addBar 3 (some .int)) { frames := 2, cells := 0, slots := 0, locals := 43 } (Pm D cI cS Z K [.ref (Z + 183), .int a1, .int a2] σ) (Qi D cI cS Z K r σ') 0 0 (aZ Z) := by
  refine mm_met (lv := [(0, .ref (Z + 183)), (1, .int a1), (2, .int a2)]) (by decide) (Nat.le_of_ble_eq_true rfl) rfl ?_
  intro p e s m args below meth c ls hx hb hr hml hts hown hlocks hG hl hI hS
  have hown : s.vm.findClass RX8 = some m.cls := hown
  rw [f_X8_addBar] at hf
  refine lv_aload_n hx hb dX8_addBar_0 rfl (lv_at hl 0 rfl) ?_
  refine lv_iconst (v := 0) hx hb dX8_addBar_1 (by decide) ?_
  obtain ⟨σ_1, eσ_1, hf⟩ := vl_e hf
  refine pX8_28 hx hb hts hown hG hI hS hL dX8_addBar_2 (fun H locs hI hS => ?_)
  rw [← eσ_1] at hI
  refine lv_aload_n hx hb dX8_addBar_5 rfl (lv_at hl 0 rfl) ?_
  refine lv_iload_n hx hb dX8_addBar_6 rfl (lv_at hl 1 rfl) ?_
  obtain ⟨r_2, hr_2, hf⟩ := bi_e hf
  refine kX8_60 hx hb hml hts hown hG hI hS hl.1 hL (As := [.int a1]) (c_X8_isLift l D cI cS Z K hL a1 σ_1 _ hr_2) ⟨(Nat.le_of_ble_eq_true rfl), (Nat.le_of_ble_eq_true rfl)⟩ rfl (Nat.le_of_ble_eq_true rfl) ⟨(Nat.le_of_ble_eq_true rfl), (Nat.le_of_ble_eq_true rfl)⟩ dX8_addBar_7 (fun hzr_2 H locs hI hS => ?_)
  refine lv_if_eq (tgt := 20) hx hb dX8_addBar_10 (by decide) (fun c_17 => ?_) (fun c_17 => ?_)
  · have hf := pos_e c_17 hf
    refine lv_iconst (v := (-1)) hx hb dX8_addBar_20 (by decide) ?_
    obtain ⟨rfl, rfl⟩ := sp_e hf
    exact mm_ret hx hb hr hlocks rfl hI hS dX8_addBar_21
  · have hf := neg_e c_17 hf
    refine lv_iload_n hx hb dX8_addBar_13 rfl (lv_at hl 2 rfl) ?_
    obtain ⟨r_3, hr_3, hf⟩ := bi_e hf
    refine kX8_53 hx hb hml hts hown hG hI hS hl.1 (As := [.int a2]) (c_X8_isColor l D cI cS Z K a2 σ_1 _ hr_3) ⟨(Nat.le_of_ble_eq_true rfl), (Nat.le_of_ble_eq_true rfl)⟩ rfl (Nat.le_of_ble_eq_true rfl) ⟨(Nat.le_of_ble_eq_true rfl), (Nat.le_of_ble_eq_true rfl)⟩ dX8_addBar_14 (fun hzr_3 H locs hI hS => ?_)
    refine lv_if_ne (tgt := 22) hx hb dX8_addBar_17 (by decide) (fun c_16 => ?_) (fun c_16 => ?_)
    · have hf := neg_e c_16 hf
      refine lv_aload_n hx hb dX8_addBar_22 rfl (lv_at hl 0 rfl) ?_
      refine gX8_7 (o' := 184) hx hb hts hown hG hI hL rfl dX8_addBar_23 ?_
      refine lv_iconst (v := 2) hx hb dX8_addBar_26 (by decide) ?_
      refine mm_ald (k := 2) (n := 456) hx hb hG hI (ly_at hL 1 rfl) (by decide) rfl dX8_addBar_27 ?_
      refine lv_bipush (v := 24) hx hb dX8_addBar_28 (by decide) ?_
      refine lv_icmp_ne (tgt := 36) hx hb dX8_addBar_30 (by decide) (fun c_15 => ?_) (fun c_15 => ?_)
      · have hf := neg_e c_15 hf
        refine lv_aload_n hx hb dX8_addBar_36 rfl (lv_at hl 0 rfl) ?_
        obtain ⟨σ_5, hσ_5, hf⟩ := bi_e hf
        refine kX8_43 hx hb hml hts hown hG hI hS hl.1 hL (As := []) (c_X8_act l D cI cS Z K hL σ_1 _ hσ_5) ⟨(Nat.le_of_ble_eq_true rfl), (Nat.le_of_ble_eq_true rfl)⟩ rfl (Nat.le_of_ble_eq_true rfl) ⟨(Nat.le_of_ble_eq_true rfl), (Nat.le_of_ble_eq_true rfl)⟩ dX8_addBar_37 (fun H locs hI hS => ?_)
        refine lv_aload_n hx hb dX8_addBar_40 rfl (lv_at hl 0 rfl) ?_
        refine gX8_7 (o' := 184) hx hb hts hown hG hI hL rfl dX8_addBar_41 ?_
        refine lv_iconst (v := 3) hx hb dX8_addBar_44 (by decide) ?_
        refine lv_aload_n hx hb dX8_addBar_45 rfl (lv_at hl 0 rfl) ?_
        refine gX8_7 (o' := 184) hx hb hts hown hG hI hL rfl dX8_addBar_46 ?_
        refine lv_iconst (v := 2) hx hb dX8_addBar_49 (by decide) ?_
        refine mm_ald (k := 2) (n := 456) hx hb hG hI (ly_at hL 1 rfl) (by decide) rfl dX8_addBar_50 ?_
        obtain ⟨v_7, ev_7, hf⟩ := vl_e hf
        have HJ_9 : ∀ (H : Heap) (locs : List Loc) (ls : Array Slot), fI D cI cS Z K σ_5 H → va_S (aZ Z) s.heap H locs → lv_has ls 3 [(0, .ref (Z + 183)), (1, .int a1), (2, .int a2)] → W p l e { frames := 2, cells := 0, slots := 0, locals := 43 } s m args below meth c H locs 0 0 (MQ below (Qi D cI cS Z K r σ') args s 0 0 (aZ Z)) (F0 m 64 ls [.int v_7, .int 3, .ref (Z + 184)]) := by
          intro H locs ls hI hS hl
          obtain ⟨σ_10, eσ_10, hf⟩ := vl_e hf
          refine mm_ast (k := 3) (n := 456) hx hb hG hI hS (ly_at hL 1 rfl) (by decide) rfl dX8_addBar_64 (fun H locs hI hS => ?_)
          rw [← eσ_10] at hI
          refine lv_aload_n hx hb dX8_addBar_65 rfl (lv_at hl 0 rfl) ?_
          refine lv_aload_n hx hb dX8_addBar_66 rfl (lv_at hl 0 rfl) ?_
          refine gX8_7 (o' := 184) hx hb hts hown hG hI hL rfl dX8_addBar_67 ?_
          refine lv_iconst (v := 2) hx hb dX8_addBar_70 (by decide) ?_
          refine mm_ald (k := 2) (n := 456) hx hb hG hI (ly_at hL 1 rfl) (by decide) rfl dX8_addBar_71 ?_
          refine lv_iload_n hx hb dX8_addBar_72 rfl (lv_at hl 1 rfl) ?_
          refine lv_iload_n hx hb dX8_addBar_73 rfl (lv_at hl 2 rfl) ?_
          obtain ⟨σ_12, hσ_12, hf⟩ := bi_e hf
          refine kX8_63 hx hb hml hts hown hG hI hS hl.1 hL (As := [.int (σ_10 184 2), .int a1, .int a2]) (c_X8_makeBar l D cI cS Z K hL (σ_10 184 2) a1 a2 σ_10 _ hσ_12) ⟨(Nat.le_of_ble_eq_true rfl), (Nat.le_of_ble_eq_true rfl)⟩ rfl (Nat.le_of_ble_eq_true rfl) ⟨(Nat.le_of_ble_eq_true rfl), (Nat.le_of_ble_eq_true rfl)⟩ dX8_addBar_74 (fun H locs hI hS => ?_)
          refine lv_aload_n hx hb dX8_addBar_77 rfl (lv_at hl 0 rfl) ?_
          refine gX8_7 (o' := 184) hx hb hts hown hG hI hL rfl dX8_addBar_78 ?_
          refine lv_iconst (v := 2) hx hb dX8_addBar_81 (by decide) ?_
          refine lv_dup2_11 hx hb dX8_addBar_82 rfl rfl ?_
          refine mm_ald (k := 2) (n := 456) hx hb hG hI (ly_at hL 1 rfl) (by decide) rfl dX8_addBar_83 ?_
          refine lv_iconst (v := 1) hx hb dX8_addBar_84 (by decide) ?_
          refine lv_iadd hx hb dX8_addBar_85 ?_
          obtain ⟨σ_13, eσ_13, hf⟩ := vl_e hf
          refine mm_ast (k := 2) (n := 456) hx hb hG hI hS (ly_at hL 1 rfl) (by decide) rfl dX8_addBar_86 (fun H locs hI hS => ?_)
          rw [← eσ_13] at hI
          refine lv_aload_n hx hb dX8_addBar_87 rfl (lv_at hl 0 rfl) ?_
          refine gX8_7 (o' := 184) hx hb hts hown hG hI hL rfl dX8_addBar_88 ?_
          refine lv_iconst (v := 2) hx hb dX8_addBar_91 (by decide) ?_
          refine mm_ald (k := 2) (n := 456) hx hb hG hI (ly_at hL 1 rfl) (by decide) rfl dX8_addBar_92 ?_
          refine lv_iconst (v := 1) hx hb dX8_addBar_93 (by decide) ?_
          refine lv_isub hx hb dX8_addBar_94 ?_
          obtain ⟨rfl, rfl⟩ := sp_e hf
          exact mm_ret hx hb hr hlocks rfl hI hS dX8_addBar_95
        clear hf
        have hf := ev_7.symm
        refine lv_if_ne (tgt := 58) hx hb dX8_addBar_51 (by decide) (fun c_14 => ?_) (fun c_14 => ?_)
        · have hf := neg_e c_14 hf
          refine lv_aload_n hx hb dX8_addBar_58 rfl (lv_at hl 0 rfl) ?_
          refine gX8_7 (o' := 184) hx hb hts hown hG hI hL rfl dX8_addBar_59 ?_
          refine lv_iconst (v := 3) hx hb dX8_addBar_62 (by decide) ?_
          refine mm_ald (k := 3) (n := 456) hx hb hG hI (ly_at hL 1 rfl) (by decide) rfl dX8_addBar_63 ?_
          refine mm_name hf.symm ?_
          exact HJ_9 _ _ _ hI hS (lv_sub hl [0, 1, 2] rfl)
        · have hf := pos_e c_14 hf
          refine lv_iconst (v := 0) hx hb dX8_addBar_54 (by decide) ?_
          refine lv_goto (tgt := 64) hx hb dX8_addBar_55 (by decide) ?_
          refine mm_name hf.symm ?_
          exact HJ_9 _ _ _ hI hS (lv_sub hl [0, 1, 2] rfl)
      · have hf := pos_e c_15 hf
        refine lv_bipush (v := (-3)) hx hb dX8_addBar_33 (by decide) ?_
        obtain ⟨rfl, rfl⟩ := sp_e hf
        exact mm_ret hx hb hr hlocks rfl hI hS dX8_addBar_35
    · have hf := pos_e c_16 hf
      refine lv_iconst (v := (-1)) hx hb dX8_addBar_20 (by decide) ?_
      obtain ⟨rfl, rfl⟩ := sp_e hf
      exact mm_ret hx hb hr hlocks rfl hI hS dX8_addBar_21
def f_X8_allEnds  (σ : Nat → Nat → Int32) : Option Int32 := if (σ 184 1) = 32 then (some (-1)) else (some ((1 <<< ((σ 184 1) &&& 31)) - 1))
set_option maxHeartbeats 4000000 in
set_option maxRecDepth 100000 in
theorem c_X8_allEnds (l : Launch) (D : va_G) (cI cS : ClassId) (Z : Nat) (K : Nat → Nat) (hL : ly K 183 lyModel) (σ : Nat → Nat → Int32) (r : Int32) (hf : f_X8_allEnds σ = some r) : Met l yX8_allEnds (wsT yX8_allEnds cX8_allEnds 1 (some .int)) { frames := 0, cells := 0, slots := 0, locals := 0 } (Pm D cI cS Z K [.ref (Z + 183)] σ) (Qi D cI cS Z K r σ) 0 0 (aZ Z) := by
  refine mm_met (lv := [(0, .ref (Z + 183))]) (by decide) (Nat.le_of_ble_eq_true rfl) rfl ?_
  intro p e s m args below meth c ls hx hb hr hml hts hown hlocks hG hl hI hS
  have hown : s.vm.findClass RX8 = some m.cls := hown
  rw [f_X8_allEnds] at hf
  refine lv_aload_n hx hb dX8_allEnds_0 rfl (lv_at hl 0 rfl) ?_
  refine gX8_7 (o' := 184) hx hb hts hown hG hI hL rfl dX8_allEnds_1 ?_
  refine lv_iconst (v := 1) hx hb dX8_allEnds_4 (by decide) ?_
  refine mm_ald (k := 1) (n := 456) hx hb hG hI (ly_at hL 1 rfl) (by decide) rfl dX8_allEnds_5 ?_
  refine lv_bipush (v := 32) hx hb dX8_allEnds_6 (by decide) ?_
  refine lv_icmp_ne (tgt := 15) hx hb dX8_allEnds_8 (by decide) (fun c_1 => ?_) (fun c_1 => ?_)
  · have hf := neg_e c_1 hf
    refine lv_iconst (v := 1) hx hb dX8_allEnds_15 (by decide) ?_
    refine lv_aload_n hx hb dX8_allEnds_16 rfl (lv_at hl 0 rfl) ?_
    refine gX8_7 (o' := 184) hx hb hts hown hG hI hL rfl dX8_allEnds_17 ?_
    refine lv_iconst (v := 1) hx hb dX8_allEnds_20 (by decide) ?_
    refine mm_ald (k := 1) (n := 456) hx hb hG hI (ly_at hL 1 rfl) (by decide) rfl dX8_allEnds_21 ?_
    refine lv_ishl hx hb dX8_allEnds_22 ?_
    refine lv_iconst (v := 1) hx hb dX8_allEnds_23 (by decide) ?_
    refine lv_isub hx hb dX8_allEnds_24 ?_
    obtain rfl := so_e hf
    exact mm_ret hx hb hr hlocks rfl hI hS dX8_allEnds_25
  · have hf := pos_e c_1 hf
    refine lv_iconst (v := (-1)) hx hb dX8_allEnds_11 (by decide) ?_
    refine lv_goto (tgt := 25) hx hb dX8_allEnds_12 (by decide) ?_
    obtain rfl := so_e hf
    exact mm_ret hx hb hr hlocks rfl hI hS dX8_allEnds_25
def f_X8_of (a1 : Int32) (a2 : Int32) (σ : Nat → Nat → Int32) : Option Int32 := ix ((136 + (5 * a1)) + a2) 456 <| some (σ 184 ((136 + (5 * a1)) + a2).toNatClampNeg)
set_option maxHeartbeats 4000000 in
set_option maxRecDepth 100000 in
theorem c_X8_of (l : Launch) (D : va_G) (cI cS : ClassId) (Z : Nat) (K : Nat → Nat) (hL : ly K 183 lyModel) (a1 : Int32) (a2 : Int32) (σ : Nat → Nat → Int32) (r : Int32) (hf : f_X8_of a1 a2 σ = some r) : Met l yX8_of (wsT yX8_of cX8_of 3 (some .int)) { frames := 0, cells := 0, slots := 0, locals := 0 } (Pm D cI cS Z K [.ref (Z + 183), .int a1, .int a2] σ) (Qi D cI cS Z K r σ) 0 0 (aZ Z) := by
  refine mm_met (lv := [(0, .ref (Z + 183)), (1, .int a1), (2, .int a2)]) (by decide) (Nat.le_of_ble_eq_true rfl) rfl ?_
  intro p e s m args below meth c ls hx hb hr hml hts hown hlocks hG hl hI hS
  have hown : s.vm.findClass RX8 = some m.cls := hown
  rw [f_X8_of] at hf
  refine lv_aload_n hx hb dX8_of_0 rfl (lv_at hl 0 rfl) ?_
  refine gX8_7 (o' := 184) hx hb hts hown hG hI hL rfl dX8_of_1 ?_
  refine lv_sipush (v := 136) hx hb dX8_of_4 (by decide) ?_
  refine lv_iconst (v := 5) hx hb dX8_of_7 (by decide) ?_
  refine lv_iload_n hx hb dX8_of_8 rfl (lv_at hl 1 rfl) ?_
  refine lv_imul hx hb dX8_of_9 ?_
  refine lv_iadd hx hb dX8_of_10 ?_
  refine lv_iload_n hx hb dX8_of_11 rfl (lv_at hl 2 rfl) ?_
  refine lv_iadd hx hb dX8_of_12 ?_
  obtain ⟨hix, hf⟩ := ix_e hf
  refine mm_ald hx hb hG hI (ly_at hL 1 rfl) hix rfl dX8_of_13 ?_
  obtain rfl := so_e hf
  exact mm_ret hx hb hr hlocks rfl hI hS dX8_of_14
def f_X8_wrong (a1 : Int32) (σ : Nat → Nat → Int32) : Option Int32 := bi (f_X8_allEnds σ) fun r_1 => bi (f_X8_of a1 3 σ) fun r_2 => bi (f_X8_of a1 2 σ) fun r_3 => bi (f_X8_of a1 4 σ) fun r_4 => bi (f_X8_of a1 3 σ) fun r_5 => some ((r_1 &&& (r_2 ^^^ (-1))) ||| (r_3 ^^^ (r_4 &&& r_5)))
set_option maxHeartbeats 4000000 in
set_option maxRecDepth 100000 in
theorem c_X8_wrong (l : Launch) (D : va_G) (cI cS : ClassId) (Z : Nat) (K : Nat → Nat) (hL : ly K 183 lyModel) (a1 : Int32) (σ : Nat → Nat → Int32) (r : Int32) (hf : f_X8_wrong a1 σ = some r) : Met l yX8_wrong (wsT yX8_wrong cX8_wrong 2 (some .int)) { frames := 1, cells := 0, slots := 0, locals := 22 } (Pm D cI cS Z K [.ref (Z + 183), .int a1] σ) (Qi D cI cS Z K r σ) 0 0 (aZ Z) := by
  refine mm_met (lv := [(0, .ref (Z + 183)), (1, .int a1)]) (by decide) (Nat.le_of_ble_eq_true rfl) rfl ?_
  intro p e s m args below meth c ls hx hb hr hml hts hown hlocks hG hl hI hS
  have hown : s.vm.findClass RX8 = some m.cls := hown
  rw [f_X8_wrong] at hf
  refine lv_aload_n hx hb dX8_wrong_0 rfl (lv_at hl 0 rfl) ?_
  obtain ⟨r_1, hr_1, hf⟩ := bi_e hf
  refine kX8_136 hx hb hml hts hown hG hI hS hl.1 hL (As := []) (c_X8_allEnds l D cI cS Z K hL σ _ hr_1) ⟨(Nat.le_of_ble_eq_true rfl), (Nat.le_of_ble_eq_true rfl)⟩ rfl (Nat.le_of_ble_eq_true rfl) ⟨(Nat.le_of_ble_eq_true rfl), (Nat.le_of_ble_eq_true rfl)⟩ dX8_wrong_1 (fun H locs hI hS => ?_)
  refine lv_aload_n hx hb dX8_wrong_4 rfl (lv_at hl 0 rfl) ?_
  refine lv_iload_n hx hb dX8_wrong_5 rfl (lv_at hl 1 rfl) ?_
  refine lv_iconst (v := 3) hx hb dX8_wrong_6 (by decide) ?_
  obtain ⟨r_2, hr_2, hf⟩ := bi_e hf
  refine kX8_133 hx hb hml hts hown hG hI hS hl.1 hL (As := [.int a1, .int 3]) (c_X8_of l D cI cS Z K hL a1 3 σ _ hr_2) ⟨(Nat.le_of_ble_eq_true rfl), (Nat.le_of_ble_eq_true rfl)⟩ rfl (Nat.le_of_ble_eq_true rfl) ⟨(Nat.le_of_ble_eq_true rfl), (Nat.le_of_ble_eq_true rfl)⟩ dX8_wrong_7 (fun H locs hI hS => ?_)
  refine lv_iconst (v := (-1)) hx hb dX8_wrong_10 (by decide) ?_
  refine lv_ixor hx hb dX8_wrong_11 ?_
  refine lv_iand hx hb dX8_wrong_12 ?_
  refine lv_aload_n hx hb dX8_wrong_13 rfl (lv_at hl 0 rfl) ?_
  refine lv_iload_n hx hb dX8_wrong_14 rfl (lv_at hl 1 rfl) ?_
  refine lv_iconst (v := 2) hx hb dX8_wrong_15 (by decide) ?_
  obtain ⟨r_3, hr_3, hf⟩ := bi_e hf
  refine kX8_133 hx hb hml hts hown hG hI hS hl.1 hL (As := [.int a1, .int 2]) (c_X8_of l D cI cS Z K hL a1 2 σ _ hr_3) ⟨(Nat.le_of_ble_eq_true rfl), (Nat.le_of_ble_eq_true rfl)⟩ rfl (Nat.le_of_ble_eq_true rfl) ⟨(Nat.le_of_ble_eq_true rfl), (Nat.le_of_ble_eq_true rfl)⟩ dX8_wrong_16 (fun H locs hI hS => ?_)
  refine lv_aload_n hx hb dX8_wrong_19 rfl (lv_at hl 0 rfl) ?_
  refine lv_iload_n hx hb dX8_wrong_20 rfl (lv_at hl 1 rfl) ?_
  refine lv_iconst (v := 4) hx hb dX8_wrong_21 (by decide) ?_
  obtain ⟨r_4, hr_4, hf⟩ := bi_e hf
  refine kX8_133 hx hb hml hts hown hG hI hS hl.1 hL (As := [.int a1, .int 4]) (c_X8_of l D cI cS Z K hL a1 4 σ _ hr_4) ⟨(Nat.le_of_ble_eq_true rfl), (Nat.le_of_ble_eq_true rfl)⟩ rfl (Nat.le_of_ble_eq_true rfl) ⟨(Nat.le_of_ble_eq_true rfl), (Nat.le_of_ble_eq_true rfl)⟩ dX8_wrong_22 (fun H locs hI hS => ?_)
  refine lv_aload_n hx hb dX8_wrong_25 rfl (lv_at hl 0 rfl) ?_
  refine lv_iload_n hx hb dX8_wrong_26 rfl (lv_at hl 1 rfl) ?_
  refine lv_iconst (v := 3) hx hb dX8_wrong_27 (by decide) ?_
  obtain ⟨r_5, hr_5, hf⟩ := bi_e hf
  refine kX8_133 hx hb hml hts hown hG hI hS hl.1 hL (As := [.int a1, .int 3]) (c_X8_of l D cI cS Z K hL a1 3 σ _ hr_5) ⟨(Nat.le_of_ble_eq_true rfl), (Nat.le_of_ble_eq_true rfl)⟩ rfl (Nat.le_of_ble_eq_true rfl) ⟨(Nat.le_of_ble_eq_true rfl), (Nat.le_of_ble_eq_true rfl)⟩ dX8_wrong_28 (fun H locs hI hS => ?_)
  refine lv_iand hx hb dX8_wrong_31 ?_
  refine lv_ixor hx hb dX8_wrong_32 ?_
  refine lv_ior hx hb dX8_wrong_33 ?_
  obtain rfl := so_e hf
  exact mm_ret hx hb hr hlocks rfl hI hS dX8_wrong_34
def b_X8_sizeOf_4  : Int32 × Int32 → Option ((Int32 × Int32) ⊕ (Int32))
  | (y_1, y_2) => if y_2 = 0 then (some (.inr y_1)) else (vl (y_1 + 1) fun x_13 => vl (y_2 &&& (y_2 - 1)) fun x_14 => some (.inl (x_13, x_14)))
def f_X8_sizeOf (a1 : Int32) (σ : Nat → Nat → Int32) : Option Int32 := bi (lp (b_X8_sizeOf_4) FU (0, a1)) fun z_3 => some z_3
set_option maxHeartbeats 4000000 in
set_option maxRecDepth 100000 in
theorem c_X8_sizeOf (l : Launch) (D : va_G) (cI cS : ClassId) (Z : Nat) (K : Nat → Nat) (a1 : Int32) (σ : Nat → Nat → Int32) (r : Int32) (hf : f_X8_sizeOf a1 σ = some r) : Met l yX8_sizeOf (wsT yX8_sizeOf cX8_sizeOf 3 (some .int)) { frames := 0, cells := 0, slots := 0, locals := 0 } (Pm D cI cS Z K [.int a1] σ) (Qi D cI cS Z K r σ) 0 0 (aZ Z) := by
  refine mm_met (lv := [(0, .int a1)]) (by decide) (Nat.le_of_ble_eq_true rfl) rfl ?_
  intro p e s m args below meth c ls hx hb hr hml hts hown hlocks hG hl hI hS
  have hown : s.vm.findClass RX8 = some m.cls := hown
  rw [f_X8_sizeOf] at hf
  refine lv_iconst (v := 0) hx hb dX8_sizeOf_0 (by decide) ?_
  refine lv_istore_n (lv' := [(1, .int 0), (0, .int a1)]) hx hb dX8_sizeOf_1 rfl hl (by decide) rfl (fun ls hl => ?_)
  refine lv_iload_n hx hb dX8_sizeOf_2 rfl (lv_at hl 1 rfl) ?_
  refine lv_istore_n (lv' := [(2, .int a1), (1, .int 0), (0, .int a1)]) hx hb dX8_sizeOf_3 rfl hl (by decide) rfl (fun ls hl => ?_)
  have L_5 : ∀ (nn : Nat) (y_1 : Int32) (y_2 : Int32) (z_3 : Int32), lp (b_X8_sizeOf_4) nn (y_1, y_2) = some z_3 → (∀ (H : Heap) (locs : List Loc) (ls : Array Slot), fI D cI cS Z K σ H → va_S (aZ Z) s.heap H locs → lv_has ls 3 [(1, .int z_3)] → W p l e { frames := 0, cells := 0, slots := 0, locals := 0 } s m args below meth c H locs 0 0 (MQ below (Qi D cI cS Z K r σ) args s 0 0 (aZ Z)) (F0 m 20 ls [])) → ∀ (H : Heap) (locs : List Loc) (ls : Array Slot), fI D cI cS Z K σ H → va_S (aZ Z) s.heap H locs → lv_has ls 3 [(1, .int y_1), (2, .int y_2)] → W p l e { frames := 0, cells := 0, slots := 0, locals := 0 } s m args below meth c H locs 0 0 (MQ below (Qi D cI cS Z K r σ) args s 0 0 (aZ Z)) (F0 m 4 ls []) := by
    intro nn
    induction nn with
    | zero =>
      intro y_1 y_2 z_3 hq
      exact (lp_0 hq).elim
    | succ nn ih_6 =>
      intro y_1 y_2 z_3 hq kn_8 H locs ls hI hS hl
      obtain ⟨w_4, hf, hk_7⟩ := lp_e hq
      rw [b_X8_sizeOf_4] at hf
      have ih_6 := fun (y_1 : Int32) (y_2 : Int32) q => ih_6 y_1 y_2 z_3 q kn_8
      refine lv_iload_n hx hb dX8_sizeOf_4 rfl (lv_at hl 1 rfl) ?_
      refine lv_if_eq (tgt := 20) hx hb dX8_sizeOf_5 (by decide) (fun c_15 => ?_) (fun c_15 => ?_)
      · have hf := pos_e c_15 hf
        obtain rfl := so_e hf
        obtain rfl := lk_r hk_7
        exact kn_8 _ _ _ hI hS (lv_sub hl [0] rfl)
      · have hf := neg_e c_15 hf
        obtain ⟨x_13, ex_13, hf⟩ := vl_e hf
        refine lv_iinc (v := x_13) (lv' := [(1, .int x_13), (2, .int y_2)]) hx hb dX8_sizeOf_8 hl (k := 0) rfl (by rw [ex_13]; rfl) (by decide) rfl (fun ls hl => ?_)
        refine lv_iload_n hx hb dX8_sizeOf_11 rfl (lv_at hl 1 rfl) ?_
        refine lv_iload_n hx hb dX8_sizeOf_12 rfl (lv_at hl 1 rfl) ?_
        refine lv_iconst (v := 1) hx hb dX8_sizeOf_13 (by decide) ?_
        refine lv_isub hx hb dX8_sizeOf_14 ?_
        refine lv_iand hx hb dX8_sizeOf_15 ?_
        obtain ⟨x_14, ex_14, hf⟩ := vl_e hf
        refine mm_name ex_14 ?_
        refine lv_istore_n (lv' := [(2, .int x_14), (1, .int x_13)]) hx hb dX8_sizeOf_16 rfl hl (by decide) rfl (fun ls hl => ?_)
        refine lv_goto (tgt := 4) hx hb dX8_sizeOf_17 (by decide) ?_
        obtain rfl := so_e hf
        exact ih_6 x_13 x_14 hk_7 _ _ _ hI hS (lv_sub hl [1, 0] rfl)
  obtain ⟨z_3, hy, hf⟩ := bi_e hf
  refine L_5 FU 0 a1 _ hy ?_ _ _ _ hI hS (lv_sub hl [1, 0] rfl)
  clear L_5
  intro H locs ls hI hS hl
  refine lv_iload_n hx hb dX8_sizeOf_20 rfl (lv_at hl 0 rfl) ?_
  obtain rfl := so_e hf
  exact mm_ret hx hb hr hlocks rfl hI hS dX8_sizeOf_21
def b_X8_allWrong_4 (σ : Nat → Nat → Int32) : Int32 × Int32 → Option ((Int32 × Int32) ⊕ (Int32))
  | (y_1, y_2) => if (σ 184 5) ≤ y_2 then (some (.inr y_1)) else (bi (f_X8_wrong y_2 σ) fun r_15 => bi (f_X8_sizeOf r_15 σ) fun r_16 => vl (y_1 + r_16) fun x_17 => vl (y_2 + 1) fun x_18 => some (.inl (x_17, x_18)))
def f_X8_allWrong  (σ : Nat → Nat → Int32) : Option Int32 := bi (lp (b_X8_allWrong_4 σ) FU (0, 0)) fun z_3 => some z_3
set_option maxHeartbeats 4000000 in
set_option maxRecDepth 100000 in
theorem c_X8_allWrong (l : Launch) (D : va_G) (cI cS : ClassId) (Z : Nat) (K : Nat → Nat) (hL : ly K 183 lyModel) (σ : Nat → Nat → Int32) (r : Int32) (hf : f_X8_allWrong σ = some r) : Met l yX8_allWrong (wsT yX8_allWrong cX8_allWrong 3 (some .int)) { frames := 2, cells := 0, slots := 0, locals := 43 } (Pm D cI cS Z K [.ref (Z + 183)] σ) (Qi D cI cS Z K r σ) 0 0 (aZ Z) := by
  refine mm_met (lv := [(0, .ref (Z + 183))]) (by decide) (Nat.le_of_ble_eq_true rfl) rfl ?_
  intro p e s m args below meth c ls hx hb hr hml hts hown hlocks hG hl hI hS
  have hown : s.vm.findClass RX8 = some m.cls := hown
  rw [f_X8_allWrong] at hf
  refine lv_iconst (v := 0) hx hb dX8_allWrong_0 (by decide) ?_
  refine lv_istore_n (lv' := [(1, .int 0), (0, .ref (Z + 183))]) hx hb dX8_allWrong_1 rfl hl (by decide) rfl (fun ls hl => ?_)
  refine lv_iconst (v := 0) hx hb dX8_allWrong_2 (by decide) ?_
  refine lv_istore_n (lv' := [(2, .int 0), (1, .int 0), (0, .ref (Z + 183))]) hx hb dX8_allWrong_3 rfl hl (by decide) rfl (fun ls hl => ?_)
  have L_5 : ∀ (nn : Nat) (y_1 : Int32) (y_2 : Int32) (z_3 : Int32), lp (b_X8_allWrong_4 σ) nn (y_1, y_2) = some z_3 → (∀ (H : Heap) (locs : List Loc) (ls : Array Slot), fI D cI cS Z K σ H → va_S (aZ Z) s.heap H locs → lv_has ls 3 [(1, .int z_3)] → W p l e { frames := 2, cells := 0, slots := 0, locals := 43 } s m args below meth c H locs 0 0 (MQ below (Qi D cI cS Z K r σ) args s 0 0 (aZ Z)) (F0 m 31 ls [])) → ∀ (H : Heap) (locs : List Loc) (ls : Array Slot), fI D cI cS Z K σ H → va_S (aZ Z) s.heap H locs → lv_has ls 3 [(0, .ref (Z + 183)), (1, .int y_1), (2, .int y_2)] → W p l e { frames := 2, cells := 0, slots := 0, locals := 43 } s m args below meth c H locs 0 0 (MQ below (Qi D cI cS Z K r σ) args s 0 0 (aZ Z)) (F0 m 4 ls []) := by
    intro nn
    induction nn with
    | zero =>
      intro y_1 y_2 z_3 hq
      exact (lp_0 hq).elim
    | succ nn ih_6 =>
      intro y_1 y_2 z_3 hq kn_8 H locs ls hI hS hl
      obtain ⟨w_4, hf, hk_7⟩ := lp_e hq
      rw [b_X8_allWrong_4] at hf
      have ih_6 := fun (y_1 : Int32) (y_2 : Int32) q => ih_6 y_1 y_2 z_3 q kn_8
      refine lv_iload_n hx hb dX8_allWrong_4 rfl (lv_at hl 2 rfl) ?_
      refine lv_aload_n hx hb dX8_allWrong_5 rfl (lv_at hl 0 rfl) ?_
      refine gX8_7 (o' := 184) hx hb hts hown hG hI hL rfl dX8_allWrong_6 ?_
      refine lv_iconst (v := 5) hx hb dX8_allWrong_9 (by decide) ?_
      refine mm_ald (k := 5) (n := 456) hx hb hG hI (ly_at hL 1 rfl) (by decide) rfl dX8_allWrong_10 ?_
      refine lv_icmp_ge (tgt := 31) hx hb dX8_allWrong_11 (by decide) (fun c_19 => ?_) (fun c_19 => ?_)
      · have hf := pos_e c_19 hf
        obtain rfl := so_e hf
        obtain rfl := lk_r hk_7
        exact kn_8 _ _ _ hI hS (lv_sub hl [1] rfl)
      · have hf := neg_e c_19 hf
        refine lv_iload_n hx hb dX8_allWrong_14 rfl (lv_at hl 1 rfl) ?_
        refine lv_aload_n hx hb dX8_allWrong_15 rfl (lv_at hl 0 rfl) ?_
        refine lv_iload_n hx hb dX8_allWrong_16 rfl (lv_at hl 2 rfl) ?_
        obtain ⟨r_15, hr_15, hf⟩ := bi_e hf
        refine kX8_148 hx hb hml hts hown hG hI hS hl.1 hL (As := [.int y_2]) (c_X8_wrong l D cI cS Z K hL y_2 σ _ hr_15) ⟨(Nat.le_of_ble_eq_true rfl), (Nat.le_of_ble_eq_true rfl)⟩ rfl (Nat.le_of_ble_eq_true rfl) ⟨(Nat.le_of_ble_eq_true rfl), (Nat.le_of_ble_eq_true rfl)⟩ dX8_allWrong_17 (fun H locs hI hS => ?_)
        obtain ⟨r_16, hr_16, hf⟩ := bi_e hf
        refine kX8_151 hx hb hml hts hown hG hI hS hl.1 (As := [.int r_15]) (c_X8_sizeOf l D cI cS Z K r_15 σ _ hr_16) ⟨(Nat.le_of_ble_eq_true rfl), (Nat.le_of_ble_eq_true rfl)⟩ rfl (Nat.le_of_ble_eq_true rfl) ⟨(Nat.le_of_ble_eq_true rfl), (Nat.le_of_ble_eq_true rfl)⟩ dX8_allWrong_20 (fun H locs hI hS => ?_)
        refine lv_iadd hx hb dX8_allWrong_23 ?_
        obtain ⟨x_17, ex_17, hf⟩ := vl_e hf
        refine mm_name ex_17 ?_
        refine lv_istore_n (lv' := [(1, .int x_17), (0, .ref (Z + 183)), (2, .int y_2)]) hx hb dX8_allWrong_24 rfl hl (by decide) rfl (fun ls hl => ?_)
        obtain ⟨x_18, ex_18, hf⟩ := vl_e hf
        refine lv_iinc (v := x_18) (lv' := [(2, .int x_18), (1, .int x_17), (0, .ref (Z + 183))]) hx hb dX8_allWrong_25 hl (k := 2) rfl (by rw [ex_18]; rfl) (by decide) rfl (fun ls hl => ?_)
        refine lv_goto (tgt := 4) hx hb dX8_allWrong_28 (by decide) ?_
        obtain rfl := so_e hf
        exact ih_6 x_17 x_18 hk_7 _ _ _ hI hS (lv_sub hl [2, 1, 0] rfl)
  obtain ⟨z_3, hy, hf⟩ := bi_e hf
  refine L_5 FU 0 0 _ hy ?_ _ _ _ hI hS (lv_sub hl [2, 1, 0] rfl)
  clear L_5
  intro H locs ls hI hS hl
  refine lv_iload_n hx hb dX8_allWrong_31 rfl (lv_at hl 0 rfl) ?_
  obtain rfl := so_e hf
  exact mm_ret hx hb hr hlocks rfl hI hS dX8_allWrong_32
def f_X8_append (a1 : Int32) (σ : Nat → Nat → Int32) : Option (Int32 × (Nat → Nat → Int32)) := vl (wr σ 183 0 0) fun σ_1 => bi (f_X8_in a1 1 255 σ_1) fun r_2 => if r_2 = 0 then (some ((-1), σ_1)) else (if (σ_1 183 6) = 120 then (some ((-3), σ_1)) else (ix (σ_1 183 6) 120 <| vl (wr σ_1 187 (σ_1 183 6).toNatClampNeg a1) fun σ_3 => vl (wr σ_3 183 6 ((σ_3 183 6) + 1)) fun σ_4 => some (σ_4 183 6, σ_4)))
set_option maxHeartbeats 4000000 in
set_option maxRecDepth 100000 in
theorem c_X8_append (l : Launch) (D : va_G) (cI cS : ClassId) (Z : Nat) (K : Nat → Nat) (hL : ly K 183 lyModel) (a1 : Int32) (σ : Nat → Nat → Int32) (r : Int32) (σ' : Nat → Nat → Int32) (hf : f_X8_append a1 σ = some (r, σ')) : Met l yX8_append (wsT yX8_append cX8_append 2 (some .int)) { frames := 1, cells := 0, slots := 0, locals := 22 } (Pm D cI cS Z K [.ref (Z + 183), .int a1] σ) (Qi D cI cS Z K r σ') 0 0 (aZ Z) := by
  refine mm_met (lv := [(0, .ref (Z + 183)), (1, .int a1)]) (by decide) (Nat.le_of_ble_eq_true rfl) rfl ?_
  intro p e s m args below meth c ls hx hb hr hml hts hown hlocks hG hl hI hS
  have hown : s.vm.findClass RX8 = some m.cls := hown
  rw [f_X8_append] at hf
  refine lv_aload_n hx hb dX8_append_0 rfl (lv_at hl 0 rfl) ?_
  refine lv_iconst (v := 0) hx hb dX8_append_1 (by decide) ?_
  obtain ⟨σ_1, eσ_1, hf⟩ := vl_e hf
  refine pX8_28 hx hb hts hown hG hI hS hL dX8_append_2 (fun H locs hI hS => ?_)
  rw [← eσ_1] at hI
  refine lv_iload_n hx hb dX8_append_5 rfl (lv_at hl 1 rfl) ?_
  refine lv_iconst (v := 1) hx hb dX8_append_6 (by decide) ?_
  refine lv_sipush (v := 255) hx hb dX8_append_7 (by decide) ?_
  obtain ⟨r_2, hr_2, hf⟩ := bi_e hf
  refine kX8_39 hx hb hml hts hown hG hI hS hl.1 (As := [.int a1, .int 1, .int 255]) (c_X8_in l D cI cS Z K a1 1 255 σ_1 _ hr_2) ⟨(Nat.le_of_ble_eq_true rfl), (Nat.le_of_ble_eq_true rfl)⟩ rfl (Nat.le_of_ble_eq_true rfl) ⟨(Nat.le_of_ble_eq_true rfl), (Nat.le_of_ble_eq_true rfl)⟩ dX8_append_10 (fun hzr_2 H locs hI hS => ?_)
  refine lv_if_ne (tgt := 18) hx hb dX8_append_13 (by decide) (fun c_6 => ?_) (fun c_6 => ?_)
  · have hf := neg_e c_6 hf
    refine lv_aload_n hx hb dX8_append_18 rfl (lv_at hl 0 rfl) ?_
    refine gX8_70 hx hb hts hown hG hI hL dX8_append_19 ?_
    refine lv_bipush (v := 120) hx hb dX8_append_22 (by decide) ?_
    refine lv_icmp_ne (tgt := 30) hx hb dX8_append_24 (by decide) (fun c_5 => ?_) (fun c_5 => ?_)
    · have hf := neg_e c_5 hf
      refine lv_aload_n hx hb dX8_append_30 rfl (lv_at hl 0 rfl) ?_
      refine gX8_19 (o' := 187) hx hb hts hown hG hI hL rfl dX8_append_31 ?_
      refine lv_aload_n hx hb dX8_append_34 rfl (lv_at hl 0 rfl) ?_
      refine gX8_70 hx hb hts hown hG hI hL dX8_append_35 ?_
      refine lv_iload_n hx hb dX8_append_38 rfl (lv_at hl 1 rfl) ?_
      obtain ⟨hix, hf⟩ := ix_e hf
      obtain ⟨σ_3, eσ_3, hf⟩ := vl_e hf
      refine mm_ast hx hb hG hI hS (ly_at hL 4 rfl) hix rfl dX8_append_39 (fun H locs hI hS => ?_)
      rw [← eσ_3] at hI
      refine lv_aload_n hx hb dX8_append_40 rfl (lv_at hl 0 rfl) ?_
      refine lv_dup hx hb dX8_append_41 rfl ?_
      refine gX8_70 hx hb hts hown hG hI hL dX8_append_42 ?_
      refine lv_iconst (v := 1) hx hb dX8_append_45 (by decide) ?_
      refine lv_iadd hx hb dX8_append_46 ?_
      obtain ⟨σ_4, eσ_4, hf⟩ := vl_e hf
      refine pX8_70 hx hb hts hown hG hI hS hL dX8_append_47 (fun H locs hI hS => ?_)
      rw [← eσ_4] at hI
      refine lv_aload_n hx hb dX8_append_50 rfl (lv_at hl 0 rfl) ?_
      refine gX8_70 hx hb hts hown hG hI hL dX8_append_51 ?_
      obtain ⟨rfl, rfl⟩ := sp_e hf
      exact mm_ret hx hb hr hlocks rfl hI hS dX8_append_54
    · have hf := pos_e c_5 hf
      refine lv_bipush (v := (-3)) hx hb dX8_append_27 (by decide) ?_
      obtain ⟨rfl, rfl⟩ := sp_e hf
      exact mm_ret hx hb hr hlocks rfl hI hS dX8_append_29
  · have hf := pos_e c_6 hf
    refine lv_iconst (v := (-1)) hx hb dX8_append_16 (by decide) ?_
    obtain ⟨rfl, rfl⟩ := sp_e hf
    exact mm_ret hx hb hr hlocks rfl hI hS dX8_append_17
def f_X8_areLike (a1 : Int32) (a2 : Int32) (σ : Nat → Nat → Int32) : Option Int32 := bi (f_X8_of a1 0 σ) fun r_1 => bi (f_X8_of a2 0 σ) fun r_2 => if r_1 = r_2 then (bi (f_X8_of a1 2 σ) fun r_3 => bi (f_X8_of a2 2 σ) fun r_4 => if r_3 = r_4 then (bi (f_X8_of a1 3 σ) fun r_5 => bi (f_X8_of a2 3 σ) fun r_6 => if r_5 = r_6 then (some 1) else (some 0)) else (some 0)) else (some 0)
set_option maxHeartbeats 4000000 in
set_option maxRecDepth 100000 in
theorem c_X8_areLike (l : Launch) (D : va_G) (cI cS : ClassId) (Z : Nat) (K : Nat → Nat) (hL : ly K 183 lyModel) (a1 : Int32) (a2 : Int32) (σ : Nat → Nat → Int32) (r : Int32) (hf : f_X8_areLike a1 a2 σ = some r) : Met l yX8_areLike (wsT yX8_areLike cX8_areLike 3 (some .boolean)) { frames := 1, cells := 0, slots := 0, locals := 22 } (Pm D cI cS Z K [.ref (Z + 183), .int a1, .int a2] σ) (Qz D cI cS Z K r σ) 0 0 (aZ Z) := by
  refine mm_met (lv := [(0, .ref (Z + 183)), (1, .int a1), (2, .int a2)]) (by decide) (Nat.le_of_ble_eq_true rfl) rfl ?_
  intro p e s m args below meth c ls hx hb hr hml hts hown hlocks hG hl hI hS
  have hown : s.vm.findClass RX8 = some m.cls := hown
  rw [f_X8_areLike] at hf
  refine lv_aload_n hx hb dX8_areLike_0 rfl (lv_at hl 0 rfl) ?_
  refine lv_iload_n hx hb dX8_areLike_1 rfl (lv_at hl 1 rfl) ?_
  refine lv_iconst (v := 0) hx hb dX8_areLike_2 (by decide) ?_
  obtain ⟨r_1, hr_1, hf⟩ := bi_e hf
  refine kX8_133 hx hb hml hts hown hG hI hS hl.1 hL (As := [.int a1, .int 0]) (c_X8_of l D cI cS Z K hL a1 0 σ _ hr_1) ⟨(Nat.le_of_ble_eq_true rfl), (Nat.le_of_ble_eq_true rfl)⟩ rfl (Nat.le_of_ble_eq_true rfl) ⟨(Nat.le_of_ble_eq_true rfl), (Nat.le_of_ble_eq_true rfl)⟩ dX8_areLike_3 (fun H locs hI hS => ?_)
  refine lv_aload_n hx hb dX8_areLike_6 rfl (lv_at hl 0 rfl) ?_
  refine lv_iload_n hx hb dX8_areLike_7 rfl (lv_at hl 2 rfl) ?_
  refine lv_iconst (v := 0) hx hb dX8_areLike_8 (by decide) ?_
  obtain ⟨r_2, hr_2, hf⟩ := bi_e hf
  refine kX8_133 hx hb hml hts hown hG hI hS hl.1 hL (As := [.int a2, .int 0]) (c_X8_of l D cI cS Z K hL a2 0 σ _ hr_2) ⟨(Nat.le_of_ble_eq_true rfl), (Nat.le_of_ble_eq_true rfl)⟩ rfl (Nat.le_of_ble_eq_true rfl) ⟨(Nat.le_of_ble_eq_true rfl), (Nat.le_of_ble_eq_true rfl)⟩ dX8_areLike_9 (fun H locs hI hS => ?_)
  refine lv_icmp_ne (tgt := 49) hx hb dX8_areLike_12 (by decide) (fun c_9 => ?_) (fun c_9 => ?_)
  · have hf := neg_e c_9 hf
    refine lv_iconst (v := 0) hx hb dX8_areLike_49 (by decide) ?_
    obtain rfl := so_e hf
    exact mm_zret hx hb hr hlocks (Or.inl rfl) hI hS dX8_areLike_50
  · have hf := pos_e c_9 hf
    refine lv_aload_n hx hb dX8_areLike_15 rfl (lv_at hl 0 rfl) ?_
    refine lv_iload_n hx hb dX8_areLike_16 rfl (lv_at hl 1 rfl) ?_
    refine lv_iconst (v := 2) hx hb dX8_areLike_17 (by decide) ?_
    obtain ⟨r_3, hr_3, hf⟩ := bi_e hf
    refine kX8_133 hx hb hml hts hown hG hI hS hl.1 hL (As := [.int a1, .int 2]) (c_X8_of l D cI cS Z K hL a1 2 σ _ hr_3) ⟨(Nat.le_of_ble_eq_true rfl), (Nat.le_of_ble_eq_true rfl)⟩ rfl (Nat.le_of_ble_eq_true rfl) ⟨(Nat.le_of_ble_eq_true rfl), (Nat.le_of_ble_eq_true rfl)⟩ dX8_areLike_18 (fun H locs hI hS => ?_)
    refine lv_aload_n hx hb dX8_areLike_21 rfl (lv_at hl 0 rfl) ?_
    refine lv_iload_n hx hb dX8_areLike_22 rfl (lv_at hl 2 rfl) ?_
    refine lv_iconst (v := 2) hx hb dX8_areLike_23 (by decide) ?_
    obtain ⟨r_4, hr_4, hf⟩ := bi_e hf
    refine kX8_133 hx hb hml hts hown hG hI hS hl.1 hL (As := [.int a2, .int 2]) (c_X8_of l D cI cS Z K hL a2 2 σ _ hr_4) ⟨(Nat.le_of_ble_eq_true rfl), (Nat.le_of_ble_eq_true rfl)⟩ rfl (Nat.le_of_ble_eq_true rfl) ⟨(Nat.le_of_ble_eq_true rfl), (Nat.le_of_ble_eq_true rfl)⟩ dX8_areLike_24 (fun H locs hI hS => ?_)
    refine lv_icmp_ne (tgt := 49) hx hb dX8_areLike_27 (by decide) (fun c_8 => ?_) (fun c_8 => ?_)
    · have hf := neg_e c_8 hf
      refine lv_iconst (v := 0) hx hb dX8_areLike_49 (by decide) ?_
      obtain rfl := so_e hf
      exact mm_zret hx hb hr hlocks (Or.inl rfl) hI hS dX8_areLike_50
    · have hf := pos_e c_8 hf
      refine lv_aload_n hx hb dX8_areLike_30 rfl (lv_at hl 0 rfl) ?_
      refine lv_iload_n hx hb dX8_areLike_31 rfl (lv_at hl 1 rfl) ?_
      refine lv_iconst (v := 3) hx hb dX8_areLike_32 (by decide) ?_
      obtain ⟨r_5, hr_5, hf⟩ := bi_e hf
      refine kX8_133 hx hb hml hts hown hG hI hS hl.1 hL (As := [.int a1, .int 3]) (c_X8_of l D cI cS Z K hL a1 3 σ _ hr_5) ⟨(Nat.le_of_ble_eq_true rfl), (Nat.le_of_ble_eq_true rfl)⟩ rfl (Nat.le_of_ble_eq_true rfl) ⟨(Nat.le_of_ble_eq_true rfl), (Nat.le_of_ble_eq_true rfl)⟩ dX8_areLike_33 (fun H locs hI hS => ?_)
      refine lv_aload_n hx hb dX8_areLike_36 rfl (lv_at hl 0 rfl) ?_
      refine lv_iload_n hx hb dX8_areLike_37 rfl (lv_at hl 2 rfl) ?_
      refine lv_iconst (v := 3) hx hb dX8_areLike_38 (by decide) ?_
      obtain ⟨r_6, hr_6, hf⟩ := bi_e hf
      refine kX8_133 hx hb hml hts hown hG hI hS hl.1 hL (As := [.int a2, .int 3]) (c_X8_of l D cI cS Z K hL a2 3 σ _ hr_6) ⟨(Nat.le_of_ble_eq_true rfl), (Nat.le_of_ble_eq_true rfl)⟩ rfl (Nat.le_of_ble_eq_true rfl) ⟨(Nat.le_of_ble_eq_true rfl), (Nat.le_of_ble_eq_true rfl)⟩ dX8_areLike_39 (fun H locs hI hS => ?_)
      refine lv_icmp_ne (tgt := 49) hx hb dX8_areLike_42 (by decide) (fun c_7 => ?_) (fun c_7 => ?_)
      · have hf := neg_e c_7 hf
        refine lv_iconst (v := 0) hx hb dX8_areLike_49 (by decide) ?_
        obtain rfl := so_e hf
        exact mm_zret hx hb hr hlocks (Or.inl rfl) hI hS dX8_areLike_50
      · have hf := pos_e c_7 hf
        refine lv_iconst (v := 1) hx hb dX8_areLike_45 (by decide) ?_
        refine lv_goto (tgt := 50) hx hb dX8_areLike_46 (by decide) ?_
        obtain rfl := so_e hf
        exact mm_zret hx hb hr hlocks (Or.inr rfl) hI hS dX8_areLike_50
def f_X8_isBar (a1 : Int32) (σ : Nat → Nat → Int32) : Option Int32 := bi (f_X8_in a1 0 ((σ 184 2) - 1) σ) fun r_1 => some r_1
set_option maxHeartbeats 4000000 in
set_option maxRecDepth 100000 in
theorem c_X8_isBar (l : Launch) (D : va_G) (cI cS : ClassId) (Z : Nat) (K : Nat → Nat) (hL : ly K 183 lyModel) (a1 : Int32) (σ : Nat → Nat → Int32) (r : Int32) (hf : f_X8_isBar a1 σ = some r) : Met l yX8_isBar (wsT yX8_isBar cX8_isBar 2 (some .boolean)) { frames := 1, cells := 0, slots := 0, locals := 22 } (Pm D cI cS Z K [.ref (Z + 183), .int a1] σ) (Qz D cI cS Z K r σ) 0 0 (aZ Z) := by
  refine mm_met (lv := [(0, .ref (Z + 183)), (1, .int a1)]) (by decide) (Nat.le_of_ble_eq_true rfl) rfl ?_
  intro p e s m args below meth c ls hx hb hr hml hts hown hlocks hG hl hI hS
  have hown : s.vm.findClass RX8 = some m.cls := hown
  rw [f_X8_isBar] at hf
  refine lv_iload_n hx hb dX8_isBar_0 rfl (lv_at hl 1 rfl) ?_
  refine lv_iconst (v := 0) hx hb dX8_isBar_1 (by decide) ?_
  refine lv_aload_n hx hb dX8_isBar_2 rfl (lv_at hl 0 rfl) ?_
  refine gX8_7 (o' := 184) hx hb hts hown hG hI hL rfl dX8_isBar_3 ?_
  refine lv_iconst (v := 2) hx hb dX8_isBar_6 (by decide) ?_
  refine mm_ald (k := 2) (n := 456) hx hb hG hI (ly_at hL 1 rfl) (by decide) rfl dX8_isBar_7 ?_
  refine lv_iconst (v := 1) hx hb dX8_isBar_8 (by decide) ?_
  refine lv_isub hx hb dX8_isBar_9 ?_
  obtain ⟨r_1, hr_1, hf⟩ := bi_e hf
  refine kX8_39 hx hb hml hts hown hG hI hS hl.1 (As := [.int a1, .int 0, .int ((σ 184 2) - 1)]) (c_X8_in l D cI cS Z K a1 0 ((σ 184 2) - 1) σ _ hr_1) ⟨(Nat.le_of_ble_eq_true rfl), (Nat.le_of_ble_eq_true rfl)⟩ rfl (Nat.le_of_ble_eq_true rfl) ⟨(Nat.le_of_ble_eq_true rfl), (Nat.le_of_ble_eq_true rfl)⟩ dX8_isBar_10 (fun hzr_1 H locs hI hS => ?_)
  obtain rfl := so_e hf
  exact mm_zret hx hb hr hlocks hzr_1 hI hS dX8_isBar_13
def b_X8_lifted_4 (σ : Nat → Nat → Int32) : Int32 × Int32 → Option ((Int32 × Int32) ⊕ (Int32))
  | (y_1, y_2) => if (σ 184 0) ≤ y_2 then (some (.inr y_1)) else (ix (70 + y_2) 456 <| vl (σ 184 (70 + y_2).toNatClampNeg) fun x_19 => if x_19 = 1 then (vl (y_1 &&& ((1 <<< (y_2 &&& 31)) ^^^ (-1))) fun x_24 => vl (y_2 + 1) fun x_25 => some (.inl (x_24, x_25))) else (if x_19 = 2 then (vl (y_1 ||| (1 <<< (y_2 &&& 31))) fun x_21 => vl (y_2 + 1) fun x_22 => some (.inl (x_21, x_22))) else (vl (y_2 + 1) fun x_20 => some (.inl (y_1, x_20)))))
def f_X8_lifted (a1 : Int32) (σ : Nat → Nat → Int32) : Option Int32 := bi (lp (b_X8_lifted_4 σ) FU (a1, 0)) fun z_3 => some z_3
set_option maxHeartbeats 4000000 in
set_option maxRecDepth 100000 in
theorem c_X8_lifted (l : Launch) (D : va_G) (cI cS : ClassId) (Z : Nat) (K : Nat → Nat) (hL : ly K 183 lyModel) (a1 : Int32) (σ : Nat → Nat → Int32) (r : Int32) (hf : f_X8_lifted a1 σ = some r) : Met l yX8_lifted (wsT yX8_lifted cX8_lifted 5 (some .int)) { frames := 0, cells := 0, slots := 0, locals := 0 } (Pm D cI cS Z K [.ref (Z + 183), .int a1] σ) (Qi D cI cS Z K r σ) 0 0 (aZ Z) := by
  refine mm_met (lv := [(0, .ref (Z + 183)), (1, .int a1)]) (by decide) (Nat.le_of_ble_eq_true rfl) rfl ?_
  intro p e s m args below meth c ls hx hb hr hml hts hown hlocks hG hl hI hS
  have hown : s.vm.findClass RX8 = some m.cls := hown
  rw [f_X8_lifted] at hf
  refine lv_iload_n hx hb dX8_lifted_0 rfl (lv_at hl 1 rfl) ?_
  refine lv_istore_n (lv' := [(2, .int a1), (0, .ref (Z + 183)), (1, .int a1)]) hx hb dX8_lifted_1 rfl hl (by decide) rfl (fun ls hl => ?_)
  refine lv_iconst (v := 0) hx hb dX8_lifted_2 (by decide) ?_
  refine lv_istore_n (lv' := [(3, .int 0), (2, .int a1), (0, .ref (Z + 183)), (1, .int a1)]) hx hb dX8_lifted_3 rfl hl (by decide) rfl (fun ls hl => ?_)
  have L_5 : ∀ (nn : Nat) (y_1 : Int32) (y_2 : Int32) (z_3 : Int32), lp (b_X8_lifted_4 σ) nn (y_1, y_2) = some z_3 → (∀ (H : Heap) (locs : List Loc) (ls : Array Slot), fI D cI cS Z K σ H → va_S (aZ Z) s.heap H locs → lv_has ls 5 [(2, .int z_3)] → W p l e { frames := 0, cells := 0, slots := 0, locals := 0 } s m args below meth c H locs 0 0 (MQ below (Qi D cI cS Z K r σ) args s 0 0 (aZ Z)) (F0 m 63 ls [])) → ∀ (H : Heap) (locs : List Loc) (ls : Array Slot), fI D cI cS Z K σ H → va_S (aZ Z) s.heap H locs → lv_has ls 5 [(0, .ref (Z + 183)), (2, .int y_1), (3, .int y_2)] → W p l e { frames := 0, cells := 0, slots := 0, locals := 0 } s m args below meth c H locs 0 0 (MQ below (Qi D cI cS Z K r σ) args s 0 0 (aZ Z)) (F0 m 4 ls []) := by
    intro nn
    induction nn with
    | zero =>
      intro y_1 y_2 z_3 hq
      exact (lp_0 hq).elim
    | succ nn ih_6 =>
      intro y_1 y_2 z_3 hq kn_8 H locs ls hI hS hl
      obtain ⟨w_4, hf, hk_7⟩ := lp_e hq
      rw [b_X8_lifted_4] at hf
      have ih_6 := fun (y_1 : Int32) (y_2 : Int32) q => ih_6 y_1 y_2 z_3 q kn_8
      refine lv_iload_n hx hb dX8_lifted_4 rfl (lv_at hl 2 rfl) ?_
      refine lv_aload_n hx hb dX8_lifted_5 rfl (lv_at hl 0 rfl) ?_
      refine gX8_7 (o' := 184) hx hb hts hown hG hI hL rfl dX8_lifted_6 ?_
      refine lv_iconst (v := 0) hx hb dX8_lifted_9 (by decide) ?_
      refine mm_ald (k := 0) (n := 456) hx hb hG hI (ly_at hL 1 rfl) (by decide) rfl dX8_lifted_10 ?_
      refine lv_icmp_ge (tgt := 63) hx hb dX8_lifted_11 (by decide) (fun c_27 => ?_) (fun c_27 => ?_)
      · have hf := pos_e c_27 hf
        obtain rfl := so_e hf
        obtain rfl := lk_r hk_7
        exact kn_8 _ _ _ hI hS (lv_sub hl [1] rfl)
      · have hf := neg_e c_27 hf
        refine lv_aload_n hx hb dX8_lifted_14 rfl (lv_at hl 0 rfl) ?_
        refine gX8_7 (o' := 184) hx hb hts hown hG hI hL rfl dX8_lifted_15 ?_
        refine lv_bipush (v := 70) hx hb dX8_lifted_18 (by decide) ?_
        refine lv_iload_n hx hb dX8_lifted_20 rfl (lv_at hl 2 rfl) ?_
        refine lv_iadd hx hb dX8_lifted_21 ?_
        obtain ⟨hix, hf⟩ := ix_e hf
        refine mm_ald hx hb hG hI (ly_at hL 1 rfl) hix rfl dX8_lifted_22 ?_
        obtain ⟨x_19, ex_19, hf⟩ := vl_e hf
        refine mm_name ex_19 ?_
        refine lv_istore (lv' := [(4, .int x_19), (0, .ref (Z + 183)), (2, .int y_1), (3, .int y_2)]) hx hb dX8_lifted_23 hl (by decide) rfl (fun ls hl => ?_)
        refine lv_iload hx hb dX8_lifted_25 (lv_at hl 0 rfl) ?_
        refine lv_iconst (v := 1) hx hb dX8_lifted_27 (by decide) ?_
        refine lv_icmp_ne (tgt := 41) hx hb dX8_lifted_28 (by decide) (fun c_26 => ?_) (fun c_26 => ?_)
        · have hf := neg_e c_26 hf
          refine lv_iload hx hb dX8_lifted_41 (lv_at hl 0 rfl) ?_
          refine lv_iconst (v := 2) hx hb dX8_lifted_43 (by decide) ?_
          refine lv_icmp_ne (tgt := 55) hx hb dX8_lifted_44 (by decide) (fun c_23 => ?_) (fun c_23 => ?_)
          · have hf := neg_e c_23 hf
            refine lv_iload_n hx hb dX8_lifted_55 rfl (lv_at hl 2 rfl) ?_
            refine lv_istore_n (lv' := [(2, .int y_1), (4, .int x_19), (0, .ref (Z + 183)), (3, .int y_2)]) hx hb dX8_lifted_56 rfl hl (by decide) rfl (fun ls hl => ?_)
            obtain ⟨x_20, ex_20, hf⟩ := vl_e hf
            refine lv_iinc (v := x_20) (lv' := [(3, .int x_20), (2, .int y_1), (4, .int x_19), (0, .ref (Z + 183))]) hx hb dX8_lifted_57 hl (k := 3) rfl (by rw [ex_20]; rfl) (by decide) rfl (fun ls hl => ?_)
            refine lv_goto (tgt := 4) hx hb dX8_lifted_60 (by decide) ?_
            obtain rfl := so_e hf
            exact ih_6 y_1 x_20 hk_7 _ _ _ hI hS (lv_sub hl [3, 1, 0] rfl)
          · have hf := pos_e c_23 hf
            refine lv_iload_n hx hb dX8_lifted_47 rfl (lv_at hl 2 rfl) ?_
            refine lv_iconst (v := 1) hx hb dX8_lifted_48 (by decide) ?_
            refine lv_iload_n hx hb dX8_lifted_49 rfl (lv_at hl 3 rfl) ?_
            refine lv_ishl hx hb dX8_lifted_50 ?_
            refine lv_ior hx hb dX8_lifted_51 ?_
            refine lv_goto (tgt := 56) hx hb dX8_lifted_52 (by decide) ?_
            obtain ⟨x_21, ex_21, hf⟩ := vl_e hf
            refine mm_name ex_21 ?_
            refine lv_istore_n (lv' := [(2, .int x_21), (4, .int x_19), (0, .ref (Z + 183)), (3, .int y_2)]) hx hb dX8_lifted_56 rfl hl (by decide) rfl (fun ls hl => ?_)
            obtain ⟨x_22, ex_22, hf⟩ := vl_e hf
            refine lv_iinc (v := x_22) (lv' := [(3, .int x_22), (2, .int x_21), (4, .int x_19), (0, .ref (Z + 183))]) hx hb dX8_lifted_57 hl (k := 3) rfl (by rw [ex_22]; rfl) (by decide) rfl (fun ls hl => ?_)
            refine lv_goto (tgt := 4) hx hb dX8_lifted_60 (by decide) ?_
            obtain rfl := so_e hf
            exact ih_6 x_21 x_22 hk_7 _ _ _ hI hS (lv_sub hl [3, 1, 0] rfl)
        · have hf := pos_e c_26 hf
          refine lv_iload_n hx hb dX8_lifted_31 rfl (lv_at hl 2 rfl) ?_
          refine lv_iconst (v := 1) hx hb dX8_lifted_32 (by decide) ?_
          refine lv_iload_n hx hb dX8_lifted_33 rfl (lv_at hl 3 rfl) ?_
          refine lv_ishl hx hb dX8_lifted_34 ?_
          refine lv_iconst (v := (-1)) hx hb dX8_lifted_35 (by decide) ?_
          refine lv_ixor hx hb dX8_lifted_36 ?_
          refine lv_iand hx hb dX8_lifted_37 ?_
          refine lv_goto (tgt := 56) hx hb dX8_lifted_38 (by decide) ?_
          obtain ⟨x_24, ex_24, hf⟩ := vl_e hf
          refine mm_name ex_24 ?_
          refine lv_istore_n (lv' := [(2, .int x_24), (4, .int x_19), (0, .ref (Z + 183)), (3, .int y_2)]) hx hb dX8_lifted_56 rfl hl (by decide) rfl (fun ls hl => ?_)
          obtain ⟨x_25, ex_25, hf⟩ := vl_e hf
          refine lv_iinc (v := x_25) (lv' := [(3, .int x_25), (2, .int x_24), (4, .int x_19), (0, .ref (Z + 183))]) hx hb dX8_lifted_57 hl (k := 3) rfl (by rw [ex_25]; rfl) (by decide) rfl (fun ls hl => ?_)
          refine lv_goto (tgt := 4) hx hb dX8_lifted_60 (by decide) ?_
          obtain rfl := so_e hf
          exact ih_6 x_24 x_25 hk_7 _ _ _ hI hS (lv_sub hl [3, 1, 0] rfl)
  obtain ⟨z_3, hy, hf⟩ := bi_e hf
  refine L_5 FU a1 0 _ hy ?_ _ _ _ hI hS (lv_sub hl [2, 1, 0] rfl)
  clear L_5
  intro H locs ls hI hS hl
  refine lv_iload_n hx hb dX8_lifted_63 rfl (lv_at hl 0 rfl) ?_
  obtain rfl := so_e hf
  exact mm_ret hx hb hr hlocks rfl hI hS dX8_lifted_64
def f_X8_has (a1 : Int32) (a2 : Int32) (σ : Nat → Nat → Int32) : Option Int32 := if ((a1 >>> (a2 &&& 31)) &&& 1) = 1 then (some 1) else (some 0)
set_option maxHeartbeats 4000000 in
set_option maxRecDepth 100000 in
theorem c_X8_has (l : Launch) (D : va_G) (cI cS : ClassId) (Z : Nat) (K : Nat → Nat) (a1 : Int32) (a2 : Int32) (σ : Nat → Nat → Int32) (r : Int32) (hf : f_X8_has a1 a2 σ = some r) : Met l yX8_has (wsT yX8_has cX8_has 2 (some .boolean)) { frames := 0, cells := 0, slots := 0, locals := 0 } (Pm D cI cS Z K [.int a1, .int a2] σ) (Qz D cI cS Z K r σ) 0 0 (aZ Z) := by
  refine mm_met (lv := [(0, .int a1), (1, .int a2)]) (by decide) (Nat.le_of_ble_eq_true rfl) rfl ?_
  intro p e s m args below meth c ls hx hb hr hml hts hown hlocks hG hl hI hS
  have hown : s.vm.findClass RX8 = some m.cls := hown
  rw [f_X8_has] at hf
  refine lv_iload_n hx hb dX8_has_0 rfl (lv_at hl 0 rfl) ?_
  refine lv_iload_n hx hb dX8_has_1 rfl (lv_at hl 1 rfl) ?_
  refine lv_ishr hx hb dX8_has_2 ?_
  refine lv_iconst (v := 1) hx hb dX8_has_3 (by decide) ?_
  refine lv_iand hx hb dX8_has_4 ?_
  refine lv_iconst (v := 1) hx hb dX8_has_5 (by decide) ?_
  refine lv_icmp_ne (tgt := 13) hx hb dX8_has_6 (by decide) (fun c_1 => ?_) (fun c_1 => ?_)
  · have hf := neg_e c_1 hf
    refine lv_iconst (v := 0) hx hb dX8_has_13 (by decide) ?_
    obtain rfl := so_e hf
    exact mm_zret hx hb hr hlocks (Or.inl rfl) hI hS dX8_has_14
  · have hf := pos_e c_1 hf
    refine lv_iconst (v := 1) hx hb dX8_has_9 (by decide) ?_
    refine lv_goto (tgt := 14) hx hb dX8_has_10 (by decide) ?_
    obtain rfl := so_e hf
    exact mm_zret hx hb hr hlocks (Or.inr rfl) hI hS dX8_has_14
def b_X8_endsOn_4 (a1 : Int32) (σ : Nat → Nat → Int32) : Int32 × Int32 → Option ((Int32 × Int32) ⊕ (Int32))
  | (y_1, y_2) => if (σ 184 1) ≤ y_2 then (some (.inr y_1)) else (ix (6 + y_2) 456 <| bi (f_X8_has a1 (σ 184 (6 + y_2).toNatClampNeg) σ) fun r_19 => vl (α := Int32) (if r_19 = 0 then (0) else (1 <<< (y_2 &&& 31))) fun v_21 => vl (y_1 ||| v_21) fun x_24 => vl (y_2 + 1) fun x_25 => some (.inl (x_24, x_25)))
def f_X8_endsOn (a1 : Int32) (σ : Nat → Nat → Int32) : Option Int32 := bi (lp (b_X8_endsOn_4 a1 σ) FU (0, 0)) fun z_3 => some z_3
set_option maxHeartbeats 4000000 in
set_option maxRecDepth 100000 in
theorem c_X8_endsOn (l : Launch) (D : va_G) (cI cS : ClassId) (Z : Nat) (K : Nat → Nat) (hL : ly K 183 lyModel) (a1 : Int32) (σ : Nat → Nat → Int32) (r : Int32) (hf : f_X8_endsOn a1 σ = some r) : Met l yX8_endsOn (wsT yX8_endsOn cX8_endsOn 4 (some .int)) { frames := 1, cells := 0, slots := 0, locals := 21 } (Pm D cI cS Z K [.ref (Z + 183), .int a1] σ) (Qi D cI cS Z K r σ) 0 0 (aZ Z) := by
  refine mm_met (lv := [(0, .ref (Z + 183)), (1, .int a1)]) (by decide) (Nat.le_of_ble_eq_true rfl) rfl ?_
  intro p e s m args below meth c ls hx hb hr hml hts hown hlocks hG hl hI hS
  have hown : s.vm.findClass RX8 = some m.cls := hown
  rw [f_X8_endsOn] at hf
  refine lv_iconst (v := 0) hx hb dX8_endsOn_0 (by decide) ?_
  refine lv_istore_n (lv' := [(2, .int 0), (0, .ref (Z + 183)), (1, .int a1)]) hx hb dX8_endsOn_1 rfl hl (by decide) rfl (fun ls hl => ?_)
  refine lv_iconst (v := 0) hx hb dX8_endsOn_2 (by decide) ?_
  refine lv_istore_n (lv' := [(3, .int 0), (2, .int 0), (0, .ref (Z + 183)), (1, .int a1)]) hx hb dX8_endsOn_3 rfl hl (by decide) rfl (fun ls hl => ?_)
  have L_5 : ∀ (nn : Nat) (y_1 : Int32) (y_2 : Int32) (z_3 : Int32), lp (b_X8_endsOn_4 a1 σ) nn (y_1, y_2) = some z_3 → (∀ (H : Heap) (locs : List Loc) (ls : Array Slot), fI D cI cS Z K σ H → va_S (aZ Z) s.heap H locs → lv_has ls 4 [(2, .int z_3)] → W p l e { frames := 1, cells := 0, slots := 0, locals := 21 } s m args below meth c H locs 0 0 (MQ below (Qi D cI cS Z K r σ) args s 0 0 (aZ Z)) (F0 m 46 ls [])) → ∀ (H : Heap) (locs : List Loc) (ls : Array Slot), fI D cI cS Z K σ H → va_S (aZ Z) s.heap H locs → lv_has ls 4 [(0, .ref (Z + 183)), (1, .int a1), (2, .int y_1), (3, .int y_2)] → W p l e { frames := 1, cells := 0, slots := 0, locals := 21 } s m args below meth c H locs 0 0 (MQ below (Qi D cI cS Z K r σ) args s 0 0 (aZ Z)) (F0 m 4 ls []) := by
    intro nn
    induction nn with
    | zero =>
      intro y_1 y_2 z_3 hq
      exact (lp_0 hq).elim
    | succ nn ih_6 =>
      intro y_1 y_2 z_3 hq kn_8 H locs ls hI hS hl
      obtain ⟨w_4, hf, hk_7⟩ := lp_e hq
      rw [b_X8_endsOn_4] at hf
      have ih_6 := fun (y_1 : Int32) (y_2 : Int32) q => ih_6 y_1 y_2 z_3 q kn_8
      refine lv_iload_n hx hb dX8_endsOn_4 rfl (lv_at hl 3 rfl) ?_
      refine lv_aload_n hx hb dX8_endsOn_5 rfl (lv_at hl 0 rfl) ?_
      refine gX8_7 (o' := 184) hx hb hts hown hG hI hL rfl dX8_endsOn_6 ?_
      refine lv_iconst (v := 1) hx hb dX8_endsOn_9 (by decide) ?_
      refine mm_ald (k := 1) (n := 456) hx hb hG hI (ly_at hL 1 rfl) (by decide) rfl dX8_endsOn_10 ?_
      refine lv_icmp_ge (tgt := 46) hx hb dX8_endsOn_11 (by decide) (fun c_27 => ?_) (fun c_27 => ?_)
      · have hf := pos_e c_27 hf
        obtain rfl := so_e hf
        obtain rfl := lk_r hk_7
        exact kn_8 _ _ _ hI hS (lv_sub hl [2] rfl)
      · have hf := neg_e c_27 hf
        refine lv_iload_n hx hb dX8_endsOn_14 rfl (lv_at hl 2 rfl) ?_
        refine lv_iload_n hx hb dX8_endsOn_15 rfl (lv_at hl 1 rfl) ?_
        refine lv_aload_n hx hb dX8_endsOn_16 rfl (lv_at hl 0 rfl) ?_
        refine gX8_7 (o' := 184) hx hb hts hown hG hI hL rfl dX8_endsOn_17 ?_
        refine lv_bipush (v := 6) hx hb dX8_endsOn_20 (by decide) ?_
        refine lv_iload_n hx hb dX8_endsOn_22 rfl (lv_at hl 3 rfl) ?_
        refine lv_iadd hx hb dX8_endsOn_23 ?_
        obtain ⟨hix, hf⟩ := ix_e hf
        refine mm_ald hx hb hG hI (ly_at hL 1 rfl) hix rfl dX8_endsOn_24 ?_
        obtain ⟨r_19, hr_19, hf⟩ := bi_e hf
        refine kX8_108 hx hb hml hts hown hG hI hS hl.1 (As := [.int a1, .int (σ 184 (6 + y_2).toNatClampNeg)]) (c_X8_has l D cI cS Z K a1 (σ 184 (6 + y_2).toNatClampNeg) σ _ hr_19) ⟨(Nat.le_of_ble_eq_true rfl), (Nat.le_of_ble_eq_true rfl)⟩ rfl (Nat.le_of_ble_eq_true rfl) ⟨(Nat.le_of_ble_eq_true rfl), (Nat.le_of_ble_eq_true rfl)⟩ dX8_endsOn_25 (fun hzr_19 H locs hI hS => ?_)
        obtain ⟨v_21, ev_21, hf⟩ := vl_e hf
        have HJ_23 : ∀ (H : Heap) (locs : List Loc) (ls : Array Slot), fI D cI cS Z K σ H → va_S (aZ Z) s.heap H locs → lv_has ls 4 [(0, .ref (Z + 183)), (1, .int a1), (3, .int y_2)] → W p l e { frames := 1, cells := 0, slots := 0, locals := 21 } s m args below meth c H locs 0 0 (MQ below (Qi D cI cS Z K r σ) args s 0 0 (aZ Z)) (F0 m 38 ls [.int v_21, .int y_1]) := by
          intro H locs ls hI hS hl
          refine lv_ior hx hb dX8_endsOn_38 ?_
          obtain ⟨x_24, ex_24, hf⟩ := vl_e hf
          refine mm_name ex_24 ?_
          refine lv_istore_n (lv' := [(2, .int x_24), (0, .ref (Z + 183)), (1, .int a1), (3, .int y_2)]) hx hb dX8_endsOn_39 rfl hl (by decide) rfl (fun ls hl => ?_)
          obtain ⟨x_25, ex_25, hf⟩ := vl_e hf
          refine lv_iinc (v := x_25) (lv' := [(3, .int x_25), (2, .int x_24), (0, .ref (Z + 183)), (1, .int a1)]) hx hb dX8_endsOn_40 hl (k := 3) rfl (by rw [ex_25]; rfl) (by decide) rfl (fun ls hl => ?_)
          refine lv_goto (tgt := 4) hx hb dX8_endsOn_43 (by decide) ?_
          obtain rfl := so_e hf
          exact ih_6 x_24 x_25 hk_7 _ _ _ hI hS (lv_sub hl [2, 3, 1, 0] rfl)
        clear hf
        have hf := ev_21.symm
        refine lv_if_eq (tgt := 37) hx hb dX8_endsOn_28 (by decide) (fun c_26 => ?_) (fun c_26 => ?_)
        · have hf := pos_e c_26 hf
          refine lv_iconst (v := 0) hx hb dX8_endsOn_37 (by decide) ?_
          refine mm_name hf.symm ?_
          exact HJ_23 _ _ _ hI hS (lv_sub hl [0, 1, 3] rfl)
        · have hf := neg_e c_26 hf
          refine lv_iconst (v := 1) hx hb dX8_endsOn_31 (by decide) ?_
          refine lv_iload_n hx hb dX8_endsOn_32 rfl (lv_at hl 3 rfl) ?_
          refine lv_ishl hx hb dX8_endsOn_33 ?_
          refine lv_goto (tgt := 38) hx hb dX8_endsOn_34 (by decide) ?_
          refine mm_name hf.symm ?_
          exact HJ_23 _ _ _ hI hS (lv_sub hl [0, 1, 3] rfl)
  obtain ⟨z_3, hy, hf⟩ := bi_e hf
  refine L_5 FU 0 0 _ hy ?_ _ _ _ hI hS (lv_sub hl [2, 3, 1, 0] rfl)
  clear L_5
  intro H locs ls hI hS hl
  refine lv_iload_n hx hb dX8_endsOn_46 rfl (lv_at hl 0 rfl) ?_
  obtain rfl := so_e hf
  exact mm_ret hx hb hr hlocks rfl hI hS dX8_endsOn_47
def f_X8_endAt (a1 : Int32) (a2 : Int32) (σ : Nat → Nat → Int32) : Option Int32 := nz 2 <| if (a1 - a1 / 2 * 2) = 0 then (some a2) else (some (((σ 184 1) - 1) - a2))
set_option maxHeartbeats 4000000 in
set_option maxRecDepth 100000 in
theorem c_X8_endAt (l : Launch) (D : va_G) (cI cS : ClassId) (Z : Nat) (K : Nat → Nat) (hL : ly K 183 lyModel) (a1 : Int32) (a2 : Int32) (σ : Nat → Nat → Int32) (r : Int32) (hf : f_X8_endAt a1 a2 σ = some r) : Met l yX8_endAt (wsT yX8_endAt cX8_endAt 3 (some .int)) { frames := 0, cells := 0, slots := 0, locals := 0 } (Pm D cI cS Z K [.ref (Z + 183), .int a1, .int a2] σ) (Qi D cI cS Z K r σ) 0 0 (aZ Z) := by
  refine mm_met (lv := [(0, .ref (Z + 183)), (1, .int a1), (2, .int a2)]) (by decide) (Nat.le_of_ble_eq_true rfl) rfl ?_
  intro p e s m args below meth c ls hx hb hr hml hts hown hlocks hG hl hI hS
  have hown : s.vm.findClass RX8 = some m.cls := hown
  rw [f_X8_endAt] at hf
  refine lv_iload_n hx hb dX8_endAt_0 rfl (lv_at hl 1 rfl) ?_
  refine lv_iconst (v := 2) hx hb dX8_endAt_1 (by decide) ?_
  obtain ⟨hnz, hf⟩ := nz_e hf
  refine lv_irem hx hb dX8_endAt_2 hnz ?_
  refine lv_if_ne (tgt := 10) hx hb dX8_endAt_3 (by decide) (fun c_1 => ?_) (fun c_1 => ?_)
  · have hf := neg_e c_1 hf
    refine lv_aload_n hx hb dX8_endAt_10 rfl (lv_at hl 0 rfl) ?_
    refine gX8_7 (o' := 184) hx hb hts hown hG hI hL rfl dX8_endAt_11 ?_
    refine lv_iconst (v := 1) hx hb dX8_endAt_14 (by decide) ?_
    refine mm_ald (k := 1) (n := 456) hx hb hG hI (ly_at hL 1 rfl) (by decide) rfl dX8_endAt_15 ?_
    refine lv_iconst (v := 1) hx hb dX8_endAt_16 (by decide) ?_
    refine lv_isub hx hb dX8_endAt_17 ?_
    refine lv_iload_n hx hb dX8_endAt_18 rfl (lv_at hl 2 rfl) ?_
    refine lv_isub hx hb dX8_endAt_19 ?_
    obtain rfl := so_e hf
    exact mm_ret hx hb hr hlocks rfl hI hS dX8_endAt_20
  · have hf := pos_e c_1 hf
    refine lv_iload_n hx hb dX8_endAt_6 rfl (lv_at hl 2 rfl) ?_
    refine lv_goto (tgt := 20) hx hb dX8_endAt_7 (by decide) ?_
    obtain rfl := so_e hf
    exact mm_ret hx hb hr hlocks rfl hI hS dX8_endAt_20
def f_X8_need (a1 : Int32) (a2 : Int32) (a3 : Int32) (σ : Nat → Nat → Int32) : Option Int32 := if a3 ≤ 0 then (some 1) else (bi (f_X8_endAt a1 a3 σ) fun r_1 => bi (f_X8_has a2 r_1 σ) fun r_2 => bi (f_X8_endAt a1 (a3 - 1) σ) fun r_3 => bi (f_X8_has a2 r_3 σ) fun r_4 => if r_2 = r_4 then (some 1) else (some 2))
set_option maxHeartbeats 4000000 in
set_option maxRecDepth 100000 in
theorem c_X8_need (l : Launch) (D : va_G) (cI cS : ClassId) (Z : Nat) (K : Nat → Nat) (hL : ly K 183 lyModel) (a1 : Int32) (a2 : Int32) (a3 : Int32) (σ : Nat → Nat → Int32) (r : Int32) (hf : f_X8_need a1 a2 a3 σ = some r) : Met l yX8_need (wsT yX8_need cX8_need 4 (some .int)) { frames := 1, cells := 0, slots := 0, locals := 22 } (Pm D cI cS Z K [.ref (Z + 183), .int a1, .int a2, .int a3] σ) (Qi D cI cS Z K r σ) 0 0 (aZ Z) := by
  refine mm_met (lv := [(0, .ref (Z + 183)), (1, .int a1), (2, .int a2), (3, .int a3)]) (by decide) (Nat.le_of_ble_eq_true rfl) rfl ?_
  intro p e s m args below meth c ls hx hb hr hml hts hown hlocks hG hl hI hS
  have hown : s.vm.findClass RX8 = some m.cls := hown
  rw [f_X8_need] at hf
  refine lv_iload_n hx hb dX8_need_0 rfl (lv_at hl 3 rfl) ?_
  refine lv_if_le (tgt := 33) hx hb dX8_need_1 (by decide) (fun c_6 => ?_) (fun c_6 => ?_)
  · have hf := pos_e c_6 hf
    refine lv_iconst (v := 1) hx hb dX8_need_33 (by decide) ?_
    obtain rfl := so_e hf
    exact mm_ret hx hb hr hlocks rfl hI hS dX8_need_34
  · have hf := neg_e c_6 hf
    refine lv_iload_n hx hb dX8_need_4 rfl (lv_at hl 2 rfl) ?_
    refine lv_aload_n hx hb dX8_need_5 rfl (lv_at hl 0 rfl) ?_
    refine lv_iload_n hx hb dX8_need_6 rfl (lv_at hl 1 rfl) ?_
    refine lv_iload_n hx hb dX8_need_7 rfl (lv_at hl 3 rfl) ?_
    obtain ⟨r_1, hr_1, hf⟩ := bi_e hf
    refine kX8_112 hx hb hml hts hown hG hI hS hl.1 hL (As := [.int a1, .int a3]) (c_X8_endAt l D cI cS Z K hL a1 a3 σ _ hr_1) ⟨(Nat.le_of_ble_eq_true rfl), (Nat.le_of_ble_eq_true rfl)⟩ rfl (Nat.le_of_ble_eq_true rfl) ⟨(Nat.le_of_ble_eq_true rfl), (Nat.le_of_ble_eq_true rfl)⟩ dX8_need_8 (fun H locs hI hS => ?_)
    obtain ⟨r_2, hr_2, hf⟩ := bi_e hf
    refine kX8_108 hx hb hml hts hown hG hI hS hl.1 (As := [.int a2, .int r_1]) (c_X8_has l D cI cS Z K a2 r_1 σ _ hr_2) ⟨(Nat.le_of_ble_eq_true rfl), (Nat.le_of_ble_eq_true rfl)⟩ rfl (Nat.le_of_ble_eq_true rfl) ⟨(Nat.le_of_ble_eq_true rfl), (Nat.le_of_ble_eq_true rfl)⟩ dX8_need_11 (fun hzr_2 H locs hI hS => ?_)
    refine lv_iload_n hx hb dX8_need_14 rfl (lv_at hl 2 rfl) ?_
    refine lv_aload_n hx hb dX8_need_15 rfl (lv_at hl 0 rfl) ?_
    refine lv_iload_n hx hb dX8_need_16 rfl (lv_at hl 1 rfl) ?_
    refine lv_iload_n hx hb dX8_need_17 rfl (lv_at hl 3 rfl) ?_
    refine lv_iconst (v := 1) hx hb dX8_need_18 (by decide) ?_
    refine lv_isub hx hb dX8_need_19 ?_
    obtain ⟨r_3, hr_3, hf⟩ := bi_e hf
    refine kX8_112 hx hb hml hts hown hG hI hS hl.1 hL (As := [.int a1, .int (a3 - 1)]) (c_X8_endAt l D cI cS Z K hL a1 (a3 - 1) σ _ hr_3) ⟨(Nat.le_of_ble_eq_true rfl), (Nat.le_of_ble_eq_true rfl)⟩ rfl (Nat.le_of_ble_eq_true rfl) ⟨(Nat.le_of_ble_eq_true rfl), (Nat.le_of_ble_eq_true rfl)⟩ dX8_need_20 (fun H locs hI hS => ?_)
    obtain ⟨r_4, hr_4, hf⟩ := bi_e hf
    refine kX8_108 hx hb hml hts hown hG hI hS hl.1 (As := [.int a2, .int r_3]) (c_X8_has l D cI cS Z K a2 r_3 σ _ hr_4) ⟨(Nat.le_of_ble_eq_true rfl), (Nat.le_of_ble_eq_true rfl)⟩ rfl (Nat.le_of_ble_eq_true rfl) ⟨(Nat.le_of_ble_eq_true rfl), (Nat.le_of_ble_eq_true rfl)⟩ dX8_need_23 (fun hzr_4 H locs hI hS => ?_)
    refine lv_icmp_eq (tgt := 33) hx hb dX8_need_26 (by decide) (fun c_5 => ?_) (fun c_5 => ?_)
    · have hf := pos_e c_5 hf
      refine lv_iconst (v := 1) hx hb dX8_need_33 (by decide) ?_
      obtain rfl := so_e hf
      exact mm_ret hx hb hr hlocks rfl hI hS dX8_need_34
    · have hf := neg_e c_5 hf
      refine lv_iconst (v := 2) hx hb dX8_need_29 (by decide) ?_
      refine lv_goto (tgt := 34) hx hb dX8_need_30 (by decide) ?_
      obtain rfl := so_e hf
      exact mm_ret hx hb hr hlocks rfl hI hS dX8_need_34
def b_X8_needOf_23 (σ : Nat → Nat → Int32) (r_2 : Int32) : Int32 × Int32 → Option ((Int32 × Int32) ⊕ (Int32))
  | (y_3, y_4) => if (σ 184 1) ≤ y_4 then (some (.inr y_3)) else (bi (f_X8_need 0 r_2 y_4 σ) fun r_16 => vl (y_3 + r_16) fun x_17 => vl (y_4 + 1) fun x_18 => some (.inl (x_17, x_18)))
def f_X8_needOf (a1 : Int32) (σ : Nat → Nat → Int32) : Option Int32 := ix (78 + a1) 456 <| bi (f_X8_lifted (σ 184 (78 + a1).toNatClampNeg) σ) fun r_1 => bi (f_X8_endsOn r_1 σ) fun r_2 => bi (lp (b_X8_needOf_23 σ r_2) FU (0, 0)) fun z_5 => some z_5
set_option maxHeartbeats 4000000 in
set_option maxRecDepth 100000 in
theorem c_X8_needOf (l : Launch) (D : va_G) (cI cS : ClassId) (Z : Nat) (K : Nat → Nat) (hL : ly K 183 lyModel) (a1 : Int32) (σ : Nat → Nat → Int32) (r : Int32) (hf : f_X8_needOf a1 σ = some r) : Met l yX8_needOf (wsT yX8_needOf cX8_needOf 5 (some .int)) { frames := 2, cells := 0, slots := 0, locals := 45 } (Pm D cI cS Z K [.ref (Z + 183), .int a1] σ) (Qi D cI cS Z K r σ) 0 0 (aZ Z) := by
  refine mm_met (lv := [(0, .ref (Z + 183)), (1, .int a1)]) (by decide) (Nat.le_of_ble_eq_true rfl) rfl ?_
  intro p e s m args below meth c ls hx hb hr hml hts hown hlocks hG hl hI hS
  have hown : s.vm.findClass RX8 = some m.cls := hown
  rw [f_X8_needOf] at hf
  refine lv_aload_n hx hb dX8_needOf_0 rfl (lv_at hl 0 rfl) ?_
  refine lv_aload_n hx hb dX8_needOf_1 rfl (lv_at hl 0 rfl) ?_
  refine lv_aload_n hx hb dX8_needOf_2 rfl (lv_at hl 0 rfl) ?_
  refine gX8_7 (o' := 184) hx hb hts hown hG hI hL rfl dX8_needOf_3 ?_
  refine lv_bipush (v := 78) hx hb dX8_needOf_6 (by decide) ?_
  refine lv_iload_n hx hb dX8_needOf_8 rfl (lv_at hl 1 rfl) ?_
  refine lv_iadd hx hb dX8_needOf_9 ?_
  obtain ⟨hix, hf⟩ := ix_e hf
  refine mm_ald hx hb hG hI (ly_at hL 1 rfl) hix rfl dX8_needOf_10 ?_
  obtain ⟨r_1, hr_1, hf⟩ := bi_e hf
  refine kX8_115 hx hb hml hts hown hG hI hS hl.1 hL (As := [.int (σ 184 (78 + a1).toNatClampNeg)]) (c_X8_lifted l D cI cS Z K hL (σ 184 (78 + a1).toNatClampNeg) σ _ hr_1) ⟨(Nat.le_of_ble_eq_true rfl), (Nat.le_of_ble_eq_true rfl)⟩ rfl (Nat.le_of_ble_eq_true rfl) ⟨(Nat.le_of_ble_eq_true rfl), (Nat.le_of_ble_eq_true rfl)⟩ dX8_needOf_11 (fun H locs hI hS => ?_)
  obtain ⟨r_2, hr_2, hf⟩ := bi_e hf
  refine kX8_119 hx hb hml hts hown hG hI hS hl.1 hL (As := [.int r_1]) (c_X8_endsOn l D cI cS Z K hL r_1 σ _ hr_2) ⟨(Nat.le_of_ble_eq_true rfl), (Nat.le_of_ble_eq_true rfl)⟩ rfl (Nat.le_of_ble_eq_true rfl) ⟨(Nat.le_of_ble_eq_true rfl), (Nat.le_of_ble_eq_true rfl)⟩ dX8_needOf_14 (fun H locs hI hS => ?_)
  refine lv_istore_n (lv' := [(2, .int r_2), (0, .ref (Z + 183)), (1, .int a1)]) hx hb dX8_needOf_17 rfl hl (by decide) rfl (fun ls hl => ?_)
  refine lv_iconst (v := 0) hx hb dX8_needOf_18 (by decide) ?_
  refine lv_istore_n (lv' := [(3, .int 0), (2, .int r_2), (0, .ref (Z + 183)), (1, .int a1)]) hx hb dX8_needOf_19 rfl hl (by decide) rfl (fun ls hl => ?_)
  refine lv_iconst (v := 0) hx hb dX8_needOf_20 (by decide) ?_
  refine lv_istore (lv' := [(4, .int 0), (3, .int 0), (2, .int r_2), (0, .ref (Z + 183)), (1, .int a1)]) hx hb dX8_needOf_21 hl (by decide) rfl (fun ls hl => ?_)
  have L_7 : ∀ (nn : Nat) (y_3 : Int32) (y_4 : Int32) (z_5 : Int32), lp (b_X8_needOf_23 σ r_2) nn (y_3, y_4) = some z_5 → (∀ (H : Heap) (locs : List Loc) (ls : Array Slot), fI D cI cS Z K σ H → va_S (aZ Z) s.heap H locs → lv_has ls 5 [(3, .int z_5)] → W p l e { frames := 2, cells := 0, slots := 0, locals := 45 } s m args below meth c H locs 0 0 (MQ below (Qi D cI cS Z K r σ) args s 0 0 (aZ Z)) (F0 m 51 ls [])) → ∀ (H : Heap) (locs : List Loc) (ls : Array Slot), fI D cI cS Z K σ H → va_S (aZ Z) s.heap H locs → lv_has ls 5 [(0, .ref (Z + 183)), (2, .int r_2), (3, .int y_3), (4, .int y_4)] → W p l e { frames := 2, cells := 0, slots := 0, locals := 45 } s m args below meth c H locs 0 0 (MQ below (Qi D cI cS Z K r σ) args s 0 0 (aZ Z)) (F0 m 23 ls []) := by
    intro nn
    induction nn with
    | zero =>
      intro y_3 y_4 z_5 hq
      exact (lp_0 hq).elim
    | succ nn ih_8 =>
      intro y_3 y_4 z_5 hq kn_10 H locs ls hI hS hl
      obtain ⟨w_6, hf, hk_9⟩ := lp_e hq
      rw [b_X8_needOf_23] at hf
      have ih_8 := fun (y_3 : Int32) (y_4 : Int32) q => ih_8 y_3 y_4 z_5 q kn_10
      refine lv_iload hx hb dX8_needOf_23 (lv_at hl 3 rfl) ?_
      refine lv_aload_n hx hb dX8_needOf_25 rfl (lv_at hl 0 rfl) ?_
      refine gX8_7 (o' := 184) hx hb hts hown hG hI hL rfl dX8_needOf_26 ?_
      refine lv_iconst (v := 1) hx hb dX8_needOf_29 (by decide) ?_
      refine mm_ald (k := 1) (n := 456) hx hb hG hI (ly_at hL 1 rfl) (by decide) rfl dX8_needOf_30 ?_
      refine lv_icmp_ge (tgt := 51) hx hb dX8_needOf_31 (by decide) (fun c_19 => ?_) (fun c_19 => ?_)
      · have hf := pos_e c_19 hf
        obtain rfl := so_e hf
        obtain rfl := lk_r hk_9
        exact kn_10 _ _ _ hI hS (lv_sub hl [2] rfl)
      · have hf := neg_e c_19 hf
        refine lv_iload_n hx hb dX8_needOf_34 rfl (lv_at hl 2 rfl) ?_
        refine lv_aload_n hx hb dX8_needOf_35 rfl (lv_at hl 0 rfl) ?_
        refine lv_iconst (v := 0) hx hb dX8_needOf_36 (by decide) ?_
        refine lv_iload_n hx hb dX8_needOf_37 rfl (lv_at hl 1 rfl) ?_
        refine lv_iload hx hb dX8_needOf_38 (lv_at hl 3 rfl) ?_
        obtain ⟨r_16, hr_16, hf⟩ := bi_e hf
        refine kX8_122 hx hb hml hts hown hG hI hS hl.1 hL (As := [.int 0, .int r_2, .int y_4]) (c_X8_need l D cI cS Z K hL 0 r_2 y_4 σ _ hr_16) ⟨(Nat.le_of_ble_eq_true rfl), (Nat.le_of_ble_eq_true rfl)⟩ rfl (Nat.le_of_ble_eq_true rfl) ⟨(Nat.le_of_ble_eq_true rfl), (Nat.le_of_ble_eq_true rfl)⟩ dX8_needOf_40 (fun H locs hI hS => ?_)
        refine lv_iadd hx hb dX8_needOf_43 ?_
        obtain ⟨x_17, ex_17, hf⟩ := vl_e hf
        refine mm_name ex_17 ?_
        refine lv_istore_n (lv' := [(3, .int x_17), (0, .ref (Z + 183)), (2, .int r_2), (4, .int y_4)]) hx hb dX8_needOf_44 rfl hl (by decide) rfl (fun ls hl => ?_)
        obtain ⟨x_18, ex_18, hf⟩ := vl_e hf
        refine lv_iinc (v := x_18) (lv' := [(4, .int x_18), (3, .int x_17), (0, .ref (Z + 183)), (2, .int r_2)]) hx hb dX8_needOf_45 hl (k := 3) rfl (by rw [ex_18]; rfl) (by decide) rfl (fun ls hl => ?_)
        refine lv_goto (tgt := 23) hx hb dX8_needOf_48 (by decide) ?_
        obtain rfl := so_e hf
        exact ih_8 x_17 x_18 hk_9 _ _ _ hI hS (lv_sub hl [2, 3, 1, 0] rfl)
  obtain ⟨z_5, hy, hf⟩ := bi_e hf
  refine L_7 FU 0 0 _ hy ?_ _ _ _ hI hS (lv_sub hl [3, 2, 1, 0] rfl)
  clear L_7
  intro H locs ls hI hS hl
  refine lv_iload_n hx hb dX8_needOf_51 rfl (lv_at hl 0 rfl) ?_
  obtain rfl := so_e hf
  exact mm_ret hx hb hr hlocks rfl hI hS dX8_needOf_52
def f_X8_bar (a1 : Int32) (a2 : Int32) (σ : Nat → Nat → Int32) : Option (Int32 × (Nat → Nat → Int32)) := vl (wr σ 183 0 0) fun σ_1 => bi (f_X8_isBar a1 σ_1) fun r_2 => if r_2 = 0 then (some ((-1), σ_1)) else (if a2 = 0 then (ix (78 + a1) 456 <| some (σ_1 184 (78 + a1).toNatClampNeg, σ_1)) else (if a2 = 1 then (ix (102 + a1) 456 <| some (σ_1 184 (102 + a1).toNatClampNeg, σ_1)) else (if a2 = 2 then (ix (78 + a1) 456 <| bi (f_X8_lifted (σ_1 184 (78 + a1).toNatClampNeg) σ_1) fun r_6 => some (r_6, σ_1)) else (if a2 = 3 then (bi (f_X8_needOf a1 σ_1) fun r_8 => some (r_8, σ_1)) else (some ((-1), σ_1))))))
set_option maxHeartbeats 4000000 in
set_option maxRecDepth 100000 in
theorem c_X8_bar (l : Launch) (D : va_G) (cI cS : ClassId) (Z : Nat) (K : Nat → Nat) (hL : ly K 183 lyModel) (a1 : Int32) (a2 : Int32) (σ : Nat → Nat → Int32) (r : Int32) (σ' : Nat → Nat → Int32) (hf : f_X8_bar a1 a2 σ = some (r, σ')) : Met l yX8_bar (wsT yX8_bar cX8_bar 3 (some .int)) { frames := 3, cells := 0, slots := 0, locals := 69 } (Pm D cI cS Z K [.ref (Z + 183), .int a1, .int a2] σ) (Qi D cI cS Z K r σ') 0 0 (aZ Z) := by
  refine mm_met (lv := [(0, .ref (Z + 183)), (1, .int a1), (2, .int a2)]) (by decide) (Nat.le_of_ble_eq_true rfl) rfl ?_
  intro p e s m args below meth c ls hx hb hr hml hts hown hlocks hG hl hI hS
  have hown : s.vm.findClass RX8 = some m.cls := hown
  rw [f_X8_bar] at hf
  refine lv_aload_n hx hb dX8_bar_0 rfl (lv_at hl 0 rfl) ?_
  refine lv_iconst (v := 0) hx hb dX8_bar_1 (by decide) ?_
  obtain ⟨σ_1, eσ_1, hf⟩ := vl_e hf
  refine pX8_28 hx hb hts hown hG hI hS hL dX8_bar_2 (fun H locs hI hS => ?_)
  rw [← eσ_1] at hI
  refine lv_aload_n hx hb dX8_bar_5 rfl (lv_at hl 0 rfl) ?_
  refine lv_iload_n hx hb dX8_bar_6 rfl (lv_at hl 1 rfl) ?_
  obtain ⟨r_2, hr_2, hf⟩ := bi_e hf
  refine kX8_67 hx hb hml hts hown hG hI hS hl.1 hL (As := [.int a1]) (c_X8_isBar l D cI cS Z K hL a1 σ_1 _ hr_2) ⟨(Nat.le_of_ble_eq_true rfl), (Nat.le_of_ble_eq_true rfl)⟩ rfl (Nat.le_of_ble_eq_true rfl) ⟨(Nat.le_of_ble_eq_true rfl), (Nat.le_of_ble_eq_true rfl)⟩ dX8_bar_7 (fun hzr_2 H locs hI hS => ?_)
  refine lv_if_ne (tgt := 15) hx hb dX8_bar_10 (by decide) (fun c_9 => ?_) (fun c_9 => ?_)
  · have hf := neg_e c_9 hf
    refine lv_iload_n hx hb dX8_bar_15 rfl (lv_at hl 2 rfl) ?_
    by_cases c_3 : a2 = 0
    · have hf := pos_e c_3 hf
      refine lv_tableIn (off := 32) (tgt := 48) hx hb dX8_bar_16 (by rw [c_3]; decide) (by rw [c_3]; decide) (by rw [c_3]; rfl) (by decide) ?_
      refine lv_aload_n hx hb dX8_bar_48 rfl (lv_at hl 0 rfl) ?_
      refine gX8_7 (o' := 184) hx hb hts hown hG hI hL rfl dX8_bar_49 ?_
      refine lv_bipush (v := 78) hx hb dX8_bar_52 (by decide) ?_
      refine lv_iload_n hx hb dX8_bar_54 rfl (lv_at hl 1 rfl) ?_
      refine lv_iadd hx hb dX8_bar_55 ?_
      obtain ⟨hix, hf⟩ := ix_e hf
      refine mm_ald hx hb hG hI (ly_at hL 1 rfl) hix rfl dX8_bar_56 ?_
      obtain ⟨rfl, rfl⟩ := sp_e hf
      exact mm_ret hx hb hr hlocks rfl hI hS dX8_bar_57
    have hf := neg_e c_3 hf
    by_cases c_4 : a2 = 1
    · have hf := pos_e c_4 hf
      refine lv_tableIn (off := 42) (tgt := 58) hx hb dX8_bar_16 (by rw [c_4]; decide) (by rw [c_4]; decide) (by rw [c_4]; rfl) (by decide) ?_
      refine lv_aload_n hx hb dX8_bar_58 rfl (lv_at hl 0 rfl) ?_
      refine gX8_7 (o' := 184) hx hb hts hown hG hI hL rfl dX8_bar_59 ?_
      refine lv_bipush (v := 102) hx hb dX8_bar_62 (by decide) ?_
      refine lv_iload_n hx hb dX8_bar_64 rfl (lv_at hl 1 rfl) ?_
      refine lv_iadd hx hb dX8_bar_65 ?_
      obtain ⟨hix, hf⟩ := ix_e hf
      refine mm_ald hx hb hG hI (ly_at hL 1 rfl) hix rfl dX8_bar_66 ?_
      obtain ⟨rfl, rfl⟩ := sp_e hf
      exact mm_ret hx hb hr hlocks rfl hI hS dX8_bar_67
    have hf := neg_e c_4 hf
    by_cases c_5 : a2 = 2
    · have hf := pos_e c_5 hf
      refine lv_tableIn (off := 52) (tgt := 68) hx hb dX8_bar_16 (by rw [c_5]; decide) (by rw [c_5]; decide) (by rw [c_5]; rfl) (by decide) ?_
      refine lv_aload_n hx hb dX8_bar_68 rfl (lv_at hl 0 rfl) ?_
      refine lv_aload_n hx hb dX8_bar_69 rfl (lv_at hl 0 rfl) ?_
      refine gX8_7 (o' := 184) hx hb hts hown hG hI hL rfl dX8_bar_70 ?_
      refine lv_bipush (v := 78) hx hb dX8_bar_73 (by decide) ?_
      refine lv_iload_n hx hb dX8_bar_75 rfl (lv_at hl 1 rfl) ?_
      refine lv_iadd hx hb dX8_bar_76 ?_
      obtain ⟨hix, hf⟩ := ix_e hf
      refine mm_ald hx hb hG hI (ly_at hL 1 rfl) hix rfl dX8_bar_77 ?_
      obtain ⟨r_6, hr_6, hf⟩ := bi_e hf
      refine kX8_115 hx hb hml hts hown hG hI hS hl.1 hL (As := [.int (σ_1 184 (78 + a1).toNatClampNeg)]) (c_X8_lifted l D cI cS Z K hL (σ_1 184 (78 + a1).toNatClampNeg) σ_1 _ hr_6) ⟨(Nat.le_of_ble_eq_true rfl), (Nat.le_of_ble_eq_true rfl)⟩ rfl (Nat.le_of_ble_eq_true rfl) ⟨(Nat.le_of_ble_eq_true rfl), (Nat.le_of_ble_eq_true rfl)⟩ dX8_bar_78 (fun H locs hI hS => ?_)
      obtain ⟨rfl, rfl⟩ := sp_e hf
      exact mm_ret hx hb hr hlocks rfl hI hS dX8_bar_81
    have hf := neg_e c_5 hf
    by_cases c_7 : a2 = 3
    · have hf := pos_e c_7 hf
      refine lv_tableIn (off := 66) (tgt := 82) hx hb dX8_bar_16 (by rw [c_7]; decide) (by rw [c_7]; decide) (by rw [c_7]; rfl) (by decide) ?_
      refine lv_aload_n hx hb dX8_bar_82 rfl (lv_at hl 0 rfl) ?_
      refine lv_iload_n hx hb dX8_bar_83 rfl (lv_at hl 1 rfl) ?_
      obtain ⟨r_8, hr_8, hf⟩ := bi_e hf
      refine kX8_178 hx hb hml hts hown hG hI hS hl.1 hL (As := [.int a1]) (c_X8_needOf l D cI cS Z K hL a1 σ_1 _ hr_8) ⟨(Nat.le_of_ble_eq_true rfl), (Nat.le_of_ble_eq_true rfl)⟩ rfl (Nat.le_of_ble_eq_true rfl) ⟨(Nat.le_of_ble_eq_true rfl), (Nat.le_of_ble_eq_true rfl)⟩ dX8_bar_84 (fun H locs hI hS => ?_)
      obtain ⟨rfl, rfl⟩ := sp_e hf
      exact mm_ret hx hb hr hlocks rfl hI hS dX8_bar_87
    have hf := neg_e c_7 hf
    refine lv_tableOut (tgt := 88) hx hb dX8_bar_16 (sw_out3 c_3 c_4 c_5 c_7) (by decide) ?_
    refine lv_iconst (v := (-1)) hx hb dX8_bar_88 (by decide) ?_
    obtain ⟨rfl, rfl⟩ := sp_e hf
    exact mm_ret hx hb hr hlocks rfl hI hS dX8_bar_89
  · have hf := pos_e c_9 hf
    refine lv_iconst (v := (-1)) hx hb dX8_bar_13 (by decide) ?_
    obtain ⟨rfl, rfl⟩ := sp_e hf
    exact mm_ret hx hb hr hlocks rfl hI hS dX8_bar_14
def b_X8_begin_2  : Int32 × (Nat → Nat → Int32) → Option ((Int32 × (Nat → Nat → Int32)) ⊕ ((Nat → Nat → Int32)))
  | (y_1, σ_2) => if 456 ≤ y_1 then (some (.inr σ_2)) else (ix y_1 456 <| vl (wr σ_2 184 y_1.toNatClampNeg 0) fun σ_13 => vl (y_1 + 1) fun x_14 => some (.inl (x_14, σ_13)))
def b_X8_begin_38 (a1 : Int32) (a2 : Int32) : Int32 × (Nat → Nat → Int32) → Option ((Int32 × (Nat → Nat → Int32)) ⊕ ((Nat → Nat → Int32)))
  | (y_19, σ_20) => if a2 ≤ y_19 then (some (.inr σ_20)) else (nz a1 <| ix (6 + y_19) 456 <| vl (wr σ_20 184 (6 + y_19).toNatClampNeg (y_19 - y_19 / a1 * a1)) fun σ_31 => vl (y_19 + 1) fun x_32 => some (.inl (x_32, σ_31)))
def b_X8_begin_63  : Int32 × (Nat → Nat → Int32) → Option ((Int32 × (Nat → Nat → Int32)) ⊕ ((Nat → Nat → Int32)))
  | (y_35, σ_36) => if 10 ≤ y_35 then (some (.inr σ_36)) else (ix (126 + y_35) 456 <| vl (wr σ_36 184 (126 + y_35).toNatClampNeg 300) fun σ_47 => vl (y_35 + 1) fun x_48 => some (.inl (x_48, σ_47)))
def f_X8_begin (a1 : Int32) (a2 : Int32) (σ : Nat → Nat → Int32) : Option (Nat → Nat → Int32) := bi (lp (b_X8_begin_2) FU (0, σ)) fun σ_3 => vl (wr σ_3 184 0 a1) fun σ_17 => vl (wr σ_17 184 1 a2) fun σ_18 => bi (lp (b_X8_begin_38 a1 a2) FU (0, σ_18)) fun σ_21 => bi (lp (b_X8_begin_63) FU (0, σ_21)) fun σ_37 => some σ_37
set_option maxHeartbeats 4000000 in
set_option maxRecDepth 100000 in
theorem c_X8_begin (l : Launch) (D : va_G) (cI cS : ClassId) (Z : Nat) (K : Nat → Nat) (hL : ly K 183 lyModel) (a1 : Int32) (a2 : Int32) (σ : Nat → Nat → Int32) (σ' : Nat → Nat → Int32) (hf : f_X8_begin a1 a2 σ = some σ') : Met l yX8_begin (wsT yX8_begin cX8_begin 4 none) { frames := 0, cells := 0, slots := 0, locals := 0 } (Pm D cI cS Z K [.ref (Z + 183), .int a1, .int a2] σ) (Qv D cI cS Z K σ') 0 0 (aZ Z) := by
  refine mm_met (lv := [(0, .ref (Z + 183)), (1, .int a1), (2, .int a2)]) (by decide) (Nat.le_of_ble_eq_true rfl) rfl ?_
  intro p e s m args below meth c ls hx hb hr hml hts hown hlocks hG hl hI hS
  have hown : s.vm.findClass RX8 = some m.cls := hown
  rw [f_X8_begin] at hf
  refine lv_iconst (v := 0) hx hb dX8_begin_0 (by decide) ?_
  refine lv_istore_n (lv' := [(3, .int 0), (0, .ref (Z + 183)), (1, .int a1), (2, .int a2)]) hx hb dX8_begin_1 rfl hl (by decide) rfl (fun ls hl => ?_)
  have L_5 : ∀ (nn : Nat) (y_1 : Int32) (σ_2 : Nat → Nat → Int32) (σ_3 : Nat → Nat → Int32), lp (b_X8_begin_2) nn (y_1, σ_2) = some σ_3 → (∀ (H : Heap) (locs : List Loc) (ls : Array Slot), fI D cI cS Z K σ_3 H → va_S (aZ Z) s.heap H locs → lv_has ls 4 [(0, .ref (Z + 183)), (1, .int a1), (2, .int a2)] → W p l e { frames := 0, cells := 0, slots := 0, locals := 0 } s m args below meth c H locs 0 0 (MQ below (Qv D cI cS Z K σ') args s 0 0 (aZ Z)) (F0 m 22 ls [])) → ∀ (H : Heap) (locs : List Loc) (ls : Array Slot), fI D cI cS Z K σ_2 H → va_S (aZ Z) s.heap H locs → lv_has ls 4 [(0, .ref (Z + 183)), (1, .int a1), (2, .int a2), (3, .int y_1)] → W p l e { frames := 0, cells := 0, slots := 0, locals := 0 } s m args below meth c H locs 0 0 (MQ below (Qv D cI cS Z K σ') args s 0 0 (aZ Z)) (F0 m 2 ls []) := by
    intro nn
    induction nn with
    | zero =>
      intro y_1 σ_2 σ_3 hq
      exact (lp_0 hq).elim
    | succ nn ih_6 =>
      intro y_1 σ_2 σ_3 hq kn_8 H locs ls hI hS hl
      obtain ⟨w_4, hf, hk_7⟩ := lp_e hq
      rw [b_X8_begin_2] at hf
      have ih_6 := fun (y_1 : Int32) (σ_2 : Nat → Nat → Int32) q => ih_6 y_1 σ_2 σ_3 q kn_8
      refine lv_iload_n hx hb dX8_begin_2 rfl (lv_at hl 3 rfl) ?_
      refine lv_sipush (v := 456) hx hb dX8_begin_3 (by decide) ?_
      refine lv_icmp_ge (tgt := 22) hx hb dX8_begin_6 (by decide) (fun c_15 => ?_) (fun c_15 => ?_)
      · have hf := pos_e c_15 hf
        obtain rfl := so_e hf
        obtain rfl := lk_r hk_7
        exact kn_8 _ _ _ hI hS (lv_sub hl [0, 1, 2] rfl)
      · have hf := neg_e c_15 hf
        refine lv_aload_n hx hb dX8_begin_9 rfl (lv_at hl 0 rfl) ?_
        refine gX8_7 (o' := 184) hx hb hts hown hG hI hL rfl dX8_begin_10 ?_
        refine lv_iload_n hx hb dX8_begin_13 rfl (lv_at hl 3 rfl) ?_
        refine lv_iconst (v := 0) hx hb dX8_begin_14 (by decide) ?_
        obtain ⟨hix, hf⟩ := ix_e hf
        obtain ⟨σ_13, eσ_13, hf⟩ := vl_e hf
        refine mm_ast hx hb hG hI hS (ly_at hL 1 rfl) hix rfl dX8_begin_15 (fun H locs hI hS => ?_)
        rw [← eσ_13] at hI
        obtain ⟨x_14, ex_14, hf⟩ := vl_e hf
        refine lv_iinc (v := x_14) (lv' := [(3, .int x_14), (0, .ref (Z + 183)), (1, .int a1), (2, .int a2)]) hx hb dX8_begin_16 hl (k := 3) rfl (by rw [ex_14]; rfl) (by decide) rfl (fun ls hl => ?_)
        refine lv_goto (tgt := 2) hx hb dX8_begin_19 (by decide) ?_
        obtain rfl := so_e hf
        exact ih_6 x_14 σ_13 hk_7 _ _ _ hI hS (lv_sub hl [1, 2, 3, 0] rfl)
  obtain ⟨σ_3, hy, hf⟩ := bi_e hf
  refine L_5 FU 0 σ _ hy ?_ _ _ _ hI hS (lv_sub hl [1, 2, 3, 0] rfl)
  clear L_5
  intro H locs ls hI hS hl
  refine lv_aload_n hx hb dX8_begin_22 rfl (lv_at hl 0 rfl) ?_
  refine gX8_7 (o' := 184) hx hb hts hown hG hI hL rfl dX8_begin_23 ?_
  refine lv_iconst (v := 0) hx hb dX8_begin_26 (by decide) ?_
  refine lv_iload_n hx hb dX8_begin_27 rfl (lv_at hl 1 rfl) ?_
  obtain ⟨σ_17, eσ_17, hf⟩ := vl_e hf
  refine mm_ast (k := 0) (n := 456) hx hb hG hI hS (ly_at hL 1 rfl) (by decide) rfl dX8_begin_28 (fun H locs hI hS => ?_)
  rw [← eσ_17] at hI
  refine lv_aload_n hx hb dX8_begin_29 rfl (lv_at hl 0 rfl) ?_
  refine gX8_7 (o' := 184) hx hb hts hown hG hI hL rfl dX8_begin_30 ?_
  refine lv_iconst (v := 1) hx hb dX8_begin_33 (by decide) ?_
  refine lv_iload_n hx hb dX8_begin_34 rfl (lv_at hl 2 rfl) ?_
  obtain ⟨σ_18, eσ_18, hf⟩ := vl_e hf
  refine mm_ast (k := 1) (n := 456) hx hb hG hI hS (ly_at hL 1 rfl) (by decide) rfl dX8_begin_35 (fun H locs hI hS => ?_)
  rw [← eσ_18] at hI
  refine lv_iconst (v := 0) hx hb dX8_begin_36 (by decide) ?_
  refine lv_istore_n (lv' := [(3, .int 0), (0, .ref (Z + 183)), (1, .int a1), (2, .int a2)]) hx hb dX8_begin_37 rfl hl (by decide) rfl (fun ls hl => ?_)
  have L_23 : ∀ (nn : Nat) (y_19 : Int32) (σ_20 : Nat → Nat → Int32) (σ_21 : Nat → Nat → Int32), lp (b_X8_begin_38 a1 a2) nn (y_19, σ_20) = some σ_21 → (∀ (H : Heap) (locs : List Loc) (ls : Array Slot), fI D cI cS Z K σ_21 H → va_S (aZ Z) s.heap H locs → lv_has ls 4 [(0, .ref (Z + 183))] → W p l e { frames := 0, cells := 0, slots := 0, locals := 0 } s m args below meth c H locs 0 0 (MQ below (Qv D cI cS Z K σ') args s 0 0 (aZ Z)) (F0 m 61 ls [])) → ∀ (H : Heap) (locs : List Loc) (ls : Array Slot), fI D cI cS Z K σ_20 H → va_S (aZ Z) s.heap H locs → lv_has ls 4 [(0, .ref (Z + 183)), (1, .int a1), (2, .int a2), (3, .int y_19)] → W p l e { frames := 0, cells := 0, slots := 0, locals := 0 } s m args below meth c H locs 0 0 (MQ below (Qv D cI cS Z K σ') args s 0 0 (aZ Z)) (F0 m 38 ls []) := by
    intro nn
    induction nn with
    | zero =>
      intro y_19 σ_20 σ_21 hq
      exact (lp_0 hq).elim
    | succ nn ih_24 =>
      intro y_19 σ_20 σ_21 hq kn_26 H locs ls hI hS hl
      obtain ⟨w_22, hf, hk_25⟩ := lp_e hq
      rw [b_X8_begin_38] at hf
      have ih_24 := fun (y_19 : Int32) (σ_20 : Nat → Nat → Int32) q => ih_24 y_19 σ_20 σ_21 q kn_26
      refine lv_iload_n hx hb dX8_begin_38 rfl (lv_at hl 3 rfl) ?_
      refine lv_iload_n hx hb dX8_begin_39 rfl (lv_at hl 2 rfl) ?_
      refine lv_icmp_ge (tgt := 61) hx hb dX8_begin_40 (by decide) (fun c_33 => ?_) (fun c_33 => ?_)
      · have hf := pos_e c_33 hf
        obtain rfl := so_e hf
        obtain rfl := lk_r hk_25
        exact kn_26 _ _ _ hI hS (lv_sub hl [0] rfl)
      · have hf := neg_e c_33 hf
        refine lv_aload_n hx hb dX8_begin_43 rfl (lv_at hl 0 rfl) ?_
        refine gX8_7 (o' := 184) hx hb hts hown hG hI hL rfl dX8_begin_44 ?_
        refine lv_bipush (v := 6) hx hb dX8_begin_47 (by decide) ?_
        refine lv_iload_n hx hb dX8_begin_49 rfl (lv_at hl 3 rfl) ?_
        refine lv_iadd hx hb dX8_begin_50 ?_
        refine lv_iload_n hx hb dX8_begin_51 rfl (lv_at hl 3 rfl) ?_
        refine lv_iload_n hx hb dX8_begin_52 rfl (lv_at hl 1 rfl) ?_
        obtain ⟨hnz, hf⟩ := nz_e hf
        refine lv_irem hx hb dX8_begin_53 hnz ?_
        obtain ⟨hix, hf⟩ := ix_e hf
        obtain ⟨σ_31, eσ_31, hf⟩ := vl_e hf
        refine mm_ast hx hb hG hI hS (ly_at hL 1 rfl) hix rfl dX8_begin_54 (fun H locs hI hS => ?_)
        rw [← eσ_31] at hI
        obtain ⟨x_32, ex_32, hf⟩ := vl_e hf
        refine lv_iinc (v := x_32) (lv' := [(3, .int x_32), (0, .ref (Z + 183)), (1, .int a1), (2, .int a2)]) hx hb dX8_begin_55 hl (k := 3) rfl (by rw [ex_32]; rfl) (by decide) rfl (fun ls hl => ?_)
        refine lv_goto (tgt := 38) hx hb dX8_begin_58 (by decide) ?_
        obtain rfl := so_e hf
        exact ih_24 x_32 σ_31 hk_25 _ _ _ hI hS (lv_sub hl [1, 2, 3, 0] rfl)
  obtain ⟨σ_21, hy, hf⟩ := bi_e hf
  refine L_23 FU 0 σ_18 _ hy ?_ _ _ _ hI hS (lv_sub hl [1, 2, 3, 0] rfl)
  clear L_23
  intro H locs ls hI hS hl
  refine lv_iconst (v := 0) hx hb dX8_begin_61 (by decide) ?_
  refine lv_istore_n (lv' := [(3, .int 0), (0, .ref (Z + 183))]) hx hb dX8_begin_62 rfl hl (by decide) rfl (fun ls hl => ?_)
  have L_39 : ∀ (nn : Nat) (y_35 : Int32) (σ_36 : Nat → Nat → Int32) (σ_37 : Nat → Nat → Int32), lp (b_X8_begin_63) nn (y_35, σ_36) = some σ_37 → (∀ (H : Heap) (locs : List Loc) (ls : Array Slot), fI D cI cS Z K σ_37 H → va_S (aZ Z) s.heap H locs → lv_has ls 4 [] → W p l e { frames := 0, cells := 0, slots := 0, locals := 0 } s m args below meth c H locs 0 0 (MQ below (Qv D cI cS Z K σ') args s 0 0 (aZ Z)) (F0 m 87 ls [])) → ∀ (H : Heap) (locs : List Loc) (ls : Array Slot), fI D cI cS Z K σ_36 H → va_S (aZ Z) s.heap H locs → lv_has ls 4 [(0, .ref (Z + 183)), (3, .int y_35)] → W p l e { frames := 0, cells := 0, slots := 0, locals := 0 } s m args below meth c H locs 0 0 (MQ below (Qv D cI cS Z K σ') args s 0 0 (aZ Z)) (F0 m 63 ls []) := by
    intro nn
    induction nn with
    | zero =>
      intro y_35 σ_36 σ_37 hq
      exact (lp_0 hq).elim
    | succ nn ih_40 =>
      intro y_35 σ_36 σ_37 hq kn_42 H locs ls hI hS hl
      obtain ⟨w_38, hf, hk_41⟩ := lp_e hq
      rw [b_X8_begin_63] at hf
      have ih_40 := fun (y_35 : Int32) (σ_36 : Nat → Nat → Int32) q => ih_40 y_35 σ_36 σ_37 q kn_42
      refine lv_iload_n hx hb dX8_begin_63 rfl (lv_at hl 1 rfl) ?_
      refine lv_bipush (v := 10) hx hb dX8_begin_64 (by decide) ?_
      refine lv_icmp_ge (tgt := 87) hx hb dX8_begin_66 (by decide) (fun c_49 => ?_) (fun c_49 => ?_)
      · have hf := pos_e c_49 hf
        obtain rfl := so_e hf
        obtain rfl := lk_r hk_41
        exact kn_42 _ _ _ hI hS (lv_sub hl [] rfl)
      · have hf := neg_e c_49 hf
        refine lv_aload_n hx hb dX8_begin_69 rfl (lv_at hl 0 rfl) ?_
        refine gX8_7 (o' := 184) hx hb hts hown hG hI hL rfl dX8_begin_70 ?_
        refine lv_bipush (v := 126) hx hb dX8_begin_73 (by decide) ?_
        refine lv_iload_n hx hb dX8_begin_75 rfl (lv_at hl 1 rfl) ?_
        refine lv_iadd hx hb dX8_begin_76 ?_
        refine lv_sipush (v := 300) hx hb dX8_begin_77 (by decide) ?_
        obtain ⟨hix, hf⟩ := ix_e hf
        obtain ⟨σ_47, eσ_47, hf⟩ := vl_e hf
        refine mm_ast hx hb hG hI hS (ly_at hL 1 rfl) hix rfl dX8_begin_80 (fun H locs hI hS => ?_)
        rw [← eσ_47] at hI
        obtain ⟨x_48, ex_48, hf⟩ := vl_e hf
        refine lv_iinc (v := x_48) (lv' := [(3, .int x_48), (0, .ref (Z + 183))]) hx hb dX8_begin_81 hl (k := 1) rfl (by rw [ex_48]; rfl) (by decide) rfl (fun ls hl => ?_)
        refine lv_goto (tgt := 63) hx hb dX8_begin_84 (by decide) ?_
        obtain rfl := so_e hf
        exact ih_40 x_48 σ_47 hk_41 _ _ _ hI hS (lv_sub hl [1, 0] rfl)
  obtain ⟨σ_37, hy, hf⟩ := bi_e hf
  refine L_39 FU 0 σ_21 _ hy ?_ _ _ _ hI hS (lv_sub hl [1, 0] rfl)
  clear L_39
  intro H locs ls hI hS hl
  obtain rfl := so_e hf
  exact mm_vret hx hb hr hlocks hI hS dX8_begin_87
def f_X8_isRow (a1 : Int32) (σ : Nat → Nat → Int32) : Option Int32 := bi (f_X8_in a1 0 ((σ 184 5) - 1) σ) fun r_1 => some r_1
set_option maxHeartbeats 4000000 in
set_option maxRecDepth 100000 in
theorem c_X8_isRow (l : Launch) (D : va_G) (cI cS : ClassId) (Z : Nat) (K : Nat → Nat) (hL : ly K 183 lyModel) (a1 : Int32) (σ : Nat → Nat → Int32) (r : Int32) (hf : f_X8_isRow a1 σ = some r) : Met l yX8_isRow (wsT yX8_isRow cX8_isRow 2 (some .boolean)) { frames := 1, cells := 0, slots := 0, locals := 22 } (Pm D cI cS Z K [.ref (Z + 183), .int a1] σ) (Qz D cI cS Z K r σ) 0 0 (aZ Z) := by
  refine mm_met (lv := [(0, .ref (Z + 183)), (1, .int a1)]) (by decide) (Nat.le_of_ble_eq_true rfl) rfl ?_
  intro p e s m args below meth c ls hx hb hr hml hts hown hlocks hG hl hI hS
  have hown : s.vm.findClass RX8 = some m.cls := hown
  rw [f_X8_isRow] at hf
  refine lv_iload_n hx hb dX8_isRow_0 rfl (lv_at hl 1 rfl) ?_
  refine lv_iconst (v := 0) hx hb dX8_isRow_1 (by decide) ?_
  refine lv_aload_n hx hb dX8_isRow_2 rfl (lv_at hl 0 rfl) ?_
  refine gX8_7 (o' := 184) hx hb hts hown hG hI hL rfl dX8_isRow_3 ?_
  refine lv_iconst (v := 5) hx hb dX8_isRow_6 (by decide) ?_
  refine mm_ald (k := 5) (n := 456) hx hb hG hI (ly_at hL 1 rfl) (by decide) rfl dX8_isRow_7 ?_
  refine lv_iconst (v := 1) hx hb dX8_isRow_8 (by decide) ?_
  refine lv_isub hx hb dX8_isRow_9 ?_
  obtain ⟨r_1, hr_1, hf⟩ := bi_e hf
  refine kX8_39 hx hb hml hts hown hG hI hS hl.1 (As := [.int a1, .int 0, .int ((σ 184 5) - 1)]) (c_X8_in l D cI cS Z K a1 0 ((σ 184 5) - 1) σ _ hr_1) ⟨(Nat.le_of_ble_eq_true rfl), (Nat.le_of_ble_eq_true rfl)⟩ rfl (Nat.le_of_ble_eq_true rfl) ⟨(Nat.le_of_ble_eq_true rfl), (Nat.le_of_ble_eq_true rfl)⟩ dX8_isRow_10 (fun hzr_1 H locs hI hS => ?_)
  obtain rfl := so_e hf
  exact mm_zret hx hb hr hlocks hzr_1 hI hS dX8_isRow_13
def f_X8_isEnd (a1 : Int32) (σ : Nat → Nat → Int32) : Option Int32 := bi (f_X8_in a1 0 ((σ 184 1) - 1) σ) fun r_1 => some r_1
set_option maxHeartbeats 4000000 in
set_option maxRecDepth 100000 in
theorem c_X8_isEnd (l : Launch) (D : va_G) (cI cS : ClassId) (Z : Nat) (K : Nat → Nat) (hL : ly K 183 lyModel) (a1 : Int32) (σ : Nat → Nat → Int32) (r : Int32) (hf : f_X8_isEnd a1 σ = some r) : Met l yX8_isEnd (wsT yX8_isEnd cX8_isEnd 2 (some .boolean)) { frames := 1, cells := 0, slots := 0, locals := 22 } (Pm D cI cS Z K [.ref (Z + 183), .int a1] σ) (Qz D cI cS Z K r σ) 0 0 (aZ Z) := by
  refine mm_met (lv := [(0, .ref (Z + 183)), (1, .int a1)]) (by decide) (Nat.le_of_ble_eq_true rfl) rfl ?_
  intro p e s m args below meth c ls hx hb hr hml hts hown hlocks hG hl hI hS
  have hown : s.vm.findClass RX8 = some m.cls := hown
  rw [f_X8_isEnd] at hf
  refine lv_iload_n hx hb dX8_isEnd_0 rfl (lv_at hl 1 rfl) ?_
  refine lv_iconst (v := 0) hx hb dX8_isEnd_1 (by decide) ?_
  refine lv_aload_n hx hb dX8_isEnd_2 rfl (lv_at hl 0 rfl) ?_
  refine gX8_7 (o' := 184) hx hb hts hown hG hI hL rfl dX8_isEnd_3 ?_
  refine lv_iconst (v := 1) hx hb dX8_isEnd_6 (by decide) ?_
  refine mm_ald (k := 1) (n := 456) hx hb hG hI (ly_at hL 1 rfl) (by decide) rfl dX8_isEnd_7 ?_
  refine lv_iconst (v := 1) hx hb dX8_isEnd_8 (by decide) ?_
  refine lv_isub hx hb dX8_isEnd_9 ?_
  obtain ⟨r_1, hr_1, hf⟩ := bi_e hf
  refine kX8_39 hx hb hml hts hown hG hI hS hl.1 (As := [.int a1, .int 0, .int ((σ 184 1) - 1)]) (c_X8_in l D cI cS Z K a1 0 ((σ 184 1) - 1) σ _ hr_1) ⟨(Nat.le_of_ble_eq_true rfl), (Nat.le_of_ble_eq_true rfl)⟩ rfl (Nat.le_of_ble_eq_true rfl) ⟨(Nat.le_of_ble_eq_true rfl), (Nat.le_of_ble_eq_true rfl)⟩ dX8_isEnd_10 (fun hzr_1 H locs hI hS => ?_)
  obtain rfl := so_e hf
  exact mm_zret hx hb hr hlocks hzr_1 hI hS dX8_isEnd_13
def f_X8_side (a1 : Int32) (a2 : Int32) (σ : Nat → Nat → Int32) : Option Int32 := bi (f_X8_of a1 3 σ) fun r_1 => bi (f_X8_has r_1 a2 σ) fun r_2 => if r_2 = 0 then (some 2) else (bi (f_X8_of a1 2 σ) fun r_3 => bi (f_X8_has r_3 a2 σ) fun r_4 => if r_4 = 0 then (some 0) else (some 1))
set_option maxHeartbeats 4000000 in
set_option maxRecDepth 100000 in
theorem c_X8_side (l : Launch) (D : va_G) (cI cS : ClassId) (Z : Nat) (K : Nat → Nat) (hL : ly K 183 lyModel) (a1 : Int32) (a2 : Int32) (σ : Nat → Nat → Int32) (r : Int32) (hf : f_X8_side a1 a2 σ = some r) : Met l yX8_side (wsT yX8_side cX8_side 3 (some .int)) { frames := 1, cells := 0, slots := 0, locals := 22 } (Pm D cI cS Z K [.ref (Z + 183), .int a1, .int a2] σ) (Qi D cI cS Z K r σ) 0 0 (aZ Z) := by
  refine mm_met (lv := [(0, .ref (Z + 183)), (1, .int a1), (2, .int a2)]) (by decide) (Nat.le_of_ble_eq_true rfl) rfl ?_
  intro p e s m args below meth c ls hx hb hr hml hts hown hlocks hG hl hI hS
  have hown : s.vm.findClass RX8 = some m.cls := hown
  rw [f_X8_side] at hf
  refine lv_aload_n hx hb dX8_side_0 rfl (lv_at hl 0 rfl) ?_
  refine lv_iload_n hx hb dX8_side_1 rfl (lv_at hl 1 rfl) ?_
  refine lv_iconst (v := 3) hx hb dX8_side_2 (by decide) ?_
  obtain ⟨r_1, hr_1, hf⟩ := bi_e hf
  refine kX8_133 hx hb hml hts hown hG hI hS hl.1 hL (As := [.int a1, .int 3]) (c_X8_of l D cI cS Z K hL a1 3 σ _ hr_1) ⟨(Nat.le_of_ble_eq_true rfl), (Nat.le_of_ble_eq_true rfl)⟩ rfl (Nat.le_of_ble_eq_true rfl) ⟨(Nat.le_of_ble_eq_true rfl), (Nat.le_of_ble_eq_true rfl)⟩ dX8_side_3 (fun H locs hI hS => ?_)
  refine lv_iload_n hx hb dX8_side_6 rfl (lv_at hl 2 rfl) ?_
  obtain ⟨r_2, hr_2, hf⟩ := bi_e hf
  refine kX8_108 hx hb hml hts hown hG hI hS hl.1 (As := [.int r_1, .int a2]) (c_X8_has l D cI cS Z K r_1 a2 σ _ hr_2) ⟨(Nat.le_of_ble_eq_true rfl), (Nat.le_of_ble_eq_true rfl)⟩ rfl (Nat.le_of_ble_eq_true rfl) ⟨(Nat.le_of_ble_eq_true rfl), (Nat.le_of_ble_eq_true rfl)⟩ dX8_side_7 (fun hzr_2 H locs hI hS => ?_)
  refine lv_if_ne (tgt := 17) hx hb dX8_side_10 (by decide) (fun c_6 => ?_) (fun c_6 => ?_)
  · have hf := neg_e c_6 hf
    refine lv_aload_n hx hb dX8_side_17 rfl (lv_at hl 0 rfl) ?_
    refine lv_iload_n hx hb dX8_side_18 rfl (lv_at hl 1 rfl) ?_
    refine lv_iconst (v := 2) hx hb dX8_side_19 (by decide) ?_
    obtain ⟨r_3, hr_3, hf⟩ := bi_e hf
    refine kX8_133 hx hb hml hts hown hG hI hS hl.1 hL (As := [.int a1, .int 2]) (c_X8_of l D cI cS Z K hL a1 2 σ _ hr_3) ⟨(Nat.le_of_ble_eq_true rfl), (Nat.le_of_ble_eq_true rfl)⟩ rfl (Nat.le_of_ble_eq_true rfl) ⟨(Nat.le_of_ble_eq_true rfl), (Nat.le_of_ble_eq_true rfl)⟩ dX8_side_20 (fun H locs hI hS => ?_)
    refine lv_iload_n hx hb dX8_side_23 rfl (lv_at hl 2 rfl) ?_
    obtain ⟨r_4, hr_4, hf⟩ := bi_e hf
    refine kX8_108 hx hb hml hts hown hG hI hS hl.1 (As := [.int r_3, .int a2]) (c_X8_has l D cI cS Z K r_3 a2 σ _ hr_4) ⟨(Nat.le_of_ble_eq_true rfl), (Nat.le_of_ble_eq_true rfl)⟩ rfl (Nat.le_of_ble_eq_true rfl) ⟨(Nat.le_of_ble_eq_true rfl), (Nat.le_of_ble_eq_true rfl)⟩ dX8_side_24 (fun hzr_4 H locs hI hS => ?_)
    refine lv_if_eq (tgt := 34) hx hb dX8_side_27 (by decide) (fun c_5 => ?_) (fun c_5 => ?_)
    · have hf := pos_e c_5 hf
      refine lv_iconst (v := 0) hx hb dX8_side_34 (by decide) ?_
      obtain rfl := so_e hf
      exact mm_ret hx hb hr hlocks rfl hI hS dX8_side_35
    · have hf := neg_e c_5 hf
      refine lv_iconst (v := 1) hx hb dX8_side_30 (by decide) ?_
      refine lv_goto (tgt := 35) hx hb dX8_side_31 (by decide) ?_
      obtain rfl := so_e hf
      exact mm_ret hx hb hr hlocks rfl hI hS dX8_side_35
  · have hf := pos_e c_6 hf
    refine lv_iconst (v := 2) hx hb dX8_side_13 (by decide) ?_
    refine lv_goto (tgt := 35) hx hb dX8_side_14 (by decide) ?_
    obtain rfl := so_e hf
    exact mm_ret hx hb hr hlocks rfl hI hS dX8_side_35
def f_X8_cell (a1 : Int32) (a2 : Int32) (a3 : Int32) (σ : Nat → Nat → Int32) : Option (Int32 × (Nat → Nat → Int32)) := vl (wr σ 183 0 0) fun σ_1 => bi (f_X8_isRow a1 σ_1) fun r_2 => if r_2 = 0 then (some ((-1), σ_1)) else (bi (f_X8_isEnd a2 σ_1) fun r_3 => if r_3 = 0 then (some ((-1), σ_1)) else (bi (f_X8_in a3 0 3 σ_1) fun r_4 => if r_4 = 0 then (some ((-1), σ_1)) else (bi (f_X8_side a1 a2 σ_1) fun r_5 => if 2 ≤ a3 then (jn (α := Int32 → _) (fun k_10 => if a3 = 2 then (bi (f_X8_wrong a1 σ_1) fun r_15 => k_10 r_15) else (bi (f_X8_of a1 4 σ_1) fun r_14 => k_10 r_14)) (fun v_9 => bi (f_X8_has v_9 a2 σ_1) fun r_12 => if r_12 = 0 then (some (0, σ_1)) else (some (1, σ_1)))) else (if r_5 = 2 then (some ((-9), σ_1)) else (if a3 = 0 then (some (r_5, σ_1)) else (if r_5 = 1 then (ix (38 + a2) 456 <| some (σ_1 184 (38 + a2).toNatClampNeg, σ_1)) else (bi (f_X8_of a1 0 σ_1) fun r_17 => some (r_17, σ_1))))))))
set_option maxHeartbeats 4000000 in
set_option maxRecDepth 100000 in
theorem c_X8_cell (l : Launch) (D : va_G) (cI cS : ClassId) (Z : Nat) (K : Nat → Nat) (hL : ly K 183 lyModel) (a1 : Int32) (a2 : Int32) (a3 : Int32) (σ : Nat → Nat → Int32) (r : Int32) (σ' : Nat → Nat → Int32) (hf : f_X8_cell a1 a2 a3 σ = some (r, σ')) : Met l yX8_cell (wsT yX8_cell cX8_cell 5 (some .int)) { frames := 2, cells := 0, slots := 0, locals := 44 } (Pm D cI cS Z K [.ref (Z + 183), .int a1, .int a2, .int a3] σ) (Qi D cI cS Z K r σ') 0 0 (aZ Z) := by
  refine mm_met (lv := [(0, .ref (Z + 183)), (1, .int a1), (2, .int a2), (3, .int a3)]) (by decide) (Nat.le_of_ble_eq_true rfl) rfl ?_
  intro p e s m args below meth c ls hx hb hr hml hts hown hlocks hG hl hI hS
  have hown : s.vm.findClass RX8 = some m.cls := hown
  rw [f_X8_cell] at hf
  refine lv_aload_n hx hb dX8_cell_0 rfl (lv_at hl 0 rfl) ?_
  refine lv_iconst (v := 0) hx hb dX8_cell_1 (by decide) ?_
  obtain ⟨σ_1, eσ_1, hf⟩ := vl_e hf
  refine pX8_28 hx hb hts hown hG hI hS hL dX8_cell_2 (fun H locs hI hS => ?_)
  rw [← eσ_1] at hI
  refine lv_aload_n hx hb dX8_cell_5 rfl (lv_at hl 0 rfl) ?_
  refine lv_iload_n hx hb dX8_cell_6 rfl (lv_at hl 1 rfl) ?_
  obtain ⟨r_2, hr_2, hf⟩ := bi_e hf
  refine kX8_181 hx hb hml hts hown hG hI hS hl.1 hL (As := [.int a1]) (c_X8_isRow l D cI cS Z K hL a1 σ_1 _ hr_2) ⟨(Nat.le_of_ble_eq_true rfl), (Nat.le_of_ble_eq_true rfl)⟩ rfl (Nat.le_of_ble_eq_true rfl) ⟨(Nat.le_of_ble_eq_true rfl), (Nat.le_of_ble_eq_true rfl)⟩ dX8_cell_7 (fun hzr_2 H locs hI hS => ?_)
  refine lv_if_eq (tgt := 30) hx hb dX8_cell_10 (by decide) (fun c_24 => ?_) (fun c_24 => ?_)
  · have hf := pos_e c_24 hf
    refine lv_iconst (v := (-1)) hx hb dX8_cell_30 (by decide) ?_
    obtain ⟨rfl, rfl⟩ := sp_e hf
    exact mm_ret hx hb hr hlocks rfl hI hS dX8_cell_31
  · have hf := neg_e c_24 hf
    refine lv_aload_n hx hb dX8_cell_13 rfl (lv_at hl 0 rfl) ?_
    refine lv_iload_n hx hb dX8_cell_14 rfl (lv_at hl 2 rfl) ?_
    obtain ⟨r_3, hr_3, hf⟩ := bi_e hf
    refine kX8_46 hx hb hml hts hown hG hI hS hl.1 hL (As := [.int a2]) (c_X8_isEnd l D cI cS Z K hL a2 σ_1 _ hr_3) ⟨(Nat.le_of_ble_eq_true rfl), (Nat.le_of_ble_eq_true rfl)⟩ rfl (Nat.le_of_ble_eq_true rfl) ⟨(Nat.le_of_ble_eq_true rfl), (Nat.le_of_ble_eq_true rfl)⟩ dX8_cell_15 (fun hzr_3 H locs hI hS => ?_)
    refine lv_if_eq (tgt := 30) hx hb dX8_cell_18 (by decide) (fun c_23 => ?_) (fun c_23 => ?_)
    · have hf := pos_e c_23 hf
      refine lv_iconst (v := (-1)) hx hb dX8_cell_30 (by decide) ?_
      obtain ⟨rfl, rfl⟩ := sp_e hf
      exact mm_ret hx hb hr hlocks rfl hI hS dX8_cell_31
    · have hf := neg_e c_23 hf
      refine lv_iload_n hx hb dX8_cell_21 rfl (lv_at hl 3 rfl) ?_
      refine lv_iconst (v := 0) hx hb dX8_cell_22 (by decide) ?_
      refine lv_iconst (v := 3) hx hb dX8_cell_23 (by decide) ?_
      obtain ⟨r_4, hr_4, hf⟩ := bi_e hf
      refine kX8_39 hx hb hml hts hown hG hI hS hl.1 (As := [.int a3, .int 0, .int 3]) (c_X8_in l D cI cS Z K a3 0 3 σ_1 _ hr_4) ⟨(Nat.le_of_ble_eq_true rfl), (Nat.le_of_ble_eq_true rfl)⟩ rfl (Nat.le_of_ble_eq_true rfl) ⟨(Nat.le_of_ble_eq_true rfl), (Nat.le_of_ble_eq_true rfl)⟩ dX8_cell_24 (fun hzr_4 H locs hI hS => ?_)
      refine lv_if_ne (tgt := 32) hx hb dX8_cell_27 (by decide) (fun c_22 => ?_) (fun c_22 => ?_)
      · have hf := neg_e c_22 hf
        refine lv_aload_n hx hb dX8_cell_32 rfl (lv_at hl 0 rfl) ?_
        refine lv_iload_n hx hb dX8_cell_33 rfl (lv_at hl 1 rfl) ?_
        refine lv_iload_n hx hb dX8_cell_34 rfl (lv_at hl 2 rfl) ?_
        obtain ⟨r_5, hr_5, hf⟩ := bi_e hf
        refine kX8_163 hx hb hml hts hown hG hI hS hl.1 hL (As := [.int a1, .int a2]) (c_X8_side l D cI cS Z K hL a1 a2 σ_1 _ hr_5) ⟨(Nat.le_of_ble_eq_true rfl), (Nat.le_of_ble_eq_true rfl)⟩ rfl (Nat.le_of_ble_eq_true rfl) ⟨(Nat.le_of_ble_eq_true rfl), (Nat.le_of_ble_eq_true rfl)⟩ dX8_cell_35 (fun H locs hI hS => ?_)
        refine lv_istore (lv' := [(4, .int r_5), (0, .ref (Z + 183)), (1, .int a1), (2, .int a2), (3, .int a3)]) hx hb dX8_cell_38 hl (by decide) rfl (fun ls hl => ?_)
        refine lv_iload_n hx hb dX8_cell_40 rfl (lv_at hl 4 rfl) ?_
        refine lv_iconst (v := 2) hx hb dX8_cell_41 (by decide) ?_
        refine lv_icmp_ge (tgt := 90) hx hb dX8_cell_42 (by decide) (fun c_21 => ?_) (fun c_21 => ?_)
        · have hf := pos_e c_21 hf
          refine lv_iload_n hx hb dX8_cell_90 rfl (lv_at hl 4 rfl) ?_
          refine lv_iconst (v := 2) hx hb dX8_cell_91 (by decide) ?_
          obtain ⟨k_10, ek_10, hf⟩ := jn_e hf
          have HJ_11 : ∀ (v_9 : Int32) (H : Heap) (locs : List Loc) (ls : Array Slot), k_10 v_9 = some (r, σ') → fI D cI cS Z K σ_1 H → va_S (aZ Z) s.heap H locs → lv_has ls 5 [(2, .int a2)] → W p l e { frames := 2, cells := 0, slots := 0, locals := 44 } s m args below meth c H locs 0 0 (MQ below (Qi D cI cS Z K r σ') args s 0 0 (aZ Z)) (F0 m 109 ls [.int v_9]) := by
            intro v_9 H locs ls hf hI hS hl
            have hf := jb1 ek_10 hf
            refine lv_iload_n hx hb dX8_cell_109 rfl (lv_at hl 0 rfl) ?_
            obtain ⟨r_12, hr_12, hf⟩ := bi_e hf
            refine kX8_108 hx hb hml hts hown hG hI hS hl.1 (As := [.int v_9, .int a2]) (c_X8_has l D cI cS Z K v_9 a2 σ_1 _ hr_12) ⟨(Nat.le_of_ble_eq_true rfl), (Nat.le_of_ble_eq_true rfl)⟩ rfl (Nat.le_of_ble_eq_true rfl) ⟨(Nat.le_of_ble_eq_true rfl), (Nat.le_of_ble_eq_true rfl)⟩ dX8_cell_110 (fun hzr_12 H locs hI hS => ?_)
            refine lv_if_eq (tgt := 120) hx hb dX8_cell_113 (by decide) (fun c_13 => ?_) (fun c_13 => ?_)
            · have hf := pos_e c_13 hf
              refine lv_iconst (v := 0) hx hb dX8_cell_120 (by decide) ?_
              obtain ⟨rfl, rfl⟩ := sp_e hf
              exact mm_ret hx hb hr hlocks rfl hI hS dX8_cell_121
            · have hf := neg_e c_13 hf
              refine lv_iconst (v := 1) hx hb dX8_cell_116 (by decide) ?_
              refine lv_goto (tgt := 121) hx hb dX8_cell_117 (by decide) ?_
              obtain ⟨rfl, rfl⟩ := sp_e hf
              exact mm_ret hx hb hr hlocks rfl hI hS dX8_cell_121
          clear ek_10
          refine lv_icmp_ne (tgt := 103) hx hb dX8_cell_92 (by decide) (fun c_16 => ?_) (fun c_16 => ?_)
          · have hf := neg_e c_16 hf
            refine lv_aload_n hx hb dX8_cell_103 rfl (lv_at hl 1 rfl) ?_
            refine lv_iload_n hx hb dX8_cell_104 rfl (lv_at hl 2 rfl) ?_
            refine lv_iconst (v := 4) hx hb dX8_cell_105 (by decide) ?_
            obtain ⟨r_14, hr_14, hf⟩ := bi_e hf
            refine kX8_133 hx hb hml hts hown hG hI hS hl.1 hL (As := [.int a1, .int 4]) (c_X8_of l D cI cS Z K hL a1 4 σ_1 _ hr_14) ⟨(Nat.le_of_ble_eq_true rfl), (Nat.le_of_ble_eq_true rfl)⟩ rfl (Nat.le_of_ble_eq_true rfl) ⟨(Nat.le_of_ble_eq_true rfl), (Nat.le_of_ble_eq_true rfl)⟩ dX8_cell_106 (fun H locs hI hS => ?_)
            exact HJ_11 r_14 _ _ _ hf hI hS (lv_sub hl [3] rfl)
          · have hf := pos_e c_16 hf
            refine lv_aload_n hx hb dX8_cell_95 rfl (lv_at hl 1 rfl) ?_
            refine lv_iload_n hx hb dX8_cell_96 rfl (lv_at hl 2 rfl) ?_
            obtain ⟨r_15, hr_15, hf⟩ := bi_e hf
            refine kX8_148 hx hb hml hts hown hG hI hS hl.1 hL (As := [.int a1]) (c_X8_wrong l D cI cS Z K hL a1 σ_1 _ hr_15) ⟨(Nat.le_of_ble_eq_true rfl), (Nat.le_of_ble_eq_true rfl)⟩ rfl (Nat.le_of_ble_eq_true rfl) ⟨(Nat.le_of_ble_eq_true rfl), (Nat.le_of_ble_eq_true rfl)⟩ dX8_cell_97 (fun H locs hI hS => ?_)
            refine lv_goto (tgt := 109) hx hb dX8_cell_100 (by decide) ?_
            exact HJ_11 r_15 _ _ _ hf hI hS (lv_sub hl [3] rfl)
        · have hf := neg_e c_21 hf
          refine lv_iload hx hb dX8_cell_45 (lv_at hl 0 rfl) ?_
          refine lv_iconst (v := 2) hx hb dX8_cell_47 (by decide) ?_
          refine lv_icmp_ne (tgt := 56) hx hb dX8_cell_48 (by decide) (fun c_20 => ?_) (fun c_20 => ?_)
          · have hf := neg_e c_20 hf
            refine lv_iload_n hx hb dX8_cell_56 rfl (lv_at hl 4 rfl) ?_
            refine lv_if_ne (tgt := 65) hx hb dX8_cell_57 (by decide) (fun c_19 => ?_) (fun c_19 => ?_)
            · have hf := neg_e c_19 hf
              refine lv_iload hx hb dX8_cell_65 (lv_at hl 0 rfl) ?_
              refine lv_iconst (v := 1) hx hb dX8_cell_67 (by decide) ?_
              refine lv_icmp_ne (tgt := 83) hx hb dX8_cell_68 (by decide) (fun c_18 => ?_) (fun c_18 => ?_)
              · have hf := neg_e c_18 hf
                refine lv_aload_n hx hb dX8_cell_83 rfl (lv_at hl 1 rfl) ?_
                refine lv_iload_n hx hb dX8_cell_84 rfl (lv_at hl 2 rfl) ?_
                refine lv_iconst (v := 0) hx hb dX8_cell_85 (by decide) ?_
                obtain ⟨r_17, hr_17, hf⟩ := bi_e hf
                refine kX8_133 hx hb hml hts hown hG hI hS hl.1 hL (As := [.int a1, .int 0]) (c_X8_of l D cI cS Z K hL a1 0 σ_1 _ hr_17) ⟨(Nat.le_of_ble_eq_true rfl), (Nat.le_of_ble_eq_true rfl)⟩ rfl (Nat.le_of_ble_eq_true rfl) ⟨(Nat.le_of_ble_eq_true rfl), (Nat.le_of_ble_eq_true rfl)⟩ dX8_cell_86 (fun H locs hI hS => ?_)
                obtain ⟨rfl, rfl⟩ := sp_e hf
                exact mm_ret hx hb hr hlocks rfl hI hS dX8_cell_89
              · have hf := pos_e c_18 hf
                refine lv_aload_n hx hb dX8_cell_71 rfl (lv_at hl 1 rfl) ?_
                refine gX8_7 (o' := 184) hx hb hts hown hG hI hL rfl dX8_cell_72 ?_
                refine lv_bipush (v := 38) hx hb dX8_cell_75 (by decide) ?_
                refine lv_iload_n hx hb dX8_cell_77 rfl (lv_at hl 3 rfl) ?_
                refine lv_iadd hx hb dX8_cell_78 ?_
                obtain ⟨hix, hf⟩ := ix_e hf
                refine mm_ald hx hb hG hI (ly_at hL 1 rfl) hix rfl dX8_cell_79 ?_
                refine lv_goto (tgt := 89) hx hb dX8_cell_80 (by decide) ?_
                obtain ⟨rfl, rfl⟩ := sp_e hf
                exact mm_ret hx hb hr hlocks rfl hI hS dX8_cell_89
            · have hf := pos_e c_19 hf
              refine lv_iload hx hb dX8_cell_60 (lv_at hl 0 rfl) ?_
              refine lv_goto (tgt := 89) hx hb dX8_cell_62 (by decide) ?_
              obtain ⟨rfl, rfl⟩ := sp_e hf
              exact mm_ret hx hb hr hlocks rfl hI hS dX8_cell_89
          · have hf := pos_e c_20 hf
            refine lv_bipush (v := (-9)) hx hb dX8_cell_51 (by decide) ?_
            refine lv_goto (tgt := 89) hx hb dX8_cell_53 (by decide) ?_
            obtain ⟨rfl, rfl⟩ := sp_e hf
            exact mm_ret hx hb hr hlocks rfl hI hS dX8_cell_89
      · have hf := pos_e c_22 hf
        refine lv_iconst (v := (-1)) hx hb dX8_cell_30 (by decide) ?_
        obtain ⟨rfl, rfl⟩ := sp_e hf
        exact mm_ret hx hb hr hlocks rfl hI hS dX8_cell_31
def f_X8_clearText  (σ : Nat → Nat → Int32) : Option (Int32 × (Nat → Nat → Int32)) := vl (wr σ 183 0 0) fun σ_1 => vl (σ_1 183 6) fun x_2 => vl (wr σ_1 183 6 0) fun σ_3 => some (x_2, σ_3)
set_option maxHeartbeats 4000000 in
set_option maxRecDepth 100000 in
theorem c_X8_clearText (l : Launch) (D : va_G) (cI cS : ClassId) (Z : Nat) (K : Nat → Nat) (hL : ly K 183 lyModel) (σ : Nat → Nat → Int32) (r : Int32) (σ' : Nat → Nat → Int32) (hf : f_X8_clearText σ = some (r, σ')) : Met l yX8_clearText (wsT yX8_clearText cX8_clearText 2 (some .int)) { frames := 0, cells := 0, slots := 0, locals := 0 } (Pm D cI cS Z K [.ref (Z + 183)] σ) (Qi D cI cS Z K r σ') 0 0 (aZ Z) := by
  refine mm_met (lv := [(0, .ref (Z + 183))]) (by decide) (Nat.le_of_ble_eq_true rfl) rfl ?_
  intro p e s m args below meth c ls hx hb hr hml hts hown hlocks hG hl hI hS
  have hown : s.vm.findClass RX8 = some m.cls := hown
  rw [f_X8_clearText] at hf
  refine lv_aload_n hx hb dX8_clearText_0 rfl (lv_at hl 0 rfl) ?_
  refine lv_iconst (v := 0) hx hb dX8_clearText_1 (by decide) ?_
  obtain ⟨σ_1, eσ_1, hf⟩ := vl_e hf
  refine pX8_28 hx hb hts hown hG hI hS hL dX8_clearText_2 (fun H locs hI hS => ?_)
  rw [← eσ_1] at hI
  refine lv_aload_n hx hb dX8_clearText_5 rfl (lv_at hl 0 rfl) ?_
  refine gX8_70 hx hb hts hown hG hI hL dX8_clearText_6 ?_
  obtain ⟨x_2, ex_2, hf⟩ := vl_e hf
  refine mm_name ex_2 ?_
  refine lv_istore_n (lv' := [(1, .int x_2), (0, .ref (Z + 183))]) hx hb dX8_clearText_9 rfl hl (by decide) rfl (fun ls hl => ?_)
  refine lv_aload_n hx hb dX8_clearText_10 rfl (lv_at hl 1 rfl) ?_
  refine lv_iconst (v := 0) hx hb dX8_clearText_11 (by decide) ?_
  obtain ⟨σ_3, eσ_3, hf⟩ := vl_e hf
  refine pX8_70 hx hb hts hown hG hI hS hL dX8_clearText_12 (fun H locs hI hS => ?_)
  rw [← eσ_3] at hI
  refine lv_iload_n hx hb dX8_clearText_15 rfl (lv_at hl 0 rfl) ?_
  obtain ⟨rfl, rfl⟩ := sp_e hf
  exact mm_ret hx hb hr hlocks rfl hI hS dX8_clearText_16
def f_X8_stands  (σ : Nat → Nat → Int32) : Option Int32 := if (σ 184 5) ≤ 0 then (some 0) else (bi (f_X8_of ((σ 184 5) - 1) 3 σ) fun r_1 => bi (f_X8_allEnds σ) fun r_2 => if r_1 = r_2 then (some 0) else (some 1))
set_option maxHeartbeats 4000000 in
set_option maxRecDepth 100000 in
theorem c_X8_stands (l : Launch) (D : va_G) (cI cS : ClassId) (Z : Nat) (K : Nat → Nat) (hL : ly K 183 lyModel) (σ : Nat → Nat → Int32) (r : Int32) (hf : f_X8_stands σ = some r) : Met l yX8_stands (wsT yX8_stands cX8_stands 1 (some .boolean)) { frames := 1, cells := 0, slots := 0, locals := 22 } (Pm D cI cS Z K [.ref (Z + 183)] σ) (Qz D cI cS Z K r σ) 0 0 (aZ Z) := by
  refine mm_met (lv := [(0, .ref (Z + 183))]) (by decide) (Nat.le_of_ble_eq_true rfl) rfl ?_
  intro p e s m args below meth c ls hx hb hr hml hts hown hlocks hG hl hI hS
  have hown : s.vm.findClass RX8 = some m.cls := hown
  rw [f_X8_stands] at hf
  refine lv_aload_n hx hb dX8_stands_0 rfl (lv_at hl 0 rfl) ?_
  refine gX8_7 (o' := 184) hx hb hts hown hG hI hL rfl dX8_stands_1 ?_
  refine lv_iconst (v := 5) hx hb dX8_stands_4 (by decide) ?_
  refine mm_ald (k := 5) (n := 456) hx hb hG hI (ly_at hL 1 rfl) (by decide) rfl dX8_stands_5 ?_
  refine lv_if_le (tgt := 33) hx hb dX8_stands_6 (by decide) (fun c_4 => ?_) (fun c_4 => ?_)
  · have hf := pos_e c_4 hf
    refine lv_iconst (v := 0) hx hb dX8_stands_33 (by decide) ?_
    obtain rfl := so_e hf
    exact mm_zret hx hb hr hlocks (Or.inl rfl) hI hS dX8_stands_34
  · have hf := neg_e c_4 hf
    refine lv_aload_n hx hb dX8_stands_9 rfl (lv_at hl 0 rfl) ?_
    refine lv_aload_n hx hb dX8_stands_10 rfl (lv_at hl 0 rfl) ?_
    refine gX8_7 (o' := 184) hx hb hts hown hG hI hL rfl dX8_stands_11 ?_
    refine lv_iconst (v := 5) hx hb dX8_stands_14 (by decide) ?_
    refine mm_ald (k := 5) (n := 456) hx hb hG hI (ly_at hL 1 rfl) (by decide) rfl dX8_stands_15 ?_
    refine lv_iconst (v := 1) hx hb dX8_stands_16 (by decide) ?_
    refine lv_isub hx hb dX8_stands_17 ?_
    refine lv_iconst (v := 3) hx hb dX8_stands_18 (by decide) ?_
    obtain ⟨r_1, hr_1, hf⟩ := bi_e hf
    refine kX8_133 hx hb hml hts hown hG hI hS hl.1 hL (As := [.int ((σ 184 5) - 1), .int 3]) (c_X8_of l D cI cS Z K hL ((σ 184 5) - 1) 3 σ _ hr_1) ⟨(Nat.le_of_ble_eq_true rfl), (Nat.le_of_ble_eq_true rfl)⟩ rfl (Nat.le_of_ble_eq_true rfl) ⟨(Nat.le_of_ble_eq_true rfl), (Nat.le_of_ble_eq_true rfl)⟩ dX8_stands_19 (fun H locs hI hS => ?_)
    refine lv_aload_n hx hb dX8_stands_22 rfl (lv_at hl 0 rfl) ?_
    obtain ⟨r_2, hr_2, hf⟩ := bi_e hf
    refine kX8_136 hx hb hml hts hown hG hI hS hl.1 hL (As := []) (c_X8_allEnds l D cI cS Z K hL σ _ hr_2) ⟨(Nat.le_of_ble_eq_true rfl), (Nat.le_of_ble_eq_true rfl)⟩ rfl (Nat.le_of_ble_eq_true rfl) ⟨(Nat.le_of_ble_eq_true rfl), (Nat.le_of_ble_eq_true rfl)⟩ dX8_stands_23 (fun H locs hI hS => ?_)
    refine lv_icmp_eq (tgt := 33) hx hb dX8_stands_26 (by decide) (fun c_3 => ?_) (fun c_3 => ?_)
    · have hf := pos_e c_3 hf
      refine lv_iconst (v := 0) hx hb dX8_stands_33 (by decide) ?_
      obtain rfl := so_e hf
      exact mm_zret hx hb hr hlocks (Or.inl rfl) hI hS dX8_stands_34
    · have hf := neg_e c_3 hf
      refine lv_iconst (v := 1) hx hb dX8_stands_29 (by decide) ?_
      refine lv_goto (tgt := 34) hx hb dX8_stands_30 (by decide) ?_
      obtain rfl := so_e hf
      exact mm_zret hx hb hr hlocks (Or.inr rfl) hI hS dX8_stands_34
def f_X8_count (a1 : Int32) (σ : Nat → Nat → Int32) : Option (Int32 × (Nat → Nat → Int32)) := vl (wr σ 183 0 0) fun σ_1 => if a1 = 0 then (ix a1 456 <| some (σ_1 184 a1.toNatClampNeg, σ_1)) else (if a1 = 1 then (ix a1 456 <| some (σ_1 184 a1.toNatClampNeg, σ_1)) else (if a1 = 2 then (ix a1 456 <| some (σ_1 184 a1.toNatClampNeg, σ_1)) else (if a1 = 3 then (if (σ_1 184 2) = 0 then (some ((-9), σ_1)) else (some (σ_1 184 3, σ_1))) else (if a1 = 4 then (ix a1 456 <| some (σ_1 184 a1.toNatClampNeg, σ_1)) else (if a1 = 5 then (ix a1 456 <| some (σ_1 184 a1.toNatClampNeg, σ_1)) else (if a1 = 6 then (bi (f_X8_stands σ_1) fun r_10 => if r_10 = 0 then (some (0, σ_1)) else (some (1, σ_1))) else (if a1 = 7 then (bi (f_X8_allWrong σ_1) fun r_13 => some (r_13, σ_1)) else (if a1 = 8 then (some (σ_1 183 4, σ_1)) else (if a1 = 9 then (some (σ_1 183 6, σ_1)) else (some ((-1), σ_1)))))))))))
set_option maxHeartbeats 4000000 in
set_option maxRecDepth 100000 in
theorem c_X8_count (l : Launch) (D : va_G) (cI cS : ClassId) (Z : Nat) (K : Nat → Nat) (hL : ly K 183 lyModel) (a1 : Int32) (σ : Nat → Nat → Int32) (r : Int32) (σ' : Nat → Nat → Int32) (hf : f_X8_count a1 σ = some (r, σ')) : Met l yX8_count (wsT yX8_count cX8_count 2 (some .int)) { frames := 3, cells := 0, slots := 0, locals := 65 } (Pm D cI cS Z K [.ref (Z + 183), .int a1] σ) (Qi D cI cS Z K r σ') 0 0 (aZ Z) := by
  refine mm_met (lv := [(0, .ref (Z + 183)), (1, .int a1)]) (by decide) (Nat.le_of_ble_eq_true rfl) rfl ?_
  intro p e s m args below meth c ls hx hb hr hml hts hown hlocks hG hl hI hS
  have hown : s.vm.findClass RX8 = some m.cls := hown
  rw [f_X8_count] at hf
  refine lv_aload_n hx hb dX8_count_0 rfl (lv_at hl 0 rfl) ?_
  refine lv_iconst (v := 0) hx hb dX8_count_1 (by decide) ?_
  obtain ⟨σ_1, eσ_1, hf⟩ := vl_e hf
  refine pX8_28 hx hb hts hown hG hI hS hL dX8_count_2 (fun H locs hI hS => ?_)
  rw [← eσ_1] at hI
  refine lv_iload_n hx hb dX8_count_5 rfl (lv_at hl 1 rfl) ?_
  by_cases c_2 : a1 = 0
  · have hf := pos_e c_2 hf
    refine lv_tableIn (off := 54) (tgt := 60) hx hb dX8_count_6 (by rw [c_2]; decide) (by rw [c_2]; decide) (by rw [c_2]; rfl) (by decide) ?_
    refine lv_aload_n hx hb dX8_count_60 rfl (lv_at hl 0 rfl) ?_
    refine gX8_7 (o' := 184) hx hb hts hown hG hI hL rfl dX8_count_61 ?_
    refine lv_iload_n hx hb dX8_count_64 rfl (lv_at hl 1 rfl) ?_
    obtain ⟨hix, hf⟩ := ix_e hf
    refine mm_ald hx hb hG hI (ly_at hL 1 rfl) hix rfl dX8_count_65 ?_
    obtain ⟨rfl, rfl⟩ := sp_e hf
    exact mm_ret hx hb hr hlocks rfl hI hS dX8_count_66
  have hf := neg_e c_2 hf
  by_cases c_3 : a1 = 1
  · have hf := pos_e c_3 hf
    refine lv_tableIn (off := 54) (tgt := 60) hx hb dX8_count_6 (by rw [c_3]; decide) (by rw [c_3]; decide) (by rw [c_3]; rfl) (by decide) ?_
    refine lv_aload_n hx hb dX8_count_60 rfl (lv_at hl 0 rfl) ?_
    refine gX8_7 (o' := 184) hx hb hts hown hG hI hL rfl dX8_count_61 ?_
    refine lv_iload_n hx hb dX8_count_64 rfl (lv_at hl 1 rfl) ?_
    obtain ⟨hix, hf⟩ := ix_e hf
    refine mm_ald hx hb hG hI (ly_at hL 1 rfl) hix rfl dX8_count_65 ?_
    obtain ⟨rfl, rfl⟩ := sp_e hf
    exact mm_ret hx hb hr hlocks rfl hI hS dX8_count_66
  have hf := neg_e c_3 hf
  by_cases c_4 : a1 = 2
  · have hf := pos_e c_4 hf
    refine lv_tableIn (off := 54) (tgt := 60) hx hb dX8_count_6 (by rw [c_4]; decide) (by rw [c_4]; decide) (by rw [c_4]; rfl) (by decide) ?_
    refine lv_aload_n hx hb dX8_count_60 rfl (lv_at hl 0 rfl) ?_
    refine gX8_7 (o' := 184) hx hb hts hown hG hI hL rfl dX8_count_61 ?_
    refine lv_iload_n hx hb dX8_count_64 rfl (lv_at hl 1 rfl) ?_
    obtain ⟨hix, hf⟩ := ix_e hf
    refine mm_ald hx hb hG hI (ly_at hL 1 rfl) hix rfl dX8_count_65 ?_
    obtain ⟨rfl, rfl⟩ := sp_e hf
    exact mm_ret hx hb hr hlocks rfl hI hS dX8_count_66
  have hf := neg_e c_4 hf
  by_cases c_5 : a1 = 3
  · have hf := pos_e c_5 hf
    refine lv_tableIn (off := 61) (tgt := 67) hx hb dX8_count_6 (by rw [c_5]; decide) (by rw [c_5]; decide) (by rw [c_5]; rfl) (by decide) ?_
    refine lv_aload_n hx hb dX8_count_67 rfl (lv_at hl 0 rfl) ?_
    refine gX8_7 (o' := 184) hx hb hts hown hG hI hL rfl dX8_count_68 ?_
    refine lv_iconst (v := 2) hx hb dX8_count_71 (by decide) ?_
    refine mm_ald (k := 2) (n := 456) hx hb hG hI (ly_at hL 1 rfl) (by decide) rfl dX8_count_72 ?_
    refine lv_if_ne (tgt := 81) hx hb dX8_count_73 (by decide) (fun c_6 => ?_) (fun c_6 => ?_)
    · have hf := neg_e c_6 hf
      refine lv_aload_n hx hb dX8_count_81 rfl (lv_at hl 0 rfl) ?_
      refine gX8_7 (o' := 184) hx hb hts hown hG hI hL rfl dX8_count_82 ?_
      refine lv_iconst (v := 3) hx hb dX8_count_85 (by decide) ?_
      refine mm_ald (k := 3) (n := 456) hx hb hG hI (ly_at hL 1 rfl) (by decide) rfl dX8_count_86 ?_
      obtain ⟨rfl, rfl⟩ := sp_e hf
      exact mm_ret hx hb hr hlocks rfl hI hS dX8_count_87
    · have hf := pos_e c_6 hf
      refine lv_bipush (v := (-9)) hx hb dX8_count_76 (by decide) ?_
      refine lv_goto (tgt := 87) hx hb dX8_count_78 (by decide) ?_
      obtain ⟨rfl, rfl⟩ := sp_e hf
      exact mm_ret hx hb hr hlocks rfl hI hS dX8_count_87
  have hf := neg_e c_5 hf
  by_cases c_7 : a1 = 4
  · have hf := pos_e c_7 hf
    refine lv_tableIn (off := 54) (tgt := 60) hx hb dX8_count_6 (by rw [c_7]; decide) (by rw [c_7]; decide) (by rw [c_7]; rfl) (by decide) ?_
    refine lv_aload_n hx hb dX8_count_60 rfl (lv_at hl 0 rfl) ?_
    refine gX8_7 (o' := 184) hx hb hts hown hG hI hL rfl dX8_count_61 ?_
    refine lv_iload_n hx hb dX8_count_64 rfl (lv_at hl 1 rfl) ?_
    obtain ⟨hix, hf⟩ := ix_e hf
    refine mm_ald hx hb hG hI (ly_at hL 1 rfl) hix rfl dX8_count_65 ?_
    obtain ⟨rfl, rfl⟩ := sp_e hf
    exact mm_ret hx hb hr hlocks rfl hI hS dX8_count_66
  have hf := neg_e c_7 hf
  by_cases c_8 : a1 = 5
  · have hf := pos_e c_8 hf
    refine lv_tableIn (off := 54) (tgt := 60) hx hb dX8_count_6 (by rw [c_8]; decide) (by rw [c_8]; decide) (by rw [c_8]; rfl) (by decide) ?_
    refine lv_aload_n hx hb dX8_count_60 rfl (lv_at hl 0 rfl) ?_
    refine gX8_7 (o' := 184) hx hb hts hown hG hI hL rfl dX8_count_61 ?_
    refine lv_iload_n hx hb dX8_count_64 rfl (lv_at hl 1 rfl) ?_
    obtain ⟨hix, hf⟩ := ix_e hf
    refine mm_ald hx hb hG hI (ly_at hL 1 rfl) hix rfl dX8_count_65 ?_
    obtain ⟨rfl, rfl⟩ := sp_e hf
    exact mm_ret hx hb hr hlocks rfl hI hS dX8_count_66
  have hf := neg_e c_8 hf
  by_cases c_9 : a1 = 6
  · have hf := pos_e c_9 hf
    refine lv_tableIn (off := 82) (tgt := 88) hx hb dX8_count_6 (by rw [c_9]; decide) (by rw [c_9]; decide) (by rw [c_9]; rfl) (by decide) ?_
    refine lv_aload_n hx hb dX8_count_88 rfl (lv_at hl 0 rfl) ?_
    obtain ⟨r_10, hr_10, hf⟩ := bi_e hf
    refine kX8_139 hx hb hml hts hown hG hI hS hl.1 hL (As := []) (c_X8_stands l D cI cS Z K hL σ_1 _ hr_10) ⟨(Nat.le_of_ble_eq_true rfl), (Nat.le_of_ble_eq_true rfl)⟩ rfl (Nat.le_of_ble_eq_true rfl) ⟨(Nat.le_of_ble_eq_true rfl), (Nat.le_of_ble_eq_true rfl)⟩ dX8_count_89 (fun hzr_10 H locs hI hS => ?_)
    refine lv_if_eq (tgt := 99) hx hb dX8_count_92 (by decide) (fun c_11 => ?_) (fun c_11 => ?_)
    · have hf := pos_e c_11 hf
      refine lv_iconst (v := 0) hx hb dX8_count_99 (by decide) ?_
      obtain ⟨rfl, rfl⟩ := sp_e hf
      exact mm_ret hx hb hr hlocks rfl hI hS dX8_count_100
    · have hf := neg_e c_11 hf
      refine lv_iconst (v := 1) hx hb dX8_count_95 (by decide) ?_
      refine lv_goto (tgt := 100) hx hb dX8_count_96 (by decide) ?_
      obtain ⟨rfl, rfl⟩ := sp_e hf
      exact mm_ret hx hb hr hlocks rfl hI hS dX8_count_100
  have hf := neg_e c_9 hf
  by_cases c_12 : a1 = 7
  · have hf := pos_e c_12 hf
    refine lv_tableIn (off := 95) (tgt := 101) hx hb dX8_count_6 (by rw [c_12]; decide) (by rw [c_12]; decide) (by rw [c_12]; rfl) (by decide) ?_
    refine lv_aload_n hx hb dX8_count_101 rfl (lv_at hl 0 rfl) ?_
    obtain ⟨r_13, hr_13, hf⟩ := bi_e hf
    refine kX8_154 hx hb hml hts hown hG hI hS hl.1 hL (As := []) (c_X8_allWrong l D cI cS Z K hL σ_1 _ hr_13) ⟨(Nat.le_of_ble_eq_true rfl), (Nat.le_of_ble_eq_true rfl)⟩ rfl (Nat.le_of_ble_eq_true rfl) ⟨(Nat.le_of_ble_eq_true rfl), (Nat.le_of_ble_eq_true rfl)⟩ dX8_count_102 (fun H locs hI hS => ?_)
    obtain ⟨rfl, rfl⟩ := sp_e hf
    exact mm_ret hx hb hr hlocks rfl hI hS dX8_count_105
  have hf := neg_e c_12 hf
  by_cases c_14 : a1 = 8
  · have hf := pos_e c_14 hf
    refine lv_tableIn (off := 100) (tgt := 106) hx hb dX8_count_6 (by rw [c_14]; decide) (by rw [c_14]; decide) (by rw [c_14]; rfl) (by decide) ?_
    refine lv_aload_n hx hb dX8_count_106 rfl (lv_at hl 0 rfl) ?_
    refine gX8_36 hx hb hts hown hG hI hL dX8_count_107 ?_
    obtain ⟨rfl, rfl⟩ := sp_e hf
    exact mm_ret hx hb hr hlocks rfl hI hS dX8_count_110
  have hf := neg_e c_14 hf
  by_cases c_15 : a1 = 9
  · have hf := pos_e c_15 hf
    refine lv_tableIn (off := 105) (tgt := 111) hx hb dX8_count_6 (by rw [c_15]; decide) (by rw [c_15]; decide) (by rw [c_15]; rfl) (by decide) ?_
    refine lv_aload_n hx hb dX8_count_111 rfl (lv_at hl 0 rfl) ?_
    refine gX8_70 hx hb hts hown hG hI hL dX8_count_112 ?_
    obtain ⟨rfl, rfl⟩ := sp_e hf
    exact mm_ret hx hb hr hlocks rfl hI hS dX8_count_115
  have hf := neg_e c_15 hf
  refine lv_tableOut (tgt := 116) hx hb dX8_count_6 (sw_out9 c_2 c_3 c_4 c_5 c_7 c_8 c_9 c_12 c_14 c_15) (by decide) ?_
  refine lv_iconst (v := (-1)) hx hb dX8_count_116 (by decide) ?_
  obtain ⟨rfl, rfl⟩ := sp_e hf
  exact mm_ret hx hb hr hlocks rfl hI hS dX8_count_117
def f_X8_put (a1 : Int32) (a2 : Int32) (σ : Nat → Nat → Int32) : Option (Int32 × (Nat → Nat → Int32)) := bi (f_X8_act σ) fun σ_2 => ix a1 456 <| vl (σ_2 184 a1.toNatClampNeg) fun x_3 => ix a1 456 <| vl (wr σ_2 184 a1.toNatClampNeg a2) fun σ_4 => some (x_3, σ_4)
set_option maxHeartbeats 4000000 in
set_option maxRecDepth 100000 in
theorem c_X8_put (l : Launch) (D : va_G) (cI cS : ClassId) (Z : Nat) (K : Nat → Nat) (hL : ly K 183 lyModel) (a1 : Int32) (a2 : Int32) (σ : Nat → Nat → Int32) (r : Int32) (σ' : Nat → Nat → Int32) (hf : f_X8_put a1 a2 σ = some (r, σ')) : Met l yX8_put (wsT yX8_put cX8_put 4 (some .int)) { frames := 1, cells := 0, slots := 0, locals := 21 } (Pm D cI cS Z K [.ref (Z + 183), .int a1, .int a2] σ) (Qi D cI cS Z K r σ') 0 0 (aZ Z) := by
  refine mm_met (lv := [(0, .ref (Z + 183)), (1, .int a1), (2, .int a2)]) (by decide) (Nat.le_of_ble_eq_true rfl) rfl ?_
  intro p e s m args below meth c ls hx hb hr hml hts hown hlocks hG hl hI hS
  have hown : s.vm.findClass RX8 = some m.cls := hown
  rw [f_X8_put] at hf
  refine lv_aload_n hx hb dX8_put_0 rfl (lv_at hl 0 rfl) ?_
  obtain ⟨σ_2, hσ_2, hf⟩ := bi_e hf
  refine kX8_43 hx hb hml hts hown hG hI hS hl.1 hL (As := []) (c_X8_act l D cI cS Z K hL σ _ hσ_2) ⟨(Nat.le_of_ble_eq_true rfl), (Nat.le_of_ble_eq_true rfl)⟩ rfl (Nat.le_of_ble_eq_true rfl) ⟨(Nat.le_of_ble_eq_true rfl), (Nat.le_of_ble_eq_true rfl)⟩ dX8_put_1 (fun H locs hI hS => ?_)
  refine lv_aload_n hx hb dX8_put_4 rfl (lv_at hl 0 rfl) ?_
  refine gX8_7 (o' := 184) hx hb hts hown hG hI hL rfl dX8_put_5 ?_
  refine lv_iload_n hx hb dX8_put_8 rfl (lv_at hl 1 rfl) ?_
  obtain ⟨hix, hf⟩ := ix_e hf
  refine mm_ald hx hb hG hI (ly_at hL 1 rfl) hix rfl dX8_put_9 ?_
  obtain ⟨x_3, ex_3, hf⟩ := vl_e hf
  refine mm_name ex_3 ?_
  refine lv_istore_n (lv' := [(3, .int x_3), (0, .ref (Z + 183)), (1, .int a1), (2, .int a2)]) hx hb dX8_put_10 rfl hl (by decide) rfl (fun ls hl => ?_)
  refine lv_aload_n hx hb dX8_put_11 rfl (lv_at hl 1 rfl) ?_
  refine gX8_7 (o' := 184) hx hb hts hown hG hI hL rfl dX8_put_12 ?_
  refine lv_iload_n hx hb dX8_put_15 rfl (lv_at hl 2 rfl) ?_
  refine lv_iload_n hx hb dX8_put_16 rfl (lv_at hl 3 rfl) ?_
  obtain ⟨hix, hf⟩ := ix_e hf
  obtain ⟨σ_4, eσ_4, hf⟩ := vl_e hf
  refine mm_ast hx hb hG hI hS (ly_at hL 1 rfl) hix rfl dX8_put_17 (fun H locs hI hS => ?_)
  rw [← eσ_4] at hI
  refine lv_iload_n hx hb dX8_put_18 rfl (lv_at hl 0 rfl) ?_
  obtain ⟨rfl, rfl⟩ := sp_e hf
  exact mm_ret hx hb hr hlocks rfl hI hS dX8_put_19
def f_X8_cutOff  (σ : Nat → Nat → Int32) : Option (Int32 × (Nat → Nat → Int32)) := vl (wr σ 183 0 0) fun σ_1 => bi (f_X8_stands σ_1) fun r_2 => if r_2 = 0 then (b2 (f_X8_put 5 0 σ_1) fun r_3 σ_4 => some (r_3, σ_4)) else (some ((-2), σ_1))
set_option maxHeartbeats 4000000 in
set_option maxRecDepth 100000 in
theorem c_X8_cutOff (l : Launch) (D : va_G) (cI cS : ClassId) (Z : Nat) (K : Nat → Nat) (hL : ly K 183 lyModel) (σ : Nat → Nat → Int32) (r : Int32) (σ' : Nat → Nat → Int32) (hf : f_X8_cutOff σ = some (r, σ')) : Met l yX8_cutOff (wsT yX8_cutOff cX8_cutOff 1 (some .int)) { frames := 2, cells := 0, slots := 0, locals := 44 } (Pm D cI cS Z K [.ref (Z + 183)] σ) (Qi D cI cS Z K r σ') 0 0 (aZ Z) := by
  refine mm_met (lv := [(0, .ref (Z + 183))]) (by decide) (Nat.le_of_ble_eq_true rfl) rfl ?_
  intro p e s m args below meth c ls hx hb hr hml hts hown hlocks hG hl hI hS
  have hown : s.vm.findClass RX8 = some m.cls := hown
  rw [f_X8_cutOff] at hf
  refine lv_aload_n hx hb dX8_cutOff_0 rfl (lv_at hl 0 rfl) ?_
  refine lv_iconst (v := 0) hx hb dX8_cutOff_1 (by decide) ?_
  obtain ⟨σ_1, eσ_1, hf⟩ := vl_e hf
  refine pX8_28 hx hb hts hown hG hI hS hL dX8_cutOff_2 (fun H locs hI hS => ?_)
  rw [← eσ_1] at hI
  refine lv_aload_n hx hb dX8_cutOff_5 rfl (lv_at hl 0 rfl) ?_
  obtain ⟨r_2, hr_2, hf⟩ := bi_e hf
  refine kX8_139 hx hb hml hts hown hG hI hS hl.1 hL (As := []) (c_X8_stands l D cI cS Z K hL σ_1 _ hr_2) ⟨(Nat.le_of_ble_eq_true rfl), (Nat.le_of_ble_eq_true rfl)⟩ rfl (Nat.le_of_ble_eq_true rfl) ⟨(Nat.le_of_ble_eq_true rfl), (Nat.le_of_ble_eq_true rfl)⟩ dX8_cutOff_6 (fun hzr_2 H locs hI hS => ?_)
  refine lv_if_eq (tgt := 17) hx hb dX8_cutOff_9 (by decide) (fun c_5 => ?_) (fun c_5 => ?_)
  · have hf := pos_e c_5 hf
    refine lv_aload_n hx hb dX8_cutOff_17 rfl (lv_at hl 0 rfl) ?_
    refine lv_iconst (v := 5) hx hb dX8_cutOff_18 (by decide) ?_
    refine lv_iconst (v := 0) hx hb dX8_cutOff_19 (by decide) ?_
    obtain ⟨r_3, σ_4, hr_3, hf⟩ := b2_e hf
    refine kX8_56 hx hb hml hts hown hG hI hS hl.1 hL (As := [.int 5, .int 0]) (c_X8_put l D cI cS Z K hL 5 0 σ_1 _ _ hr_3) ⟨(Nat.le_of_ble_eq_true rfl), (Nat.le_of_ble_eq_true rfl)⟩ rfl (Nat.le_of_ble_eq_true rfl) ⟨(Nat.le_of_ble_eq_true rfl), (Nat.le_of_ble_eq_true rfl)⟩ dX8_cutOff_20 (fun H locs hI hS => ?_)
    obtain ⟨rfl, rfl⟩ := sp_e hf
    exact mm_ret hx hb hr hlocks rfl hI hS dX8_cutOff_23
  · have hf := neg_e c_5 hf
    refine lv_bipush (v := (-2)) hx hb dX8_cutOff_12 (by decide) ?_
    refine lv_goto (tgt := 23) hx hb dX8_cutOff_14 (by decide) ?_
    obtain ⟨rfl, rfl⟩ := sp_e hf
    exact mm_ret hx hb hr hlocks rfl hI hS dX8_cutOff_23
def b_X8_differentRows_24 (σ_1 : Nat → Nat → Int32) (y_3 : Int32) : Int32 × Int32 → Option ((Int32 × Int32) ⊕ (Int32))
  | (y_53, y_54) => if y_3 ≤ y_54 then (some (.inr y_53)) else (jn (fun k_78 => if y_53 = 0 then (k_78) else (bi (f_X8_areLike y_3 y_54 σ_1) fun r_81 => if r_81 = 0 then (vl (y_54 + 1) fun x_82 => some (.inl (1, x_82))) else (k_78))) (vl (y_54 + 1) fun x_80 => some (.inl (0, x_80))))
def b_X8_differentRows_9 (σ_1 : Nat → Nat → Int32) : Int32 × Int32 → Option ((Int32 × Int32) ⊕ (Int32))
  | (y_2, y_3) => if (σ_1 184 5) ≤ y_3 then (some (.inr y_2)) else (bi (lp (b_X8_differentRows_24 σ_1 y_3) FU (1, 0)) fun z_55 => vl (α := Int32) (if z_55 = 0 then (0) else (1)) fun v_88 => vl (y_2 + v_88) fun x_91 => vl (y_3 + 1) fun x_92 => some (.inl (x_91, x_92)))
def f_X8_differentRows  (σ : Nat → Nat → Int32) : Option (Int32 × (Nat → Nat → Int32)) := vl (wr σ 183 0 0) fun σ_1 => bi (lp (b_X8_differentRows_9 σ_1) FU (0, 0)) fun z_4 => some (z_4, σ_1)
set_option maxHeartbeats 4000000 in
set_option maxRecDepth 100000 in
theorem c_X8_differentRows (l : Launch) (D : va_G) (cI cS : ClassId) (Z : Nat) (K : Nat → Nat) (hL : ly K 183 lyModel) (σ : Nat → Nat → Int32) (r : Int32) (σ' : Nat → Nat → Int32) (hf : f_X8_differentRows σ = some (r, σ')) : Met l yX8_differentRows (wsT yX8_differentRows cX8_differentRows 5 (some .int)) { frames := 2, cells := 0, slots := 0, locals := 44 } (Pm D cI cS Z K [.ref (Z + 183)] σ) (Qi D cI cS Z K r σ') 0 0 (aZ Z) := by
  refine mm_met (lv := [(0, .ref (Z + 183))]) (by decide) (Nat.le_of_ble_eq_true rfl) rfl ?_
  intro p e s m args below meth c ls hx hb hr hml hts hown hlocks hG hl hI hS
  have hown : s.vm.findClass RX8 = some m.cls := hown
  rw [f_X8_differentRows] at hf
  refine lv_aload_n hx hb dX8_differentRows_0 rfl (lv_at hl 0 rfl) ?_
  refine lv_iconst (v := 0) hx hb dX8_differentRows_1 (by decide) ?_
  obtain ⟨σ_1, eσ_1, hf⟩ := vl_e hf
  refine pX8_28 hx hb hts hown hG hI hS hL dX8_differentRows_2 (fun H locs hI hS => ?_)
  rw [← eσ_1] at hI
  refine lv_iconst (v := 0) hx hb dX8_differentRows_5 (by decide) ?_
  refine lv_istore_n (lv' := [(1, .int 0), (0, .ref (Z + 183))]) hx hb dX8_differentRows_6 rfl hl (by decide) rfl (fun ls hl => ?_)
  refine lv_iconst (v := 0) hx hb dX8_differentRows_7 (by decide) ?_
  refine lv_istore_n (lv' := [(2, .int 0), (1, .int 0), (0, .ref (Z + 183))]) hx hb dX8_differentRows_8 rfl hl (by decide) rfl (fun ls hl => ?_)
  have L_6 : ∀ (nn : Nat) (y_2 : Int32) (y_3 : Int32) (z_4 : Int32), lp (b_X8_differentRows_9 σ_1) nn (y_2, y_3) = some z_4 → (∀ (H : Heap) (locs : List Loc) (ls : Array Slot), fI D cI cS Z K σ_1 H → va_S (aZ Z) s.heap H locs → lv_has ls 5 [(1, .int z_4)] → W p l e { frames := 2, cells := 0, slots := 0, locals := 44 } s m args below meth c H locs 0 0 (MQ below (Qi D cI cS Z K r σ') args s 0 0 (aZ Z)) (F0 m 74 ls [])) → ∀ (H : Heap) (locs : List Loc) (ls : Array Slot), fI D cI cS Z K σ_1 H → va_S (aZ Z) s.heap H locs → lv_has ls 5 [(0, .ref (Z + 183)), (1, .int y_2), (2, .int y_3)] → W p l e { frames := 2, cells := 0, slots := 0, locals := 44 } s m args below meth c H locs 0 0 (MQ below (Qi D cI cS Z K r σ') args s 0 0 (aZ Z)) (F0 m 9 ls []) := by
    intro nn
    induction nn with
    | zero =>
      intro y_2 y_3 z_4 hq
      exact (lp_0 hq).elim
    | succ nn ih_7 =>
      intro y_2 y_3 z_4 hq kn_9 H locs ls hI hS hl
      obtain ⟨w_5, hf, hk_8⟩ := lp_e hq
      rw [b_X8_differentRows_9] at hf
      have ih_7 := fun (y_2 : Int32) (y_3 : Int32) q => ih_7 y_2 y_3 z_4 q kn_9
      refine lv_iload_n hx hb dX8_differentRows_9 rfl (lv_at hl 2 rfl) ?_
      refine lv_aload_n hx hb dX8_differentRows_10 rfl (lv_at hl 0 rfl) ?_
      refine gX8_7 (o' := 184) hx hb hts hown hG hI hL rfl dX8_differentRows_11 ?_
      refine lv_iconst (v := 5) hx hb dX8_differentRows_14 (by decide) ?_
      refine mm_ald (k := 5) (n := 456) hx hb hG hI (ly_at hL 1 rfl) (by decide) rfl dX8_differentRows_15 ?_
      refine lv_icmp_ge (tgt := 74) hx hb dX8_differentRows_16 (by decide) (fun c_94 => ?_) (fun c_94 => ?_)
      · have hf := pos_e c_94 hf
        obtain rfl := so_e hf
        obtain rfl := lk_r hk_8
        exact kn_9 _ _ _ hI hS (lv_sub hl [1] rfl)
      · have hf := neg_e c_94 hf
        refine lv_iconst (v := 1) hx hb dX8_differentRows_19 (by decide) ?_
        refine lv_istore_n (lv' := [(3, .int 1), (0, .ref (Z + 183)), (1, .int y_2), (2, .int y_3)]) hx hb dX8_differentRows_20 rfl hl (by decide) rfl (fun ls hl => ?_)
        refine lv_iconst (v := 0) hx hb dX8_differentRows_21 (by decide) ?_
        refine lv_istore (lv' := [(4, .int 0), (3, .int 1), (0, .ref (Z + 183)), (1, .int y_2), (2, .int y_3)]) hx hb dX8_differentRows_22 hl (by decide) rfl (fun ls hl => ?_)
        have L_57 : ∀ (nn : Nat) (y_53 : Int32) (y_54 : Int32) (z_55 : Int32), lp (b_X8_differentRows_24 σ_1 y_3) nn (y_53, y_54) = some z_55 → (∀ (H : Heap) (locs : List Loc) (ls : Array Slot), fI D cI cS Z K σ_1 H → va_S (aZ Z) s.heap H locs → lv_has ls 5 [(0, .ref (Z + 183)), (1, .int y_2), (2, .int y_3), (3, .int z_55)] → W p l e { frames := 2, cells := 0, slots := 0, locals := 44 } s m args below meth c H locs 0 0 (MQ below (Qi D cI cS Z K r σ') args s 0 0 (aZ Z)) (F0 m 56 ls [])) → ∀ (H : Heap) (locs : List Loc) (ls : Array Slot), fI D cI cS Z K σ_1 H → va_S (aZ Z) s.heap H locs → lv_has ls 5 [(0, .ref (Z + 183)), (1, .int y_2), (2, .int y_3), (3, .int y_53), (4, .int y_54)] → W p l e { frames := 2, cells := 0, slots := 0, locals := 44 } s m args below meth c H locs 0 0 (MQ below (Qi D cI cS Z K r σ') args s 0 0 (aZ Z)) (F0 m 24 ls []) := by
          intro nn
          induction nn with
          | zero =>
            intro y_53 y_54 z_55 hq
            exact (lp_0 hq).elim
          | succ nn ih_58 =>
            intro y_53 y_54 z_55 hq kn_60 H locs ls hI hS hl
            obtain ⟨w_56, hf, hk_59⟩ := lp_e hq
            rw [b_X8_differentRows_24] at hf
            have ih_58 := fun (y_53 : Int32) (y_54 : Int32) q => ih_58 y_53 y_54 z_55 q kn_60
            refine lv_iload hx hb dX8_differentRows_24 (lv_at hl 4 rfl) ?_
            refine lv_iload_n hx hb dX8_differentRows_26 rfl (lv_at hl 2 rfl) ?_
            refine lv_icmp_ge (tgt := 56) hx hb dX8_differentRows_27 (by decide) (fun c_85 => ?_) (fun c_85 => ?_)
            · have hf := pos_e c_85 hf
              obtain rfl := so_e hf
              obtain rfl := lk_r hk_59
              exact kn_60 _ _ _ hI hS (lv_sub hl [0, 1, 2, 3] rfl)
            · have hf := neg_e c_85 hf
              refine lv_iload_n hx hb dX8_differentRows_30 rfl (lv_at hl 3 rfl) ?_
              obtain ⟨k_78, ek_78, hf⟩ := jn_e hf
              have HJ_79 : ∀ (H : Heap) (locs : List Loc) (ls : Array Slot), k_78 = some w_56 → fI D cI cS Z K σ_1 H → va_S (aZ Z) s.heap H locs → lv_has ls 5 [(0, .ref (Z + 183)), (1, .int y_2), (2, .int y_3), (4, .int y_54)] → W p l e { frames := 2, cells := 0, slots := 0, locals := 44 } s m args below meth c H locs 0 0 (MQ below (Qi D cI cS Z K r σ') args s 0 0 (aZ Z)) (F0 m 48 ls []) := by
                intro  H locs ls hf hI hS hl
                have hf := jb0 ek_78 hf
                refine lv_iconst (v := 0) hx hb dX8_differentRows_48 (by decide) ?_
                refine lv_istore_n (lv' := [(3, .int 0), (0, .ref (Z + 183)), (1, .int y_2), (2, .int y_3), (4, .int y_54)]) hx hb dX8_differentRows_49 rfl hl (by decide) rfl (fun ls hl => ?_)
                obtain ⟨x_80, ex_80, hf⟩ := vl_e hf
                refine lv_iinc (v := x_80) (lv' := [(4, .int x_80), (3, .int 0), (0, .ref (Z + 183)), (1, .int y_2), (2, .int y_3)]) hx hb dX8_differentRows_50 hl (k := 4) rfl (by rw [ex_80]; rfl) (by decide) rfl (fun ls hl => ?_)
                refine lv_goto (tgt := 24) hx hb dX8_differentRows_53 (by decide) ?_
                obtain rfl := so_e hf
                exact ih_58 0 x_80 hk_59 _ _ _ hI hS (lv_sub hl [2, 3, 4, 1, 0] rfl)
              clear ek_78
              refine lv_if_eq (tgt := 48) hx hb dX8_differentRows_31 (by decide) (fun c_84 => ?_) (fun c_84 => ?_)
              · have hf := pos_e c_84 hf
                exact HJ_79  _ _ _ hf hI hS (lv_sub hl [0, 1, 2, 4] rfl)
              · have hf := neg_e c_84 hf
                refine lv_aload_n hx hb dX8_differentRows_34 rfl (lv_at hl 0 rfl) ?_
                refine lv_iload_n hx hb dX8_differentRows_35 rfl (lv_at hl 2 rfl) ?_
                refine lv_iload hx hb dX8_differentRows_36 (lv_at hl 4 rfl) ?_
                obtain ⟨r_81, hr_81, hf⟩ := bi_e hf
                refine kX8_184 hx hb hml hts hown hG hI hS hl.1 hL (As := [.int y_3, .int y_54]) (c_X8_areLike l D cI cS Z K hL y_3 y_54 σ_1 _ hr_81) ⟨(Nat.le_of_ble_eq_true rfl), (Nat.le_of_ble_eq_true rfl)⟩ rfl (Nat.le_of_ble_eq_true rfl) ⟨(Nat.le_of_ble_eq_true rfl), (Nat.le_of_ble_eq_true rfl)⟩ dX8_differentRows_38 (fun hzr_81 H locs hI hS => ?_)
                refine lv_if_ne (tgt := 48) hx hb dX8_differentRows_41 (by decide) (fun c_83 => ?_) (fun c_83 => ?_)
                · have hf := neg_e c_83 hf
                  exact HJ_79  _ _ _ hf hI hS (lv_sub hl [0, 1, 2, 4] rfl)
                · have hf := pos_e c_83 hf
                  refine lv_iconst (v := 1) hx hb dX8_differentRows_44 (by decide) ?_
                  refine lv_goto (tgt := 49) hx hb dX8_differentRows_45 (by decide) ?_
                  refine lv_istore_n (lv' := [(3, .int 1), (0, .ref (Z + 183)), (1, .int y_2), (2, .int y_3), (4, .int y_54)]) hx hb dX8_differentRows_49 rfl hl (by decide) rfl (fun ls hl => ?_)
                  obtain ⟨x_82, ex_82, hf⟩ := vl_e hf
                  refine lv_iinc (v := x_82) (lv' := [(4, .int x_82), (3, .int 1), (0, .ref (Z + 183)), (1, .int y_2), (2, .int y_3)]) hx hb dX8_differentRows_50 hl (k := 4) rfl (by rw [ex_82]; rfl) (by decide) rfl (fun ls hl => ?_)
                  refine lv_goto (tgt := 24) hx hb dX8_differentRows_53 (by decide) ?_
                  obtain rfl := so_e hf
                  exact ih_58 1 x_82 hk_59 _ _ _ hI hS (lv_sub hl [2, 3, 4, 1, 0] rfl)
        obtain ⟨z_55, hy, hf⟩ := bi_e hf
        refine L_57 FU 1 0 _ hy ?_ _ _ _ hI hS (lv_sub hl [2, 3, 4, 1, 0] rfl)
        clear L_57
        intro H locs ls hI hS hl
        refine lv_iload_n hx hb dX8_differentRows_56 rfl (lv_at hl 1 rfl) ?_
        refine lv_iload_n hx hb dX8_differentRows_57 rfl (lv_at hl 3 rfl) ?_
        obtain ⟨v_88, ev_88, hf⟩ := vl_e hf
        have HJ_90 : ∀ (H : Heap) (locs : List Loc) (ls : Array Slot), fI D cI cS Z K σ_1 H → va_S (aZ Z) s.heap H locs → lv_has ls 5 [(0, .ref (Z + 183)), (2, .int y_3)] → W p l e { frames := 2, cells := 0, slots := 0, locals := 44 } s m args below meth c H locs 0 0 (MQ below (Qi D cI cS Z K r σ') args s 0 0 (aZ Z)) (F0 m 66 ls [.int v_88, .int y_2]) := by
          intro H locs ls hI hS hl
          refine lv_iadd hx hb dX8_differentRows_66 ?_
          obtain ⟨x_91, ex_91, hf⟩ := vl_e hf
          refine mm_name ex_91 ?_
          refine lv_istore_n (lv' := [(1, .int x_91), (0, .ref (Z + 183)), (2, .int y_3)]) hx hb dX8_differentRows_67 rfl hl (by decide) rfl (fun ls hl => ?_)
          obtain ⟨x_92, ex_92, hf⟩ := vl_e hf
          refine lv_iinc (v := x_92) (lv' := [(2, .int x_92), (1, .int x_91), (0, .ref (Z + 183))]) hx hb dX8_differentRows_68 hl (k := 2) rfl (by rw [ex_92]; rfl) (by decide) rfl (fun ls hl => ?_)
          refine lv_goto (tgt := 9) hx hb dX8_differentRows_71 (by decide) ?_
          obtain rfl := so_e hf
          exact ih_7 x_91 x_92 hk_8 _ _ _ hI hS (lv_sub hl [2, 1, 0] rfl)
        clear hf
        have hf := ev_88.symm
        refine lv_if_eq (tgt := 65) hx hb dX8_differentRows_58 (by decide) (fun c_93 => ?_) (fun c_93 => ?_)
        · have hf := pos_e c_93 hf
          refine lv_iconst (v := 0) hx hb dX8_differentRows_65 (by decide) ?_
          refine mm_name hf.symm ?_
          exact HJ_90 _ _ _ hI hS (lv_sub hl [0, 2] rfl)
        · have hf := neg_e c_93 hf
          refine lv_iconst (v := 1) hx hb dX8_differentRows_61 (by decide) ?_
          refine lv_goto (tgt := 66) hx hb dX8_differentRows_62 (by decide) ?_
          refine mm_name hf.symm ?_
          exact HJ_90 _ _ _ hI hS (lv_sub hl [0, 2] rfl)
  obtain ⟨z_4, hy, hf⟩ := bi_e hf
  refine L_6 FU 0 0 _ hy ?_ _ _ _ hI hS (lv_sub hl [2, 1, 0] rfl)
  clear L_6
  intro H locs ls hI hS hl
  refine lv_iload_n hx hb dX8_differentRows_74 rfl (lv_at hl 0 rfl) ?_
  obtain ⟨rfl, rfl⟩ := sp_e hf
  exact mm_ret hx hb hr hlocks rfl hI hS dX8_differentRows_75
def b_X8_rowsWith_5 (a1 : Int32) (a2 : Int32) (σ : Nat → Nat → Int32) : Int32 × Int32 → Option ((Int32 × Int32) ⊕ (Int32))
  | (y_1, y_2) => if (σ 184 5) ≤ y_2 then (some (.inr y_1)) else (jn (α := Int32 → _) (fun k_32 => if a2 = 0 then (bi (f_X8_of y_2 2 σ) fun r_43 => k_32 r_43) else (bi (f_X8_wrong y_2 σ) fun r_42 => k_32 r_42)) (fun v_31 => bi (f_X8_has v_31 a1 σ) fun r_34 => vl (α := Int32) (if r_34 = 0 then (0) else (1)) fun v_36 => vl (y_1 + v_36) fun x_39 => vl (y_2 + 1) fun x_40 => some (.inl (x_39, x_40))))
def f_X8_rowsWith (a1 : Int32) (a2 : Int32) (σ : Nat → Nat → Int32) : Option Int32 := bi (lp (b_X8_rowsWith_5 a1 a2 σ) FU (0, 0)) fun z_3 => some z_3
set_option maxHeartbeats 4000000 in
set_option maxRecDepth 100000 in
theorem c_X8_rowsWith (l : Launch) (D : va_G) (cI cS : ClassId) (Z : Nat) (K : Nat → Nat) (hL : ly K 183 lyModel) (a1 : Int32) (a2 : Int32) (σ : Nat → Nat → Int32) (r : Int32) (hf : f_X8_rowsWith a1 a2 σ = some r) : Met l yX8_rowsWith (wsT yX8_rowsWith cX8_rowsWith 5 (some .int)) { frames := 2, cells := 0, slots := 0, locals := 43 } (Pm D cI cS Z K [.ref (Z + 183), .int a1, .int a2] σ) (Qi D cI cS Z K r σ) 0 0 (aZ Z) := by
  refine mm_met (lv := [(0, .ref (Z + 183)), (1, .int a1), (2, .int a2)]) (by decide) (Nat.le_of_ble_eq_true rfl) rfl ?_
  intro p e s m args below meth c ls hx hb hr hml hts hown hlocks hG hl hI hS
  have hown : s.vm.findClass RX8 = some m.cls := hown
  rw [f_X8_rowsWith] at hf
  refine lv_iconst (v := 0) hx hb dX8_rowsWith_0 (by decide) ?_
  refine lv_istore_n (lv' := [(3, .int 0), (0, .ref (Z + 183)), (1, .int a1), (2, .int a2)]) hx hb dX8_rowsWith_1 rfl hl (by decide) rfl (fun ls hl => ?_)
  refine lv_iconst (v := 0) hx hb dX8_rowsWith_2 (by decide) ?_
  refine lv_istore (lv' := [(4, .int 0), (3, .int 0), (0, .ref (Z + 183)), (1, .int a1), (2, .int a2)]) hx hb dX8_rowsWith_3 hl (by decide) rfl (fun ls hl => ?_)
  have L_5 : ∀ (nn : Nat) (y_1 : Int32) (y_2 : Int32) (z_3 : Int32), lp (b_X8_rowsWith_5 a1 a2 σ) nn (y_1, y_2) = some z_3 → (∀ (H : Heap) (locs : List Loc) (ls : Array Slot), fI D cI cS Z K σ H → va_S (aZ Z) s.heap H locs → lv_has ls 5 [(3, .int z_3)] → W p l e { frames := 2, cells := 0, slots := 0, locals := 43 } s m args below meth c H locs 0 0 (MQ below (Qi D cI cS Z K r σ) args s 0 0 (aZ Z)) (F0 m 57 ls [])) → ∀ (H : Heap) (locs : List Loc) (ls : Array Slot), fI D cI cS Z K σ H → va_S (aZ Z) s.heap H locs → lv_has ls 5 [(0, .ref (Z + 183)), (1, .int a1), (2, .int a2), (3, .int y_1), (4, .int y_2)] → W p l e { frames := 2, cells := 0, slots := 0, locals := 43 } s m args below meth c H locs 0 0 (MQ below (Qi D cI cS Z K r σ) args s 0 0 (aZ Z)) (F0 m 5 ls []) := by
    intro nn
    induction nn with
    | zero =>
      intro y_1 y_2 z_3 hq
      exact (lp_0 hq).elim
    | succ nn ih_6 =>
      intro y_1 y_2 z_3 hq kn_8 H locs ls hI hS hl
      obtain ⟨w_4, hf, hk_7⟩ := lp_e hq
      rw [b_X8_rowsWith_5] at hf
      have ih_6 := fun (y_1 : Int32) (y_2 : Int32) q => ih_6 y_1 y_2 z_3 q kn_8
      refine lv_iload hx hb dX8_rowsWith_5 (lv_at hl 4 rfl) ?_
      refine lv_aload_n hx hb dX8_rowsWith_7 rfl (lv_at hl 0 rfl) ?_
      refine gX8_7 (o' := 184) hx hb hts hown hG hI hL rfl dX8_rowsWith_8 ?_
      refine lv_iconst (v := 5) hx hb dX8_rowsWith_11 (by decide) ?_
      refine mm_ald (k := 5) (n := 456) hx hb hG hI (ly_at hL 1 rfl) (by decide) rfl dX8_rowsWith_12 ?_
      refine lv_icmp_ge (tgt := 57) hx hb dX8_rowsWith_13 (by decide) (fun c_45 => ?_) (fun c_45 => ?_)
      · have hf := pos_e c_45 hf
        obtain rfl := so_e hf
        obtain rfl := lk_r hk_7
        exact kn_8 _ _ _ hI hS (lv_sub hl [3] rfl)
      · have hf := neg_e c_45 hf
        refine lv_iload_n hx hb dX8_rowsWith_16 rfl (lv_at hl 3 rfl) ?_
        refine lv_iload_n hx hb dX8_rowsWith_17 rfl (lv_at hl 2 rfl) ?_
        obtain ⟨k_32, ek_32, hf⟩ := jn_e hf
        have HJ_33 : ∀ (v_31 : Int32) (H : Heap) (locs : List Loc) (ls : Array Slot), k_32 v_31 = some w_4 → fI D cI cS Z K σ H → va_S (aZ Z) s.heap H locs → lv_has ls 5 [(0, .ref (Z + 183)), (1, .int a1), (2, .int a2), (4, .int y_2)] → W p l e { frames := 2, cells := 0, slots := 0, locals := 43 } s m args below meth c H locs 0 0 (MQ below (Qi D cI cS Z K r σ) args s 0 0 (aZ Z)) (F0 m 37 ls [.int v_31, .int y_1]) := by
          intro v_31 H locs ls hf hI hS hl
          have hf := jb1 ek_32 hf
          refine lv_iload_n hx hb dX8_rowsWith_37 rfl (lv_at hl 1 rfl) ?_
          obtain ⟨r_34, hr_34, hf⟩ := bi_e hf
          refine kX8_108 hx hb hml hts hown hG hI hS hl.1 (As := [.int v_31, .int a1]) (c_X8_has l D cI cS Z K v_31 a1 σ _ hr_34) ⟨(Nat.le_of_ble_eq_true rfl), (Nat.le_of_ble_eq_true rfl)⟩ rfl (Nat.le_of_ble_eq_true rfl) ⟨(Nat.le_of_ble_eq_true rfl), (Nat.le_of_ble_eq_true rfl)⟩ dX8_rowsWith_38 (fun hzr_34 H locs hI hS => ?_)
          obtain ⟨v_36, ev_36, hf⟩ := vl_e hf
          have HJ_38 : ∀ (H : Heap) (locs : List Loc) (ls : Array Slot), fI D cI cS Z K σ H → va_S (aZ Z) s.heap H locs → lv_has ls 5 [(0, .ref (Z + 183)), (1, .int a1), (2, .int a2), (4, .int y_2)] → W p l e { frames := 2, cells := 0, slots := 0, locals := 43 } s m args below meth c H locs 0 0 (MQ below (Qi D cI cS Z K r σ) args s 0 0 (aZ Z)) (F0 m 49 ls [.int v_36, .int y_1]) := by
            intro H locs ls hI hS hl
            refine lv_iadd hx hb dX8_rowsWith_49 ?_
            obtain ⟨x_39, ex_39, hf⟩ := vl_e hf
            refine mm_name ex_39 ?_
            refine lv_istore_n (lv' := [(3, .int x_39), (0, .ref (Z + 183)), (1, .int a1), (2, .int a2), (4, .int y_2)]) hx hb dX8_rowsWith_50 rfl hl (by decide) rfl (fun ls hl => ?_)
            obtain ⟨x_40, ex_40, hf⟩ := vl_e hf
            refine lv_iinc (v := x_40) (lv' := [(4, .int x_40), (3, .int x_39), (0, .ref (Z + 183)), (1, .int a1), (2, .int a2)]) hx hb dX8_rowsWith_51 hl (k := 4) rfl (by rw [ex_40]; rfl) (by decide) rfl (fun ls hl => ?_)
            refine lv_goto (tgt := 5) hx hb dX8_rowsWith_54 (by decide) ?_
            obtain rfl := so_e hf
            exact ih_6 x_39 x_40 hk_7 _ _ _ hI hS (lv_sub hl [2, 3, 4, 1, 0] rfl)
          clear hf
          have hf := ev_36.symm
          refine lv_if_eq (tgt := 48) hx hb dX8_rowsWith_41 (by decide) (fun c_41 => ?_) (fun c_41 => ?_)
          · have hf := pos_e c_41 hf
            refine lv_iconst (v := 0) hx hb dX8_rowsWith_48 (by decide) ?_
            refine mm_name hf.symm ?_
            exact HJ_38 _ _ _ hI hS (lv_sub hl [0, 1, 2, 3] rfl)
          · have hf := neg_e c_41 hf
            refine lv_iconst (v := 1) hx hb dX8_rowsWith_44 (by decide) ?_
            refine lv_goto (tgt := 49) hx hb dX8_rowsWith_45 (by decide) ?_
            refine mm_name hf.symm ?_
            exact HJ_38 _ _ _ hI hS (lv_sub hl [0, 1, 2, 3] rfl)
        clear ek_32
        refine lv_if_ne (tgt := 31) hx hb dX8_rowsWith_18 (by decide) (fun c_44 => ?_) (fun c_44 => ?_)
        · have hf := neg_e c_44 hf
          refine lv_aload_n hx hb dX8_rowsWith_31 rfl (lv_at hl 0 rfl) ?_
          refine lv_iload hx hb dX8_rowsWith_32 (lv_at hl 4 rfl) ?_
          obtain ⟨r_42, hr_42, hf⟩ := bi_e hf
          refine kX8_148 hx hb hml hts hown hG hI hS hl.1 hL (As := [.int y_2]) (c_X8_wrong l D cI cS Z K hL y_2 σ _ hr_42) ⟨(Nat.le_of_ble_eq_true rfl), (Nat.le_of_ble_eq_true rfl)⟩ rfl (Nat.le_of_ble_eq_true rfl) ⟨(Nat.le_of_ble_eq_true rfl), (Nat.le_of_ble_eq_true rfl)⟩ dX8_rowsWith_34 (fun H locs hI hS => ?_)
          exact HJ_33 r_42 _ _ _ hf hI hS (lv_sub hl [0, 1, 2, 4] rfl)
        · have hf := pos_e c_44 hf
          refine lv_aload_n hx hb dX8_rowsWith_21 rfl (lv_at hl 0 rfl) ?_
          refine lv_iload hx hb dX8_rowsWith_22 (lv_at hl 4 rfl) ?_
          refine lv_iconst (v := 2) hx hb dX8_rowsWith_24 (by decide) ?_
          obtain ⟨r_43, hr_43, hf⟩ := bi_e hf
          refine kX8_133 hx hb hml hts hown hG hI hS hl.1 hL (As := [.int y_2, .int 2]) (c_X8_of l D cI cS Z K hL y_2 2 σ _ hr_43) ⟨(Nat.le_of_ble_eq_true rfl), (Nat.le_of_ble_eq_true rfl)⟩ rfl (Nat.le_of_ble_eq_true rfl) ⟨(Nat.le_of_ble_eq_true rfl), (Nat.le_of_ble_eq_true rfl)⟩ dX8_rowsWith_25 (fun H locs hI hS => ?_)
          refine lv_goto (tgt := 37) hx hb dX8_rowsWith_28 (by decide) ?_
          exact HJ_33 r_43 _ _ _ hf hI hS (lv_sub hl [0, 1, 2, 4] rfl)
  obtain ⟨z_3, hy, hf⟩ := bi_e hf
  refine L_5 FU 0 0 _ hy ?_ _ _ _ hI hS (lv_sub hl [2, 3, 4, 1, 0] rfl)
  clear L_5
  intro H locs ls hI hS hl
  refine lv_iload_n hx hb dX8_rowsWith_57 rfl (lv_at hl 0 rfl) ?_
  obtain rfl := so_e hf
  exact mm_ret hx hb hr hlocks rfl hI hS dX8_rowsWith_58
def f_X8_take (a1 : Int32) (a2 : Int32) (σ : Nat → Nat → Int32) : Option (Nat → Nat → Int32) := vl (α := Int32) (if a2 < a1 then (0) else (1)) fun v_2 => vl (wr σ 183 11 ((σ 183 11) + v_2)) fun σ_5 => if a2 ≤ (σ_5 183 12) then (vl (wr σ_5 183 12 (σ_5 183 12)) fun σ_6 => some σ_6) else (vl (wr σ_5 183 12 a2) fun σ_7 => some σ_7)
set_option maxHeartbeats 4000000 in
set_option maxRecDepth 100000 in
theorem c_X8_take (l : Launch) (D : va_G) (cI cS : ClassId) (Z : Nat) (K : Nat → Nat) (hL : ly K 183 lyModel) (a1 : Int32) (a2 : Int32) (σ : Nat → Nat → Int32) (σ' : Nat → Nat → Int32) (hf : f_X8_take a1 a2 σ = some σ') : Met l yX8_take (wsT yX8_take cX8_take 3 none) { frames := 0, cells := 0, slots := 0, locals := 0 } (Pm D cI cS Z K [.ref (Z + 183), .int a1, .int a2] σ) (Qv D cI cS Z K σ') 0 0 (aZ Z) := by
  refine mm_met (lv := [(0, .ref (Z + 183)), (1, .int a1), (2, .int a2)]) (by decide) (Nat.le_of_ble_eq_true rfl) rfl ?_
  intro p e s m args below meth c ls hx hb hr hml hts hown hlocks hG hl hI hS
  have hown : s.vm.findClass RX8 = some m.cls := hown
  rw [f_X8_take] at hf
  refine lv_aload_n hx hb dX8_take_0 rfl (lv_at hl 0 rfl) ?_
  refine lv_dup hx hb dX8_take_1 rfl ?_
  refine gX8_157 hx hb hts hown hG hI hL dX8_take_2 ?_
  refine lv_iload_n hx hb dX8_take_5 rfl (lv_at hl 2 rfl) ?_
  refine lv_iload_n hx hb dX8_take_6 rfl (lv_at hl 1 rfl) ?_
  obtain ⟨v_2, ev_2, hf⟩ := vl_e hf
  have HJ_4 : ∀ (H : Heap) (locs : List Loc) (ls : Array Slot), fI D cI cS Z K σ H → va_S (aZ Z) s.heap H locs → lv_has ls 3 [(0, .ref (Z + 183)), (2, .int a2)] → W p l e { frames := 0, cells := 0, slots := 0, locals := 0 } s m args below meth c H locs 0 0 (MQ below (Qv D cI cS Z K σ') args s 0 0 (aZ Z)) (F0 m 15 ls [.int v_2, .int (σ 183 11), .ref (Z + 183)]) := by
    intro H locs ls hI hS hl
    refine lv_iadd hx hb dX8_take_15 ?_
    obtain ⟨σ_5, eσ_5, hf⟩ := vl_e hf
    refine pX8_157 hx hb hts hown hG hI hS hL dX8_take_16 (fun H locs hI hS => ?_)
    rw [← eσ_5] at hI
    refine lv_aload_n hx hb dX8_take_19 rfl (lv_at hl 0 rfl) ?_
    refine lv_iload_n hx hb dX8_take_20 rfl (lv_at hl 1 rfl) ?_
    refine lv_aload_n hx hb dX8_take_21 rfl (lv_at hl 0 rfl) ?_
    refine gX8_160 hx hb hts hown hG hI hL dX8_take_22 ?_
    refine lv_icmp_le (tgt := 32) hx hb dX8_take_25 (by decide) (fun c_8 => ?_) (fun c_8 => ?_)
    · have hf := pos_e c_8 hf
      refine lv_aload_n hx hb dX8_take_32 rfl (lv_at hl 0 rfl) ?_
      refine gX8_160 hx hb hts hown hG hI hL dX8_take_33 ?_
      obtain ⟨σ_6, eσ_6, hf⟩ := vl_e hf
      refine pX8_160 hx hb hts hown hG hI hS hL dX8_take_36 (fun H locs hI hS => ?_)
      rw [← eσ_6] at hI
      obtain rfl := so_e hf
      exact mm_vret hx hb hr hlocks hI hS dX8_take_39
    · have hf := neg_e c_8 hf
      refine lv_iload_n hx hb dX8_take_28 rfl (lv_at hl 1 rfl) ?_
      refine lv_goto (tgt := 36) hx hb dX8_take_29 (by decide) ?_
      obtain ⟨σ_7, eσ_7, hf⟩ := vl_e hf
      refine pX8_160 hx hb hts hown hG hI hS hL dX8_take_36 (fun H locs hI hS => ?_)
      rw [← eσ_7] at hI
      obtain rfl := so_e hf
      exact mm_vret hx hb hr hlocks hI hS dX8_take_39
  clear hf
  have hf := ev_2.symm
  refine lv_icmp_lt (tgt := 14) hx hb dX8_take_7 (by decide) (fun c_9 => ?_) (fun c_9 => ?_)
  · have hf := pos_e c_9 hf
    refine lv_iconst (v := 0) hx hb dX8_take_14 (by decide) ?_
    refine mm_name hf.symm ?_
    exact HJ_4 _ _ _ hI hS (lv_sub hl [0, 2] rfl)
  · have hf := neg_e c_9 hf
    refine lv_iconst (v := 1) hx hb dX8_take_10 (by decide) ?_
    refine lv_goto (tgt := 15) hx hb dX8_take_11 (by decide) ?_
    refine mm_name hf.symm ?_
    exact HJ_4 _ _ _ hI hS (lv_sub hl [0, 2] rfl)
def b_X8_measure_30 (a1 : Int32) (a2 : Int32) (a3 : Int32) (v_2 : Int32) : Int32 × Int32 × Int32 × (Nat → Nat → Int32) → Option ((Int32 × Int32 × Int32 × (Nat → Nat → Int32)) ⊕ ((Nat → Nat → Int32)))
  | (y_5, y_6, y_7, σ_8) => if v_2 < y_7 then (some (.inr σ_8)) else (jn (α := Int32 → _) (fun k_70 => if y_7 = v_2 then (k_70 2) else (if a1 = 0 then (bi (f_X8_side y_7 a2 σ_8) fun r_110 => k_70 r_110) else (bi (f_X8_side a2 y_7 σ_8) fun r_109 => k_70 r_109))) (fun v_69 => jn (α := Int32 → (Nat → Nat → Int32) → _) (fun k_87 => jn (fun k_98 => if v_69 = y_6 then (if v_69 = 2 then (k_98) else (k_87 y_5 σ_8)) else (k_98)) (vl (α := Int32) (if y_5 = 0 then (1000) else (a3)) fun v_101 => bi (f_X8_take v_101 y_5 σ_8) fun σ_105 => k_87 0 σ_105)) (fun v_85 σ_86 => vl (α := Int32) (if v_69 = 2 then (0) else (1)) fun v_90 => vl (v_85 + v_90) fun x_93 => vl (y_7 + 1) fun x_94 => some (.inl (x_93, v_69, x_94, σ_86)))))
def f_X8_measure (a1 : Int32) (a2 : Int32) (a3 : Int32) (σ : Nat → Nat → Int32) : Option (Nat → Nat → Int32) := vl (α := Int32) (if a1 = 0 then (σ 184 5) else (σ 184 1)) fun v_2 => bi (lp (b_X8_measure_30 a1 a2 a3 v_2) FU (0, 2, 0, σ)) fun σ_9 => some σ_9
set_option maxHeartbeats 4000000 in
set_option maxRecDepth 100000 in
theorem c_X8_measure (l : Launch) (D : va_G) (cI cS : ClassId) (Z : Nat) (K : Nat → Nat) (hL : ly K 183 lyModel) (a1 : Int32) (a2 : Int32) (a3 : Int32) (σ : Nat → Nat → Int32) (σ' : Nat → Nat → Int32) (hf : f_X8_measure a1 a2 a3 σ = some σ') : Met l yX8_measure (wsT yX8_measure cX8_measure 9 none) { frames := 2, cells := 0, slots := 0, locals := 44 } (Pm D cI cS Z K [.ref (Z + 183), .int a1, .int a2, .int a3] σ) (Qv D cI cS Z K σ') 0 0 (aZ Z) := by
  refine mm_met (lv := [(0, .ref (Z + 183)), (1, .int a1), (2, .int a2), (3, .int a3)]) (by decide) (Nat.le_of_ble_eq_true rfl) rfl ?_
  intro p e s m args below meth c ls hx hb hr hml hts hown hlocks hG hl hI hS
  have hown : s.vm.findClass RX8 = some m.cls := hown
  rw [f_X8_measure] at hf
  refine lv_iconst (v := 0) hx hb dX8_measure_0 (by decide) ?_
  refine lv_istore (lv' := [(4, .int 0), (0, .ref (Z + 183)), (1, .int a1), (2, .int a2), (3, .int a3)]) hx hb dX8_measure_1 hl (by decide) rfl (fun ls hl => ?_)
  refine lv_iconst (v := 2) hx hb dX8_measure_3 (by decide) ?_
  refine lv_istore (lv' := [(5, .int 2), (4, .int 0), (0, .ref (Z + 183)), (1, .int a1), (2, .int a2), (3, .int a3)]) hx hb dX8_measure_4 hl (by decide) rfl (fun ls hl => ?_)
  refine lv_iload_n hx hb dX8_measure_6 rfl (lv_at hl 3 rfl) ?_
  obtain ⟨v_2, ev_2, hf⟩ := vl_e hf
  have HJ_4 : ∀ (H : Heap) (locs : List Loc) (ls : Array Slot), fI D cI cS Z K σ H → va_S (aZ Z) s.heap H locs → lv_has ls 9 [(0, .ref (Z + 183)), (1, .int a1), (2, .int a2), (3, .int a3), (4, .int 0), (5, .int 2)] → W p l e { frames := 2, cells := 0, slots := 0, locals := 44 } s m args below meth c H locs 0 0 (MQ below (Qv D cI cS Z K σ') args s 0 0 (aZ Z)) (F0 m 25 ls [.int v_2]) := by
    intro H locs ls hI hS hl
    refine lv_istore (lv' := [(6, .int v_2), (0, .ref (Z + 183)), (1, .int a1), (2, .int a2), (3, .int a3), (4, .int 0), (5, .int 2)]) hx hb dX8_measure_25 hl (by decide) rfl (fun ls hl => ?_)
    refine lv_iconst (v := 0) hx hb dX8_measure_27 (by decide) ?_
    refine lv_istore (lv' := [(7, .int 0), (6, .int v_2), (0, .ref (Z + 183)), (1, .int a1), (2, .int a2), (3, .int a3), (4, .int 0), (5, .int 2)]) hx hb dX8_measure_28 hl (by decide) rfl (fun ls hl => ?_)
    have L_11 : ∀ (nn : Nat) (y_5 : Int32) (y_6 : Int32) (y_7 : Int32) (σ_8 : Nat → Nat → Int32) (σ_9 : Nat → Nat → Int32), lp (b_X8_measure_30 a1 a2 a3 v_2) nn (y_5, y_6, y_7, σ_8) = some σ_9 → (∀ (H : Heap) (locs : List Loc) (ls : Array Slot), fI D cI cS Z K σ_9 H → va_S (aZ Z) s.heap H locs → lv_has ls 9 [] → W p l e { frames := 2, cells := 0, slots := 0, locals := 44 } s m args below meth c H locs 0 0 (MQ below (Qv D cI cS Z K σ') args s 0 0 (aZ Z)) (F0 m 131 ls [])) → ∀ (H : Heap) (locs : List Loc) (ls : Array Slot), fI D cI cS Z K σ_8 H → va_S (aZ Z) s.heap H locs → lv_has ls 9 [(0, .ref (Z + 183)), (1, .int a1), (2, .int a2), (3, .int a3), (4, .int y_5), (5, .int y_6), (6, .int v_2), (7, .int y_7)] → W p l e { frames := 2, cells := 0, slots := 0, locals := 44 } s m args below meth c H locs 0 0 (MQ below (Qv D cI cS Z K σ') args s 0 0 (aZ Z)) (F0 m 30 ls []) := by
      intro nn
      induction nn with
      | zero =>
        intro y_5 y_6 y_7 σ_8 σ_9 hq
        exact (lp_0 hq).elim
      | succ nn ih_12 =>
        intro y_5 y_6 y_7 σ_8 σ_9 hq kn_14 H locs ls hI hS hl
        obtain ⟨w_10, hf, hk_13⟩ := lp_e hq
        rw [b_X8_measure_30] at hf
        have ih_12 := fun (y_5 : Int32) (y_6 : Int32) (y_7 : Int32) (σ_8 : Nat → Nat → Int32) q => ih_12 y_5 y_6 y_7 σ_8 σ_9 q kn_14
        refine lv_iload hx hb dX8_measure_30 (lv_at hl 7 rfl) ?_
        refine lv_iload hx hb dX8_measure_32 (lv_at hl 6 rfl) ?_
        refine lv_icmp_gt (tgt := 131) hx hb dX8_measure_34 (by decide) (fun c_113 => ?_) (fun c_113 => ?_)
        · have hf := pos_e c_113 hf
          obtain rfl := so_e hf
          obtain rfl := lk_r hk_13
          exact kn_14 _ _ _ hI hS (lv_sub hl [] rfl)
        · have hf := neg_e c_113 hf
          refine lv_iload hx hb dX8_measure_37 (lv_at hl 7 rfl) ?_
          refine lv_iload hx hb dX8_measure_39 (lv_at hl 6 rfl) ?_
          obtain ⟨k_70, ek_70, hf⟩ := jn_e hf
          have HJ_71 : ∀ (v_69 : Int32) (H : Heap) (locs : List Loc) (ls : Array Slot), k_70 v_69 = some w_10 → fI D cI cS Z K σ_8 H → va_S (aZ Z) s.heap H locs → lv_has ls 9 [(0, .ref (Z + 183)), (1, .int a1), (2, .int a2), (3, .int a3), (4, .int y_5), (5, .int y_6), (6, .int v_2), (7, .int y_7)] → W p l e { frames := 2, cells := 0, slots := 0, locals := 44 } s m args below meth c H locs 0 0 (MQ below (Qv D cI cS Z K σ') args s 0 0 (aZ Z)) (F0 m 69 ls [.int v_69]) := by
            intro v_69 H locs ls hf hI hS hl
            have hf := jb1 ek_70 hf
            refine lv_istore (lv' := [(8, .int v_69), (0, .ref (Z + 183)), (1, .int a1), (2, .int a2), (3, .int a3), (4, .int y_5), (5, .int y_6), (6, .int v_2), (7, .int y_7)]) hx hb dX8_measure_69 hl (by decide) rfl (fun ls hl => ?_)
            refine lv_iload hx hb dX8_measure_71 (lv_at hl 0 rfl) ?_
            refine lv_iload hx hb dX8_measure_73 (lv_at hl 6 rfl) ?_
            obtain ⟨k_87, ek_87, hf⟩ := jn_e hf
            have HJ_88 : ∀ (v_85 : Int32) (σ_86 : Nat → Nat → Int32) (H : Heap) (locs : List Loc) (ls : Array Slot), k_87 v_85 σ_86 = some w_10 → fI D cI cS Z K σ_86 H → va_S (aZ Z) s.heap H locs → lv_has ls 9 [(0, .ref (Z + 183)), (1, .int a1), (2, .int a2), (3, .int a3), (4, .int v_85), (6, .int v_2), (7, .int y_7), (8, .int v_69)] → W p l e { frames := 2, cells := 0, slots := 0, locals := 44 } s m args below meth c H locs 0 0 (MQ below (Qv D cI cS Z K σ') args s 0 0 (aZ Z)) (F0 m 105 ls []) := by
              intro v_85 σ_86 H locs ls hf hI hS hl
              have hf := jb2 ek_87 hf
              refine lv_iload hx hb dX8_measure_105 (lv_at hl 4 rfl) ?_
              refine lv_iload hx hb dX8_measure_107 (lv_at hl 7 rfl) ?_
              refine lv_iconst (v := 2) hx hb dX8_measure_109 (by decide) ?_
              obtain ⟨v_90, ev_90, hf⟩ := vl_e hf
              have HJ_92 : ∀ (H : Heap) (locs : List Loc) (ls : Array Slot), fI D cI cS Z K σ_86 H → va_S (aZ Z) s.heap H locs → lv_has ls 9 [(0, .ref (Z + 183)), (1, .int a1), (2, .int a2), (3, .int a3), (6, .int v_2), (7, .int y_7), (8, .int v_69)] → W p l e { frames := 2, cells := 0, slots := 0, locals := 44 } s m args below meth c H locs 0 0 (MQ below (Qv D cI cS Z K σ') args s 0 0 (aZ Z)) (F0 m 118 ls [.int v_90, .int v_85]) := by
                intro H locs ls hI hS hl
                refine lv_iadd hx hb dX8_measure_118 ?_
                obtain ⟨x_93, ex_93, hf⟩ := vl_e hf
                refine mm_name ex_93 ?_
                refine lv_istore (lv' := [(4, .int x_93), (0, .ref (Z + 183)), (1, .int a1), (2, .int a2), (3, .int a3), (6, .int v_2), (7, .int y_7), (8, .int v_69)]) hx hb dX8_measure_119 hl (by decide) rfl (fun ls hl => ?_)
                refine lv_iload hx hb dX8_measure_121 (lv_at hl 7 rfl) ?_
                refine lv_istore (lv' := [(5, .int v_69), (4, .int x_93), (0, .ref (Z + 183)), (1, .int a1), (2, .int a2), (3, .int a3), (6, .int v_2), (7, .int y_7), (8, .int v_69)]) hx hb dX8_measure_123 hl (by decide) rfl (fun ls hl => ?_)
                obtain ⟨x_94, ex_94, hf⟩ := vl_e hf
                refine lv_iinc (v := x_94) (lv' := [(7, .int x_94), (5, .int v_69), (4, .int x_93), (0, .ref (Z + 183)), (1, .int a1), (2, .int a2), (3, .int a3), (6, .int v_2), (8, .int v_69)]) hx hb dX8_measure_125 hl (k := 7) rfl (by rw [ex_94]; rfl) (by decide) rfl (fun ls hl => ?_)
                refine lv_goto (tgt := 30) hx hb dX8_measure_128 (by decide) ?_
                obtain rfl := so_e hf
                exact ih_12 x_93 v_69 x_94 σ_86 hk_13 _ _ _ hI hS (lv_sub hl [3, 4, 5, 6, 2, 1, 7, 0] rfl)
              clear hf
              have hf := ev_90.symm
              refine lv_icmp_ne (tgt := 117) hx hb dX8_measure_110 (by decide) (fun c_95 => ?_) (fun c_95 => ?_)
              · have hf := neg_e c_95 hf
                refine lv_iconst (v := 1) hx hb dX8_measure_117 (by decide) ?_
                refine mm_name hf.symm ?_
                exact HJ_92 _ _ _ hI hS (lv_sub hl [0, 1, 2, 3, 5, 6, 7] rfl)
              · have hf := pos_e c_95 hf
                refine lv_iconst (v := 0) hx hb dX8_measure_113 (by decide) ?_
                refine lv_goto (tgt := 118) hx hb dX8_measure_114 (by decide) ?_
                refine mm_name hf.symm ?_
                exact HJ_92 _ _ _ hI hS (lv_sub hl [0, 1, 2, 3, 5, 6, 7] rfl)
            clear ek_87
            obtain ⟨k_98, ek_98, hf⟩ := jn_e hf
            have HJ_99 : ∀ (H : Heap) (locs : List Loc) (ls : Array Slot), k_98 = some w_10 → fI D cI cS Z K σ_8 H → va_S (aZ Z) s.heap H locs → lv_has ls 9 [(0, .ref (Z + 183)), (1, .int a1), (2, .int a2), (3, .int a3), (4, .int y_5), (6, .int v_2), (7, .int y_7), (8, .int v_69)] → W p l e { frames := 2, cells := 0, slots := 0, locals := 44 } s m args below meth c H locs 0 0 (MQ below (Qv D cI cS Z K σ') args s 0 0 (aZ Z)) (F0 m 84 ls []) := by
              intro  H locs ls hf hI hS hl
              have hf := jb0 ek_98 hf
              refine lv_aload_n hx hb dX8_measure_84 rfl (lv_at hl 0 rfl) ?_
              refine lv_iload hx hb dX8_measure_85 (lv_at hl 4 rfl) ?_
              obtain ⟨v_101, ev_101, hf⟩ := vl_e hf
              have HJ_103 : ∀ (H : Heap) (locs : List Loc) (ls : Array Slot), fI D cI cS Z K σ_8 H → va_S (aZ Z) s.heap H locs → lv_has ls 9 [(0, .ref (Z + 183)), (1, .int a1), (2, .int a2), (3, .int a3), (4, .int y_5), (6, .int v_2), (7, .int y_7), (8, .int v_69)] → W p l e { frames := 2, cells := 0, slots := 0, locals := 44 } s m args below meth c H locs 0 0 (MQ below (Qv D cI cS Z K σ') args s 0 0 (aZ Z)) (F0 m 97 ls [.int v_101, .ref (Z + 183)]) := by
                intro H locs ls hI hS hl
                refine lv_iload hx hb dX8_measure_97 (lv_at hl 4 rfl) ?_
                obtain ⟨σ_105, hσ_105, hf⟩ := bi_e hf
                refine kX8_166 hx hb hml hts hown hG hI hS hl.1 hL (As := [.int v_101, .int y_5]) (c_X8_take l D cI cS Z K hL v_101 y_5 σ_8 _ hσ_105) ⟨(Nat.le_of_ble_eq_true rfl), (Nat.le_of_ble_eq_true rfl)⟩ rfl (Nat.le_of_ble_eq_true rfl) ⟨(Nat.le_of_ble_eq_true rfl), (Nat.le_of_ble_eq_true rfl)⟩ dX8_measure_99 (fun H locs hI hS => ?_)
                refine lv_iconst (v := 0) hx hb dX8_measure_102 (by decide) ?_
                refine lv_istore (lv' := [(4, .int 0), (0, .ref (Z + 183)), (1, .int a1), (2, .int a2), (3, .int a3), (6, .int v_2), (7, .int y_7), (8, .int v_69)]) hx hb dX8_measure_103 hl (by decide) rfl (fun ls hl => ?_)
                exact HJ_88 0 σ_105 _ _ _ hf hI hS (lv_sub hl [1, 2, 3, 4, 0, 5, 6, 7] rfl)
              clear hf
              have hf := ev_101.symm
              refine lv_if_ne (tgt := 96) hx hb dX8_measure_87 (by decide) (fun c_106 => ?_) (fun c_106 => ?_)
              · have hf := neg_e c_106 hf
                refine lv_iload_n hx hb dX8_measure_96 rfl (lv_at hl 3 rfl) ?_
                refine mm_name hf.symm ?_
                exact HJ_103 _ _ _ hI hS (lv_sub hl [0, 1, 2, 3, 4, 5, 6, 7] rfl)
              · have hf := pos_e c_106 hf
                refine lv_sipush (v := 1000) hx hb dX8_measure_90 (by decide) ?_
                refine lv_goto (tgt := 97) hx hb dX8_measure_93 (by decide) ?_
                refine mm_name hf.symm ?_
                exact HJ_103 _ _ _ hI hS (lv_sub hl [0, 1, 2, 3, 4, 5, 6, 7] rfl)
            clear ek_98
            refine lv_icmp_ne (tgt := 84) hx hb dX8_measure_75 (by decide) (fun c_108 => ?_) (fun c_108 => ?_)
            · have hf := neg_e c_108 hf
              exact HJ_99  _ _ _ hf hI hS (lv_sub hl [1, 2, 3, 4, 5, 7, 8, 0] rfl)
            · have hf := pos_e c_108 hf
              refine lv_iload hx hb dX8_measure_78 (lv_at hl 0 rfl) ?_
              refine lv_iconst (v := 2) hx hb dX8_measure_80 (by decide) ?_
              refine lv_icmp_ne (tgt := 105) hx hb dX8_measure_81 (by decide) (fun c_107 => ?_) (fun c_107 => ?_)
              · have hf := neg_e c_107 hf
                exact HJ_88 y_5 σ_8 _ _ _ hf hI hS (lv_sub hl [1, 2, 3, 4, 5, 7, 8, 0] rfl)
              · have hf := pos_e c_107 hf
                exact HJ_99  _ _ _ hf hI hS (lv_sub hl [1, 2, 3, 4, 5, 7, 8, 0] rfl)
          clear ek_70
          refine lv_icmp_ne (tgt := 48) hx hb dX8_measure_41 (by decide) (fun c_112 => ?_) (fun c_112 => ?_)
          · have hf := neg_e c_112 hf
            refine lv_iload_n hx hb dX8_measure_48 rfl (lv_at hl 1 rfl) ?_
            refine lv_if_ne (tgt := 62) hx hb dX8_measure_49 (by decide) (fun c_111 => ?_) (fun c_111 => ?_)
            · have hf := neg_e c_111 hf
              refine lv_aload_n hx hb dX8_measure_62 rfl (lv_at hl 0 rfl) ?_
              refine lv_iload_n hx hb dX8_measure_63 rfl (lv_at hl 2 rfl) ?_
              refine lv_iload hx hb dX8_measure_64 (lv_at hl 7 rfl) ?_
              obtain ⟨r_109, hr_109, hf⟩ := bi_e hf
              refine kX8_163 hx hb hml hts hown hG hI hS hl.1 hL (As := [.int a2, .int y_7]) (c_X8_side l D cI cS Z K hL a2 y_7 σ_8 _ hr_109) ⟨(Nat.le_of_ble_eq_true rfl), (Nat.le_of_ble_eq_true rfl)⟩ rfl (Nat.le_of_ble_eq_true rfl) ⟨(Nat.le_of_ble_eq_true rfl), (Nat.le_of_ble_eq_true rfl)⟩ dX8_measure_66 (fun H locs hI hS => ?_)
              exact HJ_71 r_109 _ _ _ hf hI hS (lv_sub hl [0, 1, 2, 3, 4, 5, 6, 7] rfl)
            · have hf := pos_e c_111 hf
              refine lv_aload_n hx hb dX8_measure_52 rfl (lv_at hl 0 rfl) ?_
              refine lv_iload hx hb dX8_measure_53 (lv_at hl 7 rfl) ?_
              refine lv_iload_n hx hb dX8_measure_55 rfl (lv_at hl 2 rfl) ?_
              obtain ⟨r_110, hr_110, hf⟩ := bi_e hf
              refine kX8_163 hx hb hml hts hown hG hI hS hl.1 hL (As := [.int y_7, .int a2]) (c_X8_side l D cI cS Z K hL y_7 a2 σ_8 _ hr_110) ⟨(Nat.le_of_ble_eq_true rfl), (Nat.le_of_ble_eq_true rfl)⟩ rfl (Nat.le_of_ble_eq_true rfl) ⟨(Nat.le_of_ble_eq_true rfl), (Nat.le_of_ble_eq_true rfl)⟩ dX8_measure_56 (fun H locs hI hS => ?_)
              refine lv_goto (tgt := 69) hx hb dX8_measure_59 (by decide) ?_
              exact HJ_71 r_110 _ _ _ hf hI hS (lv_sub hl [0, 1, 2, 3, 4, 5, 6, 7] rfl)
          · have hf := pos_e c_112 hf
            refine lv_iconst (v := 2) hx hb dX8_measure_44 (by decide) ?_
            refine lv_goto (tgt := 69) hx hb dX8_measure_45 (by decide) ?_
            exact HJ_71 2 _ _ _ hf hI hS (lv_sub hl [0, 1, 2, 3, 4, 5, 6, 7] rfl)
    obtain ⟨σ_9, hy, hf⟩ := bi_e hf
    refine L_11 FU 0 2 0 σ _ hy ?_ _ _ _ hI hS (lv_sub hl [2, 3, 4, 5, 6, 7, 1, 0] rfl)
    clear L_11
    intro H locs ls hI hS hl
    obtain rfl := so_e hf
    exact mm_vret hx hb hr hlocks hI hS dX8_measure_131
  clear hf
  have hf := ev_2.symm
  refine lv_if_ne (tgt := 19) hx hb dX8_measure_7 (by decide) (fun c_115 => ?_) (fun c_115 => ?_)
  · have hf := neg_e c_115 hf
    refine lv_aload_n hx hb dX8_measure_19 rfl (lv_at hl 2 rfl) ?_
    refine gX8_7 (o' := 184) hx hb hts hown hG hI hL rfl dX8_measure_20 ?_
    refine lv_iconst (v := 1) hx hb dX8_measure_23 (by decide) ?_
    refine mm_ald (k := 1) (n := 456) hx hb hG hI (ly_at hL 1 rfl) (by decide) rfl dX8_measure_24 ?_
    refine mm_name hf.symm ?_
    exact HJ_4 _ _ _ hI hS (lv_sub hl [2, 3, 4, 5, 1, 0] rfl)
  · have hf := pos_e c_115 hf
    refine lv_aload_n hx hb dX8_measure_10 rfl (lv_at hl 2 rfl) ?_
    refine gX8_7 (o' := 184) hx hb hts hown hG hI hL rfl dX8_measure_11 ?_
    refine lv_iconst (v := 5) hx hb dX8_measure_14 (by decide) ?_
    refine mm_ald (k := 5) (n := 456) hx hb hG hI (ly_at hL 1 rfl) (by decide) rfl dX8_measure_15 ?_
    refine lv_goto (tgt := 25) hx hb dX8_measure_16 (by decide) ?_
    refine mm_name hf.symm ?_
    exact HJ_4 _ _ _ hI hS (lv_sub hl [2, 3, 4, 5, 1, 0] rfl)
def f_X8_longestOf (a1 : Int32) (a2 : Int32) (σ : Nat → Nat → Int32) : Option (Int32 × (Nat → Nat → Int32)) := vl (wr σ 183 11 0) fun σ_1 => vl (wr σ_1 183 12 0) fun σ_2 => bi (f_X8_measure a1 a2 1 σ_2) fun σ_4 => some (σ_4 183 12, σ_4)
set_option maxHeartbeats 4000000 in
set_option maxRecDepth 100000 in
theorem c_X8_longestOf (l : Launch) (D : va_G) (cI cS : ClassId) (Z : Nat) (K : Nat → Nat) (hL : ly K 183 lyModel) (a1 : Int32) (a2 : Int32) (σ : Nat → Nat → Int32) (r : Int32) (σ' : Nat → Nat → Int32) (hf : f_X8_longestOf a1 a2 σ = some (r, σ')) : Met l yX8_longestOf (wsT yX8_longestOf cX8_longestOf 3 (some .int)) { frames := 3, cells := 0, slots := 0, locals := 72 } (Pm D cI cS Z K [.ref (Z + 183), .int a1, .int a2] σ) (Qi D cI cS Z K r σ') 0 0 (aZ Z) := by
  refine mm_met (lv := [(0, .ref (Z + 183)), (1, .int a1), (2, .int a2)]) (by decide) (Nat.le_of_ble_eq_true rfl) rfl ?_
  intro p e s m args below meth c ls hx hb hr hml hts hown hlocks hG hl hI hS
  have hown : s.vm.findClass RX8 = some m.cls := hown
  rw [f_X8_longestOf] at hf
  refine lv_aload_n hx hb dX8_longestOf_0 rfl (lv_at hl 0 rfl) ?_
  refine lv_iconst (v := 0) hx hb dX8_longestOf_1 (by decide) ?_
  obtain ⟨σ_1, eσ_1, hf⟩ := vl_e hf
  refine pX8_157 hx hb hts hown hG hI hS hL dX8_longestOf_2 (fun H locs hI hS => ?_)
  rw [← eσ_1] at hI
  refine lv_aload_n hx hb dX8_longestOf_5 rfl (lv_at hl 0 rfl) ?_
  refine lv_iconst (v := 0) hx hb dX8_longestOf_6 (by decide) ?_
  obtain ⟨σ_2, eσ_2, hf⟩ := vl_e hf
  refine pX8_160 hx hb hts hown hG hI hS hL dX8_longestOf_7 (fun H locs hI hS => ?_)
  rw [← eσ_2] at hI
  refine lv_aload_n hx hb dX8_longestOf_10 rfl (lv_at hl 0 rfl) ?_
  refine lv_iload_n hx hb dX8_longestOf_11 rfl (lv_at hl 1 rfl) ?_
  refine lv_iload_n hx hb dX8_longestOf_12 rfl (lv_at hl 2 rfl) ?_
  refine lv_iconst (v := 1) hx hb dX8_longestOf_13 (by decide) ?_
  obtain ⟨σ_4, hσ_4, hf⟩ := bi_e hf
  refine kX8_169 hx hb hml hts hown hG hI hS hl.1 hL (As := [.int a1, .int a2, .int 1]) (c_X8_measure l D cI cS Z K hL a1 a2 1 σ_2 _ hσ_4) ⟨(Nat.le_of_ble_eq_true rfl), (Nat.le_of_ble_eq_true rfl)⟩ rfl (Nat.le_of_ble_eq_true rfl) ⟨(Nat.le_of_ble_eq_true rfl), (Nat.le_of_ble_eq_true rfl)⟩ dX8_longestOf_14 (fun H locs hI hS => ?_)
  refine lv_aload_n hx hb dX8_longestOf_17 rfl (lv_at hl 0 rfl) ?_
  refine gX8_160 hx hb hts hown hG hI hL dX8_longestOf_18 ?_
  obtain ⟨rfl, rfl⟩ := sp_e hf
  exact mm_ret hx hb hr hlocks rfl hI hS dX8_longestOf_21
def f_X8_end (a1 : Int32) (a2 : Int32) (σ : Nat → Nat → Int32) : Option (Int32 × (Nat → Nat → Int32)) := vl (wr σ 183 0 0) fun σ_1 => bi (f_X8_isEnd a1 σ_1) fun r_2 => if r_2 = 0 then (some ((-1), σ_1)) else (if a2 = 0 then (ix (6 + a1) 456 <| some (σ_1 184 (6 + a1).toNatClampNeg, σ_1)) else (if a2 = 1 then (ix (38 + a1) 456 <| some (σ_1 184 (38 + a1).toNatClampNeg, σ_1)) else (if a2 = 2 then (bi (f_X8_rowsWith a1 0 σ_1) fun r_6 => some (r_6, σ_1)) else (if a2 = 3 then (bi (f_X8_rowsWith a1 1 σ_1) fun r_8 => some (r_8, σ_1)) else (if a2 = 4 then (b2 (f_X8_longestOf 0 a1 σ_1) fun r_10 σ_11 => some (r_10, σ_11)) else (some ((-1), σ_1)))))))
set_option maxHeartbeats 4000000 in
set_option maxRecDepth 100000 in
theorem c_X8_end (l : Launch) (D : va_G) (cI cS : ClassId) (Z : Nat) (K : Nat → Nat) (hL : ly K 183 lyModel) (a1 : Int32) (a2 : Int32) (σ : Nat → Nat → Int32) (r : Int32) (σ' : Nat → Nat → Int32) (hf : f_X8_end a1 a2 σ = some (r, σ')) : Met l yX8_end (wsT yX8_end cX8_end 3 (some .int)) { frames := 4, cells := 0, slots := 0, locals := 94 } (Pm D cI cS Z K [.ref (Z + 183), .int a1, .int a2] σ) (Qi D cI cS Z K r σ') 0 0 (aZ Z) := by
  refine mm_met (lv := [(0, .ref (Z + 183)), (1, .int a1), (2, .int a2)]) (by decide) (Nat.le_of_ble_eq_true rfl) rfl ?_
  intro p e s m args below meth c ls hx hb hr hml hts hown hlocks hG hl hI hS
  have hown : s.vm.findClass RX8 = some m.cls := hown
  rw [f_X8_end] at hf
  refine lv_aload_n hx hb dX8_end_0 rfl (lv_at hl 0 rfl) ?_
  refine lv_iconst (v := 0) hx hb dX8_end_1 (by decide) ?_
  obtain ⟨σ_1, eσ_1, hf⟩ := vl_e hf
  refine pX8_28 hx hb hts hown hG hI hS hL dX8_end_2 (fun H locs hI hS => ?_)
  rw [← eσ_1] at hI
  refine lv_aload_n hx hb dX8_end_5 rfl (lv_at hl 0 rfl) ?_
  refine lv_iload_n hx hb dX8_end_6 rfl (lv_at hl 1 rfl) ?_
  obtain ⟨r_2, hr_2, hf⟩ := bi_e hf
  refine kX8_46 hx hb hml hts hown hG hI hS hl.1 hL (As := [.int a1]) (c_X8_isEnd l D cI cS Z K hL a1 σ_1 _ hr_2) ⟨(Nat.le_of_ble_eq_true rfl), (Nat.le_of_ble_eq_true rfl)⟩ rfl (Nat.le_of_ble_eq_true rfl) ⟨(Nat.le_of_ble_eq_true rfl), (Nat.le_of_ble_eq_true rfl)⟩ dX8_end_7 (fun hzr_2 H locs hI hS => ?_)
  refine lv_if_ne (tgt := 15) hx hb dX8_end_10 (by decide) (fun c_12 => ?_) (fun c_12 => ?_)
  · have hf := neg_e c_12 hf
    refine lv_iload_n hx hb dX8_end_15 rfl (lv_at hl 2 rfl) ?_
    by_cases c_3 : a2 = 0
    · have hf := pos_e c_3 hf
      refine lv_tableIn (off := 36) (tgt := 52) hx hb dX8_end_16 (by rw [c_3]; decide) (by rw [c_3]; decide) (by rw [c_3]; rfl) (by decide) ?_
      refine lv_aload_n hx hb dX8_end_52 rfl (lv_at hl 0 rfl) ?_
      refine gX8_7 (o' := 184) hx hb hts hown hG hI hL rfl dX8_end_53 ?_
      refine lv_bipush (v := 6) hx hb dX8_end_56 (by decide) ?_
      refine lv_iload_n hx hb dX8_end_58 rfl (lv_at hl 1 rfl) ?_
      refine lv_iadd hx hb dX8_end_59 ?_
      obtain ⟨hix, hf⟩ := ix_e hf
      refine mm_ald hx hb hG hI (ly_at hL 1 rfl) hix rfl dX8_end_60 ?_
      obtain ⟨rfl, rfl⟩ := sp_e hf
      exact mm_ret hx hb hr hlocks rfl hI hS dX8_end_61
    have hf := neg_e c_3 hf
    by_cases c_4 : a2 = 1
    · have hf := pos_e c_4 hf
      refine lv_tableIn (off := 46) (tgt := 62) hx hb dX8_end_16 (by rw [c_4]; decide) (by rw [c_4]; decide) (by rw [c_4]; rfl) (by decide) ?_
      refine lv_aload_n hx hb dX8_end_62 rfl (lv_at hl 0 rfl) ?_
      refine gX8_7 (o' := 184) hx hb hts hown hG hI hL rfl dX8_end_63 ?_
      refine lv_bipush (v := 38) hx hb dX8_end_66 (by decide) ?_
      refine lv_iload_n hx hb dX8_end_68 rfl (lv_at hl 1 rfl) ?_
      refine lv_iadd hx hb dX8_end_69 ?_
      obtain ⟨hix, hf⟩ := ix_e hf
      refine mm_ald hx hb hG hI (ly_at hL 1 rfl) hix rfl dX8_end_70 ?_
      obtain ⟨rfl, rfl⟩ := sp_e hf
      exact mm_ret hx hb hr hlocks rfl hI hS dX8_end_71
    have hf := neg_e c_4 hf
    by_cases c_5 : a2 = 2
    · have hf := pos_e c_5 hf
      refine lv_tableIn (off := 56) (tgt := 72) hx hb dX8_end_16 (by rw [c_5]; decide) (by rw [c_5]; decide) (by rw [c_5]; rfl) (by decide) ?_
      refine lv_aload_n hx hb dX8_end_72 rfl (lv_at hl 0 rfl) ?_
      refine lv_iload_n hx hb dX8_end_73 rfl (lv_at hl 1 rfl) ?_
      refine lv_iconst (v := 0) hx hb dX8_end_74 (by decide) ?_
      obtain ⟨r_6, hr_6, hf⟩ := bi_e hf
      refine kX8_172 hx hb hml hts hown hG hI hS hl.1 hL (As := [.int a1, .int 0]) (c_X8_rowsWith l D cI cS Z K hL a1 0 σ_1 _ hr_6) ⟨(Nat.le_of_ble_eq_true rfl), (Nat.le_of_ble_eq_true rfl)⟩ rfl (Nat.le_of_ble_eq_true rfl) ⟨(Nat.le_of_ble_eq_true rfl), (Nat.le_of_ble_eq_true rfl)⟩ dX8_end_75 (fun H locs hI hS => ?_)
      obtain ⟨rfl, rfl⟩ := sp_e hf
      exact mm_ret hx hb hr hlocks rfl hI hS dX8_end_78
    have hf := neg_e c_5 hf
    by_cases c_7 : a2 = 3
    · have hf := pos_e c_7 hf
      refine lv_tableIn (off := 63) (tgt := 79) hx hb dX8_end_16 (by rw [c_7]; decide) (by rw [c_7]; decide) (by rw [c_7]; rfl) (by decide) ?_
      refine lv_aload_n hx hb dX8_end_79 rfl (lv_at hl 0 rfl) ?_
      refine lv_iload_n hx hb dX8_end_80 rfl (lv_at hl 1 rfl) ?_
      refine lv_iconst (v := 1) hx hb dX8_end_81 (by decide) ?_
      obtain ⟨r_8, hr_8, hf⟩ := bi_e hf
      refine kX8_172 hx hb hml hts hown hG hI hS hl.1 hL (As := [.int a1, .int 1]) (c_X8_rowsWith l D cI cS Z K hL a1 1 σ_1 _ hr_8) ⟨(Nat.le_of_ble_eq_true rfl), (Nat.le_of_ble_eq_true rfl)⟩ rfl (Nat.le_of_ble_eq_true rfl) ⟨(Nat.le_of_ble_eq_true rfl), (Nat.le_of_ble_eq_true rfl)⟩ dX8_end_82 (fun H locs hI hS => ?_)
      obtain ⟨rfl, rfl⟩ := sp_e hf
      exact mm_ret hx hb hr hlocks rfl hI hS dX8_end_85
    have hf := neg_e c_7 hf
    by_cases c_9 : a2 = 4
    · have hf := pos_e c_9 hf
      refine lv_tableIn (off := 70) (tgt := 86) hx hb dX8_end_16 (by rw [c_9]; decide) (by rw [c_9]; decide) (by rw [c_9]; rfl) (by decide) ?_
      refine lv_aload_n hx hb dX8_end_86 rfl (lv_at hl 0 rfl) ?_
      refine lv_iconst (v := 0) hx hb dX8_end_87 (by decide) ?_
      refine lv_iload_n hx hb dX8_end_88 rfl (lv_at hl 1 rfl) ?_
      obtain ⟨r_10, σ_11, hr_10, hf⟩ := b2_e hf
      refine kX8_175 hx hb hml hts hown hG hI hS hl.1 hL (As := [.int 0, .int a1]) (c_X8_longestOf l D cI cS Z K hL 0 a1 σ_1 _ _ hr_10) ⟨(Nat.le_of_ble_eq_true rfl), (Nat.le_of_ble_eq_true rfl)⟩ rfl (Nat.le_of_ble_eq_true rfl) ⟨(Nat.le_of_ble_eq_true rfl), (Nat.le_of_ble_eq_true rfl)⟩ dX8_end_89 (fun H locs hI hS => ?_)
      obtain ⟨rfl, rfl⟩ := sp_e hf
      exact mm_ret hx hb hr hlocks rfl hI hS dX8_end_92
    have hf := neg_e c_9 hf
    refine lv_tableOut (tgt := 93) hx hb dX8_end_16 (sw_out4 c_3 c_4 c_5 c_7 c_9) (by decide) ?_
    refine lv_iconst (v := (-1)) hx hb dX8_end_93 (by decide) ?_
    obtain ⟨rfl, rfl⟩ := sp_e hf
    exact mm_ret hx hb hr hlocks rfl hI hS dX8_end_94
  · have hf := pos_e c_12 hf
    refine lv_iconst (v := (-1)) hx hb dX8_end_13 (by decide) ?_
    obtain ⟨rfl, rfl⟩ := sp_e hf
    exact mm_ret hx hb hr hlocks rfl hI hS dX8_end_14
def b_X8_floats_38 (a1 : Int32) (a2 : Int32) : Int32 × (Nat → Nat → Int32) → Option ((Int32 × (Nat → Nat → Int32)) ⊕ ((Nat → Nat → Int32)))
  | (y_6, σ_7) => vl (α := Int32) (if a1 = 0 then (σ_7 184 1) else (σ_7 184 5)) fun v_25 => if v_25 ≤ y_6 then (some (.inr σ_7)) else (bi (f_X8_measure a1 y_6 a2 σ_7) fun σ_29 => vl (y_6 + 1) fun x_30 => some (.inl (x_30, σ_29)))
def f_X8_floats (a1 : Int32) (a2 : Int32) (σ : Nat → Nat → Int32) : Option (Int32 × (Nat → Nat → Int32)) := vl (wr σ 183 0 0) fun σ_1 => bi (f_X8_in a1 0 1 σ_1) fun r_2 => if r_2 = 0 then (some ((-1), σ_1)) else (bi (f_X8_in a2 1 64 σ_1) fun r_3 => if r_3 = 0 then (some ((-1), σ_1)) else (vl (wr σ_1 183 11 0) fun σ_4 => vl (wr σ_4 183 12 0) fun σ_5 => bi (lp (b_X8_floats_38 a1 a2) FU (0, σ_5)) fun σ_8 => some (σ_8 183 11, σ_8)))
set_option maxHeartbeats 4000000 in
set_option maxRecDepth 100000 in
theorem c_X8_floats (l : Launch) (D : va_G) (cI cS : ClassId) (Z : Nat) (K : Nat → Nat) (hL : ly K 183 lyModel) (a1 : Int32) (a2 : Int32) (σ : Nat → Nat → Int32) (r : Int32) (σ' : Nat → Nat → Int32) (hf : f_X8_floats a1 a2 σ = some (r, σ')) : Met l yX8_floats (wsT yX8_floats cX8_floats 4 (some .int)) { frames := 3, cells := 0, slots := 0, locals := 72 } (Pm D cI cS Z K [.ref (Z + 183), .int a1, .int a2] σ) (Qi D cI cS Z K r σ') 0 0 (aZ Z) := by
  refine mm_met (lv := [(0, .ref (Z + 183)), (1, .int a1), (2, .int a2)]) (by decide) (Nat.le_of_ble_eq_true rfl) rfl ?_
  intro p e s m args below meth c ls hx hb hr hml hts hown hlocks hG hl hI hS
  have hown : s.vm.findClass RX8 = some m.cls := hown
  rw [f_X8_floats] at hf
  refine lv_aload_n hx hb dX8_floats_0 rfl (lv_at hl 0 rfl) ?_
  refine lv_iconst (v := 0) hx hb dX8_floats_1 (by decide) ?_
  obtain ⟨σ_1, eσ_1, hf⟩ := vl_e hf
  refine pX8_28 hx hb hts hown hG hI hS hL dX8_floats_2 (fun H locs hI hS => ?_)
  rw [← eσ_1] at hI
  refine lv_iload_n hx hb dX8_floats_5 rfl (lv_at hl 1 rfl) ?_
  refine lv_iconst (v := 0) hx hb dX8_floats_6 (by decide) ?_
  refine lv_iconst (v := 1) hx hb dX8_floats_7 (by decide) ?_
  obtain ⟨r_2, hr_2, hf⟩ := bi_e hf
  refine kX8_39 hx hb hml hts hown hG hI hS hl.1 (As := [.int a1, .int 0, .int 1]) (c_X8_in l D cI cS Z K a1 0 1 σ_1 _ hr_2) ⟨(Nat.le_of_ble_eq_true rfl), (Nat.le_of_ble_eq_true rfl)⟩ rfl (Nat.le_of_ble_eq_true rfl) ⟨(Nat.le_of_ble_eq_true rfl), (Nat.le_of_ble_eq_true rfl)⟩ dX8_floats_8 (fun hzr_2 H locs hI hS => ?_)
  refine lv_if_eq (tgt := 24) hx hb dX8_floats_11 (by decide) (fun c_35 => ?_) (fun c_35 => ?_)
  · have hf := pos_e c_35 hf
    refine lv_iconst (v := (-1)) hx hb dX8_floats_24 (by decide) ?_
    obtain ⟨rfl, rfl⟩ := sp_e hf
    exact mm_ret hx hb hr hlocks rfl hI hS dX8_floats_25
  · have hf := neg_e c_35 hf
    refine lv_iload_n hx hb dX8_floats_14 rfl (lv_at hl 2 rfl) ?_
    refine lv_iconst (v := 1) hx hb dX8_floats_15 (by decide) ?_
    refine lv_bipush (v := 64) hx hb dX8_floats_16 (by decide) ?_
    obtain ⟨r_3, hr_3, hf⟩ := bi_e hf
    refine kX8_39 hx hb hml hts hown hG hI hS hl.1 (As := [.int a2, .int 1, .int 64]) (c_X8_in l D cI cS Z K a2 1 64 σ_1 _ hr_3) ⟨(Nat.le_of_ble_eq_true rfl), (Nat.le_of_ble_eq_true rfl)⟩ rfl (Nat.le_of_ble_eq_true rfl) ⟨(Nat.le_of_ble_eq_true rfl), (Nat.le_of_ble_eq_true rfl)⟩ dX8_floats_18 (fun hzr_3 H locs hI hS => ?_)
    refine lv_if_ne (tgt := 26) hx hb dX8_floats_21 (by decide) (fun c_34 => ?_) (fun c_34 => ?_)
    · have hf := neg_e c_34 hf
      refine lv_aload_n hx hb dX8_floats_26 rfl (lv_at hl 0 rfl) ?_
      refine lv_iconst (v := 0) hx hb dX8_floats_27 (by decide) ?_
      obtain ⟨σ_4, eσ_4, hf⟩ := vl_e hf
      refine pX8_157 hx hb hts hown hG hI hS hL dX8_floats_28 (fun H locs hI hS => ?_)
      rw [← eσ_4] at hI
      refine lv_aload_n hx hb dX8_floats_31 rfl (lv_at hl 0 rfl) ?_
      refine lv_iconst (v := 0) hx hb dX8_floats_32 (by decide) ?_
      obtain ⟨σ_5, eσ_5, hf⟩ := vl_e hf
      refine pX8_160 hx hb hts hown hG hI hS hL dX8_floats_33 (fun H locs hI hS => ?_)
      rw [← eσ_5] at hI
      refine lv_iconst (v := 0) hx hb dX8_floats_36 (by decide) ?_
      refine lv_istore_n (lv' := [(3, .int 0), (0, .ref (Z + 183)), (1, .int a1), (2, .int a2)]) hx hb dX8_floats_37 rfl hl (by decide) rfl (fun ls hl => ?_)
      have L_10 : ∀ (nn : Nat) (y_6 : Int32) (σ_7 : Nat → Nat → Int32) (σ_8 : Nat → Nat → Int32), lp (b_X8_floats_38 a1 a2) nn (y_6, σ_7) = some σ_8 → (∀ (H : Heap) (locs : List Loc) (ls : Array Slot), fI D cI cS Z K σ_8 H → va_S (aZ Z) s.heap H locs → lv_has ls 4 [(0, .ref (Z + 183))] → W p l e { frames := 3, cells := 0, slots := 0, locals := 72 } s m args below meth c H locs 0 0 (MQ below (Qi D cI cS Z K r σ') args s 0 0 (aZ Z)) (F0 m 74 ls [])) → ∀ (H : Heap) (locs : List Loc) (ls : Array Slot), fI D cI cS Z K σ_7 H → va_S (aZ Z) s.heap H locs → lv_has ls 4 [(0, .ref (Z + 183)), (1, .int a1), (2, .int a2), (3, .int y_6)] → W p l e { frames := 3, cells := 0, slots := 0, locals := 72 } s m args below meth c H locs 0 0 (MQ below (Qi D cI cS Z K r σ') args s 0 0 (aZ Z)) (F0 m 38 ls []) := by
        intro nn
        induction nn with
        | zero =>
          intro y_6 σ_7 σ_8 hq
          exact (lp_0 hq).elim
        | succ nn ih_11 =>
          intro y_6 σ_7 σ_8 hq kn_13 H locs ls hI hS hl
          obtain ⟨w_9, hf, hk_12⟩ := lp_e hq
          rw [b_X8_floats_38] at hf
          have ih_11 := fun (y_6 : Int32) (σ_7 : Nat → Nat → Int32) q => ih_11 y_6 σ_7 σ_8 q kn_13
          refine lv_iload_n hx hb dX8_floats_38 rfl (lv_at hl 3 rfl) ?_
          refine lv_iload_n hx hb dX8_floats_39 rfl (lv_at hl 1 rfl) ?_
          obtain ⟨v_25, ev_25, hf⟩ := vl_e hf
          have HJ_27 : ∀ (H : Heap) (locs : List Loc) (ls : Array Slot), fI D cI cS Z K σ_7 H → va_S (aZ Z) s.heap H locs → lv_has ls 4 [(0, .ref (Z + 183)), (1, .int a1), (2, .int a2), (3, .int y_6)] → W p l e { frames := 3, cells := 0, slots := 0, locals := 72 } s m args below meth c H locs 0 0 (MQ below (Qi D cI cS Z K r σ') args s 0 0 (aZ Z)) (F0 m 58 ls [.int v_25, .int y_6]) := by
            intro H locs ls hI hS hl
            refine lv_icmp_ge (tgt := 74) hx hb dX8_floats_58 (by decide) (fun c_31 => ?_) (fun c_31 => ?_)
            · have hf := pos_e c_31 hf
              obtain rfl := so_e hf
              obtain rfl := lk_r hk_12
              exact kn_13 _ _ _ hI hS (lv_sub hl [0] rfl)
            · have hf := neg_e c_31 hf
              refine lv_aload_n hx hb dX8_floats_61 rfl (lv_at hl 0 rfl) ?_
              refine lv_iload_n hx hb dX8_floats_62 rfl (lv_at hl 1 rfl) ?_
              refine lv_iload_n hx hb dX8_floats_63 rfl (lv_at hl 3 rfl) ?_
              refine lv_iload_n hx hb dX8_floats_64 rfl (lv_at hl 2 rfl) ?_
              obtain ⟨σ_29, hσ_29, hf⟩ := bi_e hf
              refine kX8_169 hx hb hml hts hown hG hI hS hl.1 hL (As := [.int a1, .int y_6, .int a2]) (c_X8_measure l D cI cS Z K hL a1 y_6 a2 σ_7 _ hσ_29) ⟨(Nat.le_of_ble_eq_true rfl), (Nat.le_of_ble_eq_true rfl)⟩ rfl (Nat.le_of_ble_eq_true rfl) ⟨(Nat.le_of_ble_eq_true rfl), (Nat.le_of_ble_eq_true rfl)⟩ dX8_floats_65 (fun H locs hI hS => ?_)
              obtain ⟨x_30, ex_30, hf⟩ := vl_e hf
              refine lv_iinc (v := x_30) (lv' := [(3, .int x_30), (0, .ref (Z + 183)), (1, .int a1), (2, .int a2)]) hx hb dX8_floats_68 hl (k := 3) rfl (by rw [ex_30]; rfl) (by decide) rfl (fun ls hl => ?_)
              refine lv_goto (tgt := 38) hx hb dX8_floats_71 (by decide) ?_
              obtain rfl := so_e hf
              exact ih_11 x_30 σ_29 hk_12 _ _ _ hI hS (lv_sub hl [1, 2, 3, 0] rfl)
          clear hf
          have hf := ev_25.symm
          refine lv_if_ne (tgt := 52) hx hb dX8_floats_40 (by decide) (fun c_32 => ?_) (fun c_32 => ?_)
          · have hf := neg_e c_32 hf
            refine lv_aload_n hx hb dX8_floats_52 rfl (lv_at hl 0 rfl) ?_
            refine gX8_7 (o' := 184) hx hb hts hown hG hI hL rfl dX8_floats_53 ?_
            refine lv_iconst (v := 5) hx hb dX8_floats_56 (by decide) ?_
            refine mm_ald (k := 5) (n := 456) hx hb hG hI (ly_at hL 1 rfl) (by decide) rfl dX8_floats_57 ?_
            refine mm_name hf.symm ?_
            exact HJ_27 _ _ _ hI hS (lv_sub hl [0, 1, 2, 3] rfl)
          · have hf := pos_e c_32 hf
            refine lv_aload_n hx hb dX8_floats_43 rfl (lv_at hl 0 rfl) ?_
            refine gX8_7 (o' := 184) hx hb hts hown hG hI hL rfl dX8_floats_44 ?_
            refine lv_iconst (v := 1) hx hb dX8_floats_47 (by decide) ?_
            refine mm_ald (k := 1) (n := 456) hx hb hG hI (ly_at hL 1 rfl) (by decide) rfl dX8_floats_48 ?_
            refine lv_goto (tgt := 58) hx hb dX8_floats_49 (by decide) ?_
            refine mm_name hf.symm ?_
            exact HJ_27 _ _ _ hI hS (lv_sub hl [0, 1, 2, 3] rfl)
      obtain ⟨σ_8, hy, hf⟩ := bi_e hf
      refine L_10 FU 0 σ_5 _ hy ?_ _ _ _ hI hS (lv_sub hl [1, 2, 3, 0] rfl)
      clear L_10
      intro H locs ls hI hS hl
      refine lv_aload_n hx hb dX8_floats_74 rfl (lv_at hl 0 rfl) ?_
      refine gX8_157 hx hb hts hown hG hI hL dX8_floats_75 ?_
      obtain ⟨rfl, rfl⟩ := sp_e hf
      exact mm_ret hx hb hr hlocks rfl hI hS dX8_floats_78
    · have hf := pos_e c_34 hf
      refine lv_iconst (v := (-1)) hx hb dX8_floats_24 (by decide) ?_
      obtain ⟨rfl, rfl⟩ := sp_e hf
      exact mm_ret hx hb hr hlocks rfl hI hS dX8_floats_25
def b_X8_here_0  : (Nat → Nat → Int32) → Option (((Nat → Nat → Int32)) ⊕ ((Nat → Nat → Int32)))
  | σ_1 => if (σ_1 183 6) ≤ (σ_1 183 10) then (some (.inr σ_1)) else (ix (σ_1 183 10) 120 <| if (σ_1 187 (σ_1 183 10).toNatClampNeg) = 32 then (vl (wr σ_1 183 10 ((σ_1 183 10) + 1)) fun σ_12 => some (.inl σ_12)) else (some (.inr σ_1)))
def f_X8_here  (σ : Nat → Nat → Int32) : Option (Int32 × (Nat → Nat → Int32)) := bi (lp (b_X8_here_0) FU σ) fun σ_2 => if (σ_2 183 6) ≤ (σ_2 183 10) then (some ((-1), σ_2)) else (ix (σ_2 183 10) 120 <| some (σ_2 187 (σ_2 183 10).toNatClampNeg, σ_2))
set_option maxHeartbeats 4000000 in
set_option maxRecDepth 100000 in
theorem c_X8_here (l : Launch) (D : va_G) (cI cS : ClassId) (Z : Nat) (K : Nat → Nat) (hL : ly K 183 lyModel) (σ : Nat → Nat → Int32) (r : Int32) (σ' : Nat → Nat → Int32) (hf : f_X8_here σ = some (r, σ')) : Met l yX8_here (wsT yX8_here cX8_here 1 (some .int)) { frames := 0, cells := 0, slots := 0, locals := 0 } (Pm D cI cS Z K [.ref (Z + 183)] σ) (Qi D cI cS Z K r σ') 0 0 (aZ Z) := by
  refine mm_met (lv := [(0, .ref (Z + 183))]) (by decide) (Nat.le_of_ble_eq_true rfl) rfl ?_
  intro p e s m args below meth c ls hx hb hr hml hts hown hlocks hG hl hI hS
  have hown : s.vm.findClass RX8 = some m.cls := hown
  rw [f_X8_here] at hf
  have L_4 : ∀ (nn : Nat) (σ_1 : Nat → Nat → Int32) (σ_2 : Nat → Nat → Int32), lp (b_X8_here_0) nn σ_1 = some σ_2 → (∀ (H : Heap) (locs : List Loc) (ls : Array Slot), fI D cI cS Z K σ_2 H → va_S (aZ Z) s.heap H locs → lv_has ls 1 [(0, .ref (Z + 183))] → W p l e { frames := 0, cells := 0, slots := 0, locals := 0 } s m args below meth c H locs 0 0 (MQ below (Qi D cI cS Z K r σ') args s 0 0 (aZ Z)) (F0 m 38 ls [])) → ∀ (H : Heap) (locs : List Loc) (ls : Array Slot), fI D cI cS Z K σ_1 H → va_S (aZ Z) s.heap H locs → lv_has ls 1 [(0, .ref (Z + 183))] → W p l e { frames := 0, cells := 0, slots := 0, locals := 0 } s m args below meth c H locs 0 0 (MQ below (Qi D cI cS Z K r σ') args s 0 0 (aZ Z)) (F0 m 0 ls []) := by
    intro nn
    induction nn with
    | zero =>
      intro σ_1 σ_2 hq
      exact (lp_0 hq).elim
    | succ nn ih_5 =>
      intro σ_1 σ_2 hq kn_7 H locs ls hI hS hl
      obtain ⟨w_3, hf, hk_6⟩ := lp_e hq
      rw [b_X8_here_0] at hf
      have ih_5 := fun (σ_1 : Nat → Nat → Int32) q => ih_5 σ_1 σ_2 q kn_7
      refine lv_aload_n hx hb dX8_here_0 rfl (lv_at hl 0 rfl) ?_
      refine gX8_73 hx hb hts hown hG hI hL dX8_here_1 ?_
      refine lv_aload_n hx hb dX8_here_4 rfl (lv_at hl 0 rfl) ?_
      refine gX8_70 hx hb hts hown hG hI hL dX8_here_5 ?_
      refine lv_icmp_ge (tgt := 38) hx hb dX8_here_8 (by decide) (fun c_14 => ?_) (fun c_14 => ?_)
      · have hf := pos_e c_14 hf
        obtain rfl := so_e hf
        obtain rfl := lk_r hk_6
        exact kn_7 _ _ _ hI hS (lv_sub hl [0] rfl)
      · have hf := neg_e c_14 hf
        refine lv_aload_n hx hb dX8_here_11 rfl (lv_at hl 0 rfl) ?_
        refine gX8_19 (o' := 187) hx hb hts hown hG hI hL rfl dX8_here_12 ?_
        refine lv_aload_n hx hb dX8_here_15 rfl (lv_at hl 0 rfl) ?_
        refine gX8_73 hx hb hts hown hG hI hL dX8_here_16 ?_
        obtain ⟨hix, hf⟩ := ix_e hf
        refine mm_ald hx hb hG hI (ly_at hL 4 rfl) hix rfl dX8_here_19 ?_
        refine lv_bipush (v := 32) hx hb dX8_here_20 (by decide) ?_
        refine lv_icmp_ne (tgt := 38) hx hb dX8_here_22 (by decide) (fun c_13 => ?_) (fun c_13 => ?_)
        · have hf := neg_e c_13 hf
          obtain rfl := so_e hf
          obtain rfl := lk_r hk_6
          exact kn_7 _ _ _ hI hS (lv_sub hl [0] rfl)
        · have hf := pos_e c_13 hf
          refine lv_aload_n hx hb dX8_here_25 rfl (lv_at hl 0 rfl) ?_
          refine lv_dup hx hb dX8_here_26 rfl ?_
          refine gX8_73 hx hb hts hown hG hI hL dX8_here_27 ?_
          refine lv_iconst (v := 1) hx hb dX8_here_30 (by decide) ?_
          refine lv_iadd hx hb dX8_here_31 ?_
          obtain ⟨σ_12, eσ_12, hf⟩ := vl_e hf
          refine pX8_73 hx hb hts hown hG hI hS hL dX8_here_32 (fun H locs hI hS => ?_)
          rw [← eσ_12] at hI
          refine lv_goto (tgt := 0) hx hb dX8_here_35 (by decide) ?_
          obtain rfl := so_e hf
          exact ih_5 σ_12 hk_6 _ _ _ hI hS (lv_sub hl [0] rfl)
  obtain ⟨σ_2, hy, hf⟩ := bi_e hf
  refine L_4 FU σ _ hy ?_ _ _ _ hI hS (lv_sub hl [0] rfl)
  clear L_4
  intro H locs ls hI hS hl
  refine lv_aload_n hx hb dX8_here_38 rfl (lv_at hl 0 rfl) ?_
  refine gX8_73 hx hb hts hown hG hI hL dX8_here_39 ?_
  refine lv_aload_n hx hb dX8_here_42 rfl (lv_at hl 0 rfl) ?_
  refine gX8_70 hx hb hts hown hG hI hL dX8_here_43 ?_
  refine lv_icmp_ge (tgt := 61) hx hb dX8_here_46 (by decide) (fun c_16 => ?_) (fun c_16 => ?_)
  · have hf := pos_e c_16 hf
    refine lv_iconst (v := (-1)) hx hb dX8_here_61 (by decide) ?_
    obtain ⟨rfl, rfl⟩ := sp_e hf
    exact mm_ret hx hb hr hlocks rfl hI hS dX8_here_62
  · have hf := neg_e c_16 hf
    refine lv_aload_n hx hb dX8_here_49 rfl (lv_at hl 0 rfl) ?_
    refine gX8_19 (o' := 187) hx hb hts hown hG hI hL rfl dX8_here_50 ?_
    refine lv_aload_n hx hb dX8_here_53 rfl (lv_at hl 0 rfl) ?_
    refine gX8_73 hx hb hts hown hG hI hL dX8_here_54 ?_
    obtain ⟨hix, hf⟩ := ix_e hf
    refine mm_ald hx hb hG hI (ly_at hL 4 rfl) hix rfl dX8_here_57 ?_
    refine lv_goto (tgt := 62) hx hb dX8_here_58 (by decide) ?_
    obtain ⟨rfl, rfl⟩ := sp_e hf
    exact mm_ret hx hb hr hlocks rfl hI hS dX8_here_62
def f_X8_isDigit  (σ : Nat → Nat → Int32) : Option (Int32 × (Nat → Nat → Int32)) := b2 (f_X8_here σ) fun r_1 σ_2 => bi (f_X8_in r_1 48 57 σ_2) fun r_3 => some (r_3, σ_2)
set_option maxHeartbeats 4000000 in
set_option maxRecDepth 100000 in
theorem c_X8_isDigit (l : Launch) (D : va_G) (cI cS : ClassId) (Z : Nat) (K : Nat → Nat) (hL : ly K 183 lyModel) (σ : Nat → Nat → Int32) (r : Int32) (σ' : Nat → Nat → Int32) (hf : f_X8_isDigit σ = some (r, σ')) : Met l yX8_isDigit (wsT yX8_isDigit cX8_isDigit 1 (some .boolean)) { frames := 1, cells := 0, slots := 0, locals := 22 } (Pm D cI cS Z K [.ref (Z + 183)] σ) (Qz D cI cS Z K r σ') 0 0 (aZ Z) := by
  refine mm_met (lv := [(0, .ref (Z + 183))]) (by decide) (Nat.le_of_ble_eq_true rfl) rfl ?_
  intro p e s m args below meth c ls hx hb hr hml hts hown hlocks hG hl hI hS
  have hown : s.vm.findClass RX8 = some m.cls := hown
  rw [f_X8_isDigit] at hf
  refine lv_aload_n hx hb dX8_isDigit_0 rfl (lv_at hl 0 rfl) ?_
  obtain ⟨r_1, σ_2, hr_1, hf⟩ := b2_e hf
  refine kX8_76 hx hb hml hts hown hG hI hS hl.1 hL (As := []) (c_X8_here l D cI cS Z K hL σ _ _ hr_1) ⟨(Nat.le_of_ble_eq_true rfl), (Nat.le_of_ble_eq_true rfl)⟩ rfl (Nat.le_of_ble_eq_true rfl) ⟨(Nat.le_of_ble_eq_true rfl), (Nat.le_of_ble_eq_true rfl)⟩ dX8_isDigit_1 (fun H locs hI hS => ?_)
  refine lv_bipush (v := 48) hx hb dX8_isDigit_4 (by decide) ?_
  refine lv_bipush (v := 57) hx hb dX8_isDigit_6 (by decide) ?_
  obtain ⟨r_3, hr_3, hf⟩ := bi_e hf
  refine kX8_39 hx hb hml hts hown hG hI hS hl.1 (As := [.int r_1, .int 48, .int 57]) (c_X8_in l D cI cS Z K r_1 48 57 σ_2 _ hr_3) ⟨(Nat.le_of_ble_eq_true rfl), (Nat.le_of_ble_eq_true rfl)⟩ rfl (Nat.le_of_ble_eq_true rfl) ⟨(Nat.le_of_ble_eq_true rfl), (Nat.le_of_ble_eq_true rfl)⟩ dX8_isDigit_8 (fun hzr_3 H locs hI hS => ?_)
  obtain ⟨rfl, rfl⟩ := sp_e hf
  exact mm_zret hx hb hr hlocks hzr_3 hI hS dX8_isDigit_11
def b_X8_isNumber_16 (σ_2 : Nat → Nat → Int32) : Int32 → Option ((Int32) ⊕ (Int32))
  | y_4 => if (σ_2 183 6) ≤ y_4 then (some (.inr y_4)) else (ix y_4 120 <| if (σ_2 187 y_4.toNatClampNeg) = 32 then (vl (y_4 + 1) fun x_15 => some (.inl x_15)) else (some (.inr y_4)))
def f_X8_isNumber  (σ : Nat → Nat → Int32) : Option (Int32 × (Nat → Nat → Int32)) := b2 (f_X8_isDigit σ) fun r_1 σ_2 => if r_1 = 0 then (some (0, σ_2)) else (vl ((σ_2 183 10) + 1) fun x_3 => bi (lp (b_X8_isNumber_16 σ_2) FU x_3) fun z_5 => if (σ_2 183 6) ≤ z_5 then (some (0, σ_2)) else (ix z_5 120 <| if (σ_2 187 z_5.toNatClampNeg) = 120 then (some (1, σ_2)) else (some (0, σ_2))))
set_option maxHeartbeats 4000000 in
set_option maxRecDepth 100000 in
theorem c_X8_isNumber (l : Launch) (D : va_G) (cI cS : ClassId) (Z : Nat) (K : Nat → Nat) (hL : ly K 183 lyModel) (σ : Nat → Nat → Int32) (r : Int32) (σ' : Nat → Nat → Int32) (hf : f_X8_isNumber σ = some (r, σ')) : Met l yX8_isNumber (wsT yX8_isNumber cX8_isNumber 2 (some .boolean)) { frames := 2, cells := 0, slots := 0, locals := 42 } (Pm D cI cS Z K [.ref (Z + 183)] σ) (Qz D cI cS Z K r σ') 0 0 (aZ Z) := by
  refine mm_met (lv := [(0, .ref (Z + 183))]) (by decide) (Nat.le_of_ble_eq_true rfl) rfl ?_
  intro p e s m args below meth c ls hx hb hr hml hts hown hlocks hG hl hI hS
  have hown : s.vm.findClass RX8 = some m.cls := hown
  rw [f_X8_isNumber] at hf
  refine lv_aload_n hx hb dX8_isNumber_0 rfl (lv_at hl 0 rfl) ?_
  obtain ⟨r_1, σ_2, hr_1, hf⟩ := b2_e hf
  refine kX8_80 hx hb hml hts hown hG hI hS hl.1 hL (As := []) (c_X8_isDigit l D cI cS Z K hL σ _ _ hr_1) ⟨(Nat.le_of_ble_eq_true rfl), (Nat.le_of_ble_eq_true rfl)⟩ rfl (Nat.le_of_ble_eq_true rfl) ⟨(Nat.le_of_ble_eq_true rfl), (Nat.le_of_ble_eq_true rfl)⟩ dX8_isNumber_1 (fun hzr_1 H locs hI hS => ?_)
  refine lv_if_ne (tgt := 9) hx hb dX8_isNumber_4 (by decide) (fun c_21 => ?_) (fun c_21 => ?_)
  · have hf := neg_e c_21 hf
    refine lv_aload_n hx hb dX8_isNumber_9 rfl (lv_at hl 0 rfl) ?_
    refine gX8_73 hx hb hts hown hG hI hL dX8_isNumber_10 ?_
    refine lv_iconst (v := 1) hx hb dX8_isNumber_13 (by decide) ?_
    refine lv_iadd hx hb dX8_isNumber_14 ?_
    obtain ⟨x_3, ex_3, hf⟩ := vl_e hf
    refine mm_name ex_3 ?_
    refine lv_istore_n (lv' := [(1, .int x_3), (0, .ref (Z + 183))]) hx hb dX8_isNumber_15 rfl hl (by decide) rfl (fun ls hl => ?_)
    have L_7 : ∀ (nn : Nat) (y_4 : Int32) (z_5 : Int32), lp (b_X8_isNumber_16 σ_2) nn y_4 = some z_5 → (∀ (H : Heap) (locs : List Loc) (ls : Array Slot), fI D cI cS Z K σ_2 H → va_S (aZ Z) s.heap H locs → lv_has ls 2 [(0, .ref (Z + 183)), (1, .int z_5)] → W p l e { frames := 2, cells := 0, slots := 0, locals := 42 } s m args below meth c H locs 0 0 (MQ below (Qz D cI cS Z K r σ') args s 0 0 (aZ Z)) (F0 m 41 ls [])) → ∀ (H : Heap) (locs : List Loc) (ls : Array Slot), fI D cI cS Z K σ_2 H → va_S (aZ Z) s.heap H locs → lv_has ls 2 [(0, .ref (Z + 183)), (1, .int y_4)] → W p l e { frames := 2, cells := 0, slots := 0, locals := 42 } s m args below meth c H locs 0 0 (MQ below (Qz D cI cS Z K r σ') args s 0 0 (aZ Z)) (F0 m 16 ls []) := by
      intro nn
      induction nn with
      | zero =>
        intro y_4 z_5 hq
        exact (lp_0 hq).elim
      | succ nn ih_8 =>
        intro y_4 z_5 hq kn_10 H locs ls hI hS hl
        obtain ⟨w_6, hf, hk_9⟩ := lp_e hq
        rw [b_X8_isNumber_16] at hf
        have ih_8 := fun (y_4 : Int32) q => ih_8 y_4 z_5 q kn_10
        refine lv_iload_n hx hb dX8_isNumber_16 rfl (lv_at hl 1 rfl) ?_
        refine lv_aload_n hx hb dX8_isNumber_17 rfl (lv_at hl 0 rfl) ?_
        refine gX8_70 hx hb hts hown hG hI hL dX8_isNumber_18 ?_
        refine lv_icmp_ge (tgt := 41) hx hb dX8_isNumber_21 (by decide) (fun c_17 => ?_) (fun c_17 => ?_)
        · have hf := pos_e c_17 hf
          obtain rfl := so_e hf
          obtain rfl := lk_r hk_9
          exact kn_10 _ _ _ hI hS (lv_sub hl [0, 1] rfl)
        · have hf := neg_e c_17 hf
          refine lv_aload_n hx hb dX8_isNumber_24 rfl (lv_at hl 0 rfl) ?_
          refine gX8_19 (o' := 187) hx hb hts hown hG hI hL rfl dX8_isNumber_25 ?_
          refine lv_iload_n hx hb dX8_isNumber_28 rfl (lv_at hl 1 rfl) ?_
          obtain ⟨hix, hf⟩ := ix_e hf
          refine mm_ald hx hb hG hI (ly_at hL 4 rfl) hix rfl dX8_isNumber_29 ?_
          refine lv_bipush (v := 32) hx hb dX8_isNumber_30 (by decide) ?_
          refine lv_icmp_ne (tgt := 41) hx hb dX8_isNumber_32 (by decide) (fun c_16 => ?_) (fun c_16 => ?_)
          · have hf := neg_e c_16 hf
            obtain rfl := so_e hf
            obtain rfl := lk_r hk_9
            exact kn_10 _ _ _ hI hS (lv_sub hl [0, 1] rfl)
          · have hf := pos_e c_16 hf
            obtain ⟨x_15, ex_15, hf⟩ := vl_e hf
            refine lv_iinc (v := x_15) (lv' := [(1, .int x_15), (0, .ref (Z + 183))]) hx hb dX8_isNumber_35 hl (k := 1) rfl (by rw [ex_15]; rfl) (by decide) rfl (fun ls hl => ?_)
            refine lv_goto (tgt := 16) hx hb dX8_isNumber_38 (by decide) ?_
            obtain rfl := so_e hf
            exact ih_8 x_15 hk_9 _ _ _ hI hS (lv_sub hl [1, 0] rfl)
    obtain ⟨z_5, hy, hf⟩ := bi_e hf
    refine L_7 FU x_3 _ hy ?_ _ _ _ hI hS (lv_sub hl [1, 0] rfl)
    clear L_7
    intro H locs ls hI hS hl
    refine lv_iload_n hx hb dX8_isNumber_41 rfl (lv_at hl 1 rfl) ?_
    refine lv_aload_n hx hb dX8_isNumber_42 rfl (lv_at hl 0 rfl) ?_
    refine gX8_70 hx hb hts hown hG hI hL dX8_isNumber_43 ?_
    refine lv_icmp_ge (tgt := 64) hx hb dX8_isNumber_46 (by decide) (fun c_20 => ?_) (fun c_20 => ?_)
    · have hf := pos_e c_20 hf
      refine lv_iconst (v := 0) hx hb dX8_isNumber_64 (by decide) ?_
      obtain ⟨rfl, rfl⟩ := sp_e hf
      exact mm_zret hx hb hr hlocks (Or.inl rfl) hI hS dX8_isNumber_65
    · have hf := neg_e c_20 hf
      refine lv_aload_n hx hb dX8_isNumber_49 rfl (lv_at hl 0 rfl) ?_
      refine gX8_19 (o' := 187) hx hb hts hown hG hI hL rfl dX8_isNumber_50 ?_
      refine lv_iload_n hx hb dX8_isNumber_53 rfl (lv_at hl 1 rfl) ?_
      obtain ⟨hix, hf⟩ := ix_e hf
      refine mm_ald hx hb hG hI (ly_at hL 4 rfl) hix rfl dX8_isNumber_54 ?_
      refine lv_bipush (v := 120) hx hb dX8_isNumber_55 (by decide) ?_
      refine lv_icmp_ne (tgt := 64) hx hb dX8_isNumber_57 (by decide) (fun c_19 => ?_) (fun c_19 => ?_)
      · have hf := neg_e c_19 hf
        refine lv_iconst (v := 0) hx hb dX8_isNumber_64 (by decide) ?_
        obtain ⟨rfl, rfl⟩ := sp_e hf
        exact mm_zret hx hb hr hlocks (Or.inl rfl) hI hS dX8_isNumber_65
      · have hf := pos_e c_19 hf
        refine lv_iconst (v := 1) hx hb dX8_isNumber_60 (by decide) ?_
        refine lv_goto (tgt := 65) hx hb dX8_isNumber_61 (by decide) ?_
        obtain ⟨rfl, rfl⟩ := sp_e hf
        exact mm_zret hx hb hr hlocks (Or.inr rfl) hI hS dX8_isNumber_65
  · have hf := pos_e c_21 hf
    refine lv_iconst (v := 0) hx hb dX8_isNumber_7 (by decide) ?_
    obtain ⟨rfl, rfl⟩ := sp_e hf
    exact mm_zret hx hb hr hlocks (Or.inl rfl) hI hS dX8_isNumber_8
def f_X8_isShaft (a1 : Int32) (σ : Nat → Nat → Int32) : Option Int32 := bi (f_X8_in a1 0 ((σ 184 0) - 1) σ) fun r_1 => some r_1
set_option maxHeartbeats 4000000 in
set_option maxRecDepth 100000 in
theorem c_X8_isShaft (l : Launch) (D : va_G) (cI cS : ClassId) (Z : Nat) (K : Nat → Nat) (hL : ly K 183 lyModel) (a1 : Int32) (σ : Nat → Nat → Int32) (r : Int32) (hf : f_X8_isShaft a1 σ = some r) : Met l yX8_isShaft (wsT yX8_isShaft cX8_isShaft 2 (some .boolean)) { frames := 1, cells := 0, slots := 0, locals := 22 } (Pm D cI cS Z K [.ref (Z + 183), .int a1] σ) (Qz D cI cS Z K r σ) 0 0 (aZ Z) := by
  refine mm_met (lv := [(0, .ref (Z + 183)), (1, .int a1)]) (by decide) (Nat.le_of_ble_eq_true rfl) rfl ?_
  intro p e s m args below meth c ls hx hb hr hml hts hown hlocks hG hl hI hS
  have hown : s.vm.findClass RX8 = some m.cls := hown
  rw [f_X8_isShaft] at hf
  refine lv_iload_n hx hb dX8_isShaft_0 rfl (lv_at hl 1 rfl) ?_
  refine lv_iconst (v := 0) hx hb dX8_isShaft_1 (by decide) ?_
  refine lv_aload_n hx hb dX8_isShaft_2 rfl (lv_at hl 0 rfl) ?_
  refine gX8_7 (o' := 184) hx hb hts hown hG hI hL rfl dX8_isShaft_3 ?_
  refine lv_iconst (v := 0) hx hb dX8_isShaft_6 (by decide) ?_
  refine mm_ald (k := 0) (n := 456) hx hb hG hI (ly_at hL 1 rfl) (by decide) rfl dX8_isShaft_7 ?_
  refine lv_iconst (v := 1) hx hb dX8_isShaft_8 (by decide) ?_
  refine lv_isub hx hb dX8_isShaft_9 ?_
  obtain ⟨r_1, hr_1, hf⟩ := bi_e hf
  refine kX8_39 hx hb hml hts hown hG hI hS hl.1 (As := [.int a1, .int 0, .int ((σ 184 0) - 1)]) (c_X8_in l D cI cS Z K a1 0 ((σ 184 0) - 1) σ _ hr_1) ⟨(Nat.le_of_ble_eq_true rfl), (Nat.le_of_ble_eq_true rfl)⟩ rfl (Nat.le_of_ble_eq_true rfl) ⟨(Nat.le_of_ble_eq_true rfl), (Nat.le_of_ble_eq_true rfl)⟩ dX8_isShaft_10 (fun hzr_1 H locs hI hS => ?_)
  obtain rfl := so_e hf
  exact mm_zret hx hb hr hlocks hzr_1 hI hS dX8_isShaft_13
def f_X8_takes (a1 : Int32) (σ : Nat → Nat → Int32) : Option (Int32 × (Nat → Nat → Int32)) := b2 (f_X8_here σ) fun r_1 σ_2 => vl (α := Int32) (if r_1 = a1 then (1) else (0)) fun v_4 => if v_4 = 0 then (vl (wr σ_2 183 10 ((σ_2 183 10) + 0)) fun σ_7 => bz v_4 <| some (v_4, σ_7)) else (vl (wr σ_2 183 10 ((σ_2 183 10) + 1)) fun σ_8 => bz v_4 <| some (v_4, σ_8))
set_option maxHeartbeats 4000000 in
set_option maxRecDepth 100000 in
theorem c_X8_takes (l : Launch) (D : va_G) (cI cS : ClassId) (Z : Nat) (K : Nat → Nat) (hL : ly K 183 lyModel) (a1 : Int32) (σ : Nat → Nat → Int32) (r : Int32) (σ' : Nat → Nat → Int32) (hf : f_X8_takes a1 σ = some (r, σ')) : Met l yX8_takes (wsT yX8_takes cX8_takes 3 (some .boolean)) { frames := 1, cells := 0, slots := 0, locals := 20 } (Pm D cI cS Z K [.ref (Z + 183), .int a1] σ) (Qz D cI cS Z K r σ') 0 0 (aZ Z) := by
  refine mm_met (lv := [(0, .ref (Z + 183)), (1, .int a1)]) (by decide) (Nat.le_of_ble_eq_true rfl) rfl ?_
  intro p e s m args below meth c ls hx hb hr hml hts hown hlocks hG hl hI hS
  have hown : s.vm.findClass RX8 = some m.cls := hown
  rw [f_X8_takes] at hf
  refine lv_aload_n hx hb dX8_takes_0 rfl (lv_at hl 0 rfl) ?_
  obtain ⟨r_1, σ_2, hr_1, hf⟩ := b2_e hf
  refine kX8_76 hx hb hml hts hown hG hI hS hl.1 hL (As := []) (c_X8_here l D cI cS Z K hL σ _ _ hr_1) ⟨(Nat.le_of_ble_eq_true rfl), (Nat.le_of_ble_eq_true rfl)⟩ rfl (Nat.le_of_ble_eq_true rfl) ⟨(Nat.le_of_ble_eq_true rfl), (Nat.le_of_ble_eq_true rfl)⟩ dX8_takes_1 (fun H locs hI hS => ?_)
  refine lv_iload_n hx hb dX8_takes_4 rfl (lv_at hl 1 rfl) ?_
  obtain ⟨v_4, ev_4, hf⟩ := vl_e hf
  have HJ_6 : ∀ (H : Heap) (locs : List Loc) (ls : Array Slot), fI D cI cS Z K σ_2 H → va_S (aZ Z) s.heap H locs → lv_has ls 3 [(0, .ref (Z + 183))] → W p l e { frames := 1, cells := 0, slots := 0, locals := 20 } s m args below meth c H locs 0 0 (MQ below (Qz D cI cS Z K r σ') args s 0 0 (aZ Z)) (F0 m 13 ls [.int v_4]) := by
    intro H locs ls hI hS hl
    refine lv_istore_n (lv' := [(2, .int v_4), (0, .ref (Z + 183))]) hx hb dX8_takes_13 rfl hl (by decide) rfl (fun ls hl => ?_)
    refine lv_aload_n hx hb dX8_takes_14 rfl (lv_at hl 1 rfl) ?_
    refine lv_dup hx hb dX8_takes_15 rfl ?_
    refine gX8_73 hx hb hts hown hG hI hL dX8_takes_16 ?_
    refine lv_iload_n hx hb dX8_takes_19 rfl (lv_at hl 0 rfl) ?_
    refine lv_if_eq (tgt := 27) hx hb dX8_takes_20 (by decide) (fun c_9 => ?_) (fun c_9 => ?_)
    · have hf := pos_e c_9 hf
      refine lv_iconst (v := 0) hx hb dX8_takes_27 (by decide) ?_
      refine lv_iadd hx hb dX8_takes_28 ?_
      obtain ⟨σ_7, eσ_7, hf⟩ := vl_e hf
      refine pX8_73 hx hb hts hown hG hI hS hL dX8_takes_29 (fun H locs hI hS => ?_)
      rw [← eσ_7] at hI
      refine lv_iload_n hx hb dX8_takes_32 rfl (lv_at hl 0 rfl) ?_
      obtain ⟨hz, hf⟩ := bz_e hf
      obtain ⟨rfl, rfl⟩ := sp_e hf
      exact mm_zret hx hb hr hlocks hz hI hS dX8_takes_33
    · have hf := neg_e c_9 hf
      refine lv_iconst (v := 1) hx hb dX8_takes_23 (by decide) ?_
      refine lv_goto (tgt := 28) hx hb dX8_takes_24 (by decide) ?_
      refine lv_iadd hx hb dX8_takes_28 ?_
      obtain ⟨σ_8, eσ_8, hf⟩ := vl_e hf
      refine pX8_73 hx hb hts hown hG hI hS hL dX8_takes_29 (fun H locs hI hS => ?_)
      rw [← eσ_8] at hI
      refine lv_iload_n hx hb dX8_takes_32 rfl (lv_at hl 0 rfl) ?_
      obtain ⟨hz, hf⟩ := bz_e hf
      obtain ⟨rfl, rfl⟩ := sp_e hf
      exact mm_zret hx hb hr hlocks hz hI hS dX8_takes_33
  clear hf
  have hf := ev_4.symm
  refine lv_icmp_ne (tgt := 12) hx hb dX8_takes_5 (by decide) (fun c_10 => ?_) (fun c_10 => ?_)
  · have hf := neg_e c_10 hf
    refine lv_iconst (v := 0) hx hb dX8_takes_12 (by decide) ?_
    refine mm_name hf.symm ?_
    exact HJ_6 _ _ _ hI hS (lv_sub hl [0] rfl)
  · have hf := pos_e c_10 hf
    refine lv_iconst (v := 1) hx hb dX8_takes_8 (by decide) ?_
    refine lv_goto (tgt := 13) hx hb dX8_takes_9 (by decide) ?_
    refine mm_name hf.symm ?_
    exact HJ_6 _ _ _ hI hS (lv_sub hl [0] rfl)
def b_X8_readsShafts_13  : Int32 × (Nat → Nat → Int32) → Option ((Int32 × (Nat → Nat → Int32)) ⊕ ((Int32 × (Nat → Nat → Int32)) ⊕ (Int32 × (Nat → Nat → Int32))))
  | (y_3, σ_4) => b2 (f_X8_isDigit σ_4) fun r_24 σ_25 => if r_24 = 0 then (some (.inr (.inr (y_3, σ_25)))) else (b2 (f_X8_here σ_25) fun r_26 σ_27 => vl (r_26 - 48) fun x_28 => bi (f_X8_isShaft x_28 σ_27) fun r_29 => if r_29 = 0 then (some (.inr (.inl ((-1), σ_27)))) else (if (y_3 >>> (x_28 &&& 31)) = 0 then (vl (y_3 ||| (1 <<< (x_28 &&& 31))) fun x_30 => vl (wr σ_27 183 10 ((σ_27 183 10) + 1)) fun σ_31 => some (.inl (x_30, σ_31))) else (some (.inr (.inl ((-1), σ_27))))))
def f_X8_readsShafts  (σ : Nat → Nat → Int32) : Option (Int32 × (Nat → Nat → Int32)) := b2 (f_X8_takes 45 σ) fun r_1 σ_2 => if r_1 = 0 then (bi (lp (b_X8_readsShafts_13) FU (0, σ_2)) fun yy_35 => sm yy_35 (fun rv => some rv) <| cur2 fun z_5 σ_6 => if z_5 = 0 then (some ((-1), σ_6)) else (some (z_5, σ_6))) else (some (0, σ_2))
set_option maxHeartbeats 4000000 in
set_option maxRecDepth 100000 in
theorem c_X8_readsShafts (l : Launch) (D : va_G) (cI cS : ClassId) (Z : Nat) (K : Nat → Nat) (hL : ly K 183 lyModel) (σ : Nat → Nat → Int32) (r : Int32) (σ' : Nat → Nat → Int32) (hf : f_X8_readsShafts σ = some (r, σ')) : Met l yX8_readsShafts (wsT yX8_readsShafts cX8_readsShafts 3 (some .int)) { frames := 2, cells := 0, slots := 0, locals := 43 } (Pm D cI cS Z K [.ref (Z + 183)] σ) (Qi D cI cS Z K r σ') 0 0 (aZ Z) := by
  refine mm_met (lv := [(0, .ref (Z + 183))]) (by decide) (Nat.le_of_ble_eq_true rfl) rfl ?_
  intro p e s m args below meth c ls hx hb hr hml hts hown hlocks hG hl hI hS
  have hown : s.vm.findClass RX8 = some m.cls := hown
  rw [f_X8_readsShafts] at hf
  refine lv_aload_n hx hb dX8_readsShafts_0 rfl (lv_at hl 0 rfl) ?_
  refine lv_bipush (v := 45) hx hb dX8_readsShafts_1 (by decide) ?_
  obtain ⟨r_1, σ_2, hr_1, hf⟩ := b2_e hf
  refine kX8_84 hx hb hml hts hown hG hI hS hl.1 hL (As := [.int 45]) (c_X8_takes l D cI cS Z K hL 45 σ _ _ hr_1) ⟨(Nat.le_of_ble_eq_true rfl), (Nat.le_of_ble_eq_true rfl)⟩ rfl (Nat.le_of_ble_eq_true rfl) ⟨(Nat.le_of_ble_eq_true rfl), (Nat.le_of_ble_eq_true rfl)⟩ dX8_readsShafts_3 (fun hzr_1 H locs hI hS => ?_)
  refine lv_if_eq (tgt := 11) hx hb dX8_readsShafts_6 (by decide) (fun c_37 => ?_) (fun c_37 => ?_)
  · have hf := pos_e c_37 hf
    refine lv_iconst (v := 0) hx hb dX8_readsShafts_11 (by decide) ?_
    refine lv_istore_n (lv' := [(1, .int 0), (0, .ref (Z + 183))]) hx hb dX8_readsShafts_12 rfl hl (by decide) rfl (fun ls hl => ?_)
    have L_8 : ∀ (nn : Nat) (y_3 : Int32) (σ_4 : Nat → Nat → Int32) (yy_35 : ((Int32 × (Nat → Nat → Int32)) ⊕ (Int32 × (Nat → Nat → Int32)))), lp (b_X8_readsShafts_13) nn (y_3, σ_4) = some yy_35 → (∀ rv, yy_35 = .inl rv → some rv = some (r, σ')) → (∀ (z_5 : Int32) (σ_6 : Nat → Nat → Int32), yy_35 = .inr (z_5, σ_6) → ∀ (H : Heap) (locs : List Loc) (ls : Array Slot), fI D cI cS Z K σ_6 H → va_S (aZ Z) s.heap H locs → lv_has ls 3 [(1, .int z_5)] → W p l e { frames := 2, cells := 0, slots := 0, locals := 43 } s m args below meth c H locs 0 0 (MQ below (Qi D cI cS Z K r σ') args s 0 0 (aZ Z)) (F0 m 63 ls [])) → ∀ (H : Heap) (locs : List Loc) (ls : Array Slot), fI D cI cS Z K σ_4 H → va_S (aZ Z) s.heap H locs → lv_has ls 3 [(0, .ref (Z + 183)), (1, .int y_3)] → W p l e { frames := 2, cells := 0, slots := 0, locals := 43 } s m args below meth c H locs 0 0 (MQ below (Qi D cI cS Z K r σ') args s 0 0 (aZ Z)) (F0 m 13 ls []) := by
      intro nn
      induction nn with
      | zero =>
        intro y_3 σ_4 yy_35 hq
        exact (lp_0 hq).elim
      | succ nn ih_9 =>
        intro y_3 σ_4 yy_35 hq hret_12 kn_11 H locs ls hI hS hl
        obtain ⟨w_7, hf, hk_10⟩ := lp_e hq
        rw [b_X8_readsShafts_13] at hf
        have ih_9 := fun (y_3 : Int32) (σ_4 : Nat → Nat → Int32) q => ih_9 y_3 σ_4 yy_35 q hret_12 kn_11
        refine lv_aload_n hx hb dX8_readsShafts_13 rfl (lv_at hl 0 rfl) ?_
        obtain ⟨r_24, σ_25, hr_24, hf⟩ := b2_e hf
        refine kX8_80 hx hb hml hts hown hG hI hS hl.1 hL (As := []) (c_X8_isDigit l D cI cS Z K hL σ_4 _ _ hr_24) ⟨(Nat.le_of_ble_eq_true rfl), (Nat.le_of_ble_eq_true rfl)⟩ rfl (Nat.le_of_ble_eq_true rfl) ⟨(Nat.le_of_ble_eq_true rfl), (Nat.le_of_ble_eq_true rfl)⟩ dX8_readsShafts_14 (fun hzr_24 H locs hI hS => ?_)
        refine lv_if_eq (tgt := 63) hx hb dX8_readsShafts_17 (by decide) (fun c_34 => ?_) (fun c_34 => ?_)
        · have hf := pos_e c_34 hf
          obtain rfl := so_e hf
          obtain rfl := lk_r hk_10
          exact kn_11 _ _ rfl _ _ _ hI hS (lv_sub hl [1] rfl)
        · have hf := neg_e c_34 hf
          refine lv_aload_n hx hb dX8_readsShafts_20 rfl (lv_at hl 0 rfl) ?_
          obtain ⟨r_26, σ_27, hr_26, hf⟩ := b2_e hf
          refine kX8_76 hx hb hml hts hown hG hI hS hl.1 hL (As := []) (c_X8_here l D cI cS Z K hL σ_25 _ _ hr_26) ⟨(Nat.le_of_ble_eq_true rfl), (Nat.le_of_ble_eq_true rfl)⟩ rfl (Nat.le_of_ble_eq_true rfl) ⟨(Nat.le_of_ble_eq_true rfl), (Nat.le_of_ble_eq_true rfl)⟩ dX8_readsShafts_21 (fun H locs hI hS => ?_)
          refine lv_bipush (v := 48) hx hb dX8_readsShafts_24 (by decide) ?_
          refine lv_isub hx hb dX8_readsShafts_26 ?_
          obtain ⟨x_28, ex_28, hf⟩ := vl_e hf
          refine mm_name ex_28 ?_
          refine lv_istore_n (lv' := [(2, .int x_28), (0, .ref (Z + 183)), (1, .int y_3)]) hx hb dX8_readsShafts_27 rfl hl (by decide) rfl (fun ls hl => ?_)
          refine lv_aload_n hx hb dX8_readsShafts_28 rfl (lv_at hl 1 rfl) ?_
          refine lv_iload_n hx hb dX8_readsShafts_29 rfl (lv_at hl 0 rfl) ?_
          obtain ⟨r_29, hr_29, hf⟩ := bi_e hf
          refine kX8_50 hx hb hml hts hown hG hI hS hl.1 hL (As := [.int x_28]) (c_X8_isShaft l D cI cS Z K hL x_28 σ_27 _ hr_29) ⟨(Nat.le_of_ble_eq_true rfl), (Nat.le_of_ble_eq_true rfl)⟩ rfl (Nat.le_of_ble_eq_true rfl) ⟨(Nat.le_of_ble_eq_true rfl), (Nat.le_of_ble_eq_true rfl)⟩ dX8_readsShafts_30 (fun hzr_29 H locs hI hS => ?_)
          refine lv_if_eq (tgt := 42) hx hb dX8_readsShafts_33 (by decide) (fun c_33 => ?_) (fun c_33 => ?_)
          · have hf := pos_e c_33 hf
            refine lv_iconst (v := (-1)) hx hb dX8_readsShafts_42 (by decide) ?_
            obtain rfl := so_e hf
            obtain rfl := lk_r hk_10
            have hf := hret_12 _ rfl
            obtain ⟨rfl, rfl⟩ := sp_e hf
            exact mm_ret hx hb hr hlocks rfl hI hS dX8_readsShafts_43
          · have hf := neg_e c_33 hf
            refine lv_iload_n hx hb dX8_readsShafts_36 rfl (lv_at hl 2 rfl) ?_
            refine lv_iload_n hx hb dX8_readsShafts_37 rfl (lv_at hl 0 rfl) ?_
            refine lv_ishr hx hb dX8_readsShafts_38 ?_
            refine lv_if_eq (tgt := 44) hx hb dX8_readsShafts_39 (by decide) (fun c_32 => ?_) (fun c_32 => ?_)
            · have hf := pos_e c_32 hf
              refine lv_iload_n hx hb dX8_readsShafts_44 rfl (lv_at hl 2 rfl) ?_
              refine lv_iconst (v := 1) hx hb dX8_readsShafts_45 (by decide) ?_
              refine lv_iload_n hx hb dX8_readsShafts_46 rfl (lv_at hl 0 rfl) ?_
              refine lv_ishl hx hb dX8_readsShafts_47 ?_
              refine lv_ior hx hb dX8_readsShafts_48 ?_
              obtain ⟨x_30, ex_30, hf⟩ := vl_e hf
              refine mm_name ex_30 ?_
              refine lv_istore_n (lv' := [(1, .int x_30), (2, .int x_28), (0, .ref (Z + 183))]) hx hb dX8_readsShafts_49 rfl hl (by decide) rfl (fun ls hl => ?_)
              refine lv_aload_n hx hb dX8_readsShafts_50 rfl (lv_at hl 2 rfl) ?_
              refine lv_dup hx hb dX8_readsShafts_51 rfl ?_
              refine gX8_73 hx hb hts hown hG hI hL dX8_readsShafts_52 ?_
              refine lv_iconst (v := 1) hx hb dX8_readsShafts_55 (by decide) ?_
              refine lv_iadd hx hb dX8_readsShafts_56 ?_
              obtain ⟨σ_31, eσ_31, hf⟩ := vl_e hf
              refine pX8_73 hx hb hts hown hG hI hS hL dX8_readsShafts_57 (fun H locs hI hS => ?_)
              rw [← eσ_31] at hI
              refine lv_goto (tgt := 13) hx hb dX8_readsShafts_60 (by decide) ?_
              obtain rfl := so_e hf
              exact ih_9 x_30 σ_31 hk_10 _ _ _ hI hS (lv_sub hl [2, 0] rfl)
            · have hf := neg_e c_32 hf
              refine lv_iconst (v := (-1)) hx hb dX8_readsShafts_42 (by decide) ?_
              obtain rfl := so_e hf
              obtain rfl := lk_r hk_10
              have hf := hret_12 _ rfl
              obtain ⟨rfl, rfl⟩ := sp_e hf
              exact mm_ret hx hb hr hlocks rfl hI hS dX8_readsShafts_43
    obtain ⟨yy_35, hy, hf⟩ := bi_e hf
    refine L_8 FU 0 σ_2 _ hy (fun rv hv => ?_) (fun z_5 σ_6 hv => ?_) _ _ _ hI hS (lv_sub hl [1, 0] rfl)
    · subst hv
      exact hf
    subst hv
    clear L_8
    intro H locs ls hI hS hl
    have hf := smc2_e hf
    refine lv_iload_n hx hb dX8_readsShafts_63 rfl (lv_at hl 0 rfl) ?_
    refine lv_if_ne (tgt := 71) hx hb dX8_readsShafts_64 (by decide) (fun c_36 => ?_) (fun c_36 => ?_)
    · have hf := neg_e c_36 hf
      refine lv_iload_n hx hb dX8_readsShafts_71 rfl (lv_at hl 0 rfl) ?_
      obtain ⟨rfl, rfl⟩ := sp_e hf
      exact mm_ret hx hb hr hlocks rfl hI hS dX8_readsShafts_72
    · have hf := pos_e c_36 hf
      refine lv_iconst (v := (-1)) hx hb dX8_readsShafts_67 (by decide) ?_
      refine lv_goto (tgt := 72) hx hb dX8_readsShafts_68 (by decide) ?_
      obtain ⟨rfl, rfl⟩ := sp_e hf
      exact mm_ret hx hb hr hlocks rfl hI hS dX8_readsShafts_72
  · have hf := neg_e c_37 hf
    refine lv_iconst (v := 0) hx hb dX8_readsShafts_9 (by decide) ?_
    obtain ⟨rfl, rfl⟩ := sp_e hf
    exact mm_ret hx hb hr hlocks rfl hI hS dX8_readsShafts_10
def f_X8_readsBar  (σ : Nat → Nat → Int32) : Option (Int32 × (Nat → Nat → Int32)) := if (σ 183 9) = 24 then (b2 (f_X8_here σ) fun r_29 σ_30 => if r_29 ≤ 999 then (some (0, σ_30)) else (some (1, σ_30))) else (b2 (f_X8_readsShafts σ) fun r_1 σ_2 => if 0 ≤ r_1 then (b2 (f_X8_takes 99 σ_2) fun r_3 σ_4 => jn (α := Int32 → (Nat → Nat → Int32) → _) (fun k_15 => if r_3 = 0 then (k_15 0 σ_4) else (b2 (f_X8_isDigit σ_4) fun r_20 σ_21 => if r_20 = 0 then (some (0, σ_21)) else (b2 (f_X8_here σ_21) fun r_22 σ_23 => vl (r_22 - 48) fun x_24 => vl (wr σ_23 183 10 ((σ_23 183 10) + 1)) fun σ_25 => k_15 x_24 σ_25))) (fun v_13 σ_14 => ix (σ_14 183 9) 24 <| vl (wr σ_14 188 (σ_14 183 9).toNatClampNeg r_1) fun σ_17 => ix (σ_17 183 9) 24 <| vl (wr σ_17 189 (σ_17 183 9).toNatClampNeg v_13) fun σ_18 => vl (wr σ_18 183 9 ((σ_18 183 9) + 1)) fun σ_19 => some (1, σ_19))) else (some (0, σ_2)))
set_option maxHeartbeats 4000000 in
set_option maxRecDepth 100000 in
theorem c_X8_readsBar (l : Launch) (D : va_G) (cI cS : ClassId) (Z : Nat) (K : Nat → Nat) (hL : ly K 183 lyModel) (σ : Nat → Nat → Int32) (r : Int32) (σ' : Nat → Nat → Int32) (hf : f_X8_readsBar σ = some (r, σ')) : Met l yX8_readsBar (wsT yX8_readsBar cX8_readsBar 3 (some .boolean)) { frames := 3, cells := 0, slots := 0, locals := 65 } (Pm D cI cS Z K [.ref (Z + 183)] σ) (Qz D cI cS Z K r σ') 0 0 (aZ Z) := by
  refine mm_met (lv := [(0, .ref (Z + 183))]) (by decide) (Nat.le_of_ble_eq_true rfl) rfl ?_
  intro p e s m args below meth c ls hx hb hr hml hts hown hlocks hG hl hI hS
  have hown : s.vm.findClass RX8 = some m.cls := hown
  rw [f_X8_readsBar] at hf
  refine lv_aload_n hx hb dX8_readsBar_0 rfl (lv_at hl 0 rfl) ?_
  refine gX8_87 hx hb hts hown hG hI hL dX8_readsBar_1 ?_
  refine lv_bipush (v := 24) hx hb dX8_readsBar_4 (by decide) ?_
  refine lv_icmp_ne (tgt := 25) hx hb dX8_readsBar_6 (by decide) (fun c_32 => ?_) (fun c_32 => ?_)
  · have hf := neg_e c_32 hf
    refine lv_aload_n hx hb dX8_readsBar_25 rfl (lv_at hl 0 rfl) ?_
    obtain ⟨r_1, σ_2, hr_1, hf⟩ := b2_e hf
    refine kX8_90 hx hb hml hts hown hG hI hS hl.1 hL (As := []) (c_X8_readsShafts l D cI cS Z K hL σ _ _ hr_1) ⟨(Nat.le_of_ble_eq_true rfl), (Nat.le_of_ble_eq_true rfl)⟩ rfl (Nat.le_of_ble_eq_true rfl) ⟨(Nat.le_of_ble_eq_true rfl), (Nat.le_of_ble_eq_true rfl)⟩ dX8_readsBar_26 (fun H locs hI hS => ?_)
    refine lv_istore_n (lv' := [(1, .int r_1), (0, .ref (Z + 183))]) hx hb dX8_readsBar_29 rfl hl (by decide) rfl (fun ls hl => ?_)
    refine lv_iload_n hx hb dX8_readsBar_30 rfl (lv_at hl 0 rfl) ?_
    refine lv_if_ge (tgt := 36) hx hb dX8_readsBar_31 (by decide) (fun c_28 => ?_) (fun c_28 => ?_)
    · have hf := pos_e c_28 hf
      refine lv_iconst (v := 0) hx hb dX8_readsBar_36 (by decide) ?_
      refine lv_istore_n (lv' := [(2, .int 0), (1, .int r_1), (0, .ref (Z + 183))]) hx hb dX8_readsBar_37 rfl hl (by decide) rfl (fun ls hl => ?_)
      refine lv_aload_n hx hb dX8_readsBar_38 rfl (lv_at hl 2 rfl) ?_
      refine lv_bipush (v := 99) hx hb dX8_readsBar_39 (by decide) ?_
      obtain ⟨r_3, σ_4, hr_3, hf⟩ := b2_e hf
      refine kX8_84 hx hb hml hts hown hG hI hS hl.1 hL (As := [.int 99]) (c_X8_takes l D cI cS Z K hL 99 σ_2 _ _ hr_3) ⟨(Nat.le_of_ble_eq_true rfl), (Nat.le_of_ble_eq_true rfl)⟩ rfl (Nat.le_of_ble_eq_true rfl) ⟨(Nat.le_of_ble_eq_true rfl), (Nat.le_of_ble_eq_true rfl)⟩ dX8_readsBar_41 (fun hzr_3 H locs hI hS => ?_)
      obtain ⟨k_15, ek_15, hf⟩ := jn_e hf
      have HJ_16 : ∀ (v_13 : Int32) (σ_14 : Nat → Nat → Int32) (H : Heap) (locs : List Loc) (ls : Array Slot), k_15 v_13 σ_14 = some (r, σ') → fI D cI cS Z K σ_14 H → va_S (aZ Z) s.heap H locs → lv_has ls 3 [(0, .ref (Z + 183)), (1, .int r_1), (2, .int v_13)] → W p l e { frames := 3, cells := 0, slots := 0, locals := 65 } s m args below meth c H locs 0 0 (MQ below (Qz D cI cS Z K r σ') args s 0 0 (aZ Z)) (F0 m 74 ls []) := by
        intro v_13 σ_14 H locs ls hf hI hS hl
        have hf := jb2 ek_15 hf
        refine lv_aload_n hx hb dX8_readsBar_74 rfl (lv_at hl 0 rfl) ?_
        refine gX8_22 (o' := 188) hx hb hts hown hG hI hL rfl dX8_readsBar_75 ?_
        refine lv_aload_n hx hb dX8_readsBar_78 rfl (lv_at hl 0 rfl) ?_
        refine gX8_87 hx hb hts hown hG hI hL dX8_readsBar_79 ?_
        refine lv_iload_n hx hb dX8_readsBar_82 rfl (lv_at hl 1 rfl) ?_
        obtain ⟨hix, hf⟩ := ix_e hf
        obtain ⟨σ_17, eσ_17, hf⟩ := vl_e hf
        refine mm_ast hx hb hG hI hS (ly_at hL 5 rfl) hix rfl dX8_readsBar_83 (fun H locs hI hS => ?_)
        rw [← eσ_17] at hI
        refine lv_aload_n hx hb dX8_readsBar_84 rfl (lv_at hl 0 rfl) ?_
        refine gX8_25 (o' := 189) hx hb hts hown hG hI hL rfl dX8_readsBar_85 ?_
        refine lv_aload_n hx hb dX8_readsBar_88 rfl (lv_at hl 0 rfl) ?_
        refine gX8_87 hx hb hts hown hG hI hL dX8_readsBar_89 ?_
        refine lv_iload_n hx hb dX8_readsBar_92 rfl (lv_at hl 2 rfl) ?_
        obtain ⟨hix, hf⟩ := ix_e hf
        obtain ⟨σ_18, eσ_18, hf⟩ := vl_e hf
        refine mm_ast hx hb hG hI hS (ly_at hL 6 rfl) hix rfl dX8_readsBar_93 (fun H locs hI hS => ?_)
        rw [← eσ_18] at hI
        refine lv_aload_n hx hb dX8_readsBar_94 rfl (lv_at hl 0 rfl) ?_
        refine lv_dup hx hb dX8_readsBar_95 rfl ?_
        refine gX8_87 hx hb hts hown hG hI hL dX8_readsBar_96 ?_
        refine lv_iconst (v := 1) hx hb dX8_readsBar_99 (by decide) ?_
        refine lv_iadd hx hb dX8_readsBar_100 ?_
        obtain ⟨σ_19, eσ_19, hf⟩ := vl_e hf
        refine pX8_87 hx hb hts hown hG hI hS hL dX8_readsBar_101 (fun H locs hI hS => ?_)
        rw [← eσ_19] at hI
        refine lv_iconst (v := 1) hx hb dX8_readsBar_104 (by decide) ?_
        obtain ⟨rfl, rfl⟩ := sp_e hf
        exact mm_zret hx hb hr hlocks (Or.inr rfl) hI hS dX8_readsBar_105
      clear ek_15
      refine lv_if_eq (tgt := 74) hx hb dX8_readsBar_44 (by decide) (fun c_27 => ?_) (fun c_27 => ?_)
      · have hf := pos_e c_27 hf
        exact HJ_16 0 σ_4 _ _ _ hf hI hS (lv_sub hl [2, 1, 0] rfl)
      · have hf := neg_e c_27 hf
        refine lv_aload_n hx hb dX8_readsBar_47 rfl (lv_at hl 2 rfl) ?_
        obtain ⟨r_20, σ_21, hr_20, hf⟩ := b2_e hf
        refine kX8_80 hx hb hml hts hown hG hI hS hl.1 hL (As := []) (c_X8_isDigit l D cI cS Z K hL σ_4 _ _ hr_20) ⟨(Nat.le_of_ble_eq_true rfl), (Nat.le_of_ble_eq_true rfl)⟩ rfl (Nat.le_of_ble_eq_true rfl) ⟨(Nat.le_of_ble_eq_true rfl), (Nat.le_of_ble_eq_true rfl)⟩ dX8_readsBar_48 (fun hzr_20 H locs hI hS => ?_)
        refine lv_if_ne (tgt := 56) hx hb dX8_readsBar_51 (by decide) (fun c_26 => ?_) (fun c_26 => ?_)
        · have hf := neg_e c_26 hf
          refine lv_aload_n hx hb dX8_readsBar_56 rfl (lv_at hl 2 rfl) ?_
          obtain ⟨r_22, σ_23, hr_22, hf⟩ := b2_e hf
          refine kX8_76 hx hb hml hts hown hG hI hS hl.1 hL (As := []) (c_X8_here l D cI cS Z K hL σ_21 _ _ hr_22) ⟨(Nat.le_of_ble_eq_true rfl), (Nat.le_of_ble_eq_true rfl)⟩ rfl (Nat.le_of_ble_eq_true rfl) ⟨(Nat.le_of_ble_eq_true rfl), (Nat.le_of_ble_eq_true rfl)⟩ dX8_readsBar_57 (fun H locs hI hS => ?_)
          refine lv_bipush (v := 48) hx hb dX8_readsBar_60 (by decide) ?_
          refine lv_isub hx hb dX8_readsBar_62 ?_
          obtain ⟨x_24, ex_24, hf⟩ := vl_e hf
          refine mm_name ex_24 ?_
          refine lv_istore_n (lv' := [(2, .int x_24), (1, .int r_1), (0, .ref (Z + 183))]) hx hb dX8_readsBar_63 rfl hl (by decide) rfl (fun ls hl => ?_)
          refine lv_aload_n hx hb dX8_readsBar_64 rfl (lv_at hl 2 rfl) ?_
          refine lv_dup hx hb dX8_readsBar_65 rfl ?_
          refine gX8_73 hx hb hts hown hG hI hL dX8_readsBar_66 ?_
          refine lv_iconst (v := 1) hx hb dX8_readsBar_69 (by decide) ?_
          refine lv_iadd hx hb dX8_readsBar_70 ?_
          obtain ⟨σ_25, eσ_25, hf⟩ := vl_e hf
          refine pX8_73 hx hb hts hown hG hI hS hL dX8_readsBar_71 (fun H locs hI hS => ?_)
          rw [← eσ_25] at hI
          exact HJ_16 x_24 σ_25 _ _ _ hf hI hS (lv_sub hl [2, 1, 0] rfl)
        · have hf := pos_e c_26 hf
          refine lv_iconst (v := 0) hx hb dX8_readsBar_54 (by decide) ?_
          obtain ⟨rfl, rfl⟩ := sp_e hf
          exact mm_zret hx hb hr hlocks (Or.inl rfl) hI hS dX8_readsBar_55
    · have hf := neg_e c_28 hf
      refine lv_iconst (v := 0) hx hb dX8_readsBar_34 (by decide) ?_
      obtain ⟨rfl, rfl⟩ := sp_e hf
      exact mm_zret hx hb hr hlocks (Or.inl rfl) hI hS dX8_readsBar_35
  · have hf := pos_e c_32 hf
    refine lv_aload_n hx hb dX8_readsBar_9 rfl (lv_at hl 0 rfl) ?_
    obtain ⟨r_29, σ_30, hr_29, hf⟩ := b2_e hf
    refine kX8_76 hx hb hml hts hown hG hI hS hl.1 hL (As := []) (c_X8_here l D cI cS Z K hL σ _ _ hr_29) ⟨(Nat.le_of_ble_eq_true rfl), (Nat.le_of_ble_eq_true rfl)⟩ rfl (Nat.le_of_ble_eq_true rfl) ⟨(Nat.le_of_ble_eq_true rfl), (Nat.le_of_ble_eq_true rfl)⟩ dX8_readsBar_10 (fun H locs hI hS => ?_)
    refine lv_sipush (v := 999) hx hb dX8_readsBar_13 (by decide) ?_
    refine lv_icmp_le (tgt := 23) hx hb dX8_readsBar_16 (by decide) (fun c_31 => ?_) (fun c_31 => ?_)
    · have hf := pos_e c_31 hf
      refine lv_iconst (v := 0) hx hb dX8_readsBar_23 (by decide) ?_
      obtain ⟨rfl, rfl⟩ := sp_e hf
      exact mm_zret hx hb hr hlocks (Or.inl rfl) hI hS dX8_readsBar_24
    · have hf := neg_e c_31 hf
      refine lv_iconst (v := 1) hx hb dX8_readsBar_19 (by decide) ?_
      refine lv_goto (tgt := 24) hx hb dX8_readsBar_20 (by decide) ?_
      obtain ⟨rfl, rfl⟩ := sp_e hf
      exact mm_zret hx hb hr hlocks (Or.inr rfl) hI hS dX8_readsBar_24
def b_X8_readsBars_5  : Int32 × (Nat → Nat → Int32) → Option ((Int32 × (Nat → Nat → Int32)) ⊕ (Int32 × (Nat → Nat → Int32)))
  | (y_3, σ_4) => if y_3 = 0 then (some (.inr (y_3, σ_4))) else (b2 (f_X8_takes 59 σ_4) fun r_19 σ_20 => if r_19 = 0 then (some (.inr (y_3, σ_20))) else (b2 (f_X8_readsBar σ_20) fun r_21 σ_22 => some (.inl (r_21, σ_22))))
def f_X8_readsBars  (σ : Nat → Nat → Int32) : Option (Int32 × (Nat → Nat → Int32)) := b2 (f_X8_readsBar σ) fun r_1 σ_2 => b2 (lp (b_X8_readsBars_5) FU (r_1, σ_2)) fun z_5 σ_6 => bz z_5 <| some (z_5, σ_6)
set_option maxHeartbeats 4000000 in
set_option maxRecDepth 100000 in
theorem c_X8_readsBars (l : Launch) (D : va_G) (cI cS : ClassId) (Z : Nat) (K : Nat → Nat) (hL : ly K 183 lyModel) (σ : Nat → Nat → Int32) (r : Int32) (σ' : Nat → Nat → Int32) (hf : f_X8_readsBars σ = some (r, σ')) : Met l yX8_readsBars (wsT yX8_readsBars cX8_readsBars 2 (some .boolean)) { frames := 4, cells := 0, slots := 0, locals := 87 } (Pm D cI cS Z K [.ref (Z + 183)] σ) (Qz D cI cS Z K r σ') 0 0 (aZ Z) := by
  refine mm_met (lv := [(0, .ref (Z + 183))]) (by decide) (Nat.le_of_ble_eq_true rfl) rfl ?_
  intro p e s m args below meth c ls hx hb hr hml hts hown hlocks hG hl hI hS
  have hown : s.vm.findClass RX8 = some m.cls := hown
  rw [f_X8_readsBars] at hf
  refine lv_aload_n hx hb dX8_readsBars_0 rfl (lv_at hl 0 rfl) ?_
  obtain ⟨r_1, σ_2, hr_1, hf⟩ := b2_e hf
  refine kX8_93 hx hb hml hts hown hG hI hS hl.1 hL (As := []) (c_X8_readsBar l D cI cS Z K hL σ _ _ hr_1) ⟨(Nat.le_of_ble_eq_true rfl), (Nat.le_of_ble_eq_true rfl)⟩ rfl (Nat.le_of_ble_eq_true rfl) ⟨(Nat.le_of_ble_eq_true rfl), (Nat.le_of_ble_eq_true rfl)⟩ dX8_readsBars_1 (fun hzr_1 H locs hI hS => ?_)
  refine lv_istore_n (lv' := [(1, .int r_1), (0, .ref (Z + 183))]) hx hb dX8_readsBars_4 rfl hl (by decide) rfl (fun ls hl => ?_)
  have L_8 : ∀ (nn : Nat) (y_3 : Int32) (σ_4 : Nat → Nat → Int32) (z_5 : Int32) (σ_6 : Nat → Nat → Int32), lp (b_X8_readsBars_5) nn (y_3, σ_4) = some (z_5, σ_6) → (∀ (H : Heap) (locs : List Loc) (ls : Array Slot), fI D cI cS Z K σ_6 H → va_S (aZ Z) s.heap H locs → lv_has ls 2 [(1, .int z_5)] → W p l e { frames := 4, cells := 0, slots := 0, locals := 87 } s m args below meth c H locs 0 0 (MQ below (Qz D cI cS Z K r σ') args s 0 0 (aZ Z)) (F0 m 26 ls [])) → ∀ (H : Heap) (locs : List Loc) (ls : Array Slot), fI D cI cS Z K σ_4 H → va_S (aZ Z) s.heap H locs → lv_has ls 2 [(0, .ref (Z + 183)), (1, .int y_3)] → W p l e { frames := 4, cells := 0, slots := 0, locals := 87 } s m args below meth c H locs 0 0 (MQ below (Qz D cI cS Z K r σ') args s 0 0 (aZ Z)) (F0 m 5 ls []) := by
    intro nn
    induction nn with
    | zero =>
      intro y_3 σ_4 z_5 σ_6 hq
      exact (lp_0 hq).elim
    | succ nn ih_9 =>
      intro y_3 σ_4 z_5 σ_6 hq kn_11 H locs ls hI hS hl
      obtain ⟨w_7, hf, hk_10⟩ := lp_e hq
      rw [b_X8_readsBars_5] at hf
      have ih_9 := fun (y_3 : Int32) (σ_4 : Nat → Nat → Int32) q => ih_9 y_3 σ_4 z_5 σ_6 q kn_11
      refine lv_iload_n hx hb dX8_readsBars_5 rfl (lv_at hl 1 rfl) ?_
      refine lv_if_eq (tgt := 26) hx hb dX8_readsBars_6 (by decide) (fun c_24 => ?_) (fun c_24 => ?_)
      · have hf := pos_e c_24 hf
        obtain rfl := so_e hf
        obtain ⟨rfl, rfl⟩ := q2_e (lk_r hk_10)
        exact kn_11 _ _ _ hI hS (lv_sub hl [1] rfl)
      · have hf := neg_e c_24 hf
        refine lv_aload_n hx hb dX8_readsBars_9 rfl (lv_at hl 0 rfl) ?_
        refine lv_bipush (v := 59) hx hb dX8_readsBars_10 (by decide) ?_
        obtain ⟨r_19, σ_20, hr_19, hf⟩ := b2_e hf
        refine kX8_84 hx hb hml hts hown hG hI hS hl.1 hL (As := [.int 59]) (c_X8_takes l D cI cS Z K hL 59 σ_4 _ _ hr_19) ⟨(Nat.le_of_ble_eq_true rfl), (Nat.le_of_ble_eq_true rfl)⟩ rfl (Nat.le_of_ble_eq_true rfl) ⟨(Nat.le_of_ble_eq_true rfl), (Nat.le_of_ble_eq_true rfl)⟩ dX8_readsBars_12 (fun hzr_19 H locs hI hS => ?_)
        refine lv_if_eq (tgt := 26) hx hb dX8_readsBars_15 (by decide) (fun c_23 => ?_) (fun c_23 => ?_)
        · have hf := pos_e c_23 hf
          obtain rfl := so_e hf
          obtain ⟨rfl, rfl⟩ := q2_e (lk_r hk_10)
          exact kn_11 _ _ _ hI hS (lv_sub hl [1] rfl)
        · have hf := neg_e c_23 hf
          refine lv_aload_n hx hb dX8_readsBars_18 rfl (lv_at hl 0 rfl) ?_
          obtain ⟨r_21, σ_22, hr_21, hf⟩ := b2_e hf
          refine kX8_93 hx hb hml hts hown hG hI hS hl.1 hL (As := []) (c_X8_readsBar l D cI cS Z K hL σ_20 _ _ hr_21) ⟨(Nat.le_of_ble_eq_true rfl), (Nat.le_of_ble_eq_true rfl)⟩ rfl (Nat.le_of_ble_eq_true rfl) ⟨(Nat.le_of_ble_eq_true rfl), (Nat.le_of_ble_eq_true rfl)⟩ dX8_readsBars_19 (fun hzr_21 H locs hI hS => ?_)
          refine lv_istore_n (lv' := [(1, .int r_21), (0, .ref (Z + 183))]) hx hb dX8_readsBars_22 rfl hl (by decide) rfl (fun ls hl => ?_)
          refine lv_goto (tgt := 5) hx hb dX8_readsBars_23 (by decide) ?_
          obtain rfl := so_e hf
          exact ih_9 r_21 σ_22 hk_10 _ _ _ hI hS (lv_sub hl [1, 0] rfl)
  obtain ⟨z_5, σ_6, hy, hf⟩ := b2_e hf
  refine L_8 FU r_1 σ_2 _ _ hy ?_ _ _ _ hI hS (lv_sub hl [1, 0] rfl)
  clear L_8
  intro H locs ls hI hS hl
  refine lv_iload_n hx hb dX8_readsBars_26 rfl (lv_at hl 0 rfl) ?_
  obtain ⟨hz, hf⟩ := bz_e hf
  obtain ⟨rfl, rfl⟩ := sp_e hf
  exact mm_zret hx hb hr hlocks hz hI hS dX8_readsBars_27
def b_X8_readsRepeated_113 (x_3 : Int32) (x_15 : Int32) (x_21 : Int32) : Int32 × (Nat → Nat → Int32) → Option ((Int32 × (Nat → Nat → Int32)) ⊕ ((Nat → Nat → Int32)))
  | (y_22, σ_23) => if (x_3 * x_21) ≤ y_22 then (some (.inr σ_23)) else (ix ((x_15 + y_22) - x_21) 24 <| ix (x_15 + y_22) 24 <| vl (wr σ_23 188 (x_15 + y_22).toNatClampNeg (σ_23 188 ((x_15 + y_22) - x_21).toNatClampNeg)) fun σ_35 => ix ((x_15 + y_22) - x_21) 24 <| ix (x_15 + y_22) 24 <| vl (wr σ_35 189 (x_15 + y_22).toNatClampNeg (σ_35 189 ((x_15 + y_22) - x_21).toNatClampNeg)) fun σ_36 => vl (y_22 + 1) fun x_37 => some (.inl (x_37, σ_36)))
def f_X8_readsRepeated  (σ : Nat → Nat → Int32) : Option (Int32 × (Nat → Nat → Int32)) := b2 (f_X8_here σ) fun r_1 σ_2 => vl (r_1 - 48) fun x_3 => if 2 ≤ x_3 then (vl (wr σ_2 183 10 ((σ_2 183 10) + 1)) fun σ_4 => b2 (f_X8_takes 120 σ_4) fun r_5 σ_6 => jn (α := Int32 → (Nat → Nat → Int32) → _) (fun k_13 => if r_5 = 0 then (k_13 0 σ_6) else (b2 (f_X8_takes 40 σ_6) fun r_45 σ_46 => if r_45 = 0 then (k_13 0 σ_46) else (k_13 1 σ_46))) (fun v_11 σ_12 => vl (σ_12 183 9) fun x_15 => if v_11 = 0 then (some (0, σ_12)) else (b2 (f_X8_readsBars σ_12) fun r_16 σ_17 => if r_16 = 0 then (some (0, σ_17)) else (b2 (f_X8_here σ_17) fun r_18 σ_19 => if r_18 = 41 then (if (x_15 + (x_3 * ((σ_19 183 9) - x_15))) ≤ 24 then (vl (wr σ_19 183 10 ((σ_19 183 10) + 1)) fun σ_20 => vl ((σ_20 183 9) - x_15) fun x_21 => bi (lp (b_X8_readsRepeated_113 x_3 x_15 x_21) FU (x_21, σ_20)) fun σ_24 => vl (wr σ_24 183 9 (x_15 + (x_3 * x_21))) fun σ_40 => some (1, σ_40)) else (some (0, σ_19))) else (some (0, σ_19)))))) else (some (0, σ_2))
set_option maxHeartbeats 4000000 in
set_option maxRecDepth 100000 in
theorem c_X8_readsRepeated (l : Launch) (D : va_G) (cI cS : ClassId) (Z : Nat) (K : Nat → Nat) (hL : ly K 183 lyModel) (σ : Nat → Nat → Int32) (r : Int32) (σ' : Nat → Nat → Int32) (hf : f_X8_readsRepeated σ = some (r, σ')) : Met l yX8_readsRepeated (wsT yX8_readsRepeated cX8_readsRepeated 6 (some .boolean)) { frames := 5, cells := 0, slots := 0, locals := 108 } (Pm D cI cS Z K [.ref (Z + 183)] σ) (Qz D cI cS Z K r σ') 0 0 (aZ Z) := by
  refine mm_met (lv := [(0, .ref (Z + 183))]) (by decide) (Nat.le_of_ble_eq_true rfl) rfl ?_
  intro p e s m args below meth c ls hx hb hr hml hts hown hlocks hG hl hI hS
  have hown : s.vm.findClass RX8 = some m.cls := hown
  rw [f_X8_readsRepeated] at hf
  refine lv_aload_n hx hb dX8_readsRepeated_0 rfl (lv_at hl 0 rfl) ?_
  obtain ⟨r_1, σ_2, hr_1, hf⟩ := b2_e hf
  refine kX8_76 hx hb hml hts hown hG hI hS hl.1 hL (As := []) (c_X8_here l D cI cS Z K hL σ _ _ hr_1) ⟨(Nat.le_of_ble_eq_true rfl), (Nat.le_of_ble_eq_true rfl)⟩ rfl (Nat.le_of_ble_eq_true rfl) ⟨(Nat.le_of_ble_eq_true rfl), (Nat.le_of_ble_eq_true rfl)⟩ dX8_readsRepeated_1 (fun H locs hI hS => ?_)
  refine lv_bipush (v := 48) hx hb dX8_readsRepeated_4 (by decide) ?_
  refine lv_isub hx hb dX8_readsRepeated_6 ?_
  obtain ⟨x_3, ex_3, hf⟩ := vl_e hf
  refine mm_name ex_3 ?_
  refine lv_istore_n (lv' := [(1, .int x_3), (0, .ref (Z + 183))]) hx hb dX8_readsRepeated_7 rfl hl (by decide) rfl (fun ls hl => ?_)
  refine lv_iload_n hx hb dX8_readsRepeated_8 rfl (lv_at hl 0 rfl) ?_
  refine lv_iconst (v := 2) hx hb dX8_readsRepeated_9 (by decide) ?_
  refine lv_icmp_ge (tgt := 15) hx hb dX8_readsRepeated_10 (by decide) (fun c_49 => ?_) (fun c_49 => ?_)
  · have hf := pos_e c_49 hf
    refine lv_aload_n hx hb dX8_readsRepeated_15 rfl (lv_at hl 1 rfl) ?_
    refine lv_dup hx hb dX8_readsRepeated_16 rfl ?_
    refine gX8_73 hx hb hts hown hG hI hL dX8_readsRepeated_17 ?_
    refine lv_iconst (v := 1) hx hb dX8_readsRepeated_20 (by decide) ?_
    refine lv_iadd hx hb dX8_readsRepeated_21 ?_
    obtain ⟨σ_4, eσ_4, hf⟩ := vl_e hf
    refine pX8_73 hx hb hts hown hG hI hS hL dX8_readsRepeated_22 (fun H locs hI hS => ?_)
    rw [← eσ_4] at hI
    refine lv_aload_n hx hb dX8_readsRepeated_25 rfl (lv_at hl 1 rfl) ?_
    refine lv_bipush (v := 120) hx hb dX8_readsRepeated_26 (by decide) ?_
    obtain ⟨r_5, σ_6, hr_5, hf⟩ := b2_e hf
    refine kX8_84 hx hb hml hts hown hG hI hS hl.1 hL (As := [.int 120]) (c_X8_takes l D cI cS Z K hL 120 σ_4 _ _ hr_5) ⟨(Nat.le_of_ble_eq_true rfl), (Nat.le_of_ble_eq_true rfl)⟩ rfl (Nat.le_of_ble_eq_true rfl) ⟨(Nat.le_of_ble_eq_true rfl), (Nat.le_of_ble_eq_true rfl)⟩ dX8_readsRepeated_28 (fun hzr_5 H locs hI hS => ?_)
    obtain ⟨k_13, ek_13, hf⟩ := jn_e hf
    have HJ_14 : ∀ (v_11 : Int32) (σ_12 : Nat → Nat → Int32) (H : Heap) (locs : List Loc) (ls : Array Slot), k_13 v_11 σ_12 = some (r, σ') → fI D cI cS Z K σ_12 H → va_S (aZ Z) s.heap H locs → lv_has ls 6 [(0, .ref (Z + 183)), (1, .int x_3)] → W p l e { frames := 5, cells := 0, slots := 0, locals := 108 } s m args below meth c H locs 0 0 (MQ below (Qz D cI cS Z K r σ') args s 0 0 (aZ Z)) (F0 m 48 ls [.int v_11]) := by
      intro v_11 σ_12 H locs ls hf hI hS hl
      have hf := jb2 ek_13 hf
      refine lv_istore_n (lv' := [(2, .int v_11), (0, .ref (Z + 183)), (1, .int x_3)]) hx hb dX8_readsRepeated_48 rfl hl (by decide) rfl (fun ls hl => ?_)
      refine lv_aload_n hx hb dX8_readsRepeated_49 rfl (lv_at hl 1 rfl) ?_
      refine gX8_87 hx hb hts hown hG hI hL dX8_readsRepeated_50 ?_
      obtain ⟨x_15, ex_15, hf⟩ := vl_e hf
      refine mm_name ex_15 ?_
      refine lv_istore_n (lv' := [(3, .int x_15), (2, .int v_11), (0, .ref (Z + 183)), (1, .int x_3)]) hx hb dX8_readsRepeated_53 rfl hl (by decide) rfl (fun ls hl => ?_)
      refine lv_iload_n hx hb dX8_readsRepeated_54 rfl (lv_at hl 1 rfl) ?_
      refine lv_if_eq (tgt := 89) hx hb dX8_readsRepeated_55 (by decide) (fun c_44 => ?_) (fun c_44 => ?_)
      · have hf := pos_e c_44 hf
        refine lv_iconst (v := 0) hx hb dX8_readsRepeated_89 (by decide) ?_
        obtain ⟨rfl, rfl⟩ := sp_e hf
        exact mm_zret hx hb hr hlocks (Or.inl rfl) hI hS dX8_readsRepeated_90
      · have hf := neg_e c_44 hf
        refine lv_aload_n hx hb dX8_readsRepeated_58 rfl (lv_at hl 2 rfl) ?_
        obtain ⟨r_16, σ_17, hr_16, hf⟩ := b2_e hf
        refine kX8_96 hx hb hml hts hown hG hI hS hl.1 hL (As := []) (c_X8_readsBars l D cI cS Z K hL σ_12 _ _ hr_16) ⟨(Nat.le_of_ble_eq_true rfl), (Nat.le_of_ble_eq_true rfl)⟩ rfl (Nat.le_of_ble_eq_true rfl) ⟨(Nat.le_of_ble_eq_true rfl), (Nat.le_of_ble_eq_true rfl)⟩ dX8_readsRepeated_59 (fun hzr_16 H locs hI hS => ?_)
        refine lv_if_eq (tgt := 89) hx hb dX8_readsRepeated_62 (by decide) (fun c_43 => ?_) (fun c_43 => ?_)
        · have hf := pos_e c_43 hf
          refine lv_iconst (v := 0) hx hb dX8_readsRepeated_89 (by decide) ?_
          obtain ⟨rfl, rfl⟩ := sp_e hf
          exact mm_zret hx hb hr hlocks (Or.inl rfl) hI hS dX8_readsRepeated_90
        · have hf := neg_e c_43 hf
          refine lv_aload_n hx hb dX8_readsRepeated_65 rfl (lv_at hl 2 rfl) ?_
          obtain ⟨r_18, σ_19, hr_18, hf⟩ := b2_e hf
          refine kX8_76 hx hb hml hts hown hG hI hS hl.1 hL (As := []) (c_X8_here l D cI cS Z K hL σ_17 _ _ hr_18) ⟨(Nat.le_of_ble_eq_true rfl), (Nat.le_of_ble_eq_true rfl)⟩ rfl (Nat.le_of_ble_eq_true rfl) ⟨(Nat.le_of_ble_eq_true rfl), (Nat.le_of_ble_eq_true rfl)⟩ dX8_readsRepeated_66 (fun H locs hI hS => ?_)
          refine lv_bipush (v := 41) hx hb dX8_readsRepeated_69 (by decide) ?_
          refine lv_icmp_ne (tgt := 89) hx hb dX8_readsRepeated_71 (by decide) (fun c_42 => ?_) (fun c_42 => ?_)
          · have hf := neg_e c_42 hf
            refine lv_iconst (v := 0) hx hb dX8_readsRepeated_89 (by decide) ?_
            obtain ⟨rfl, rfl⟩ := sp_e hf
            exact mm_zret hx hb hr hlocks (Or.inl rfl) hI hS dX8_readsRepeated_90
          · have hf := pos_e c_42 hf
            refine lv_iload_n hx hb dX8_readsRepeated_74 rfl (lv_at hl 0 rfl) ?_
            refine lv_iload_n hx hb dX8_readsRepeated_75 rfl (lv_at hl 3 rfl) ?_
            refine lv_aload_n hx hb dX8_readsRepeated_76 rfl (lv_at hl 2 rfl) ?_
            refine gX8_87 hx hb hts hown hG hI hL dX8_readsRepeated_77 ?_
            refine lv_iload_n hx hb dX8_readsRepeated_80 rfl (lv_at hl 0 rfl) ?_
            refine lv_isub hx hb dX8_readsRepeated_81 ?_
            refine lv_imul hx hb dX8_readsRepeated_82 ?_
            refine lv_iadd hx hb dX8_readsRepeated_83 ?_
            refine lv_bipush (v := 24) hx hb dX8_readsRepeated_84 (by decide) ?_
            refine lv_icmp_le (tgt := 91) hx hb dX8_readsRepeated_86 (by decide) (fun c_41 => ?_) (fun c_41 => ?_)
            · have hf := pos_e c_41 hf
              refine lv_aload_n hx hb dX8_readsRepeated_91 rfl (lv_at hl 2 rfl) ?_
              refine lv_dup hx hb dX8_readsRepeated_92 rfl ?_
              refine gX8_73 hx hb hts hown hG hI hL dX8_readsRepeated_93 ?_
              refine lv_iconst (v := 1) hx hb dX8_readsRepeated_96 (by decide) ?_
              refine lv_iadd hx hb dX8_readsRepeated_97 ?_
              obtain ⟨σ_20, eσ_20, hf⟩ := vl_e hf
              refine pX8_73 hx hb hts hown hG hI hS hL dX8_readsRepeated_98 (fun H locs hI hS => ?_)
              rw [← eσ_20] at hI
              refine lv_aload_n hx hb dX8_readsRepeated_101 rfl (lv_at hl 2 rfl) ?_
              refine gX8_87 hx hb hts hown hG hI hL dX8_readsRepeated_102 ?_
              refine lv_iload_n hx hb dX8_readsRepeated_105 rfl (lv_at hl 0 rfl) ?_
              refine lv_isub hx hb dX8_readsRepeated_106 ?_
              obtain ⟨x_21, ex_21, hf⟩ := vl_e hf
              refine mm_name ex_21 ?_
              refine lv_istore (lv' := [(4, .int x_21), (3, .int x_15), (2, .int v_11), (0, .ref (Z + 183)), (1, .int x_3)]) hx hb dX8_readsRepeated_107 hl (by decide) rfl (fun ls hl => ?_)
              refine lv_iload hx hb dX8_readsRepeated_109 (lv_at hl 0 rfl) ?_
              refine lv_istore (lv' := [(5, .int x_21), (4, .int x_21), (3, .int x_15), (2, .int v_11), (0, .ref (Z + 183)), (1, .int x_3)]) hx hb dX8_readsRepeated_111 hl (by decide) rfl (fun ls hl => ?_)
              have L_26 : ∀ (nn : Nat) (y_22 : Int32) (σ_23 : Nat → Nat → Int32) (σ_24 : Nat → Nat → Int32), lp (b_X8_readsRepeated_113 x_3 x_15 x_21) nn (y_22, σ_23) = some σ_24 → (∀ (H : Heap) (locs : List Loc) (ls : Array Slot), fI D cI cS Z K σ_24 H → va_S (aZ Z) s.heap H locs → lv_has ls 6 [(0, .ref (Z + 183)), (1, .int x_3), (3, .int x_15), (4, .int x_21)] → W p l e { frames := 5, cells := 0, slots := 0, locals := 108 } s m args below meth c H locs 0 0 (MQ below (Qz D cI cS Z K r σ') args s 0 0 (aZ Z)) (F0 m 170 ls [])) → ∀ (H : Heap) (locs : List Loc) (ls : Array Slot), fI D cI cS Z K σ_23 H → va_S (aZ Z) s.heap H locs → lv_has ls 6 [(0, .ref (Z + 183)), (1, .int x_3), (3, .int x_15), (4, .int x_21), (5, .int y_22)] → W p l e { frames := 5, cells := 0, slots := 0, locals := 108 } s m args below meth c H locs 0 0 (MQ below (Qz D cI cS Z K r σ') args s 0 0 (aZ Z)) (F0 m 113 ls []) := by
                intro nn
                induction nn with
                | zero =>
                  intro y_22 σ_23 σ_24 hq
                  exact (lp_0 hq).elim
                | succ nn ih_27 =>
                  intro y_22 σ_23 σ_24 hq kn_29 H locs ls hI hS hl
                  obtain ⟨w_25, hf, hk_28⟩ := lp_e hq
                  rw [b_X8_readsRepeated_113] at hf
                  have ih_27 := fun (y_22 : Int32) (σ_23 : Nat → Nat → Int32) q => ih_27 y_22 σ_23 σ_24 q kn_29
                  refine lv_iload hx hb dX8_readsRepeated_113 (lv_at hl 4 rfl) ?_
                  refine lv_iload_n hx hb dX8_readsRepeated_115 rfl (lv_at hl 1 rfl) ?_
                  refine lv_iload hx hb dX8_readsRepeated_116 (lv_at hl 3 rfl) ?_
                  refine lv_imul hx hb dX8_readsRepeated_118 ?_
                  refine lv_icmp_ge (tgt := 170) hx hb dX8_readsRepeated_119 (by decide) (fun c_38 => ?_) (fun c_38 => ?_)
                  · have hf := pos_e c_38 hf
                    obtain rfl := so_e hf
                    obtain rfl := lk_r hk_28
                    exact kn_29 _ _ _ hI hS (lv_sub hl [0, 1, 2, 3] rfl)
                  · have hf := neg_e c_38 hf
                    refine lv_aload_n hx hb dX8_readsRepeated_122 rfl (lv_at hl 0 rfl) ?_
                    refine gX8_22 (o' := 188) hx hb hts hown hG hI hL rfl dX8_readsRepeated_123 ?_
                    refine lv_iload_n hx hb dX8_readsRepeated_126 rfl (lv_at hl 2 rfl) ?_
                    refine lv_iload hx hb dX8_readsRepeated_127 (lv_at hl 4 rfl) ?_
                    refine lv_iadd hx hb dX8_readsRepeated_129 ?_
                    refine lv_aload_n hx hb dX8_readsRepeated_130 rfl (lv_at hl 0 rfl) ?_
                    refine gX8_22 (o' := 188) hx hb hts hown hG hI hL rfl dX8_readsRepeated_131 ?_
                    refine lv_iload_n hx hb dX8_readsRepeated_134 rfl (lv_at hl 2 rfl) ?_
                    refine lv_iload hx hb dX8_readsRepeated_135 (lv_at hl 4 rfl) ?_
                    refine lv_iadd hx hb dX8_readsRepeated_137 ?_
                    refine lv_iload hx hb dX8_readsRepeated_138 (lv_at hl 3 rfl) ?_
                    refine lv_isub hx hb dX8_readsRepeated_140 ?_
                    obtain ⟨hix, hf⟩ := ix_e hf
                    refine mm_ald hx hb hG hI (ly_at hL 5 rfl) hix rfl dX8_readsRepeated_141 ?_
                    obtain ⟨hix, hf⟩ := ix_e hf
                    obtain ⟨σ_35, eσ_35, hf⟩ := vl_e hf
                    refine mm_ast hx hb hG hI hS (ly_at hL 5 rfl) hix rfl dX8_readsRepeated_142 (fun H locs hI hS => ?_)
                    rw [← eσ_35] at hI
                    refine lv_aload_n hx hb dX8_readsRepeated_143 rfl (lv_at hl 0 rfl) ?_
                    refine gX8_25 (o' := 189) hx hb hts hown hG hI hL rfl dX8_readsRepeated_144 ?_
                    refine lv_iload_n hx hb dX8_readsRepeated_147 rfl (lv_at hl 2 rfl) ?_
                    refine lv_iload hx hb dX8_readsRepeated_148 (lv_at hl 4 rfl) ?_
                    refine lv_iadd hx hb dX8_readsRepeated_150 ?_
                    refine lv_aload_n hx hb dX8_readsRepeated_151 rfl (lv_at hl 0 rfl) ?_
                    refine gX8_25 (o' := 189) hx hb hts hown hG hI hL rfl dX8_readsRepeated_152 ?_
                    refine lv_iload_n hx hb dX8_readsRepeated_155 rfl (lv_at hl 2 rfl) ?_
                    refine lv_iload hx hb dX8_readsRepeated_156 (lv_at hl 4 rfl) ?_
                    refine lv_iadd hx hb dX8_readsRepeated_158 ?_
                    refine lv_iload hx hb dX8_readsRepeated_159 (lv_at hl 3 rfl) ?_
                    refine lv_isub hx hb dX8_readsRepeated_161 ?_
                    obtain ⟨hix, hf⟩ := ix_e hf
                    refine mm_ald hx hb hG hI (ly_at hL 6 rfl) hix rfl dX8_readsRepeated_162 ?_
                    obtain ⟨hix, hf⟩ := ix_e hf
                    obtain ⟨σ_36, eσ_36, hf⟩ := vl_e hf
                    refine mm_ast hx hb hG hI hS (ly_at hL 6 rfl) hix rfl dX8_readsRepeated_163 (fun H locs hI hS => ?_)
                    rw [← eσ_36] at hI
                    obtain ⟨x_37, ex_37, hf⟩ := vl_e hf
                    refine lv_iinc (v := x_37) (lv' := [(5, .int x_37), (0, .ref (Z + 183)), (1, .int x_3), (3, .int x_15), (4, .int x_21)]) hx hb dX8_readsRepeated_164 hl (k := 4) rfl (by rw [ex_37]; rfl) (by decide) rfl (fun ls hl => ?_)
                    refine lv_goto (tgt := 113) hx hb dX8_readsRepeated_167 (by decide) ?_
                    obtain rfl := so_e hf
                    exact ih_27 x_37 σ_36 hk_28 _ _ _ hI hS (lv_sub hl [1, 2, 3, 4, 0] rfl)
              obtain ⟨σ_24, hy, hf⟩ := bi_e hf
              refine L_26 FU x_21 σ_20 _ hy ?_ _ _ _ hI hS (lv_sub hl [4, 5, 2, 1, 0] rfl)
              clear L_26
              intro H locs ls hI hS hl
              refine lv_aload_n hx hb dX8_readsRepeated_170 rfl (lv_at hl 0 rfl) ?_
              refine lv_iload_n hx hb dX8_readsRepeated_171 rfl (lv_at hl 2 rfl) ?_
              refine lv_iload_n hx hb dX8_readsRepeated_172 rfl (lv_at hl 1 rfl) ?_
              refine lv_iload hx hb dX8_readsRepeated_173 (lv_at hl 3 rfl) ?_
              refine lv_imul hx hb dX8_readsRepeated_175 ?_
              refine lv_iadd hx hb dX8_readsRepeated_176 ?_
              obtain ⟨σ_40, eσ_40, hf⟩ := vl_e hf
              refine pX8_87 hx hb hts hown hG hI hS hL dX8_readsRepeated_177 (fun H locs hI hS => ?_)
              rw [← eσ_40] at hI
              refine lv_iconst (v := 1) hx hb dX8_readsRepeated_180 (by decide) ?_
              obtain ⟨rfl, rfl⟩ := sp_e hf
              exact mm_zret hx hb hr hlocks (Or.inr rfl) hI hS dX8_readsRepeated_181
            · have hf := neg_e c_41 hf
              refine lv_iconst (v := 0) hx hb dX8_readsRepeated_89 (by decide) ?_
              obtain ⟨rfl, rfl⟩ := sp_e hf
              exact mm_zret hx hb hr hlocks (Or.inl rfl) hI hS dX8_readsRepeated_90
    clear ek_13
    refine lv_if_eq (tgt := 47) hx hb dX8_readsRepeated_31 (by decide) (fun c_48 => ?_) (fun c_48 => ?_)
    · have hf := pos_e c_48 hf
      refine lv_iconst (v := 0) hx hb dX8_readsRepeated_47 (by decide) ?_
      exact HJ_14 0 σ_6 _ _ _ hf hI hS (lv_sub hl [1, 0] rfl)
    · have hf := neg_e c_48 hf
      refine lv_aload_n hx hb dX8_readsRepeated_34 rfl (lv_at hl 1 rfl) ?_
      refine lv_bipush (v := 40) hx hb dX8_readsRepeated_35 (by decide) ?_
      obtain ⟨r_45, σ_46, hr_45, hf⟩ := b2_e hf
      refine kX8_84 hx hb hml hts hown hG hI hS hl.1 hL (As := [.int 40]) (c_X8_takes l D cI cS Z K hL 40 σ_6 _ _ hr_45) ⟨(Nat.le_of_ble_eq_true rfl), (Nat.le_of_ble_eq_true rfl)⟩ rfl (Nat.le_of_ble_eq_true rfl) ⟨(Nat.le_of_ble_eq_true rfl), (Nat.le_of_ble_eq_true rfl)⟩ dX8_readsRepeated_37 (fun hzr_45 H locs hI hS => ?_)
      refine lv_if_eq (tgt := 47) hx hb dX8_readsRepeated_40 (by decide) (fun c_47 => ?_) (fun c_47 => ?_)
      · have hf := pos_e c_47 hf
        refine lv_iconst (v := 0) hx hb dX8_readsRepeated_47 (by decide) ?_
        exact HJ_14 0 σ_46 _ _ _ hf hI hS (lv_sub hl [1, 0] rfl)
      · have hf := neg_e c_47 hf
        refine lv_iconst (v := 1) hx hb dX8_readsRepeated_43 (by decide) ?_
        refine lv_goto (tgt := 48) hx hb dX8_readsRepeated_44 (by decide) ?_
        exact HJ_14 1 σ_46 _ _ _ hf hI hS (lv_sub hl [1, 0] rfl)
  · have hf := neg_e c_49 hf
    refine lv_iconst (v := 0) hx hb dX8_readsRepeated_13 (by decide) ?_
    obtain ⟨rfl, rfl⟩ := sp_e hf
    exact mm_zret hx hb hr hlocks (Or.inl rfl) hI hS dX8_readsRepeated_14
def f_X8_readsPart  (σ : Nat → Nat → Int32) : Option (Int32 × (Nat → Nat → Int32)) := b2 (f_X8_isNumber σ) fun r_1 σ_2 => if r_1 = 0 then (b2 (f_X8_readsBar σ_2) fun r_3 σ_4 => some (r_3, σ_4)) else (b2 (f_X8_readsRepeated σ_2) fun r_5 σ_6 => some (r_5, σ_6))
set_option maxHeartbeats 4000000 in
set_option maxRecDepth 100000 in
theorem c_X8_readsPart (l : Launch) (D : va_G) (cI cS : ClassId) (Z : Nat) (K : Nat → Nat) (hL : ly K 183 lyModel) (σ : Nat → Nat → Int32) (r : Int32) (σ' : Nat → Nat → Int32) (hf : f_X8_readsPart σ = some (r, σ')) : Met l yX8_readsPart (wsT yX8_readsPart cX8_readsPart 1 (some .boolean)) { frames := 6, cells := 0, slots := 0, locals := 133 } (Pm D cI cS Z K [.ref (Z + 183)] σ) (Qz D cI cS Z K r σ') 0 0 (aZ Z) := by
  refine mm_met (lv := [(0, .ref (Z + 183))]) (by decide) (Nat.le_of_ble_eq_true rfl) rfl ?_
  intro p e s m args below meth c ls hx hb hr hml hts hown hlocks hG hl hI hS
  have hown : s.vm.findClass RX8 = some m.cls := hown
  rw [f_X8_readsPart] at hf
  refine lv_aload_n hx hb dX8_readsPart_0 rfl (lv_at hl 0 rfl) ?_
  obtain ⟨r_1, σ_2, hr_1, hf⟩ := b2_e hf
  refine kX8_99 hx hb hml hts hown hG hI hS hl.1 hL (As := []) (c_X8_isNumber l D cI cS Z K hL σ _ _ hr_1) ⟨(Nat.le_of_ble_eq_true rfl), (Nat.le_of_ble_eq_true rfl)⟩ rfl (Nat.le_of_ble_eq_true rfl) ⟨(Nat.le_of_ble_eq_true rfl), (Nat.le_of_ble_eq_true rfl)⟩ dX8_readsPart_1 (fun hzr_1 H locs hI hS => ?_)
  refine lv_if_eq (tgt := 14) hx hb dX8_readsPart_4 (by decide) (fun c_7 => ?_) (fun c_7 => ?_)
  · have hf := pos_e c_7 hf
    refine lv_aload_n hx hb dX8_readsPart_14 rfl (lv_at hl 0 rfl) ?_
    obtain ⟨r_3, σ_4, hr_3, hf⟩ := b2_e hf
    refine kX8_93 hx hb hml hts hown hG hI hS hl.1 hL (As := []) (c_X8_readsBar l D cI cS Z K hL σ_2 _ _ hr_3) ⟨(Nat.le_of_ble_eq_true rfl), (Nat.le_of_ble_eq_true rfl)⟩ rfl (Nat.le_of_ble_eq_true rfl) ⟨(Nat.le_of_ble_eq_true rfl), (Nat.le_of_ble_eq_true rfl)⟩ dX8_readsPart_15 (fun hzr_3 H locs hI hS => ?_)
    obtain ⟨rfl, rfl⟩ := sp_e hf
    exact mm_zret hx hb hr hlocks hzr_3 hI hS dX8_readsPart_18
  · have hf := neg_e c_7 hf
    refine lv_aload_n hx hb dX8_readsPart_7 rfl (lv_at hl 0 rfl) ?_
    obtain ⟨r_5, σ_6, hr_5, hf⟩ := b2_e hf
    refine kX8_102 hx hb hml hts hown hG hI hS hl.1 hL (As := []) (c_X8_readsRepeated l D cI cS Z K hL σ_2 _ _ hr_5) ⟨(Nat.le_of_ble_eq_true rfl), (Nat.le_of_ble_eq_true rfl)⟩ rfl (Nat.le_of_ble_eq_true rfl) ⟨(Nat.le_of_ble_eq_true rfl), (Nat.le_of_ble_eq_true rfl)⟩ dX8_readsPart_8 (fun hzr_5 H locs hI hS => ?_)
    refine lv_goto (tgt := 18) hx hb dX8_readsPart_11 (by decide) ?_
    obtain ⟨rfl, rfl⟩ := sp_e hf
    exact mm_zret hx hb hr hlocks hzr_5 hI hS dX8_readsPart_18
def b_X8_load_20  : Int32 × (Nat → Nat → Int32) → Option ((Int32 × (Nat → Nat → Int32)) ⊕ (Int32 × (Nat → Nat → Int32)))
  | (y_6, σ_7) => if y_6 = 0 then (some (.inr (y_6, σ_7))) else (b2 (f_X8_takes 59 σ_7) fun r_22 σ_23 => if r_22 = 0 then (some (.inr (y_6, σ_23))) else (b2 (f_X8_readsPart σ_23) fun r_24 σ_25 => some (.inl (r_24, σ_25))))
def b_X8_load_83  : Int32 × (Nat → Nat → Int32) → Option ((Int32 × (Nat → Nat → Int32)) ⊕ ((Nat → Nat → Int32)))
  | (y_65, σ_66) => if (σ_66 183 9) ≤ y_65 then (some (.inr σ_66)) else (ix y_65 24 <| ix y_65 24 <| bi (f_X8_makeBar y_65 (σ_66 188 y_65.toNatClampNeg) (σ_66 189 y_65.toNatClampNeg) σ_66) fun σ_79 => vl (y_65 + 1) fun x_80 => some (.inl (x_80, σ_79)))
def f_X8_load  (σ : Nat → Nat → Int32) : Option (Int32 × (Nat → Nat → Int32)) := vl (wr σ 183 0 0) fun σ_1 => vl (wr σ_1 183 9 0) fun σ_2 => vl (wr σ_2 183 10 0) fun σ_3 => b2 (f_X8_readsPart σ_3) fun r_4 σ_5 => b2 (lp (b_X8_load_20) FU (r_4, σ_5)) fun z_8 σ_9 => jn (α := (Nat → Nat → Int32) → _) (fun k_57 => if z_8 = 0 then (k_57 σ_9) else (b2 (f_X8_here σ_9) fun r_59 σ_60 => if r_59 < 0 then (bi (f_X8_act σ_60) fun σ_62 => vl (wr σ_62 184 2 (σ_62 183 9)) fun σ_63 => vl (wr σ_63 184 3 0) fun σ_64 => bi (lp (b_X8_load_83) FU (0, σ_64)) fun σ_67 => vl (wr σ_67 183 6 0) fun σ_83 => some (σ_83 183 9, σ_83)) else (k_57 σ_60))) (fun σ_56 => some ((-10) - (σ_56 183 10), σ_56))
set_option maxHeartbeats 4000000 in
set_option maxRecDepth 100000 in
theorem c_X8_load (l : Launch) (D : va_G) (cI cS : ClassId) (Z : Nat) (K : Nat → Nat) (hL : ly K 183 lyModel) (σ : Nat → Nat → Int32) (r : Int32) (σ' : Nat → Nat → Int32) (hf : f_X8_load σ = some (r, σ')) : Met l yX8_load (wsT yX8_load cX8_load 3 (some .int)) { frames := 7, cells := 0, slots := 0, locals := 153 } (Pm D cI cS Z K [.ref (Z + 183)] σ) (Qi D cI cS Z K r σ') 0 0 (aZ Z) := by
  refine mm_met (lv := [(0, .ref (Z + 183))]) (by decide) (Nat.le_of_ble_eq_true rfl) rfl ?_
  intro p e s m args below meth c ls hx hb hr hml hts hown hlocks hG hl hI hS
  have hown : s.vm.findClass RX8 = some m.cls := hown
  rw [f_X8_load] at hf
  refine lv_aload_n hx hb dX8_load_0 rfl (lv_at hl 0 rfl) ?_
  refine lv_iconst (v := 0) hx hb dX8_load_1 (by decide) ?_
  obtain ⟨σ_1, eσ_1, hf⟩ := vl_e hf
  refine pX8_28 hx hb hts hown hG hI hS hL dX8_load_2 (fun H locs hI hS => ?_)
  rw [← eσ_1] at hI
  refine lv_aload_n hx hb dX8_load_5 rfl (lv_at hl 0 rfl) ?_
  refine lv_iconst (v := 0) hx hb dX8_load_6 (by decide) ?_
  obtain ⟨σ_2, eσ_2, hf⟩ := vl_e hf
  refine pX8_87 hx hb hts hown hG hI hS hL dX8_load_7 (fun H locs hI hS => ?_)
  rw [← eσ_2] at hI
  refine lv_aload_n hx hb dX8_load_10 rfl (lv_at hl 0 rfl) ?_
  refine lv_iconst (v := 0) hx hb dX8_load_11 (by decide) ?_
  obtain ⟨σ_3, eσ_3, hf⟩ := vl_e hf
  refine pX8_73 hx hb hts hown hG hI hS hL dX8_load_12 (fun H locs hI hS => ?_)
  rw [← eσ_3] at hI
  refine lv_aload_n hx hb dX8_load_15 rfl (lv_at hl 0 rfl) ?_
  obtain ⟨r_4, σ_5, hr_4, hf⟩ := b2_e hf
  refine kX8_105 hx hb hml hts hown hG hI hS hl.1 hL (As := []) (c_X8_readsPart l D cI cS Z K hL σ_3 _ _ hr_4) ⟨(Nat.le_of_ble_eq_true rfl), (Nat.le_of_ble_eq_true rfl)⟩ rfl (Nat.le_of_ble_eq_true rfl) ⟨(Nat.le_of_ble_eq_true rfl), (Nat.le_of_ble_eq_true rfl)⟩ dX8_load_16 (fun hzr_4 H locs hI hS => ?_)
  refine lv_istore_n (lv' := [(1, .int r_4), (0, .ref (Z + 183))]) hx hb dX8_load_19 rfl hl (by decide) rfl (fun ls hl => ?_)
  have L_11 : ∀ (nn : Nat) (y_6 : Int32) (σ_7 : Nat → Nat → Int32) (z_8 : Int32) (σ_9 : Nat → Nat → Int32), lp (b_X8_load_20) nn (y_6, σ_7) = some (z_8, σ_9) → (∀ (H : Heap) (locs : List Loc) (ls : Array Slot), fI D cI cS Z K σ_9 H → va_S (aZ Z) s.heap H locs → lv_has ls 3 [(0, .ref (Z + 183)), (1, .int z_8)] → W p l e { frames := 7, cells := 0, slots := 0, locals := 153 } s m args below meth c H locs 0 0 (MQ below (Qi D cI cS Z K r σ') args s 0 0 (aZ Z)) (F0 m 41 ls [])) → ∀ (H : Heap) (locs : List Loc) (ls : Array Slot), fI D cI cS Z K σ_7 H → va_S (aZ Z) s.heap H locs → lv_has ls 3 [(0, .ref (Z + 183)), (1, .int y_6)] → W p l e { frames := 7, cells := 0, slots := 0, locals := 153 } s m args below meth c H locs 0 0 (MQ below (Qi D cI cS Z K r σ') args s 0 0 (aZ Z)) (F0 m 20 ls []) := by
    intro nn
    induction nn with
    | zero =>
      intro y_6 σ_7 z_8 σ_9 hq
      exact (lp_0 hq).elim
    | succ nn ih_12 =>
      intro y_6 σ_7 z_8 σ_9 hq kn_14 H locs ls hI hS hl
      obtain ⟨w_10, hf, hk_13⟩ := lp_e hq
      rw [b_X8_load_20] at hf
      have ih_12 := fun (y_6 : Int32) (σ_7 : Nat → Nat → Int32) q => ih_12 y_6 σ_7 z_8 σ_9 q kn_14
      refine lv_iload_n hx hb dX8_load_20 rfl (lv_at hl 1 rfl) ?_
      refine lv_if_eq (tgt := 41) hx hb dX8_load_21 (by decide) (fun c_27 => ?_) (fun c_27 => ?_)
      · have hf := pos_e c_27 hf
        obtain rfl := so_e hf
        obtain ⟨rfl, rfl⟩ := q2_e (lk_r hk_13)
        exact kn_14 _ _ _ hI hS (lv_sub hl [0, 1] rfl)
      · have hf := neg_e c_27 hf
        refine lv_aload_n hx hb dX8_load_24 rfl (lv_at hl 0 rfl) ?_
        refine lv_bipush (v := 59) hx hb dX8_load_25 (by decide) ?_
        obtain ⟨r_22, σ_23, hr_22, hf⟩ := b2_e hf
        refine kX8_84 hx hb hml hts hown hG hI hS hl.1 hL (As := [.int 59]) (c_X8_takes l D cI cS Z K hL 59 σ_7 _ _ hr_22) ⟨(Nat.le_of_ble_eq_true rfl), (Nat.le_of_ble_eq_true rfl)⟩ rfl (Nat.le_of_ble_eq_true rfl) ⟨(Nat.le_of_ble_eq_true rfl), (Nat.le_of_ble_eq_true rfl)⟩ dX8_load_27 (fun hzr_22 H locs hI hS => ?_)
        refine lv_if_eq (tgt := 41) hx hb dX8_load_30 (by decide) (fun c_26 => ?_) (fun c_26 => ?_)
        · have hf := pos_e c_26 hf
          obtain rfl := so_e hf
          obtain ⟨rfl, rfl⟩ := q2_e (lk_r hk_13)
          exact kn_14 _ _ _ hI hS (lv_sub hl [0, 1] rfl)
        · have hf := neg_e c_26 hf
          refine lv_aload_n hx hb dX8_load_33 rfl (lv_at hl 0 rfl) ?_
          obtain ⟨r_24, σ_25, hr_24, hf⟩ := b2_e hf
          refine kX8_105 hx hb hml hts hown hG hI hS hl.1 hL (As := []) (c_X8_readsPart l D cI cS Z K hL σ_23 _ _ hr_24) ⟨(Nat.le_of_ble_eq_true rfl), (Nat.le_of_ble_eq_true rfl)⟩ rfl (Nat.le_of_ble_eq_true rfl) ⟨(Nat.le_of_ble_eq_true rfl), (Nat.le_of_ble_eq_true rfl)⟩ dX8_load_34 (fun hzr_24 H locs hI hS => ?_)
          refine lv_istore_n (lv' := [(1, .int r_24), (0, .ref (Z + 183))]) hx hb dX8_load_37 rfl hl (by decide) rfl (fun ls hl => ?_)
          refine lv_goto (tgt := 20) hx hb dX8_load_38 (by decide) ?_
          obtain rfl := so_e hf
          exact ih_12 r_24 σ_25 hk_13 _ _ _ hI hS (lv_sub hl [1, 0] rfl)
  obtain ⟨z_8, σ_9, hy, hf⟩ := b2_e hf
  refine L_11 FU r_4 σ_5 _ _ hy ?_ _ _ _ hI hS (lv_sub hl [1, 0] rfl)
  clear L_11
  intro H locs ls hI hS hl
  refine lv_iload_n hx hb dX8_load_41 rfl (lv_at hl 1 rfl) ?_
  obtain ⟨k_57, ek_57, hf⟩ := jn_e hf
  have HJ_58 : ∀ (σ_56 : Nat → Nat → Int32) (H : Heap) (locs : List Loc) (ls : Array Slot), k_57 σ_56 = some (r, σ') → fI D cI cS Z K σ_56 H → va_S (aZ Z) s.heap H locs → lv_has ls 3 [(0, .ref (Z + 183))] → W p l e { frames := 7, cells := 0, slots := 0, locals := 153 } s m args below meth c H locs 0 0 (MQ below (Qi D cI cS Z K r σ') args s 0 0 (aZ Z)) (F0 m 52 ls []) := by
    intro σ_56 H locs ls hf hI hS hl
    have hf := jb1 ek_57 hf
    refine lv_bipush (v := (-10)) hx hb dX8_load_52 (by decide) ?_
    refine lv_aload_n hx hb dX8_load_54 rfl (lv_at hl 0 rfl) ?_
    refine gX8_73 hx hb hts hown hG hI hL dX8_load_55 ?_
    refine lv_isub hx hb dX8_load_58 ?_
    obtain ⟨rfl, rfl⟩ := sp_e hf
    exact mm_ret hx hb hr hlocks rfl hI hS dX8_load_59
  clear ek_57
  refine lv_if_eq (tgt := 52) hx hb dX8_load_42 (by decide) (fun c_85 => ?_) (fun c_85 => ?_)
  · have hf := pos_e c_85 hf
    exact HJ_58 σ_9 _ _ _ hf hI hS (lv_sub hl [0] rfl)
  · have hf := neg_e c_85 hf
    refine lv_aload_n hx hb dX8_load_45 rfl (lv_at hl 0 rfl) ?_
    obtain ⟨r_59, σ_60, hr_59, hf⟩ := b2_e hf
    refine kX8_76 hx hb hml hts hown hG hI hS hl.1 hL (As := []) (c_X8_here l D cI cS Z K hL σ_9 _ _ hr_59) ⟨(Nat.le_of_ble_eq_true rfl), (Nat.le_of_ble_eq_true rfl)⟩ rfl (Nat.le_of_ble_eq_true rfl) ⟨(Nat.le_of_ble_eq_true rfl), (Nat.le_of_ble_eq_true rfl)⟩ dX8_load_46 (fun H locs hI hS => ?_)
    refine lv_if_lt (tgt := 60) hx hb dX8_load_49 (by decide) (fun c_84 => ?_) (fun c_84 => ?_)
    · have hf := pos_e c_84 hf
      refine lv_aload_n hx hb dX8_load_60 rfl (lv_at hl 0 rfl) ?_
      obtain ⟨σ_62, hσ_62, hf⟩ := bi_e hf
      refine kX8_43 hx hb hml hts hown hG hI hS hl.1 hL (As := []) (c_X8_act l D cI cS Z K hL σ_60 _ hσ_62) ⟨(Nat.le_of_ble_eq_true rfl), (Nat.le_of_ble_eq_true rfl)⟩ rfl (Nat.le_of_ble_eq_true rfl) ⟨(Nat.le_of_ble_eq_true rfl), (Nat.le_of_ble_eq_true rfl)⟩ dX8_load_61 (fun H locs hI hS => ?_)
      refine lv_aload_n hx hb dX8_load_64 rfl (lv_at hl 0 rfl) ?_
      refine gX8_7 (o' := 184) hx hb hts hown hG hI hL rfl dX8_load_65 ?_
      refine lv_iconst (v := 2) hx hb dX8_load_68 (by decide) ?_
      refine lv_aload_n hx hb dX8_load_69 rfl (lv_at hl 0 rfl) ?_
      refine gX8_87 hx hb hts hown hG hI hL dX8_load_70 ?_
      obtain ⟨σ_63, eσ_63, hf⟩ := vl_e hf
      refine mm_ast (k := 2) (n := 456) hx hb hG hI hS (ly_at hL 1 rfl) (by decide) rfl dX8_load_73 (fun H locs hI hS => ?_)
      rw [← eσ_63] at hI
      refine lv_aload_n hx hb dX8_load_74 rfl (lv_at hl 0 rfl) ?_
      refine gX8_7 (o' := 184) hx hb hts hown hG hI hL rfl dX8_load_75 ?_
      refine lv_iconst (v := 3) hx hb dX8_load_78 (by decide) ?_
      refine lv_iconst (v := 0) hx hb dX8_load_79 (by decide) ?_
      obtain ⟨σ_64, eσ_64, hf⟩ := vl_e hf
      refine mm_ast (k := 3) (n := 456) hx hb hG hI hS (ly_at hL 1 rfl) (by decide) rfl dX8_load_80 (fun H locs hI hS => ?_)
      rw [← eσ_64] at hI
      refine lv_iconst (v := 0) hx hb dX8_load_81 (by decide) ?_
      refine lv_istore_n (lv' := [(2, .int 0), (0, .ref (Z + 183)), (1, .int z_8)]) hx hb dX8_load_82 rfl hl (by decide) rfl (fun ls hl => ?_)
      have L_69 : ∀ (nn : Nat) (y_65 : Int32) (σ_66 : Nat → Nat → Int32) (σ_67 : Nat → Nat → Int32), lp (b_X8_load_83) nn (y_65, σ_66) = some σ_67 → (∀ (H : Heap) (locs : List Loc) (ls : Array Slot), fI D cI cS Z K σ_67 H → va_S (aZ Z) s.heap H locs → lv_has ls 3 [(0, .ref (Z + 183))] → W p l e { frames := 7, cells := 0, slots := 0, locals := 153 } s m args below meth c H locs 0 0 (MQ below (Qi D cI cS Z K r σ') args s 0 0 (aZ Z)) (F0 m 114 ls [])) → ∀ (H : Heap) (locs : List Loc) (ls : Array Slot), fI D cI cS Z K σ_66 H → va_S (aZ Z) s.heap H locs → lv_has ls 3 [(0, .ref (Z + 183)), (2, .int y_65)] → W p l e { frames := 7, cells := 0, slots := 0, locals := 153 } s m args below meth c H locs 0 0 (MQ below (Qi D cI cS Z K r σ') args s 0 0 (aZ Z)) (F0 m 83 ls []) := by
        intro nn
        induction nn with
        | zero =>
          intro y_65 σ_66 σ_67 hq
          exact (lp_0 hq).elim
        | succ nn ih_70 =>
          intro y_65 σ_66 σ_67 hq kn_72 H locs ls hI hS hl
          obtain ⟨w_68, hf, hk_71⟩ := lp_e hq
          rw [b_X8_load_83] at hf
          have ih_70 := fun (y_65 : Int32) (σ_66 : Nat → Nat → Int32) q => ih_70 y_65 σ_66 σ_67 q kn_72
          refine lv_iload_n hx hb dX8_load_83 rfl (lv_at hl 1 rfl) ?_
          refine lv_aload_n hx hb dX8_load_84 rfl (lv_at hl 0 rfl) ?_
          refine gX8_87 hx hb hts hown hG hI hL dX8_load_85 ?_
          refine lv_icmp_ge (tgt := 114) hx hb dX8_load_88 (by decide) (fun c_81 => ?_) (fun c_81 => ?_)
          · have hf := pos_e c_81 hf
            obtain rfl := so_e hf
            obtain rfl := lk_r hk_71
            exact kn_72 _ _ _ hI hS (lv_sub hl [0] rfl)
          · have hf := neg_e c_81 hf
            refine lv_aload_n hx hb dX8_load_91 rfl (lv_at hl 0 rfl) ?_
            refine lv_iload_n hx hb dX8_load_92 rfl (lv_at hl 1 rfl) ?_
            refine lv_aload_n hx hb dX8_load_93 rfl (lv_at hl 0 rfl) ?_
            refine gX8_22 (o' := 188) hx hb hts hown hG hI hL rfl dX8_load_94 ?_
            refine lv_iload_n hx hb dX8_load_97 rfl (lv_at hl 1 rfl) ?_
            obtain ⟨hix, hf⟩ := ix_e hf
            refine mm_ald hx hb hG hI (ly_at hL 5 rfl) hix rfl dX8_load_98 ?_
            refine lv_aload_n hx hb dX8_load_99 rfl (lv_at hl 0 rfl) ?_
            refine gX8_25 (o' := 189) hx hb hts hown hG hI hL rfl dX8_load_100 ?_
            refine lv_iload_n hx hb dX8_load_103 rfl (lv_at hl 1 rfl) ?_
            obtain ⟨hix, hf⟩ := ix_e hf
            refine mm_ald hx hb hG hI (ly_at hL 6 rfl) hix rfl dX8_load_104 ?_
            obtain ⟨σ_79, hσ_79, hf⟩ := bi_e hf
            refine kX8_63 hx hb hml hts hown hG hI hS hl.1 hL (As := [.int y_65, .int (σ_66 188 y_65.toNatClampNeg), .int (σ_66 189 y_65.toNatClampNeg)]) (c_X8_makeBar l D cI cS Z K hL y_65 (σ_66 188 y_65.toNatClampNeg) (σ_66 189 y_65.toNatClampNeg) σ_66 _ hσ_79) ⟨(Nat.le_of_ble_eq_true rfl), (Nat.le_of_ble_eq_true rfl)⟩ rfl (Nat.le_of_ble_eq_true rfl) ⟨(Nat.le_of_ble_eq_true rfl), (Nat.le_of_ble_eq_true rfl)⟩ dX8_load_105 (fun H locs hI hS => ?_)
            obtain ⟨x_80, ex_80, hf⟩ := vl_e hf
            refine lv_iinc (v := x_80) (lv' := [(2, .int x_80), (0, .ref (Z + 183))]) hx hb dX8_load_108 hl (k := 1) rfl (by rw [ex_80]; rfl) (by decide) rfl (fun ls hl => ?_)
            refine lv_goto (tgt := 83) hx hb dX8_load_111 (by decide) ?_
            obtain rfl := so_e hf
            exact ih_70 x_80 σ_79 hk_71 _ _ _ hI hS (lv_sub hl [1, 0] rfl)
      obtain ⟨σ_67, hy, hf⟩ := bi_e hf
      refine L_69 FU 0 σ_64 _ hy ?_ _ _ _ hI hS (lv_sub hl [1, 0] rfl)
      clear L_69
      intro H locs ls hI hS hl
      refine lv_aload_n hx hb dX8_load_114 rfl (lv_at hl 0 rfl) ?_
      refine lv_iconst (v := 0) hx hb dX8_load_115 (by decide) ?_
      obtain ⟨σ_83, eσ_83, hf⟩ := vl_e hf
      refine pX8_70 hx hb hts hown hG hI hS hL dX8_load_116 (fun H locs hI hS => ?_)
      rw [← eσ_83] at hI
      refine lv_aload_n hx hb dX8_load_119 rfl (lv_at hl 0 rfl) ?_
      refine gX8_87 hx hb hts hown hG hI hL dX8_load_120 ?_
      obtain ⟨rfl, rfl⟩ := sp_e hf
      exact mm_ret hx hb hr hlocks rfl hI hS dX8_load_123
    · have hf := neg_e c_84 hf
      exact HJ_58 σ_60 _ _ _ hf hI hS (lv_sub hl [0] rfl)
def f_X8_onward  (σ : Nat → Nat → Int32) : Option Int32 := if (σ 184 4) = 0 then (some 1) else (some (-1))
set_option maxHeartbeats 4000000 in
set_option maxRecDepth 100000 in
theorem c_X8_onward (l : Launch) (D : va_G) (cI cS : ClassId) (Z : Nat) (K : Nat → Nat) (hL : ly K 183 lyModel) (σ : Nat → Nat → Int32) (r : Int32) (hf : f_X8_onward σ = some r) : Met l yX8_onward (wsT yX8_onward cX8_onward 1 (some .int)) { frames := 0, cells := 0, slots := 0, locals := 0 } (Pm D cI cS Z K [.ref (Z + 183)] σ) (Qi D cI cS Z K r σ) 0 0 (aZ Z) := by
  refine mm_met (lv := [(0, .ref (Z + 183))]) (by decide) (Nat.le_of_ble_eq_true rfl) rfl ?_
  intro p e s m args below meth c ls hx hb hr hml hts hown hlocks hG hl hI hS
  have hown : s.vm.findClass RX8 = some m.cls := hown
  rw [f_X8_onward] at hf
  refine lv_aload_n hx hb dX8_onward_0 rfl (lv_at hl 0 rfl) ?_
  refine gX8_7 (o' := 184) hx hb hts hown hG hI hL rfl dX8_onward_1 ?_
  refine lv_iconst (v := 4) hx hb dX8_onward_4 (by decide) ?_
  refine mm_ald (k := 4) (n := 456) hx hb hG hI (ly_at hL 1 rfl) (by decide) rfl dX8_onward_5 ?_
  refine lv_if_ne (tgt := 13) hx hb dX8_onward_6 (by decide) (fun c_1 => ?_) (fun c_1 => ?_)
  · have hf := neg_e c_1 hf
    refine lv_iconst (v := (-1)) hx hb dX8_onward_13 (by decide) ?_
    obtain rfl := so_e hf
    exact mm_ret hx hb hr hlocks rfl hI hS dX8_onward_14
  · have hf := pos_e c_1 hf
    refine lv_iconst (v := 1) hx hb dX8_onward_9 (by decide) ?_
    refine lv_goto (tgt := 14) hx hb dX8_onward_10 (by decide) ?_
    obtain rfl := so_e hf
    exact mm_ret hx hb hr hlocks rfl hI hS dX8_onward_14
def f_X8_step (a1 : Int32) (σ : Nat → Nat → Int32) : Option (Nat → Nat → Int32) := nz (σ 184 2) <| vl (wr σ 184 3 ((((σ 184 3) + a1) + (σ 184 2)) - (((σ 184 3) + a1) + (σ 184 2)) / (σ 184 2) * (σ 184 2))) fun σ_1 => some σ_1
set_option maxHeartbeats 4000000 in
set_option maxRecDepth 100000 in
theorem c_X8_step (l : Launch) (D : va_G) (cI cS : ClassId) (Z : Nat) (K : Nat → Nat) (hL : ly K 183 lyModel) (a1 : Int32) (σ : Nat → Nat → Int32) (σ' : Nat → Nat → Int32) (hf : f_X8_step a1 σ = some σ') : Met l yX8_step (wsT yX8_step cX8_step 2 none) { frames := 0, cells := 0, slots := 0, locals := 0 } (Pm D cI cS Z K [.ref (Z + 183), .int a1] σ) (Qv D cI cS Z K σ') 0 0 (aZ Z) := by
  refine mm_met (lv := [(0, .ref (Z + 183)), (1, .int a1)]) (by decide) (Nat.le_of_ble_eq_true rfl) rfl ?_
  intro p e s m args below meth c ls hx hb hr hml hts hown hlocks hG hl hI hS
  have hown : s.vm.findClass RX8 = some m.cls := hown
  rw [f_X8_step] at hf
  refine lv_aload_n hx hb dX8_step_0 rfl (lv_at hl 0 rfl) ?_
  refine gX8_7 (o' := 184) hx hb hts hown hG hI hL rfl dX8_step_1 ?_
  refine lv_iconst (v := 3) hx hb dX8_step_4 (by decide) ?_
  refine lv_aload_n hx hb dX8_step_5 rfl (lv_at hl 0 rfl) ?_
  refine gX8_7 (o' := 184) hx hb hts hown hG hI hL rfl dX8_step_6 ?_
  refine lv_iconst (v := 3) hx hb dX8_step_9 (by decide) ?_
  refine mm_ald (k := 3) (n := 456) hx hb hG hI (ly_at hL 1 rfl) (by decide) rfl dX8_step_10 ?_
  refine lv_iload_n hx hb dX8_step_11 rfl (lv_at hl 1 rfl) ?_
  refine lv_iadd hx hb dX8_step_12 ?_
  refine lv_aload_n hx hb dX8_step_13 rfl (lv_at hl 0 rfl) ?_
  refine gX8_7 (o' := 184) hx hb hts hown hG hI hL rfl dX8_step_14 ?_
  refine lv_iconst (v := 2) hx hb dX8_step_17 (by decide) ?_
  refine mm_ald (k := 2) (n := 456) hx hb hG hI (ly_at hL 1 rfl) (by decide) rfl dX8_step_18 ?_
  refine lv_iadd hx hb dX8_step_19 ?_
  refine lv_aload_n hx hb dX8_step_20 rfl (lv_at hl 0 rfl) ?_
  refine gX8_7 (o' := 184) hx hb hts hown hG hI hL rfl dX8_step_21 ?_
  refine lv_iconst (v := 2) hx hb dX8_step_24 (by decide) ?_
  refine mm_ald (k := 2) (n := 456) hx hb hG hI (ly_at hL 1 rfl) (by decide) rfl dX8_step_25 ?_
  obtain ⟨hnz, hf⟩ := nz_e hf
  refine lv_irem hx hb dX8_step_26 hnz ?_
  obtain ⟨σ_1, eσ_1, hf⟩ := vl_e hf
  refine mm_ast (k := 3) (n := 456) hx hb hG hI hS (ly_at hL 1 rfl) (by decide) rfl dX8_step_27 (fun H locs hI hS => ?_)
  rw [← eσ_1] at hI
  obtain rfl := so_e hf
  exact mm_vret hx hb hr hlocks hI hS dX8_step_28
def b_X8_pick_52 (x_2 : Int32) (x_3 : Int32) (r_5 : Int32) : Int32 × Int32 × Int32 × (Nat → Nat → Int32) → Option ((Int32 × Int32 × Int32 × (Nat → Nat → Int32)) ⊕ (Int32 × (Nat → Nat → Int32)))
  | (y_6, y_7, y_8, σ_9) => if (σ_9 184 1) ≤ y_8 then (some (.inr (y_6, σ_9))) else (if y_7 = 0 then (some (.inr (y_6, σ_9))) else (bi (f_X8_need x_2 r_5 y_8 σ_9) fun r_41 => ix (126 + x_3) 456 <| vl (α := Int32) (if (σ_9 184 (126 + x_3).toNatClampNeg) < r_41 then (0) else (1)) fun v_43 => ix (126 + x_3) 456 <| vl (α := Int32) (if v_43 = 0 then (0) else (r_41)) fun v_47 => ix (126 + x_3) 456 <| vl (wr σ_9 184 (126 + x_3).toNatClampNeg ((σ_9 184 (126 + x_3).toNatClampNeg) - v_47)) fun σ_50 => jn (α := Int32 → _) (fun k_54 => if v_43 = 0 then (k_54 0) else (bi (f_X8_endAt x_2 y_8 σ_50) fun r_58 => k_54 (1 <<< (r_58 &&& 31)))) (fun v_53 => vl (y_6 ||| v_53) fun x_56 => vl (y_8 + 1) fun x_57 => some (.inl (x_56, v_43, x_57, σ_50)))))
def f_X8_pick  (σ : Nat → Nat → Int32) : Option (Nat → Nat → Int32) := vl (σ 184 3) fun x_1 => vl (σ 184 5) fun x_2 => ix (102 + x_1) 456 <| vl (σ 184 (102 + x_1).toNatClampNeg) fun x_3 => ix (78 + x_1) 456 <| bi (f_X8_lifted (σ 184 (78 + x_1).toNatClampNeg) σ) fun r_4 => bi (f_X8_endsOn r_4 σ) fun r_5 => b2 (lp (b_X8_pick_52 x_2 x_3 r_5) FU (0, 1, 0, σ)) fun z_10 σ_11 => vl (136 + (5 * x_2)) fun x_65 => ix (x_65 + 0) 456 <| vl (wr σ_11 184 (x_65 + 0).toNatClampNeg x_3) fun σ_66 => ix (x_65 + 1) 456 <| vl (wr σ_66 184 (x_65 + 1).toNatClampNeg x_1) fun σ_67 => ix (x_65 + 2) 456 <| vl (wr σ_67 184 (x_65 + 2).toNatClampNeg (r_5 &&& z_10)) fun σ_68 => ix (x_65 + 3) 456 <| vl (wr σ_68 184 (x_65 + 3).toNatClampNeg z_10) fun σ_69 => ix (78 + x_1) 456 <| bi (f_X8_endsOn (σ_69 184 (78 + x_1).toNatClampNeg) σ_69) fun r_70 => ix (x_65 + 4) 456 <| vl (wr σ_69 184 (x_65 + 4).toNatClampNeg r_70) fun σ_71 => vl (wr σ_71 184 5 ((σ_71 184 5) + 1)) fun σ_72 => bi (f_X8_onward σ_72) fun r_73 => bi (f_X8_step r_73 σ_72) fun σ_75 => some σ_75
set_option maxHeartbeats 4000000 in
set_option maxRecDepth 100000 in
theorem c_X8_pick (l : Launch) (D : va_G) (cI cS : ClassId) (Z : Nat) (K : Nat → Nat) (hL : ly K 183 lyModel) (σ : Nat → Nat → Int32) (σ' : Nat → Nat → Int32) (hf : f_X8_pick σ = some σ') : Met l yX8_pick (wsT yX8_pick cX8_pick 9 none) { frames := 2, cells := 0, slots := 0, locals := 45 } (Pm D cI cS Z K [.ref (Z + 183)] σ) (Qv D cI cS Z K σ') 0 0 (aZ Z) := by
  refine mm_met (lv := [(0, .ref (Z + 183))]) (by decide) (Nat.le_of_ble_eq_true rfl) rfl ?_
  intro p e s m args below meth c ls hx hb hr hml hts hown hlocks hG hl hI hS
  have hown : s.vm.findClass RX8 = some m.cls := hown
  rw [f_X8_pick] at hf
  refine lv_aload_n hx hb dX8_pick_0 rfl (lv_at hl 0 rfl) ?_
  refine gX8_7 (o' := 184) hx hb hts hown hG hI hL rfl dX8_pick_1 ?_
  refine lv_iconst (v := 3) hx hb dX8_pick_4 (by decide) ?_
  refine mm_ald (k := 3) (n := 456) hx hb hG hI (ly_at hL 1 rfl) (by decide) rfl dX8_pick_5 ?_
  obtain ⟨x_1, ex_1, hf⟩ := vl_e hf
  refine mm_name ex_1 ?_
  refine lv_istore_n (lv' := [(1, .int x_1), (0, .ref (Z + 183))]) hx hb dX8_pick_6 rfl hl (by decide) rfl (fun ls hl => ?_)
  refine lv_aload_n hx hb dX8_pick_7 rfl (lv_at hl 1 rfl) ?_
  refine gX8_7 (o' := 184) hx hb hts hown hG hI hL rfl dX8_pick_8 ?_
  refine lv_iconst (v := 5) hx hb dX8_pick_11 (by decide) ?_
  refine mm_ald (k := 5) (n := 456) hx hb hG hI (ly_at hL 1 rfl) (by decide) rfl dX8_pick_12 ?_
  obtain ⟨x_2, ex_2, hf⟩ := vl_e hf
  refine mm_name ex_2 ?_
  refine lv_istore_n (lv' := [(2, .int x_2), (1, .int x_1), (0, .ref (Z + 183))]) hx hb dX8_pick_13 rfl hl (by decide) rfl (fun ls hl => ?_)
  refine lv_aload_n hx hb dX8_pick_14 rfl (lv_at hl 2 rfl) ?_
  refine gX8_7 (o' := 184) hx hb hts hown hG hI hL rfl dX8_pick_15 ?_
  refine lv_bipush (v := 102) hx hb dX8_pick_18 (by decide) ?_
  refine lv_iload_n hx hb dX8_pick_20 rfl (lv_at hl 1 rfl) ?_
  refine lv_iadd hx hb dX8_pick_21 ?_
  obtain ⟨hix, hf⟩ := ix_e hf
  refine mm_ald hx hb hG hI (ly_at hL 1 rfl) hix rfl dX8_pick_22 ?_
  obtain ⟨x_3, ex_3, hf⟩ := vl_e hf
  refine mm_name ex_3 ?_
  refine lv_istore_n (lv' := [(3, .int x_3), (2, .int x_2), (1, .int x_1), (0, .ref (Z + 183))]) hx hb dX8_pick_23 rfl hl (by decide) rfl (fun ls hl => ?_)
  refine lv_aload_n hx hb dX8_pick_24 rfl (lv_at hl 3 rfl) ?_
  refine lv_aload_n hx hb dX8_pick_25 rfl (lv_at hl 3 rfl) ?_
  refine lv_aload_n hx hb dX8_pick_26 rfl (lv_at hl 3 rfl) ?_
  refine gX8_7 (o' := 184) hx hb hts hown hG hI hL rfl dX8_pick_27 ?_
  refine lv_bipush (v := 78) hx hb dX8_pick_30 (by decide) ?_
  refine lv_iload_n hx hb dX8_pick_32 rfl (lv_at hl 2 rfl) ?_
  refine lv_iadd hx hb dX8_pick_33 ?_
  obtain ⟨hix, hf⟩ := ix_e hf
  refine mm_ald hx hb hG hI (ly_at hL 1 rfl) hix rfl dX8_pick_34 ?_
  obtain ⟨r_4, hr_4, hf⟩ := bi_e hf
  refine kX8_115 hx hb hml hts hown hG hI hS hl.1 hL (As := [.int (σ 184 (78 + x_1).toNatClampNeg)]) (c_X8_lifted l D cI cS Z K hL (σ 184 (78 + x_1).toNatClampNeg) σ _ hr_4) ⟨(Nat.le_of_ble_eq_true rfl), (Nat.le_of_ble_eq_true rfl)⟩ rfl (Nat.le_of_ble_eq_true rfl) ⟨(Nat.le_of_ble_eq_true rfl), (Nat.le_of_ble_eq_true rfl)⟩ dX8_pick_35 (fun H locs hI hS => ?_)
  obtain ⟨r_5, hr_5, hf⟩ := bi_e hf
  refine kX8_119 hx hb hml hts hown hG hI hS hl.1 hL (As := [.int r_4]) (c_X8_endsOn l D cI cS Z K hL r_4 σ _ hr_5) ⟨(Nat.le_of_ble_eq_true rfl), (Nat.le_of_ble_eq_true rfl)⟩ rfl (Nat.le_of_ble_eq_true rfl) ⟨(Nat.le_of_ble_eq_true rfl), (Nat.le_of_ble_eq_true rfl)⟩ dX8_pick_38 (fun H locs hI hS => ?_)
  refine lv_istore (lv' := [(4, .int r_5), (3, .int x_3), (2, .int x_2), (1, .int x_1), (0, .ref (Z + 183))]) hx hb dX8_pick_41 hl (by decide) rfl (fun ls hl => ?_)
  refine lv_iconst (v := 0) hx hb dX8_pick_43 (by decide) ?_
  refine lv_istore (lv' := [(5, .int 0), (4, .int r_5), (3, .int x_3), (2, .int x_2), (1, .int x_1), (0, .ref (Z + 183))]) hx hb dX8_pick_44 hl (by decide) rfl (fun ls hl => ?_)
  refine lv_iconst (v := 1) hx hb dX8_pick_46 (by decide) ?_
  refine lv_istore (lv' := [(6, .int 1), (5, .int 0), (4, .int r_5), (3, .int x_3), (2, .int x_2), (1, .int x_1), (0, .ref (Z + 183))]) hx hb dX8_pick_47 hl (by decide) rfl (fun ls hl => ?_)
  refine lv_iconst (v := 0) hx hb dX8_pick_49 (by decide) ?_
  refine lv_istore (lv' := [(7, .int 0), (6, .int 1), (5, .int 0), (4, .int r_5), (3, .int x_3), (2, .int x_2), (1, .int x_1), (0, .ref (Z + 183))]) hx hb dX8_pick_50 hl (by decide) rfl (fun ls hl => ?_)
  have L_13 : ∀ (nn : Nat) (y_6 : Int32) (y_7 : Int32) (y_8 : Int32) (σ_9 : Nat → Nat → Int32) (z_10 : Int32) (σ_11 : Nat → Nat → Int32), lp (b_X8_pick_52 x_2 x_3 r_5) nn (y_6, y_7, y_8, σ_9) = some (z_10, σ_11) → (∀ (H : Heap) (locs : List Loc) (ls : Array Slot), fI D cI cS Z K σ_11 H → va_S (aZ Z) s.heap H locs → lv_has ls 9 [(0, .ref (Z + 183)), (1, .int x_1), (2, .int x_2), (3, .int x_3), (4, .int r_5), (5, .int z_10)] → W p l e { frames := 2, cells := 0, slots := 0, locals := 45 } s m args below meth c H locs 0 0 (MQ below (Qv D cI cS Z K σ') args s 0 0 (aZ Z)) (F0 m 152 ls [])) → ∀ (H : Heap) (locs : List Loc) (ls : Array Slot), fI D cI cS Z K σ_9 H → va_S (aZ Z) s.heap H locs → lv_has ls 9 [(0, .ref (Z + 183)), (1, .int x_1), (2, .int x_2), (3, .int x_3), (4, .int r_5), (5, .int y_6), (6, .int y_7), (7, .int y_8)] → W p l e { frames := 2, cells := 0, slots := 0, locals := 45 } s m args below meth c H locs 0 0 (MQ below (Qv D cI cS Z K σ') args s 0 0 (aZ Z)) (F0 m 52 ls []) := by
    intro nn
    induction nn with
    | zero =>
      intro y_6 y_7 y_8 σ_9 z_10 σ_11 hq
      exact (lp_0 hq).elim
    | succ nn ih_14 =>
      intro y_6 y_7 y_8 σ_9 z_10 σ_11 hq kn_16 H locs ls hI hS hl
      obtain ⟨w_12, hf, hk_15⟩ := lp_e hq
      rw [b_X8_pick_52] at hf
      have ih_14 := fun (y_6 : Int32) (y_7 : Int32) (y_8 : Int32) (σ_9 : Nat → Nat → Int32) q => ih_14 y_6 y_7 y_8 σ_9 z_10 σ_11 q kn_16
      refine lv_iload hx hb dX8_pick_52 (lv_at hl 7 rfl) ?_
      refine lv_aload_n hx hb dX8_pick_54 rfl (lv_at hl 0 rfl) ?_
      refine gX8_7 (o' := 184) hx hb hts hown hG hI hL rfl dX8_pick_55 ?_
      refine lv_iconst (v := 1) hx hb dX8_pick_58 (by decide) ?_
      refine mm_ald (k := 1) (n := 456) hx hb hG hI (ly_at hL 1 rfl) (by decide) rfl dX8_pick_59 ?_
      refine lv_icmp_ge (tgt := 152) hx hb dX8_pick_60 (by decide) (fun c_63 => ?_) (fun c_63 => ?_)
      · have hf := pos_e c_63 hf
        obtain rfl := so_e hf
        obtain ⟨rfl, rfl⟩ := q2_e (lk_r hk_15)
        exact kn_16 _ _ _ hI hS (lv_sub hl [0, 1, 2, 3, 4, 5] rfl)
      · have hf := neg_e c_63 hf
        refine lv_iload hx hb dX8_pick_63 (lv_at hl 6 rfl) ?_
        refine lv_if_eq (tgt := 152) hx hb dX8_pick_65 (by decide) (fun c_62 => ?_) (fun c_62 => ?_)
        · have hf := pos_e c_62 hf
          obtain rfl := so_e hf
          obtain ⟨rfl, rfl⟩ := q2_e (lk_r hk_15)
          exact kn_16 _ _ _ hI hS (lv_sub hl [0, 1, 2, 3, 4, 5] rfl)
        · have hf := neg_e c_62 hf
          refine lv_aload_n hx hb dX8_pick_68 rfl (lv_at hl 0 rfl) ?_
          refine lv_iload_n hx hb dX8_pick_69 rfl (lv_at hl 2 rfl) ?_
          refine lv_iload hx hb dX8_pick_70 (lv_at hl 4 rfl) ?_
          refine lv_iload hx hb dX8_pick_72 (lv_at hl 7 rfl) ?_
          obtain ⟨r_41, hr_41, hf⟩ := bi_e hf
          refine kX8_122 hx hb hml hts hown hG hI hS hl.1 hL (As := [.int x_2, .int r_5, .int y_8]) (c_X8_need l D cI cS Z K hL x_2 r_5 y_8 σ_9 _ hr_41) ⟨(Nat.le_of_ble_eq_true rfl), (Nat.le_of_ble_eq_true rfl)⟩ rfl (Nat.le_of_ble_eq_true rfl) ⟨(Nat.le_of_ble_eq_true rfl), (Nat.le_of_ble_eq_true rfl)⟩ dX8_pick_74 (fun H locs hI hS => ?_)
          refine lv_istore (lv' := [(8, .int r_41), (0, .ref (Z + 183)), (1, .int x_1), (2, .int x_2), (3, .int x_3), (4, .int r_5), (5, .int y_6), (6, .int y_7), (7, .int y_8)]) hx hb dX8_pick_77 hl (by decide) rfl (fun ls hl => ?_)
          refine lv_aload_n hx hb dX8_pick_79 rfl (lv_at hl 1 rfl) ?_
          refine gX8_7 (o' := 184) hx hb hts hown hG hI hL rfl dX8_pick_80 ?_
          refine lv_bipush (v := 126) hx hb dX8_pick_83 (by decide) ?_
          refine lv_iload_n hx hb dX8_pick_85 rfl (lv_at hl 4 rfl) ?_
          refine lv_iadd hx hb dX8_pick_86 ?_
          obtain ⟨hix, hf⟩ := ix_e hf
          refine mm_ald hx hb hG hI (ly_at hL 1 rfl) hix rfl dX8_pick_87 ?_
          refine lv_iload hx hb dX8_pick_88 (lv_at hl 0 rfl) ?_
          obtain ⟨v_43, ev_43, hf⟩ := vl_e hf
          have HJ_45 : ∀ (H : Heap) (locs : List Loc) (ls : Array Slot), fI D cI cS Z K σ_9 H → va_S (aZ Z) s.heap H locs → lv_has ls 9 [(0, .ref (Z + 183)), (1, .int x_1), (2, .int x_2), (3, .int x_3), (4, .int r_5), (5, .int y_6), (7, .int y_8), (8, .int r_41)] → W p l e { frames := 2, cells := 0, slots := 0, locals := 45 } s m args below meth c H locs 0 0 (MQ below (Qv D cI cS Z K σ') args s 0 0 (aZ Z)) (F0 m 98 ls [.int v_43]) := by
            intro H locs ls hI hS hl
            refine lv_istore (lv' := [(6, .int v_43), (0, .ref (Z + 183)), (1, .int x_1), (2, .int x_2), (3, .int x_3), (4, .int r_5), (5, .int y_6), (7, .int y_8), (8, .int r_41)]) hx hb dX8_pick_98 hl (by decide) rfl (fun ls hl => ?_)
            refine lv_aload_n hx hb dX8_pick_100 rfl (lv_at hl 1 rfl) ?_
            refine gX8_7 (o' := 184) hx hb hts hown hG hI hL rfl dX8_pick_101 ?_
            refine lv_bipush (v := 126) hx hb dX8_pick_104 (by decide) ?_
            refine lv_iload_n hx hb dX8_pick_106 rfl (lv_at hl 4 rfl) ?_
            refine lv_iadd hx hb dX8_pick_107 ?_
            refine lv_dup2_11 hx hb dX8_pick_108 rfl rfl ?_
            obtain ⟨hix, hf⟩ := ix_e hf
            refine mm_ald hx hb hG hI (ly_at hL 1 rfl) hix rfl dX8_pick_109 ?_
            refine lv_iload hx hb dX8_pick_110 (lv_at hl 0 rfl) ?_
            obtain ⟨v_47, ev_47, hf⟩ := vl_e hf
            have HJ_49 : ∀ (H : Heap) (locs : List Loc) (ls : Array Slot), fI D cI cS Z K σ_9 H → va_S (aZ Z) s.heap H locs → lv_has ls 9 [(0, .ref (Z + 183)), (1, .int x_1), (2, .int x_2), (3, .int x_3), (4, .int r_5), (5, .int y_6), (6, .int v_43), (7, .int y_8)] → W p l e { frames := 2, cells := 0, slots := 0, locals := 45 } s m args below meth c H locs 0 0 (MQ below (Qv D cI cS Z K σ') args s 0 0 (aZ Z)) (F0 m 121 ls [.int v_47, .int (σ_9 184 (126 + x_3).toNatClampNeg), .int (126 + x_3), .ref (Z + 184)]) := by
              intro H locs ls hI hS hl
              refine lv_isub hx hb dX8_pick_121 ?_
              obtain ⟨hix, hf⟩ := ix_e hf
              obtain ⟨σ_50, eσ_50, hf⟩ := vl_e hf
              refine mm_ast hx hb hG hI hS (ly_at hL 1 rfl) hix rfl dX8_pick_122 (fun H locs hI hS => ?_)
              rw [← eσ_50] at hI
              refine lv_iload hx hb dX8_pick_123 (lv_at hl 5 rfl) ?_
              refine lv_iload hx hb dX8_pick_125 (lv_at hl 6 rfl) ?_
              obtain ⟨k_54, ek_54, hf⟩ := jn_e hf
              have HJ_55 : ∀ (v_53 : Int32) (H : Heap) (locs : List Loc) (ls : Array Slot), k_54 v_53 = some w_12 → fI D cI cS Z K σ_50 H → va_S (aZ Z) s.heap H locs → lv_has ls 9 [(0, .ref (Z + 183)), (1, .int x_1), (2, .int x_2), (3, .int x_3), (4, .int r_5), (6, .int v_43), (7, .int y_8)] → W p l e { frames := 2, cells := 0, slots := 0, locals := 45 } s m args below meth c H locs 0 0 (MQ below (Qv D cI cS Z K σ') args s 0 0 (aZ Z)) (F0 m 143 ls [.int v_53, .int y_6]) := by
                intro v_53 H locs ls hf hI hS hl
                have hf := jb1 ek_54 hf
                refine lv_ior hx hb dX8_pick_143 ?_
                obtain ⟨x_56, ex_56, hf⟩ := vl_e hf
                refine mm_name ex_56 ?_
                refine lv_istore (lv' := [(5, .int x_56), (0, .ref (Z + 183)), (1, .int x_1), (2, .int x_2), (3, .int x_3), (4, .int r_5), (6, .int v_43), (7, .int y_8)]) hx hb dX8_pick_144 hl (by decide) rfl (fun ls hl => ?_)
                obtain ⟨x_57, ex_57, hf⟩ := vl_e hf
                refine lv_iinc (v := x_57) (lv' := [(7, .int x_57), (5, .int x_56), (0, .ref (Z + 183)), (1, .int x_1), (2, .int x_2), (3, .int x_3), (4, .int r_5), (6, .int v_43)]) hx hb dX8_pick_146 hl (k := 7) rfl (by rw [ex_57]; rfl) (by decide) rfl (fun ls hl => ?_)
                refine lv_goto (tgt := 52) hx hb dX8_pick_149 (by decide) ?_
                obtain rfl := so_e hf
                exact ih_14 x_56 v_43 x_57 σ_50 hk_15 _ _ _ hI hS (lv_sub hl [2, 3, 4, 5, 6, 1, 7, 0] rfl)
              clear ek_54
              refine lv_if_eq (tgt := 142) hx hb dX8_pick_127 (by decide) (fun c_59 => ?_) (fun c_59 => ?_)
              · have hf := pos_e c_59 hf
                refine lv_iconst (v := 0) hx hb dX8_pick_142 (by decide) ?_
                exact HJ_55 0 _ _ _ hf hI hS (lv_sub hl [0, 1, 2, 3, 4, 6, 7] rfl)
              · have hf := neg_e c_59 hf
                refine lv_iconst (v := 1) hx hb dX8_pick_130 (by decide) ?_
                refine lv_aload_n hx hb dX8_pick_131 rfl (lv_at hl 0 rfl) ?_
                refine lv_iload_n hx hb dX8_pick_132 rfl (lv_at hl 2 rfl) ?_
                refine lv_iload hx hb dX8_pick_133 (lv_at hl 7 rfl) ?_
                obtain ⟨r_58, hr_58, hf⟩ := bi_e hf
                refine kX8_112 hx hb hml hts hown hG hI hS hl.1 hL (As := [.int x_2, .int y_8]) (c_X8_endAt l D cI cS Z K hL x_2 y_8 σ_50 _ hr_58) ⟨(Nat.le_of_ble_eq_true rfl), (Nat.le_of_ble_eq_true rfl)⟩ rfl (Nat.le_of_ble_eq_true rfl) ⟨(Nat.le_of_ble_eq_true rfl), (Nat.le_of_ble_eq_true rfl)⟩ dX8_pick_135 (fun H locs hI hS => ?_)
                refine lv_ishl hx hb dX8_pick_138 ?_
                refine lv_goto (tgt := 143) hx hb dX8_pick_139 (by decide) ?_
                exact HJ_55 (1 <<< (r_58 &&& 31)) _ _ _ hf hI hS (lv_sub hl [0, 1, 2, 3, 4, 6, 7] rfl)
            clear hf
            have hf := ev_47.symm
            refine lv_if_eq (tgt := 120) hx hb dX8_pick_112 (by decide) (fun c_60 => ?_) (fun c_60 => ?_)
            · have hf := pos_e c_60 hf
              refine lv_iconst (v := 0) hx hb dX8_pick_120 (by decide) ?_
              refine mm_name hf.symm ?_
              exact HJ_49 _ _ _ hI hS (lv_sub hl [1, 2, 3, 4, 5, 6, 0, 7] rfl)
            · have hf := neg_e c_60 hf
              refine lv_iload hx hb dX8_pick_115 (lv_at hl 8 rfl) ?_
              refine lv_goto (tgt := 121) hx hb dX8_pick_117 (by decide) ?_
              refine mm_name hf.symm ?_
              exact HJ_49 _ _ _ hI hS (lv_sub hl [1, 2, 3, 4, 5, 6, 0, 7] rfl)
          clear hf
          have hf := ev_43.symm
          refine lv_icmp_lt (tgt := 97) hx hb dX8_pick_90 (by decide) (fun c_61 => ?_) (fun c_61 => ?_)
          · have hf := pos_e c_61 hf
            refine lv_iconst (v := 0) hx hb dX8_pick_97 (by decide) ?_
            refine mm_name hf.symm ?_
            exact HJ_45 _ _ _ hI hS (lv_sub hl [1, 2, 3, 4, 5, 6, 8, 0] rfl)
          · have hf := neg_e c_61 hf
            refine lv_iconst (v := 1) hx hb dX8_pick_93 (by decide) ?_
            refine lv_goto (tgt := 98) hx hb dX8_pick_94 (by decide) ?_
            refine mm_name hf.symm ?_
            exact HJ_45 _ _ _ hI hS (lv_sub hl [1, 2, 3, 4, 5, 6, 8, 0] rfl)
  obtain ⟨z_10, σ_11, hy, hf⟩ := b2_e hf
  refine L_13 FU 0 1 0 σ _ _ hy ?_ _ _ _ hI hS (lv_sub hl [7, 6, 5, 4, 3, 2, 1, 0] rfl)
  clear L_13
  intro H locs ls hI hS hl
  refine lv_sipush (v := 136) hx hb dX8_pick_152 (by decide) ?_
  refine lv_iconst (v := 5) hx hb dX8_pick_155 (by decide) ?_
  refine lv_iload_n hx hb dX8_pick_156 rfl (lv_at hl 2 rfl) ?_
  refine lv_imul hx hb dX8_pick_157 ?_
  refine lv_iadd hx hb dX8_pick_158 ?_
  obtain ⟨x_65, ex_65, hf⟩ := vl_e hf
  refine mm_name ex_65 ?_
  refine lv_istore (lv' := [(7, .int x_65), (0, .ref (Z + 183)), (1, .int x_1), (2, .int x_2), (3, .int x_3), (4, .int r_5), (5, .int z_10)]) hx hb dX8_pick_159 hl (by decide) rfl (fun ls hl => ?_)
  refine lv_aload_n hx hb dX8_pick_161 rfl (lv_at hl 1 rfl) ?_
  refine gX8_7 (o' := 184) hx hb hts hown hG hI hL rfl dX8_pick_162 ?_
  refine lv_iload hx hb dX8_pick_165 (lv_at hl 0 rfl) ?_
  refine lv_iconst (v := 0) hx hb dX8_pick_167 (by decide) ?_
  refine lv_iadd hx hb dX8_pick_168 ?_
  refine lv_iload_n hx hb dX8_pick_169 rfl (lv_at hl 4 rfl) ?_
  obtain ⟨hix, hf⟩ := ix_e hf
  obtain ⟨σ_66, eσ_66, hf⟩ := vl_e hf
  refine mm_ast hx hb hG hI hS (ly_at hL 1 rfl) hix rfl dX8_pick_170 (fun H locs hI hS => ?_)
  rw [← eσ_66] at hI
  refine lv_aload_n hx hb dX8_pick_171 rfl (lv_at hl 1 rfl) ?_
  refine gX8_7 (o' := 184) hx hb hts hown hG hI hL rfl dX8_pick_172 ?_
  refine lv_iload hx hb dX8_pick_175 (lv_at hl 0 rfl) ?_
  refine lv_iconst (v := 1) hx hb dX8_pick_177 (by decide) ?_
  refine lv_iadd hx hb dX8_pick_178 ?_
  refine lv_iload_n hx hb dX8_pick_179 rfl (lv_at hl 2 rfl) ?_
  obtain ⟨hix, hf⟩ := ix_e hf
  obtain ⟨σ_67, eσ_67, hf⟩ := vl_e hf
  refine mm_ast hx hb hG hI hS (ly_at hL 1 rfl) hix rfl dX8_pick_180 (fun H locs hI hS => ?_)
  rw [← eσ_67] at hI
  refine lv_aload_n hx hb dX8_pick_181 rfl (lv_at hl 1 rfl) ?_
  refine gX8_7 (o' := 184) hx hb hts hown hG hI hL rfl dX8_pick_182 ?_
  refine lv_iload hx hb dX8_pick_185 (lv_at hl 0 rfl) ?_
  refine lv_iconst (v := 2) hx hb dX8_pick_187 (by decide) ?_
  refine lv_iadd hx hb dX8_pick_188 ?_
  refine lv_iload hx hb dX8_pick_189 (lv_at hl 5 rfl) ?_
  refine lv_iload hx hb dX8_pick_191 (lv_at hl 6 rfl) ?_
  refine lv_iand hx hb dX8_pick_193 ?_
  obtain ⟨hix, hf⟩ := ix_e hf
  obtain ⟨σ_68, eσ_68, hf⟩ := vl_e hf
  refine mm_ast hx hb hG hI hS (ly_at hL 1 rfl) hix rfl dX8_pick_194 (fun H locs hI hS => ?_)
  rw [← eσ_68] at hI
  refine lv_aload_n hx hb dX8_pick_195 rfl (lv_at hl 1 rfl) ?_
  refine gX8_7 (o' := 184) hx hb hts hown hG hI hL rfl dX8_pick_196 ?_
  refine lv_iload hx hb dX8_pick_199 (lv_at hl 0 rfl) ?_
  refine lv_iconst (v := 3) hx hb dX8_pick_201 (by decide) ?_
  refine lv_iadd hx hb dX8_pick_202 ?_
  refine lv_iload hx hb dX8_pick_203 (lv_at hl 6 rfl) ?_
  obtain ⟨hix, hf⟩ := ix_e hf
  obtain ⟨σ_69, eσ_69, hf⟩ := vl_e hf
  refine mm_ast hx hb hG hI hS (ly_at hL 1 rfl) hix rfl dX8_pick_205 (fun H locs hI hS => ?_)
  rw [← eσ_69] at hI
  refine lv_aload_n hx hb dX8_pick_206 rfl (lv_at hl 1 rfl) ?_
  refine gX8_7 (o' := 184) hx hb hts hown hG hI hL rfl dX8_pick_207 ?_
  refine lv_iload hx hb dX8_pick_210 (lv_at hl 0 rfl) ?_
  refine lv_iconst (v := 4) hx hb dX8_pick_212 (by decide) ?_
  refine lv_iadd hx hb dX8_pick_213 ?_
  refine lv_aload_n hx hb dX8_pick_214 rfl (lv_at hl 1 rfl) ?_
  refine lv_aload_n hx hb dX8_pick_215 rfl (lv_at hl 1 rfl) ?_
  refine gX8_7 (o' := 184) hx hb hts hown hG hI hL rfl dX8_pick_216 ?_
  refine lv_bipush (v := 78) hx hb dX8_pick_219 (by decide) ?_
  refine lv_iload_n hx hb dX8_pick_221 rfl (lv_at hl 2 rfl) ?_
  refine lv_iadd hx hb dX8_pick_222 ?_
  obtain ⟨hix, hf⟩ := ix_e hf
  refine mm_ald hx hb hG hI (ly_at hL 1 rfl) hix rfl dX8_pick_223 ?_
  obtain ⟨r_70, hr_70, hf⟩ := bi_e hf
  refine kX8_119 hx hb hml hts hown hG hI hS hl.1 hL (As := [.int (σ_69 184 (78 + x_1).toNatClampNeg)]) (c_X8_endsOn l D cI cS Z K hL (σ_69 184 (78 + x_1).toNatClampNeg) σ_69 _ hr_70) ⟨(Nat.le_of_ble_eq_true rfl), (Nat.le_of_ble_eq_true rfl)⟩ rfl (Nat.le_of_ble_eq_true rfl) ⟨(Nat.le_of_ble_eq_true rfl), (Nat.le_of_ble_eq_true rfl)⟩ dX8_pick_224 (fun H locs hI hS => ?_)
  obtain ⟨hix, hf⟩ := ix_e hf
  obtain ⟨σ_71, eσ_71, hf⟩ := vl_e hf
  refine mm_ast hx hb hG hI hS (ly_at hL 1 rfl) hix rfl dX8_pick_227 (fun H locs hI hS => ?_)
  rw [← eσ_71] at hI
  refine lv_aload_n hx hb dX8_pick_228 rfl (lv_at hl 1 rfl) ?_
  refine gX8_7 (o' := 184) hx hb hts hown hG hI hL rfl dX8_pick_229 ?_
  refine lv_iconst (v := 5) hx hb dX8_pick_232 (by decide) ?_
  refine lv_dup2_11 hx hb dX8_pick_233 rfl rfl ?_
  refine mm_ald (k := 5) (n := 456) hx hb hG hI (ly_at hL 1 rfl) (by decide) rfl dX8_pick_234 ?_
  refine lv_iconst (v := 1) hx hb dX8_pick_235 (by decide) ?_
  refine lv_iadd hx hb dX8_pick_236 ?_
  obtain ⟨σ_72, eσ_72, hf⟩ := vl_e hf
  refine mm_ast (k := 5) (n := 456) hx hb hG hI hS (ly_at hL 1 rfl) (by decide) rfl dX8_pick_237 (fun H locs hI hS => ?_)
  rw [← eσ_72] at hI
  refine lv_aload_n hx hb dX8_pick_238 rfl (lv_at hl 1 rfl) ?_
  refine lv_aload_n hx hb dX8_pick_239 rfl (lv_at hl 1 rfl) ?_
  obtain ⟨r_73, hr_73, hf⟩ := bi_e hf
  refine kX8_126 hx hb hml hts hown hG hI hS hl.1 hL (As := []) (c_X8_onward l D cI cS Z K hL σ_72 _ hr_73) ⟨(Nat.le_of_ble_eq_true rfl), (Nat.le_of_ble_eq_true rfl)⟩ rfl (Nat.le_of_ble_eq_true rfl) ⟨(Nat.le_of_ble_eq_true rfl), (Nat.le_of_ble_eq_true rfl)⟩ dX8_pick_240 (fun H locs hI hS => ?_)
  obtain ⟨σ_75, hσ_75, hf⟩ := bi_e hf
  refine kX8_129 hx hb hml hts hown hG hI hS hl.1 hL (As := [.int r_73]) (c_X8_step l D cI cS Z K hL r_73 σ_72 _ hσ_75) ⟨(Nat.le_of_ble_eq_true rfl), (Nat.le_of_ble_eq_true rfl)⟩ rfl (Nat.le_of_ble_eq_true rfl) ⟨(Nat.le_of_ble_eq_true rfl), (Nat.le_of_ble_eq_true rfl)⟩ dX8_pick_243 (fun H locs hI hS => ?_)
  obtain rfl := so_e hf
  exact mm_vret hx hb hr hlocks hI hS dX8_pick_246
def b_X8_picksLeft_26  : Int32 × (Nat → Nat → Int32) → Option ((Int32 × (Nat → Nat → Int32)) ⊕ ((Nat → Nat → Int32)))
  | (y_3, σ_4) => if 10 ≤ y_3 then (some (.inr σ_4)) else (ix (126 + y_3) 456 <| ix y_3 10 <| vl (wr σ_4 185 y_3.toNatClampNeg (σ_4 184 (126 + y_3).toNatClampNeg)) fun σ_15 => vl (y_3 + 1) fun x_16 => some (.inl (x_16, σ_15)))
def b_X8_picksLeft_62  : Int32 × Int32 × (Nat → Nat → Int32) → Option ((Int32 × Int32 × (Nat → Nat → Int32)) ⊕ (Int32 × (Nat → Nat → Int32)))
  | (y_20, y_21, σ_22) => if 500 ≤ y_21 then (some (.inr (y_21, σ_22))) else (ix (102 + y_20) 456 <| ix (σ_22 184 (102 + y_20).toNatClampNeg) 10 <| bi (f_X8_needOf y_20 σ_22) fun r_39 => if (σ_22 185 (σ_22 184 (102 + y_20).toNatClampNeg).toNatClampNeg) < r_39 then (some (.inr (y_21, σ_22))) else (ix (102 + y_20) 456 <| ix (σ_22 184 (102 + y_20).toNatClampNeg) 10 <| bi (f_X8_needOf y_20 σ_22) fun r_40 => ix (σ_22 184 (102 + y_20).toNatClampNeg) 10 <| vl (wr σ_22 185 (σ_22 184 (102 + y_20).toNatClampNeg).toNatClampNeg ((σ_22 185 (σ_22 184 (102 + y_20).toNatClampNeg).toNatClampNeg) - r_40)) fun σ_41 => vl (y_21 + 1) fun x_42 => bi (f_X8_onward σ_41) fun r_43 => nz (σ_41 184 2) <| vl (((y_20 + r_43) + (σ_41 184 2)) - ((y_20 + r_43) + (σ_41 184 2)) / (σ_41 184 2) * (σ_41 184 2)) fun x_44 => some (.inl (x_44, x_42, σ_41))))
def f_X8_picksLeft  (σ : Nat → Nat → Int32) : Option (Int32 × (Nat → Nat → Int32)) := vl (wr σ 183 0 0) fun σ_1 => if (σ_1 184 2) = 0 then (some ((-2), σ_1)) else (bi (f_X8_stands σ_1) fun r_2 => if r_2 = 0 then (bi (lp (b_X8_picksLeft_26) FU (0, σ_1)) fun σ_5 => vl (σ_5 184 3) fun x_19 => b2 (lp (b_X8_picksLeft_62) FU (x_19, 0, σ_5)) fun z_23 σ_24 => some (z_23, σ_24)) else (some ((-2), σ_1)))
set_option maxHeartbeats 4000000 in
set_option maxRecDepth 100000 in
theorem c_X8_picksLeft (l : Launch) (D : va_G) (cI cS : ClassId) (Z : Nat) (K : Nat → Nat) (hL : ly K 183 lyModel) (σ : Nat → Nat → Int32) (r : Int32) (σ' : Nat → Nat → Int32) (hf : f_X8_picksLeft σ = some (r, σ')) : Met l yX8_picksLeft (wsT yX8_picksLeft cX8_picksLeft 3 (some .int)) { frames := 3, cells := 0, slots := 0, locals := 69 } (Pm D cI cS Z K [.ref (Z + 183)] σ) (Qi D cI cS Z K r σ') 0 0 (aZ Z) := by
  refine mm_met (lv := [(0, .ref (Z + 183))]) (by decide) (Nat.le_of_ble_eq_true rfl) rfl ?_
  intro p e s m args below meth c ls hx hb hr hml hts hown hlocks hG hl hI hS
  have hown : s.vm.findClass RX8 = some m.cls := hown
  rw [f_X8_picksLeft] at hf
  refine lv_aload_n hx hb dX8_picksLeft_0 rfl (lv_at hl 0 rfl) ?_
  refine lv_iconst (v := 0) hx hb dX8_picksLeft_1 (by decide) ?_
  obtain ⟨σ_1, eσ_1, hf⟩ := vl_e hf
  refine pX8_28 hx hb hts hown hG hI hS hL dX8_picksLeft_2 (fun H locs hI hS => ?_)
  rw [← eσ_1] at hI
  refine lv_aload_n hx hb dX8_picksLeft_5 rfl (lv_at hl 0 rfl) ?_
  refine gX8_7 (o' := 184) hx hb hts hown hG hI hL rfl dX8_picksLeft_6 ?_
  refine lv_iconst (v := 2) hx hb dX8_picksLeft_9 (by decide) ?_
  refine mm_ald (k := 2) (n := 456) hx hb hG hI (ly_at hL 1 rfl) (by decide) rfl dX8_picksLeft_10 ?_
  refine lv_if_eq (tgt := 21) hx hb dX8_picksLeft_11 (by decide) (fun c_49 => ?_) (fun c_49 => ?_)
  · have hf := pos_e c_49 hf
    refine lv_bipush (v := (-2)) hx hb dX8_picksLeft_21 (by decide) ?_
    obtain ⟨rfl, rfl⟩ := sp_e hf
    exact mm_ret hx hb hr hlocks rfl hI hS dX8_picksLeft_23
  · have hf := neg_e c_49 hf
    refine lv_aload_n hx hb dX8_picksLeft_14 rfl (lv_at hl 0 rfl) ?_
    obtain ⟨r_2, hr_2, hf⟩ := bi_e hf
    refine kX8_139 hx hb hml hts hown hG hI hS hl.1 hL (As := []) (c_X8_stands l D cI cS Z K hL σ_1 _ hr_2) ⟨(Nat.le_of_ble_eq_true rfl), (Nat.le_of_ble_eq_true rfl)⟩ rfl (Nat.le_of_ble_eq_true rfl) ⟨(Nat.le_of_ble_eq_true rfl), (Nat.le_of_ble_eq_true rfl)⟩ dX8_picksLeft_15 (fun hzr_2 H locs hI hS => ?_)
    refine lv_if_eq (tgt := 24) hx hb dX8_picksLeft_18 (by decide) (fun c_48 => ?_) (fun c_48 => ?_)
    · have hf := pos_e c_48 hf
      refine lv_iconst (v := 0) hx hb dX8_picksLeft_24 (by decide) ?_
      refine lv_istore_n (lv' := [(1, .int 0), (0, .ref (Z + 183))]) hx hb dX8_picksLeft_25 rfl hl (by decide) rfl (fun ls hl => ?_)
      have L_7 : ∀ (nn : Nat) (y_3 : Int32) (σ_4 : Nat → Nat → Int32) (σ_5 : Nat → Nat → Int32), lp (b_X8_picksLeft_26) nn (y_3, σ_4) = some σ_5 → (∀ (H : Heap) (locs : List Loc) (ls : Array Slot), fI D cI cS Z K σ_5 H → va_S (aZ Z) s.heap H locs → lv_has ls 3 [(0, .ref (Z + 183))] → W p l e { frames := 3, cells := 0, slots := 0, locals := 69 } s m args below meth c H locs 0 0 (MQ below (Qi D cI cS Z K r σ') args s 0 0 (aZ Z)) (F0 m 53 ls [])) → ∀ (H : Heap) (locs : List Loc) (ls : Array Slot), fI D cI cS Z K σ_4 H → va_S (aZ Z) s.heap H locs → lv_has ls 3 [(0, .ref (Z + 183)), (1, .int y_3)] → W p l e { frames := 3, cells := 0, slots := 0, locals := 69 } s m args below meth c H locs 0 0 (MQ below (Qi D cI cS Z K r σ') args s 0 0 (aZ Z)) (F0 m 26 ls []) := by
        intro nn
        induction nn with
        | zero =>
          intro y_3 σ_4 σ_5 hq
          exact (lp_0 hq).elim
        | succ nn ih_8 =>
          intro y_3 σ_4 σ_5 hq kn_10 H locs ls hI hS hl
          obtain ⟨w_6, hf, hk_9⟩ := lp_e hq
          rw [b_X8_picksLeft_26] at hf
          have ih_8 := fun (y_3 : Int32) (σ_4 : Nat → Nat → Int32) q => ih_8 y_3 σ_4 σ_5 q kn_10
          refine lv_iload_n hx hb dX8_picksLeft_26 rfl (lv_at hl 1 rfl) ?_
          refine lv_bipush (v := 10) hx hb dX8_picksLeft_27 (by decide) ?_
          refine lv_icmp_ge (tgt := 53) hx hb dX8_picksLeft_29 (by decide) (fun c_17 => ?_) (fun c_17 => ?_)
          · have hf := pos_e c_17 hf
            obtain rfl := so_e hf
            obtain rfl := lk_r hk_9
            exact kn_10 _ _ _ hI hS (lv_sub hl [0] rfl)
          · have hf := neg_e c_17 hf
            refine lv_aload_n hx hb dX8_picksLeft_32 rfl (lv_at hl 0 rfl) ?_
            refine gX8_13 (o' := 185) hx hb hts hown hG hI hL rfl dX8_picksLeft_33 ?_
            refine lv_iload_n hx hb dX8_picksLeft_36 rfl (lv_at hl 1 rfl) ?_
            refine lv_aload_n hx hb dX8_picksLeft_37 rfl (lv_at hl 0 rfl) ?_
            refine gX8_7 (o' := 184) hx hb hts hown hG hI hL rfl dX8_picksLeft_38 ?_
            refine lv_bipush (v := 126) hx hb dX8_picksLeft_41 (by decide) ?_
            refine lv_iload_n hx hb dX8_picksLeft_43 rfl (lv_at hl 1 rfl) ?_
            refine lv_iadd hx hb dX8_picksLeft_44 ?_
            obtain ⟨hix, hf⟩ := ix_e hf
            refine mm_ald hx hb hG hI (ly_at hL 1 rfl) hix rfl dX8_picksLeft_45 ?_
            obtain ⟨hix, hf⟩ := ix_e hf
            obtain ⟨σ_15, eσ_15, hf⟩ := vl_e hf
            refine mm_ast hx hb hG hI hS (ly_at hL 2 rfl) hix rfl dX8_picksLeft_46 (fun H locs hI hS => ?_)
            rw [← eσ_15] at hI
            obtain ⟨x_16, ex_16, hf⟩ := vl_e hf
            refine lv_iinc (v := x_16) (lv' := [(1, .int x_16), (0, .ref (Z + 183))]) hx hb dX8_picksLeft_47 hl (k := 1) rfl (by rw [ex_16]; rfl) (by decide) rfl (fun ls hl => ?_)
            refine lv_goto (tgt := 26) hx hb dX8_picksLeft_50 (by decide) ?_
            obtain rfl := so_e hf
            exact ih_8 x_16 σ_15 hk_9 _ _ _ hI hS (lv_sub hl [1, 0] rfl)
      obtain ⟨σ_5, hy, hf⟩ := bi_e hf
      refine L_7 FU 0 σ_1 _ hy ?_ _ _ _ hI hS (lv_sub hl [1, 0] rfl)
      clear L_7
      intro H locs ls hI hS hl
      refine lv_aload_n hx hb dX8_picksLeft_53 rfl (lv_at hl 0 rfl) ?_
      refine gX8_7 (o' := 184) hx hb hts hown hG hI hL rfl dX8_picksLeft_54 ?_
      refine lv_iconst (v := 3) hx hb dX8_picksLeft_57 (by decide) ?_
      refine mm_ald (k := 3) (n := 456) hx hb hG hI (ly_at hL 1 rfl) (by decide) rfl dX8_picksLeft_58 ?_
      obtain ⟨x_19, ex_19, hf⟩ := vl_e hf
      refine mm_name ex_19 ?_
      refine lv_istore_n (lv' := [(1, .int x_19), (0, .ref (Z + 183))]) hx hb dX8_picksLeft_59 rfl hl (by decide) rfl (fun ls hl => ?_)
      refine lv_iconst (v := 0) hx hb dX8_picksLeft_60 (by decide) ?_
      refine lv_istore_n (lv' := [(2, .int 0), (1, .int x_19), (0, .ref (Z + 183))]) hx hb dX8_picksLeft_61 rfl hl (by decide) rfl (fun ls hl => ?_)
      have L_26 : ∀ (nn : Nat) (y_20 : Int32) (y_21 : Int32) (σ_22 : Nat → Nat → Int32) (z_23 : Int32) (σ_24 : Nat → Nat → Int32), lp (b_X8_picksLeft_62) nn (y_20, y_21, σ_22) = some (z_23, σ_24) → (∀ (H : Heap) (locs : List Loc) (ls : Array Slot), fI D cI cS Z K σ_24 H → va_S (aZ Z) s.heap H locs → lv_has ls 3 [(2, .int z_23)] → W p l e { frames := 3, cells := 0, slots := 0, locals := 69 } s m args below meth c H locs 0 0 (MQ below (Qi D cI cS Z K r σ') args s 0 0 (aZ Z)) (F0 m 140 ls [])) → ∀ (H : Heap) (locs : List Loc) (ls : Array Slot), fI D cI cS Z K σ_22 H → va_S (aZ Z) s.heap H locs → lv_has ls 3 [(0, .ref (Z + 183)), (1, .int y_20), (2, .int y_21)] → W p l e { frames := 3, cells := 0, slots := 0, locals := 69 } s m args below meth c H locs 0 0 (MQ below (Qi D cI cS Z K r σ') args s 0 0 (aZ Z)) (F0 m 62 ls []) := by
        intro nn
        induction nn with
        | zero =>
          intro y_20 y_21 σ_22 z_23 σ_24 hq
          exact (lp_0 hq).elim
        | succ nn ih_27 =>
          intro y_20 y_21 σ_22 z_23 σ_24 hq kn_29 H locs ls hI hS hl
          obtain ⟨w_25, hf, hk_28⟩ := lp_e hq
          rw [b_X8_picksLeft_62] at hf
          have ih_27 := fun (y_20 : Int32) (y_21 : Int32) (σ_22 : Nat → Nat → Int32) q => ih_27 y_20 y_21 σ_22 z_23 σ_24 q kn_29
          refine lv_iload_n hx hb dX8_picksLeft_62 rfl (lv_at hl 2 rfl) ?_
          refine lv_sipush (v := 500) hx hb dX8_picksLeft_63 (by decide) ?_
          refine lv_icmp_ge (tgt := 140) hx hb dX8_picksLeft_66 (by decide) (fun c_46 => ?_) (fun c_46 => ?_)
          · have hf := pos_e c_46 hf
            obtain rfl := so_e hf
            obtain ⟨rfl, rfl⟩ := q2_e (lk_r hk_28)
            exact kn_29 _ _ _ hI hS (lv_sub hl [2] rfl)
          · have hf := neg_e c_46 hf
            refine lv_aload_n hx hb dX8_picksLeft_69 rfl (lv_at hl 0 rfl) ?_
            refine gX8_13 (o' := 185) hx hb hts hown hG hI hL rfl dX8_picksLeft_70 ?_
            refine lv_aload_n hx hb dX8_picksLeft_73 rfl (lv_at hl 0 rfl) ?_
            refine gX8_7 (o' := 184) hx hb hts hown hG hI hL rfl dX8_picksLeft_74 ?_
            refine lv_bipush (v := 102) hx hb dX8_picksLeft_77 (by decide) ?_
            refine lv_iload_n hx hb dX8_picksLeft_79 rfl (lv_at hl 1 rfl) ?_
            refine lv_iadd hx hb dX8_picksLeft_80 ?_
            obtain ⟨hix, hf⟩ := ix_e hf
            refine mm_ald hx hb hG hI (ly_at hL 1 rfl) hix rfl dX8_picksLeft_81 ?_
            obtain ⟨hix, hf⟩ := ix_e hf
            refine mm_ald hx hb hG hI (ly_at hL 2 rfl) hix rfl dX8_picksLeft_82 ?_
            refine lv_aload_n hx hb dX8_picksLeft_83 rfl (lv_at hl 0 rfl) ?_
            refine lv_iload_n hx hb dX8_picksLeft_84 rfl (lv_at hl 1 rfl) ?_
            obtain ⟨r_39, hr_39, hf⟩ := bi_e hf
            refine kX8_178 hx hb hml hts hown hG hI hS hl.1 hL (As := [.int y_20]) (c_X8_needOf l D cI cS Z K hL y_20 σ_22 _ hr_39) ⟨(Nat.le_of_ble_eq_true rfl), (Nat.le_of_ble_eq_true rfl)⟩ rfl (Nat.le_of_ble_eq_true rfl) ⟨(Nat.le_of_ble_eq_true rfl), (Nat.le_of_ble_eq_true rfl)⟩ dX8_picksLeft_85 (fun H locs hI hS => ?_)
            refine lv_icmp_lt (tgt := 140) hx hb dX8_picksLeft_88 (by decide) (fun c_45 => ?_) (fun c_45 => ?_)
            · have hf := pos_e c_45 hf
              obtain rfl := so_e hf
              obtain ⟨rfl, rfl⟩ := q2_e (lk_r hk_28)
              exact kn_29 _ _ _ hI hS (lv_sub hl [2] rfl)
            · have hf := neg_e c_45 hf
              refine lv_aload_n hx hb dX8_picksLeft_91 rfl (lv_at hl 0 rfl) ?_
              refine gX8_13 (o' := 185) hx hb hts hown hG hI hL rfl dX8_picksLeft_92 ?_
              refine lv_aload_n hx hb dX8_picksLeft_95 rfl (lv_at hl 0 rfl) ?_
              refine gX8_7 (o' := 184) hx hb hts hown hG hI hL rfl dX8_picksLeft_96 ?_
              refine lv_bipush (v := 102) hx hb dX8_picksLeft_99 (by decide) ?_
              refine lv_iload_n hx hb dX8_picksLeft_101 rfl (lv_at hl 1 rfl) ?_
              refine lv_iadd hx hb dX8_picksLeft_102 ?_
              obtain ⟨hix, hf⟩ := ix_e hf
              refine mm_ald hx hb hG hI (ly_at hL 1 rfl) hix rfl dX8_picksLeft_103 ?_
              refine lv_dup2_11 hx hb dX8_picksLeft_104 rfl rfl ?_
              obtain ⟨hix, hf⟩ := ix_e hf
              refine mm_ald hx hb hG hI (ly_at hL 2 rfl) hix rfl dX8_picksLeft_105 ?_
              refine lv_aload_n hx hb dX8_picksLeft_106 rfl (lv_at hl 0 rfl) ?_
              refine lv_iload_n hx hb dX8_picksLeft_107 rfl (lv_at hl 1 rfl) ?_
              obtain ⟨r_40, hr_40, hf⟩ := bi_e hf
              refine kX8_178 hx hb hml hts hown hG hI hS hl.1 hL (As := [.int y_20]) (c_X8_needOf l D cI cS Z K hL y_20 σ_22 _ hr_40) ⟨(Nat.le_of_ble_eq_true rfl), (Nat.le_of_ble_eq_true rfl)⟩ rfl (Nat.le_of_ble_eq_true rfl) ⟨(Nat.le_of_ble_eq_true rfl), (Nat.le_of_ble_eq_true rfl)⟩ dX8_picksLeft_108 (fun H locs hI hS => ?_)
              refine lv_isub hx hb dX8_picksLeft_111 ?_
              obtain ⟨hix, hf⟩ := ix_e hf
              obtain ⟨σ_41, eσ_41, hf⟩ := vl_e hf
              refine mm_ast hx hb hG hI hS (ly_at hL 2 rfl) hix rfl dX8_picksLeft_112 (fun H locs hI hS => ?_)
              rw [← eσ_41] at hI
              obtain ⟨x_42, ex_42, hf⟩ := vl_e hf
              refine lv_iinc (v := x_42) (lv' := [(2, .int x_42), (0, .ref (Z + 183)), (1, .int y_20)]) hx hb dX8_picksLeft_113 hl (k := 2) rfl (by rw [ex_42]; rfl) (by decide) rfl (fun ls hl => ?_)
              refine lv_iload_n hx hb dX8_picksLeft_116 rfl (lv_at hl 2 rfl) ?_
              refine lv_aload_n hx hb dX8_picksLeft_117 rfl (lv_at hl 1 rfl) ?_
              obtain ⟨r_43, hr_43, hf⟩ := bi_e hf
              refine kX8_126 hx hb hml hts hown hG hI hS hl.1 hL (As := []) (c_X8_onward l D cI cS Z K hL σ_41 _ hr_43) ⟨(Nat.le_of_ble_eq_true rfl), (Nat.le_of_ble_eq_true rfl)⟩ rfl (Nat.le_of_ble_eq_true rfl) ⟨(Nat.le_of_ble_eq_true rfl), (Nat.le_of_ble_eq_true rfl)⟩ dX8_picksLeft_118 (fun H locs hI hS => ?_)
              refine lv_iadd hx hb dX8_picksLeft_121 ?_
              refine lv_aload_n hx hb dX8_picksLeft_122 rfl (lv_at hl 1 rfl) ?_
              refine gX8_7 (o' := 184) hx hb hts hown hG hI hL rfl dX8_picksLeft_123 ?_
              refine lv_iconst (v := 2) hx hb dX8_picksLeft_126 (by decide) ?_
              refine mm_ald (k := 2) (n := 456) hx hb hG hI (ly_at hL 1 rfl) (by decide) rfl dX8_picksLeft_127 ?_
              refine lv_iadd hx hb dX8_picksLeft_128 ?_
              refine lv_aload_n hx hb dX8_picksLeft_129 rfl (lv_at hl 1 rfl) ?_
              refine gX8_7 (o' := 184) hx hb hts hown hG hI hL rfl dX8_picksLeft_130 ?_
              refine lv_iconst (v := 2) hx hb dX8_picksLeft_133 (by decide) ?_
              refine mm_ald (k := 2) (n := 456) hx hb hG hI (ly_at hL 1 rfl) (by decide) rfl dX8_picksLeft_134 ?_
              obtain ⟨hnz, hf⟩ := nz_e hf
              refine lv_irem hx hb dX8_picksLeft_135 hnz ?_
              obtain ⟨x_44, ex_44, hf⟩ := vl_e hf
              refine mm_name ex_44 ?_
              refine lv_istore_n (lv' := [(1, .int x_44), (2, .int x_42), (0, .ref (Z + 183))]) hx hb dX8_picksLeft_136 rfl hl (by decide) rfl (fun ls hl => ?_)
              refine lv_goto (tgt := 62) hx hb dX8_picksLeft_137 (by decide) ?_
              obtain rfl := so_e hf
              exact ih_27 x_44 x_42 σ_41 hk_28 _ _ _ hI hS (lv_sub hl [2, 0, 1] rfl)
      obtain ⟨z_23, σ_24, hy, hf⟩ := b2_e hf
      refine L_26 FU x_19 0 σ_5 _ _ hy ?_ _ _ _ hI hS (lv_sub hl [2, 1, 0] rfl)
      clear L_26
      intro H locs ls hI hS hl
      refine lv_iload_n hx hb dX8_picksLeft_140 rfl (lv_at hl 0 rfl) ?_
      obtain ⟨rfl, rfl⟩ := sp_e hf
      exact mm_ret hx hb hr hlocks rfl hI hS dX8_picksLeft_141
    · have hf := neg_e c_48 hf
      refine lv_bipush (v := (-2)) hx hb dX8_picksLeft_21 (by decide) ?_
      obtain ⟨rfl, rfl⟩ := sp_e hf
      exact mm_ret hx hb hr hlocks rfl hI hS dX8_picksLeft_23
def b_X8_repeats_2 (a1 : Int32) (σ : Nat → Nat → Int32) : Int32 → Option ((Int32) ⊕ ((Int32) ⊕ (Unit)))
  | y_1 => if (σ 184 5) ≤ y_1 then (some (.inr (.inr ()))) else (bi (f_X8_areLike y_1 (y_1 - a1) σ) fun r_12 => if r_12 = 0 then (some (.inr (.inl 0))) else (vl (y_1 + 1) fun x_13 => some (.inl x_13)))
def f_X8_repeats (a1 : Int32) (σ : Nat → Nat → Int32) : Option Int32 := bi (lp (b_X8_repeats_2 a1 σ) FU a1) fun yy_16 => sm yy_16 (fun rv => some rv) fun _ => some 1
set_option maxHeartbeats 4000000 in
set_option maxRecDepth 100000 in
theorem c_X8_repeats (l : Launch) (D : va_G) (cI cS : ClassId) (Z : Nat) (K : Nat → Nat) (hL : ly K 183 lyModel) (a1 : Int32) (σ : Nat → Nat → Int32) (r : Int32) (hf : f_X8_repeats a1 σ = some r) : Met l yX8_repeats (wsT yX8_repeats cX8_repeats 3 (some .boolean)) { frames := 2, cells := 0, slots := 0, locals := 44 } (Pm D cI cS Z K [.ref (Z + 183), .int a1] σ) (Qz D cI cS Z K r σ) 0 0 (aZ Z) := by
  refine mm_met (lv := [(0, .ref (Z + 183)), (1, .int a1)]) (by decide) (Nat.le_of_ble_eq_true rfl) rfl ?_
  intro p e s m args below meth c ls hx hb hr hml hts hown hlocks hG hl hI hS
  have hown : s.vm.findClass RX8 = some m.cls := hown
  rw [f_X8_repeats] at hf
  refine lv_iload_n hx hb dX8_repeats_0 rfl (lv_at hl 1 rfl) ?_
  refine lv_istore_n (lv' := [(2, .int a1), (0, .ref (Z + 183)), (1, .int a1)]) hx hb dX8_repeats_1 rfl hl (by decide) rfl (fun ls hl => ?_)
  have L_3 : ∀ (nn : Nat) (y_1 : Int32) (yy_16 : ((Int32) ⊕ (Unit))), lp (b_X8_repeats_2 a1 σ) nn y_1 = some yy_16 → (∀ rv, yy_16 = .inl rv → some rv = some r) → (yy_16 = .inr () → ∀ (H : Heap) (locs : List Loc) (ls : Array Slot), fI D cI cS Z K σ H → va_S (aZ Z) s.heap H locs → lv_has ls 3 [] → W p l e { frames := 2, cells := 0, slots := 0, locals := 44 } s m args below meth c H locs 0 0 (MQ below (Qz D cI cS Z K r σ) args s 0 0 (aZ Z)) (F0 m 31 ls [])) → ∀ (H : Heap) (locs : List Loc) (ls : Array Slot), fI D cI cS Z K σ H → va_S (aZ Z) s.heap H locs → lv_has ls 3 [(0, .ref (Z + 183)), (1, .int a1), (2, .int y_1)] → W p l e { frames := 2, cells := 0, slots := 0, locals := 44 } s m args below meth c H locs 0 0 (MQ below (Qz D cI cS Z K r σ) args s 0 0 (aZ Z)) (F0 m 2 ls []) := by
    intro nn
    induction nn with
    | zero =>
      intro y_1 yy_16 hq
      exact (lp_0 hq).elim
    | succ nn ih_4 =>
      intro y_1 yy_16 hq hret_7 kn_6 H locs ls hI hS hl
      obtain ⟨w_2, hf, hk_5⟩ := lp_e hq
      rw [b_X8_repeats_2] at hf
      have ih_4 := fun (y_1 : Int32) q => ih_4 y_1 yy_16 q hret_7 kn_6
      refine lv_iload_n hx hb dX8_repeats_2 rfl (lv_at hl 2 rfl) ?_
      refine lv_aload_n hx hb dX8_repeats_3 rfl (lv_at hl 0 rfl) ?_
      refine gX8_7 (o' := 184) hx hb hts hown hG hI hL rfl dX8_repeats_4 ?_
      refine lv_iconst (v := 5) hx hb dX8_repeats_7 (by decide) ?_
      refine mm_ald (k := 5) (n := 456) hx hb hG hI (ly_at hL 1 rfl) (by decide) rfl dX8_repeats_8 ?_
      refine lv_icmp_ge (tgt := 31) hx hb dX8_repeats_9 (by decide) (fun c_15 => ?_) (fun c_15 => ?_)
      · have hf := pos_e c_15 hf
        obtain rfl := so_e hf
        obtain rfl := lk_r hk_5
        exact kn_6 rfl _ _ _ hI hS (lv_sub hl [] rfl)
      · have hf := neg_e c_15 hf
        refine lv_aload_n hx hb dX8_repeats_12 rfl (lv_at hl 0 rfl) ?_
        refine lv_iload_n hx hb dX8_repeats_13 rfl (lv_at hl 2 rfl) ?_
        refine lv_iload_n hx hb dX8_repeats_14 rfl (lv_at hl 2 rfl) ?_
        refine lv_iload_n hx hb dX8_repeats_15 rfl (lv_at hl 1 rfl) ?_
        refine lv_isub hx hb dX8_repeats_16 ?_
        obtain ⟨r_12, hr_12, hf⟩ := bi_e hf
        refine kX8_184 hx hb hml hts hown hG hI hS hl.1 hL (As := [.int y_1, .int (y_1 - a1)]) (c_X8_areLike l D cI cS Z K hL y_1 (y_1 - a1) σ _ hr_12) ⟨(Nat.le_of_ble_eq_true rfl), (Nat.le_of_ble_eq_true rfl)⟩ rfl (Nat.le_of_ble_eq_true rfl) ⟨(Nat.le_of_ble_eq_true rfl), (Nat.le_of_ble_eq_true rfl)⟩ dX8_repeats_17 (fun hzr_12 H locs hI hS => ?_)
        refine lv_if_ne (tgt := 25) hx hb dX8_repeats_20 (by decide) (fun c_14 => ?_) (fun c_14 => ?_)
        · have hf := neg_e c_14 hf
          obtain ⟨x_13, ex_13, hf⟩ := vl_e hf
          refine lv_iinc (v := x_13) (lv' := [(2, .int x_13), (0, .ref (Z + 183)), (1, .int a1)]) hx hb dX8_repeats_25 hl (k := 2) rfl (by rw [ex_13]; rfl) (by decide) rfl (fun ls hl => ?_)
          refine lv_goto (tgt := 2) hx hb dX8_repeats_28 (by decide) ?_
          obtain rfl := so_e hf
          exact ih_4 x_13 hk_5 _ _ _ hI hS (lv_sub hl [1, 2, 0] rfl)
        · have hf := pos_e c_14 hf
          refine lv_iconst (v := 0) hx hb dX8_repeats_23 (by decide) ?_
          obtain rfl := so_e hf
          obtain rfl := lk_r hk_5
          have hf := hret_7 _ rfl
          obtain rfl := so_e hf
          exact mm_zret hx hb hr hlocks (Or.inl rfl) hI hS dX8_repeats_24
  obtain ⟨yy_16, hy, hf⟩ := bi_e hf
  refine L_3 FU a1 _ hy (fun rv hv => ?_) (fun hv => ?_) _ _ _ hI hS (lv_sub hl [1, 2, 0] rfl)
  · subst hv
    exact hf
  subst hv
  clear L_3
  intro H locs ls hI hS hl
  have hf := sm_e hf
  refine lv_iconst (v := 1) hx hb dX8_repeats_31 (by decide) ?_
  obtain rfl := so_e hf
  exact mm_zret hx hb hr hlocks (Or.inr rfl) hI hS dX8_repeats_32
def b_X8_repeat_19 (σ_1 : Nat → Nat → Int32) : Int32 → Option ((Int32) ⊕ (Int32))
  | y_2 => bi (f_X8_repeats y_2 σ_1) fun r_13 => if r_13 = 0 then (vl (y_2 + 1) fun x_14 => some (.inl x_14)) else (some (.inr y_2))
def f_X8_repeat  (σ : Nat → Nat → Int32) : Option (Int32 × (Nat → Nat → Int32)) := vl (wr σ 183 0 0) fun σ_1 => if (σ_1 184 5) = 0 then (some ((-9), σ_1)) else (bi (lp (b_X8_repeat_19 σ_1) FU 1) fun z_3 => some (z_3, σ_1))
set_option maxHeartbeats 4000000 in
set_option maxRecDepth 100000 in
theorem c_X8_repeat (l : Launch) (D : va_G) (cI cS : ClassId) (Z : Nat) (K : Nat → Nat) (hL : ly K 183 lyModel) (σ : Nat → Nat → Int32) (r : Int32) (σ' : Nat → Nat → Int32) (hf : f_X8_repeat σ = some (r, σ')) : Met l yX8_repeat (wsT yX8_repeat cX8_repeat 2 (some .int)) { frames := 3, cells := 0, slots := 0, locals := 66 } (Pm D cI cS Z K [.ref (Z + 183)] σ) (Qi D cI cS Z K r σ') 0 0 (aZ Z) := by
  refine mm_met (lv := [(0, .ref (Z + 183))]) (by decide) (Nat.le_of_ble_eq_true rfl) rfl ?_
  intro p e s m args below meth c ls hx hb hr hml hts hown hlocks hG hl hI hS
  have hown : s.vm.findClass RX8 = some m.cls := hown
  rw [f_X8_repeat] at hf
  refine lv_aload_n hx hb dX8_repeat_0 rfl (lv_at hl 0 rfl) ?_
  refine lv_iconst (v := 0) hx hb dX8_repeat_1 (by decide) ?_
  obtain ⟨σ_1, eσ_1, hf⟩ := vl_e hf
  refine pX8_28 hx hb hts hown hG hI hS hL dX8_repeat_2 (fun H locs hI hS => ?_)
  rw [← eσ_1] at hI
  refine lv_aload_n hx hb dX8_repeat_5 rfl (lv_at hl 0 rfl) ?_
  refine gX8_7 (o' := 184) hx hb hts hown hG hI hL rfl dX8_repeat_6 ?_
  refine lv_iconst (v := 5) hx hb dX8_repeat_9 (by decide) ?_
  refine mm_ald (k := 5) (n := 456) hx hb hG hI (ly_at hL 1 rfl) (by decide) rfl dX8_repeat_10 ?_
  refine lv_if_ne (tgt := 17) hx hb dX8_repeat_11 (by decide) (fun c_17 => ?_) (fun c_17 => ?_)
  · have hf := neg_e c_17 hf
    refine lv_iconst (v := 1) hx hb dX8_repeat_17 (by decide) ?_
    refine lv_istore_n (lv' := [(1, .int 1), (0, .ref (Z + 183))]) hx hb dX8_repeat_18 rfl hl (by decide) rfl (fun ls hl => ?_)
    have L_5 : ∀ (nn : Nat) (y_2 : Int32) (z_3 : Int32), lp (b_X8_repeat_19 σ_1) nn y_2 = some z_3 → (∀ (H : Heap) (locs : List Loc) (ls : Array Slot), fI D cI cS Z K σ_1 H → va_S (aZ Z) s.heap H locs → lv_has ls 2 [(1, .int z_3)] → W p l e { frames := 3, cells := 0, slots := 0, locals := 66 } s m args below meth c H locs 0 0 (MQ below (Qi D cI cS Z K r σ') args s 0 0 (aZ Z)) (F0 m 33 ls [])) → ∀ (H : Heap) (locs : List Loc) (ls : Array Slot), fI D cI cS Z K σ_1 H → va_S (aZ Z) s.heap H locs → lv_has ls 2 [(0, .ref (Z + 183)), (1, .int y_2)] → W p l e { frames := 3, cells := 0, slots := 0, locals := 66 } s m args below meth c H locs 0 0 (MQ below (Qi D cI cS Z K r σ') args s 0 0 (aZ Z)) (F0 m 19 ls []) := by
      intro nn
      induction nn with
      | zero =>
        intro y_2 z_3 hq
        exact (lp_0 hq).elim
      | succ nn ih_6 =>
        intro y_2 z_3 hq kn_8 H locs ls hI hS hl
        obtain ⟨w_4, hf, hk_7⟩ := lp_e hq
        rw [b_X8_repeat_19] at hf
        have ih_6 := fun (y_2 : Int32) q => ih_6 y_2 z_3 q kn_8
        refine lv_aload_n hx hb dX8_repeat_19 rfl (lv_at hl 0 rfl) ?_
        refine lv_iload_n hx hb dX8_repeat_20 rfl (lv_at hl 1 rfl) ?_
        obtain ⟨r_13, hr_13, hf⟩ := bi_e hf
        refine kX8_187 hx hb hml hts hown hG hI hS hl.1 hL (As := [.int y_2]) (c_X8_repeats l D cI cS Z K hL y_2 σ_1 _ hr_13) ⟨(Nat.le_of_ble_eq_true rfl), (Nat.le_of_ble_eq_true rfl)⟩ rfl (Nat.le_of_ble_eq_true rfl) ⟨(Nat.le_of_ble_eq_true rfl), (Nat.le_of_ble_eq_true rfl)⟩ dX8_repeat_21 (fun hzr_13 H locs hI hS => ?_)
        refine lv_if_ne (tgt := 33) hx hb dX8_repeat_24 (by decide) (fun c_15 => ?_) (fun c_15 => ?_)
        · have hf := neg_e c_15 hf
          obtain rfl := so_e hf
          obtain rfl := lk_r hk_7
          exact kn_8 _ _ _ hI hS (lv_sub hl [1] rfl)
        · have hf := pos_e c_15 hf
          obtain ⟨x_14, ex_14, hf⟩ := vl_e hf
          refine lv_iinc (v := x_14) (lv' := [(1, .int x_14), (0, .ref (Z + 183))]) hx hb dX8_repeat_27 hl (k := 1) rfl (by rw [ex_14]; rfl) (by decide) rfl (fun ls hl => ?_)
          refine lv_goto (tgt := 19) hx hb dX8_repeat_30 (by decide) ?_
          obtain rfl := so_e hf
          exact ih_6 x_14 hk_7 _ _ _ hI hS (lv_sub hl [1, 0] rfl)
    obtain ⟨z_3, hy, hf⟩ := bi_e hf
    refine L_5 FU 1 _ hy ?_ _ _ _ hI hS (lv_sub hl [1, 0] rfl)
    clear L_5
    intro H locs ls hI hS hl
    refine lv_iload_n hx hb dX8_repeat_33 rfl (lv_at hl 0 rfl) ?_
    obtain ⟨rfl, rfl⟩ := sp_e hf
    exact mm_ret hx hb hr hlocks rfl hI hS dX8_repeat_34
  · have hf := pos_e c_17 hf
    refine lv_bipush (v := (-9)) hx hb dX8_repeat_14 (by decide) ?_
    obtain ⟨rfl, rfl⟩ := sp_e hf
    exact mm_ret hx hb hr hlocks rfl hI hS dX8_repeat_16
def b_X8_used_4 (a1 : Int32) (σ : Nat → Nat → Int32) : Int32 × Int32 → Option ((Int32 × Int32) ⊕ (Int32))
  | (y_1, y_2) => if (σ 184 1) ≤ y_2 then (some (.inr y_1)) else (bi (f_X8_of a1 3 σ) fun r_25 => bi (f_X8_endAt a1 y_2 σ) fun r_26 => bi (f_X8_has r_25 r_26 σ) fun r_27 => jn (α := Int32 → _) (fun k_32 => if r_27 = 0 then (k_32 0) else (bi (f_X8_of a1 2 σ) fun r_36 => bi (f_X8_need a1 r_36 y_2 σ) fun r_37 => k_32 r_37)) (fun v_31 => vl (y_1 + v_31) fun x_34 => vl (y_2 + 1) fun x_35 => some (.inl (x_34, x_35))))
def f_X8_used (a1 : Int32) (σ : Nat → Nat → Int32) : Option Int32 := bi (lp (b_X8_used_4 a1 σ) FU (0, 0)) fun z_3 => some z_3
set_option maxHeartbeats 4000000 in
set_option maxRecDepth 100000 in
theorem c_X8_used (l : Launch) (D : va_G) (cI cS : ClassId) (Z : Nat) (K : Nat → Nat) (hL : ly K 183 lyModel) (a1 : Int32) (σ : Nat → Nat → Int32) (r : Int32) (hf : f_X8_used a1 σ = some r) : Met l yX8_used (wsT yX8_used cX8_used 4 (some .int)) { frames := 2, cells := 0, slots := 0, locals := 45 } (Pm D cI cS Z K [.ref (Z + 183), .int a1] σ) (Qi D cI cS Z K r σ) 0 0 (aZ Z) := by
  refine mm_met (lv := [(0, .ref (Z + 183)), (1, .int a1)]) (by decide) (Nat.le_of_ble_eq_true rfl) rfl ?_
  intro p e s m args below meth c ls hx hb hr hml hts hown hlocks hG hl hI hS
  have hown : s.vm.findClass RX8 = some m.cls := hown
  rw [f_X8_used] at hf
  refine lv_iconst (v := 0) hx hb dX8_used_0 (by decide) ?_
  refine lv_istore_n (lv' := [(2, .int 0), (0, .ref (Z + 183)), (1, .int a1)]) hx hb dX8_used_1 rfl hl (by decide) rfl (fun ls hl => ?_)
  refine lv_iconst (v := 0) hx hb dX8_used_2 (by decide) ?_
  refine lv_istore_n (lv' := [(3, .int 0), (2, .int 0), (0, .ref (Z + 183)), (1, .int a1)]) hx hb dX8_used_3 rfl hl (by decide) rfl (fun ls hl => ?_)
  have L_5 : ∀ (nn : Nat) (y_1 : Int32) (y_2 : Int32) (z_3 : Int32), lp (b_X8_used_4 a1 σ) nn (y_1, y_2) = some z_3 → (∀ (H : Heap) (locs : List Loc) (ls : Array Slot), fI D cI cS Z K σ H → va_S (aZ Z) s.heap H locs → lv_has ls 4 [(2, .int z_3)] → W p l e { frames := 2, cells := 0, slots := 0, locals := 45 } s m args below meth c H locs 0 0 (MQ below (Qi D cI cS Z K r σ) args s 0 0 (aZ Z)) (F0 m 57 ls [])) → ∀ (H : Heap) (locs : List Loc) (ls : Array Slot), fI D cI cS Z K σ H → va_S (aZ Z) s.heap H locs → lv_has ls 4 [(0, .ref (Z + 183)), (1, .int a1), (2, .int y_1), (3, .int y_2)] → W p l e { frames := 2, cells := 0, slots := 0, locals := 45 } s m args below meth c H locs 0 0 (MQ below (Qi D cI cS Z K r σ) args s 0 0 (aZ Z)) (F0 m 4 ls []) := by
    intro nn
    induction nn with
    | zero =>
      intro y_1 y_2 z_3 hq
      exact (lp_0 hq).elim
    | succ nn ih_6 =>
      intro y_1 y_2 z_3 hq kn_8 H locs ls hI hS hl
      obtain ⟨w_4, hf, hk_7⟩ := lp_e hq
      rw [b_X8_used_4] at hf
      have ih_6 := fun (y_1 : Int32) (y_2 : Int32) q => ih_6 y_1 y_2 z_3 q kn_8
      refine lv_iload_n hx hb dX8_used_4 rfl (lv_at hl 3 rfl) ?_
      refine lv_aload_n hx hb dX8_used_5 rfl (lv_at hl 0 rfl) ?_
      refine gX8_7 (o' := 184) hx hb hts hown hG hI hL rfl dX8_used_6 ?_
      refine lv_iconst (v := 1) hx hb dX8_used_9 (by decide) ?_
      refine mm_ald (k := 1) (n := 456) hx hb hG hI (ly_at hL 1 rfl) (by decide) rfl dX8_used_10 ?_
      refine lv_icmp_ge (tgt := 57) hx hb dX8_used_11 (by decide) (fun c_39 => ?_) (fun c_39 => ?_)
      · have hf := pos_e c_39 hf
        obtain rfl := so_e hf
        obtain rfl := lk_r hk_7
        exact kn_8 _ _ _ hI hS (lv_sub hl [2] rfl)
      · have hf := neg_e c_39 hf
        refine lv_iload_n hx hb dX8_used_14 rfl (lv_at hl 2 rfl) ?_
        refine lv_aload_n hx hb dX8_used_15 rfl (lv_at hl 0 rfl) ?_
        refine lv_iload_n hx hb dX8_used_16 rfl (lv_at hl 1 rfl) ?_
        refine lv_iconst (v := 3) hx hb dX8_used_17 (by decide) ?_
        obtain ⟨r_25, hr_25, hf⟩ := bi_e hf
        refine kX8_133 hx hb hml hts hown hG hI hS hl.1 hL (As := [.int a1, .int 3]) (c_X8_of l D cI cS Z K hL a1 3 σ _ hr_25) ⟨(Nat.le_of_ble_eq_true rfl), (Nat.le_of_ble_eq_true rfl)⟩ rfl (Nat.le_of_ble_eq_true rfl) ⟨(Nat.le_of_ble_eq_true rfl), (Nat.le_of_ble_eq_true rfl)⟩ dX8_used_18 (fun H locs hI hS => ?_)
        refine lv_aload_n hx hb dX8_used_21 rfl (lv_at hl 0 rfl) ?_
        refine lv_iload_n hx hb dX8_used_22 rfl (lv_at hl 1 rfl) ?_
        refine lv_iload_n hx hb dX8_used_23 rfl (lv_at hl 3 rfl) ?_
        obtain ⟨r_26, hr_26, hf⟩ := bi_e hf
        refine kX8_112 hx hb hml hts hown hG hI hS hl.1 hL (As := [.int a1, .int y_2]) (c_X8_endAt l D cI cS Z K hL a1 y_2 σ _ hr_26) ⟨(Nat.le_of_ble_eq_true rfl), (Nat.le_of_ble_eq_true rfl)⟩ rfl (Nat.le_of_ble_eq_true rfl) ⟨(Nat.le_of_ble_eq_true rfl), (Nat.le_of_ble_eq_true rfl)⟩ dX8_used_24 (fun H locs hI hS => ?_)
        obtain ⟨r_27, hr_27, hf⟩ := bi_e hf
        refine kX8_108 hx hb hml hts hown hG hI hS hl.1 (As := [.int r_25, .int r_26]) (c_X8_has l D cI cS Z K r_25 r_26 σ _ hr_27) ⟨(Nat.le_of_ble_eq_true rfl), (Nat.le_of_ble_eq_true rfl)⟩ rfl (Nat.le_of_ble_eq_true rfl) ⟨(Nat.le_of_ble_eq_true rfl), (Nat.le_of_ble_eq_true rfl)⟩ dX8_used_27 (fun hzr_27 H locs hI hS => ?_)
        obtain ⟨k_32, ek_32, hf⟩ := jn_e hf
        have HJ_33 : ∀ (v_31 : Int32) (H : Heap) (locs : List Loc) (ls : Array Slot), k_32 v_31 = some w_4 → fI D cI cS Z K σ H → va_S (aZ Z) s.heap H locs → lv_has ls 4 [(0, .ref (Z + 183)), (1, .int a1), (3, .int y_2)] → W p l e { frames := 2, cells := 0, slots := 0, locals := 45 } s m args below meth c H locs 0 0 (MQ below (Qi D cI cS Z K r σ) args s 0 0 (aZ Z)) (F0 m 49 ls [.int v_31, .int y_1]) := by
          intro v_31 H locs ls hf hI hS hl
          have hf := jb1 ek_32 hf
          refine lv_iadd hx hb dX8_used_49 ?_
          obtain ⟨x_34, ex_34, hf⟩ := vl_e hf
          refine mm_name ex_34 ?_
          refine lv_istore_n (lv' := [(2, .int x_34), (0, .ref (Z + 183)), (1, .int a1), (3, .int y_2)]) hx hb dX8_used_50 rfl hl (by decide) rfl (fun ls hl => ?_)
          obtain ⟨x_35, ex_35, hf⟩ := vl_e hf
          refine lv_iinc (v := x_35) (lv' := [(3, .int x_35), (2, .int x_34), (0, .ref (Z + 183)), (1, .int a1)]) hx hb dX8_used_51 hl (k := 3) rfl (by rw [ex_35]; rfl) (by decide) rfl (fun ls hl => ?_)
          refine lv_goto (tgt := 4) hx hb dX8_used_54 (by decide) ?_
          obtain rfl := so_e hf
          exact ih_6 x_34 x_35 hk_7 _ _ _ hI hS (lv_sub hl [2, 3, 1, 0] rfl)
        clear ek_32
        refine lv_if_eq (tgt := 48) hx hb dX8_used_30 (by decide) (fun c_38 => ?_) (fun c_38 => ?_)
        · have hf := pos_e c_38 hf
          refine lv_iconst (v := 0) hx hb dX8_used_48 (by decide) ?_
          exact HJ_33 0 _ _ _ hf hI hS (lv_sub hl [0, 1, 3] rfl)
        · have hf := neg_e c_38 hf
          refine lv_aload_n hx hb dX8_used_33 rfl (lv_at hl 0 rfl) ?_
          refine lv_iload_n hx hb dX8_used_34 rfl (lv_at hl 1 rfl) ?_
          refine lv_aload_n hx hb dX8_used_35 rfl (lv_at hl 0 rfl) ?_
          refine lv_iload_n hx hb dX8_used_36 rfl (lv_at hl 1 rfl) ?_
          refine lv_iconst (v := 2) hx hb dX8_used_37 (by decide) ?_
          obtain ⟨r_36, hr_36, hf⟩ := bi_e hf
          refine kX8_133 hx hb hml hts hown hG hI hS hl.1 hL (As := [.int a1, .int 2]) (c_X8_of l D cI cS Z K hL a1 2 σ _ hr_36) ⟨(Nat.le_of_ble_eq_true rfl), (Nat.le_of_ble_eq_true rfl)⟩ rfl (Nat.le_of_ble_eq_true rfl) ⟨(Nat.le_of_ble_eq_true rfl), (Nat.le_of_ble_eq_true rfl)⟩ dX8_used_38 (fun H locs hI hS => ?_)
          refine lv_iload_n hx hb dX8_used_41 rfl (lv_at hl 3 rfl) ?_
          obtain ⟨r_37, hr_37, hf⟩ := bi_e hf
          refine kX8_122 hx hb hml hts hown hG hI hS hl.1 hL (As := [.int a1, .int r_36, .int y_2]) (c_X8_need l D cI cS Z K hL a1 r_36 y_2 σ _ hr_37) ⟨(Nat.le_of_ble_eq_true rfl), (Nat.le_of_ble_eq_true rfl)⟩ rfl (Nat.le_of_ble_eq_true rfl) ⟨(Nat.le_of_ble_eq_true rfl), (Nat.le_of_ble_eq_true rfl)⟩ dX8_used_42 (fun H locs hI hS => ?_)
          refine lv_goto (tgt := 49) hx hb dX8_used_45 (by decide) ?_
          exact HJ_33 r_37 _ _ _ hf hI hS (lv_sub hl [0, 1, 3] rfl)
  obtain ⟨z_3, hy, hf⟩ := bi_e hf
  refine L_5 FU 0 0 _ hy ?_ _ _ _ hI hS (lv_sub hl [2, 3, 1, 0] rfl)
  clear L_5
  intro H locs ls hI hS hl
  refine lv_iload_n hx hb dX8_used_57 rfl (lv_at hl 0 rfl) ?_
  obtain rfl := so_e hf
  exact mm_ret hx hb hr hlocks rfl hI hS dX8_used_58
def f_X8_row (a1 : Int32) (a2 : Int32) (σ : Nat → Nat → Int32) : Option (Int32 × (Nat → Nat → Int32)) := vl (wr σ 183 0 0) fun σ_1 => bi (f_X8_isRow a1 σ_1) fun r_2 => if r_2 = 0 then (some ((-1), σ_1)) else (if a2 = 0 then (bi (f_X8_of a1 a2 σ_1) fun r_4 => some (r_4, σ_1)) else (if a2 = 1 then (bi (f_X8_of a1 a2 σ_1) fun r_6 => some (r_6, σ_1)) else (if a2 = 2 then (bi (f_X8_used a1 σ_1) fun r_8 => some (r_8, σ_1)) else (if a2 = 3 then (bi (f_X8_of a1 2 σ_1) fun r_10 => bi (f_X8_sizeOf r_10 σ_1) fun r_11 => some (r_11, σ_1)) else (if a2 = 4 then (bi (f_X8_of a1 3 σ_1) fun r_13 => bi (f_X8_sizeOf r_13 σ_1) fun r_14 => some ((σ_1 184 1) - r_14, σ_1)) else (if a2 = 5 then (bi (f_X8_wrong a1 σ_1) fun r_16 => bi (f_X8_sizeOf r_16 σ_1) fun r_17 => some (r_17, σ_1)) else (if a2 = 6 then (b2 (f_X8_longestOf 1 a1 σ_1) fun r_19 σ_20 => some (r_19, σ_20)) else (some ((-1), σ_1)))))))))
set_option maxHeartbeats 4000000 in
set_option maxRecDepth 100000 in
theorem c_X8_row (l : Launch) (D : va_G) (cI cS : ClassId) (Z : Nat) (K : Nat → Nat) (hL : ly K 183 lyModel) (a1 : Int32) (a2 : Int32) (σ : Nat → Nat → Int32) (r : Int32) (σ' : Nat → Nat → Int32) (hf : f_X8_row a1 a2 σ = some (r, σ')) : Met l yX8_row (wsT yX8_row cX8_row 3 (some .int)) { frames := 4, cells := 0, slots := 0, locals := 94 } (Pm D cI cS Z K [.ref (Z + 183), .int a1, .int a2] σ) (Qi D cI cS Z K r σ') 0 0 (aZ Z) := by
  refine mm_met (lv := [(0, .ref (Z + 183)), (1, .int a1), (2, .int a2)]) (by decide) (Nat.le_of_ble_eq_true rfl) rfl ?_
  intro p e s m args below meth c ls hx hb hr hml hts hown hlocks hG hl hI hS
  have hown : s.vm.findClass RX8 = some m.cls := hown
  rw [f_X8_row] at hf
  refine lv_aload_n hx hb dX8_row_0 rfl (lv_at hl 0 rfl) ?_
  refine lv_iconst (v := 0) hx hb dX8_row_1 (by decide) ?_
  obtain ⟨σ_1, eσ_1, hf⟩ := vl_e hf
  refine pX8_28 hx hb hts hown hG hI hS hL dX8_row_2 (fun H locs hI hS => ?_)
  rw [← eσ_1] at hI
  refine lv_aload_n hx hb dX8_row_5 rfl (lv_at hl 0 rfl) ?_
  refine lv_iload_n hx hb dX8_row_6 rfl (lv_at hl 1 rfl) ?_
  obtain ⟨r_2, hr_2, hf⟩ := bi_e hf
  refine kX8_181 hx hb hml hts hown hG hI hS hl.1 hL (As := [.int a1]) (c_X8_isRow l D cI cS Z K hL a1 σ_1 _ hr_2) ⟨(Nat.le_of_ble_eq_true rfl), (Nat.le_of_ble_eq_true rfl)⟩ rfl (Nat.le_of_ble_eq_true rfl) ⟨(Nat.le_of_ble_eq_true rfl), (Nat.le_of_ble_eq_true rfl)⟩ dX8_row_7 (fun hzr_2 H locs hI hS => ?_)
  refine lv_if_ne (tgt := 15) hx hb dX8_row_10 (by decide) (fun c_21 => ?_) (fun c_21 => ?_)
  · have hf := neg_e c_21 hf
    refine lv_iload_n hx hb dX8_row_15 rfl (lv_at hl 2 rfl) ?_
    by_cases c_3 : a2 = 0
    · have hf := pos_e c_3 hf
      refine lv_tableIn (off := 44) (tgt := 60) hx hb dX8_row_16 (by rw [c_3]; decide) (by rw [c_3]; decide) (by rw [c_3]; rfl) (by decide) ?_
      refine lv_aload_n hx hb dX8_row_60 rfl (lv_at hl 0 rfl) ?_
      refine lv_iload_n hx hb dX8_row_61 rfl (lv_at hl 1 rfl) ?_
      refine lv_iload_n hx hb dX8_row_62 rfl (lv_at hl 2 rfl) ?_
      obtain ⟨r_4, hr_4, hf⟩ := bi_e hf
      refine kX8_133 hx hb hml hts hown hG hI hS hl.1 hL (As := [.int a1, .int a2]) (c_X8_of l D cI cS Z K hL a1 a2 σ_1 _ hr_4) ⟨(Nat.le_of_ble_eq_true rfl), (Nat.le_of_ble_eq_true rfl)⟩ rfl (Nat.le_of_ble_eq_true rfl) ⟨(Nat.le_of_ble_eq_true rfl), (Nat.le_of_ble_eq_true rfl)⟩ dX8_row_63 (fun H locs hI hS => ?_)
      obtain ⟨rfl, rfl⟩ := sp_e hf
      exact mm_ret hx hb hr hlocks rfl hI hS dX8_row_66
    have hf := neg_e c_3 hf
    by_cases c_5 : a2 = 1
    · have hf := pos_e c_5 hf
      refine lv_tableIn (off := 44) (tgt := 60) hx hb dX8_row_16 (by rw [c_5]; decide) (by rw [c_5]; decide) (by rw [c_5]; rfl) (by decide) ?_
      refine lv_aload_n hx hb dX8_row_60 rfl (lv_at hl 0 rfl) ?_
      refine lv_iload_n hx hb dX8_row_61 rfl (lv_at hl 1 rfl) ?_
      refine lv_iload_n hx hb dX8_row_62 rfl (lv_at hl 2 rfl) ?_
      obtain ⟨r_6, hr_6, hf⟩ := bi_e hf
      refine kX8_133 hx hb hml hts hown hG hI hS hl.1 hL (As := [.int a1, .int a2]) (c_X8_of l D cI cS Z K hL a1 a2 σ_1 _ hr_6) ⟨(Nat.le_of_ble_eq_true rfl), (Nat.le_of_ble_eq_true rfl)⟩ rfl (Nat.le_of_ble_eq_true rfl) ⟨(Nat.le_of_ble_eq_true rfl), (Nat.le_of_ble_eq_true rfl)⟩ dX8_row_63 (fun H locs hI hS => ?_)
      obtain ⟨rfl, rfl⟩ := sp_e hf
      exact mm_ret hx hb hr hlocks rfl hI hS dX8_row_66
    have hf := neg_e c_5 hf
    by_cases c_7 : a2 = 2
    · have hf := pos_e c_7 hf
      refine lv_tableIn (off := 51) (tgt := 67) hx hb dX8_row_16 (by rw [c_7]; decide) (by rw [c_7]; decide) (by rw [c_7]; rfl) (by decide) ?_
      refine lv_aload_n hx hb dX8_row_67 rfl (lv_at hl 0 rfl) ?_
      refine lv_iload_n hx hb dX8_row_68 rfl (lv_at hl 1 rfl) ?_
      obtain ⟨r_8, hr_8, hf⟩ := bi_e hf
      refine kX8_145 hx hb hml hts hown hG hI hS hl.1 hL (As := [.int a1]) (c_X8_used l D cI cS Z K hL a1 σ_1 _ hr_8) ⟨(Nat.le_of_ble_eq_true rfl), (Nat.le_of_ble_eq_true rfl)⟩ rfl (Nat.le_of_ble_eq_true rfl) ⟨(Nat.le_of_ble_eq_true rfl), (Nat.le_of_ble_eq_true rfl)⟩ dX8_row_69 (fun H locs hI hS => ?_)
      obtain ⟨rfl, rfl⟩ := sp_e hf
      exact mm_ret hx hb hr hlocks rfl hI hS dX8_row_72
    have hf := neg_e c_7 hf
    by_cases c_9 : a2 = 3
    · have hf := pos_e c_9 hf
      refine lv_tableIn (off := 57) (tgt := 73) hx hb dX8_row_16 (by rw [c_9]; decide) (by rw [c_9]; decide) (by rw [c_9]; rfl) (by decide) ?_
      refine lv_aload_n hx hb dX8_row_73 rfl (lv_at hl 0 rfl) ?_
      refine lv_iload_n hx hb dX8_row_74 rfl (lv_at hl 1 rfl) ?_
      refine lv_iconst (v := 2) hx hb dX8_row_75 (by decide) ?_
      obtain ⟨r_10, hr_10, hf⟩ := bi_e hf
      refine kX8_133 hx hb hml hts hown hG hI hS hl.1 hL (As := [.int a1, .int 2]) (c_X8_of l D cI cS Z K hL a1 2 σ_1 _ hr_10) ⟨(Nat.le_of_ble_eq_true rfl), (Nat.le_of_ble_eq_true rfl)⟩ rfl (Nat.le_of_ble_eq_true rfl) ⟨(Nat.le_of_ble_eq_true rfl), (Nat.le_of_ble_eq_true rfl)⟩ dX8_row_76 (fun H locs hI hS => ?_)
      obtain ⟨r_11, hr_11, hf⟩ := bi_e hf
      refine kX8_151 hx hb hml hts hown hG hI hS hl.1 (As := [.int r_10]) (c_X8_sizeOf l D cI cS Z K r_10 σ_1 _ hr_11) ⟨(Nat.le_of_ble_eq_true rfl), (Nat.le_of_ble_eq_true rfl)⟩ rfl (Nat.le_of_ble_eq_true rfl) ⟨(Nat.le_of_ble_eq_true rfl), (Nat.le_of_ble_eq_true rfl)⟩ dX8_row_79 (fun H locs hI hS => ?_)
      obtain ⟨rfl, rfl⟩ := sp_e hf
      exact mm_ret hx hb hr hlocks rfl hI hS dX8_row_82
    have hf := neg_e c_9 hf
    by_cases c_12 : a2 = 4
    · have hf := pos_e c_12 hf
      refine lv_tableIn (off := 67) (tgt := 83) hx hb dX8_row_16 (by rw [c_12]; decide) (by rw [c_12]; decide) (by rw [c_12]; rfl) (by decide) ?_
      refine lv_aload_n hx hb dX8_row_83 rfl (lv_at hl 0 rfl) ?_
      refine gX8_7 (o' := 184) hx hb hts hown hG hI hL rfl dX8_row_84 ?_
      refine lv_iconst (v := 1) hx hb dX8_row_87 (by decide) ?_
      refine mm_ald (k := 1) (n := 456) hx hb hG hI (ly_at hL 1 rfl) (by decide) rfl dX8_row_88 ?_
      refine lv_aload_n hx hb dX8_row_89 rfl (lv_at hl 0 rfl) ?_
      refine lv_iload_n hx hb dX8_row_90 rfl (lv_at hl 1 rfl) ?_
      refine lv_iconst (v := 3) hx hb dX8_row_91 (by decide) ?_
      obtain ⟨r_13, hr_13, hf⟩ := bi_e hf
      refine kX8_133 hx hb hml hts hown hG hI hS hl.1 hL (As := [.int a1, .int 3]) (c_X8_of l D cI cS Z K hL a1 3 σ_1 _ hr_13) ⟨(Nat.le_of_ble_eq_true rfl), (Nat.le_of_ble_eq_true rfl)⟩ rfl (Nat.le_of_ble_eq_true rfl) ⟨(Nat.le_of_ble_eq_true rfl), (Nat.le_of_ble_eq_true rfl)⟩ dX8_row_92 (fun H locs hI hS => ?_)
      obtain ⟨r_14, hr_14, hf⟩ := bi_e hf
      refine kX8_151 hx hb hml hts hown hG hI hS hl.1 (As := [.int r_13]) (c_X8_sizeOf l D cI cS Z K r_13 σ_1 _ hr_14) ⟨(Nat.le_of_ble_eq_true rfl), (Nat.le_of_ble_eq_true rfl)⟩ rfl (Nat.le_of_ble_eq_true rfl) ⟨(Nat.le_of_ble_eq_true rfl), (Nat.le_of_ble_eq_true rfl)⟩ dX8_row_95 (fun H locs hI hS => ?_)
      refine lv_isub hx hb dX8_row_98 ?_
      obtain ⟨rfl, rfl⟩ := sp_e hf
      exact mm_ret hx hb hr hlocks rfl hI hS dX8_row_99
    have hf := neg_e c_12 hf
    by_cases c_15 : a2 = 5
    · have hf := pos_e c_15 hf
      refine lv_tableIn (off := 84) (tgt := 100) hx hb dX8_row_16 (by rw [c_15]; decide) (by rw [c_15]; decide) (by rw [c_15]; rfl) (by decide) ?_
      refine lv_aload_n hx hb dX8_row_100 rfl (lv_at hl 0 rfl) ?_
      refine lv_iload_n hx hb dX8_row_101 rfl (lv_at hl 1 rfl) ?_
      obtain ⟨r_16, hr_16, hf⟩ := bi_e hf
      refine kX8_148 hx hb hml hts hown hG hI hS hl.1 hL (As := [.int a1]) (c_X8_wrong l D cI cS Z K hL a1 σ_1 _ hr_16) ⟨(Nat.le_of_ble_eq_true rfl), (Nat.le_of_ble_eq_true rfl)⟩ rfl (Nat.le_of_ble_eq_true rfl) ⟨(Nat.le_of_ble_eq_true rfl), (Nat.le_of_ble_eq_true rfl)⟩ dX8_row_102 (fun H locs hI hS => ?_)
      obtain ⟨r_17, hr_17, hf⟩ := bi_e hf
      refine kX8_151 hx hb hml hts hown hG hI hS hl.1 (As := [.int r_16]) (c_X8_sizeOf l D cI cS Z K r_16 σ_1 _ hr_17) ⟨(Nat.le_of_ble_eq_true rfl), (Nat.le_of_ble_eq_true rfl)⟩ rfl (Nat.le_of_ble_eq_true rfl) ⟨(Nat.le_of_ble_eq_true rfl), (Nat.le_of_ble_eq_true rfl)⟩ dX8_row_105 (fun H locs hI hS => ?_)
      obtain ⟨rfl, rfl⟩ := sp_e hf
      exact mm_ret hx hb hr hlocks rfl hI hS dX8_row_108
    have hf := neg_e c_15 hf
    by_cases c_18 : a2 = 6
    · have hf := pos_e c_18 hf
      refine lv_tableIn (off := 93) (tgt := 109) hx hb dX8_row_16 (by rw [c_18]; decide) (by rw [c_18]; decide) (by rw [c_18]; rfl) (by decide) ?_
      refine lv_aload_n hx hb dX8_row_109 rfl (lv_at hl 0 rfl) ?_
      refine lv_iconst (v := 1) hx hb dX8_row_110 (by decide) ?_
      refine lv_iload_n hx hb dX8_row_111 rfl (lv_at hl 1 rfl) ?_
      obtain ⟨r_19, σ_20, hr_19, hf⟩ := b2_e hf
      refine kX8_175 hx hb hml hts hown hG hI hS hl.1 hL (As := [.int 1, .int a1]) (c_X8_longestOf l D cI cS Z K hL 1 a1 σ_1 _ _ hr_19) ⟨(Nat.le_of_ble_eq_true rfl), (Nat.le_of_ble_eq_true rfl)⟩ rfl (Nat.le_of_ble_eq_true rfl) ⟨(Nat.le_of_ble_eq_true rfl), (Nat.le_of_ble_eq_true rfl)⟩ dX8_row_112 (fun H locs hI hS => ?_)
      obtain ⟨rfl, rfl⟩ := sp_e hf
      exact mm_ret hx hb hr hlocks rfl hI hS dX8_row_115
    have hf := neg_e c_18 hf
    refine lv_tableOut (tgt := 116) hx hb dX8_row_16 (sw_out6 c_3 c_5 c_7 c_9 c_12 c_15 c_18) (by decide) ?_
    refine lv_iconst (v := (-1)) hx hb dX8_row_116 (by decide) ?_
    obtain ⟨rfl, rfl⟩ := sp_e hf
    exact mm_ret hx hb hr hlocks rfl hI hS dX8_row_117
  · have hf := pos_e c_21 hf
    refine lv_iconst (v := (-1)) hx hb dX8_row_13 (by decide) ?_
    obtain ⟨rfl, rfl⟩ := sp_e hf
    exact mm_ret hx hb hr hlocks rfl hI hS dX8_row_14
def f_X8_setBar (a1 : Int32) (a2 : Int32) (a3 : Int32) (σ : Nat → Nat → Int32) : Option (Int32 × (Nat → Nat → Int32)) := vl (wr σ 183 0 0) fun σ_1 => bi (f_X8_isBar a1 σ_1) fun r_2 => if r_2 = 0 then (some ((-1), σ_1)) else (bi (f_X8_isLift a2 σ_1) fun r_3 => if r_3 = 0 then (some ((-1), σ_1)) else (bi (f_X8_isColor a3 σ_1) fun r_4 => if r_4 = 0 then (some ((-1), σ_1)) else (bi (f_X8_act σ_1) fun σ_6 => ix (78 + a1) 456 <| ix (102 + a1) 456 <| vl ((10 * (σ_6 184 (78 + a1).toNatClampNeg)) + (σ_6 184 (102 + a1).toNatClampNeg)) fun x_7 => bi (f_X8_makeBar a1 a2 a3 σ_6) fun σ_9 => some (x_7, σ_9))))
set_option maxHeartbeats 4000000 in
set_option maxRecDepth 100000 in
theorem c_X8_setBar (l : Launch) (D : va_G) (cI cS : ClassId) (Z : Nat) (K : Nat → Nat) (hL : ly K 183 lyModel) (a1 : Int32) (a2 : Int32) (a3 : Int32) (σ : Nat → Nat → Int32) (r : Int32) (σ' : Nat → Nat → Int32) (hf : f_X8_setBar a1 a2 a3 σ = some (r, σ')) : Met l yX8_setBar (wsT yX8_setBar cX8_setBar 5 (some .int)) { frames := 2, cells := 0, slots := 0, locals := 43 } (Pm D cI cS Z K [.ref (Z + 183), .int a1, .int a2, .int a3] σ) (Qi D cI cS Z K r σ') 0 0 (aZ Z) := by
  refine mm_met (lv := [(0, .ref (Z + 183)), (1, .int a1), (2, .int a2), (3, .int a3)]) (by decide) (Nat.le_of_ble_eq_true rfl) rfl ?_
  intro p e s m args below meth c ls hx hb hr hml hts hown hlocks hG hl hI hS
  have hown : s.vm.findClass RX8 = some m.cls := hown
  rw [f_X8_setBar] at hf
  refine lv_aload_n hx hb dX8_setBar_0 rfl (lv_at hl 0 rfl) ?_
  refine lv_iconst (v := 0) hx hb dX8_setBar_1 (by decide) ?_
  obtain ⟨σ_1, eσ_1, hf⟩ := vl_e hf
  refine pX8_28 hx hb hts hown hG hI hS hL dX8_setBar_2 (fun H locs hI hS => ?_)
  rw [← eσ_1] at hI
  refine lv_aload_n hx hb dX8_setBar_5 rfl (lv_at hl 0 rfl) ?_
  refine lv_iload_n hx hb dX8_setBar_6 rfl (lv_at hl 1 rfl) ?_
  obtain ⟨r_2, hr_2, hf⟩ := bi_e hf
  refine kX8_67 hx hb hml hts hown hG hI hS hl.1 hL (As := [.int a1]) (c_X8_isBar l D cI cS Z K hL a1 σ_1 _ hr_2) ⟨(Nat.le_of_ble_eq_true rfl), (Nat.le_of_ble_eq_true rfl)⟩ rfl (Nat.le_of_ble_eq_true rfl) ⟨(Nat.le_of_ble_eq_true rfl), (Nat.le_of_ble_eq_true rfl)⟩ dX8_setBar_7 (fun hzr_2 H locs hI hS => ?_)
  refine lv_if_eq (tgt := 28) hx hb dX8_setBar_10 (by decide) (fun c_12 => ?_) (fun c_12 => ?_)
  · have hf := pos_e c_12 hf
    refine lv_iconst (v := (-1)) hx hb dX8_setBar_28 (by decide) ?_
    obtain ⟨rfl, rfl⟩ := sp_e hf
    exact mm_ret hx hb hr hlocks rfl hI hS dX8_setBar_29
  · have hf := neg_e c_12 hf
    refine lv_aload_n hx hb dX8_setBar_13 rfl (lv_at hl 0 rfl) ?_
    refine lv_iload_n hx hb dX8_setBar_14 rfl (lv_at hl 2 rfl) ?_
    obtain ⟨r_3, hr_3, hf⟩ := bi_e hf
    refine kX8_60 hx hb hml hts hown hG hI hS hl.1 hL (As := [.int a2]) (c_X8_isLift l D cI cS Z K hL a2 σ_1 _ hr_3) ⟨(Nat.le_of_ble_eq_true rfl), (Nat.le_of_ble_eq_true rfl)⟩ rfl (Nat.le_of_ble_eq_true rfl) ⟨(Nat.le_of_ble_eq_true rfl), (Nat.le_of_ble_eq_true rfl)⟩ dX8_setBar_15 (fun hzr_3 H locs hI hS => ?_)
    refine lv_if_eq (tgt := 28) hx hb dX8_setBar_18 (by decide) (fun c_11 => ?_) (fun c_11 => ?_)
    · have hf := pos_e c_11 hf
      refine lv_iconst (v := (-1)) hx hb dX8_setBar_28 (by decide) ?_
      obtain ⟨rfl, rfl⟩ := sp_e hf
      exact mm_ret hx hb hr hlocks rfl hI hS dX8_setBar_29
    · have hf := neg_e c_11 hf
      refine lv_iload_n hx hb dX8_setBar_21 rfl (lv_at hl 3 rfl) ?_
      obtain ⟨r_4, hr_4, hf⟩ := bi_e hf
      refine kX8_53 hx hb hml hts hown hG hI hS hl.1 (As := [.int a3]) (c_X8_isColor l D cI cS Z K a3 σ_1 _ hr_4) ⟨(Nat.le_of_ble_eq_true rfl), (Nat.le_of_ble_eq_true rfl)⟩ rfl (Nat.le_of_ble_eq_true rfl) ⟨(Nat.le_of_ble_eq_true rfl), (Nat.le_of_ble_eq_true rfl)⟩ dX8_setBar_22 (fun hzr_4 H locs hI hS => ?_)
      refine lv_if_ne (tgt := 30) hx hb dX8_setBar_25 (by decide) (fun c_10 => ?_) (fun c_10 => ?_)
      · have hf := neg_e c_10 hf
        refine lv_aload_n hx hb dX8_setBar_30 rfl (lv_at hl 0 rfl) ?_
        obtain ⟨σ_6, hσ_6, hf⟩ := bi_e hf
        refine kX8_43 hx hb hml hts hown hG hI hS hl.1 hL (As := []) (c_X8_act l D cI cS Z K hL σ_1 _ hσ_6) ⟨(Nat.le_of_ble_eq_true rfl), (Nat.le_of_ble_eq_true rfl)⟩ rfl (Nat.le_of_ble_eq_true rfl) ⟨(Nat.le_of_ble_eq_true rfl), (Nat.le_of_ble_eq_true rfl)⟩ dX8_setBar_31 (fun H locs hI hS => ?_)
        refine lv_bipush (v := 10) hx hb dX8_setBar_34 (by decide) ?_
        refine lv_aload_n hx hb dX8_setBar_36 rfl (lv_at hl 0 rfl) ?_
        refine gX8_7 (o' := 184) hx hb hts hown hG hI hL rfl dX8_setBar_37 ?_
        refine lv_bipush (v := 78) hx hb dX8_setBar_40 (by decide) ?_
        refine lv_iload_n hx hb dX8_setBar_42 rfl (lv_at hl 1 rfl) ?_
        refine lv_iadd hx hb dX8_setBar_43 ?_
        obtain ⟨hix, hf⟩ := ix_e hf
        refine mm_ald hx hb hG hI (ly_at hL 1 rfl) hix rfl dX8_setBar_44 ?_
        refine lv_imul hx hb dX8_setBar_45 ?_
        refine lv_aload_n hx hb dX8_setBar_46 rfl (lv_at hl 0 rfl) ?_
        refine gX8_7 (o' := 184) hx hb hts hown hG hI hL rfl dX8_setBar_47 ?_
        refine lv_bipush (v := 102) hx hb dX8_setBar_50 (by decide) ?_
        refine lv_iload_n hx hb dX8_setBar_52 rfl (lv_at hl 1 rfl) ?_
        refine lv_iadd hx hb dX8_setBar_53 ?_
        obtain ⟨hix, hf⟩ := ix_e hf
        refine mm_ald hx hb hG hI (ly_at hL 1 rfl) hix rfl dX8_setBar_54 ?_
        refine lv_iadd hx hb dX8_setBar_55 ?_
        obtain ⟨x_7, ex_7, hf⟩ := vl_e hf
        refine mm_name ex_7 ?_
        refine lv_istore (lv' := [(4, .int x_7), (0, .ref (Z + 183)), (1, .int a1), (2, .int a2), (3, .int a3)]) hx hb dX8_setBar_56 hl (by decide) rfl (fun ls hl => ?_)
        refine lv_aload_n hx hb dX8_setBar_58 rfl (lv_at hl 1 rfl) ?_
        refine lv_iload_n hx hb dX8_setBar_59 rfl (lv_at hl 2 rfl) ?_
        refine lv_iload_n hx hb dX8_setBar_60 rfl (lv_at hl 3 rfl) ?_
        refine lv_iload_n hx hb dX8_setBar_61 rfl (lv_at hl 4 rfl) ?_
        obtain ⟨σ_9, hσ_9, hf⟩ := bi_e hf
        refine kX8_63 hx hb hml hts hown hG hI hS hl.1 hL (As := [.int a1, .int a2, .int a3]) (c_X8_makeBar l D cI cS Z K hL a1 a2 a3 σ_6 _ hσ_9) ⟨(Nat.le_of_ble_eq_true rfl), (Nat.le_of_ble_eq_true rfl)⟩ rfl (Nat.le_of_ble_eq_true rfl) ⟨(Nat.le_of_ble_eq_true rfl), (Nat.le_of_ble_eq_true rfl)⟩ dX8_setBar_62 (fun H locs hI hS => ?_)
        refine lv_iload hx hb dX8_setBar_65 (lv_at hl 0 rfl) ?_
        obtain ⟨rfl, rfl⟩ := sp_e hf
        exact mm_ret hx hb hr hlocks rfl hI hS dX8_setBar_67
      · have hf := pos_e c_10 hf
        refine lv_iconst (v := (-1)) hx hb dX8_setBar_28 (by decide) ?_
        obtain ⟨rfl, rfl⟩ := sp_e hf
        exact mm_ret hx hb hr hlocks rfl hI hS dX8_setBar_29
def f_X8_setDirection (a1 : Int32) (σ : Nat → Nat → Int32) : Option (Int32 × (Nat → Nat → Int32)) := vl (wr σ 183 0 0) fun σ_1 => bi (f_X8_in a1 0 1 σ_1) fun r_2 => if r_2 = 0 then (some ((-1), σ_1)) else (b2 (f_X8_put 4 a1 σ_1) fun r_3 σ_4 => some (r_3, σ_4))
set_option maxHeartbeats 4000000 in
set_option maxRecDepth 100000 in
theorem c_X8_setDirection (l : Launch) (D : va_G) (cI cS : ClassId) (Z : Nat) (K : Nat → Nat) (hL : ly K 183 lyModel) (a1 : Int32) (σ : Nat → Nat → Int32) (r : Int32) (σ' : Nat → Nat → Int32) (hf : f_X8_setDirection a1 σ = some (r, σ')) : Met l yX8_setDirection (wsT yX8_setDirection cX8_setDirection 2 (some .int)) { frames := 2, cells := 0, slots := 0, locals := 44 } (Pm D cI cS Z K [.ref (Z + 183), .int a1] σ) (Qi D cI cS Z K r σ') 0 0 (aZ Z) := by
  refine mm_met (lv := [(0, .ref (Z + 183)), (1, .int a1)]) (by decide) (Nat.le_of_ble_eq_true rfl) rfl ?_
  intro p e s m args below meth c ls hx hb hr hml hts hown hlocks hG hl hI hS
  have hown : s.vm.findClass RX8 = some m.cls := hown
  rw [f_X8_setDirection] at hf
  refine lv_aload_n hx hb dX8_setDirection_0 rfl (lv_at hl 0 rfl) ?_
  refine lv_iconst (v := 0) hx hb dX8_setDirection_1 (by decide) ?_
  obtain ⟨σ_1, eσ_1, hf⟩ := vl_e hf
  refine pX8_28 hx hb hts hown hG hI hS hL dX8_setDirection_2 (fun H locs hI hS => ?_)
  rw [← eσ_1] at hI
  refine lv_iload_n hx hb dX8_setDirection_5 rfl (lv_at hl 1 rfl) ?_
  refine lv_iconst (v := 0) hx hb dX8_setDirection_6 (by decide) ?_
  refine lv_iconst (v := 1) hx hb dX8_setDirection_7 (by decide) ?_
  obtain ⟨r_2, hr_2, hf⟩ := bi_e hf
  refine kX8_39 hx hb hml hts hown hG hI hS hl.1 (As := [.int a1, .int 0, .int 1]) (c_X8_in l D cI cS Z K a1 0 1 σ_1 _ hr_2) ⟨(Nat.le_of_ble_eq_true rfl), (Nat.le_of_ble_eq_true rfl)⟩ rfl (Nat.le_of_ble_eq_true rfl) ⟨(Nat.le_of_ble_eq_true rfl), (Nat.le_of_ble_eq_true rfl)⟩ dX8_setDirection_8 (fun hzr_2 H locs hI hS => ?_)
  refine lv_if_eq (tgt := 23) hx hb dX8_setDirection_11 (by decide) (fun c_5 => ?_) (fun c_5 => ?_)
  · have hf := pos_e c_5 hf
    refine lv_iconst (v := (-1)) hx hb dX8_setDirection_23 (by decide) ?_
    obtain ⟨rfl, rfl⟩ := sp_e hf
    exact mm_ret hx hb hr hlocks rfl hI hS dX8_setDirection_24
  · have hf := neg_e c_5 hf
    refine lv_aload_n hx hb dX8_setDirection_14 rfl (lv_at hl 0 rfl) ?_
    refine lv_iconst (v := 4) hx hb dX8_setDirection_15 (by decide) ?_
    refine lv_iload_n hx hb dX8_setDirection_16 rfl (lv_at hl 1 rfl) ?_
    obtain ⟨r_3, σ_4, hr_3, hf⟩ := b2_e hf
    refine kX8_56 hx hb hml hts hown hG hI hS hl.1 hL (As := [.int 4, .int a1]) (c_X8_put l D cI cS Z K hL 4 a1 σ_1 _ _ hr_3) ⟨(Nat.le_of_ble_eq_true rfl), (Nat.le_of_ble_eq_true rfl)⟩ rfl (Nat.le_of_ble_eq_true rfl) ⟨(Nat.le_of_ble_eq_true rfl), (Nat.le_of_ble_eq_true rfl)⟩ dX8_setDirection_17 (fun H locs hI hS => ?_)
    refine lv_goto (tgt := 24) hx hb dX8_setDirection_20 (by decide) ?_
    obtain ⟨rfl, rfl⟩ := sp_e hf
    exact mm_ret hx hb hr hlocks rfl hI hS dX8_setDirection_24
def f_X8_setEnd (a1 : Int32) (a2 : Int32) (a3 : Int32) (σ : Nat → Nat → Int32) : Option (Int32 × (Nat → Nat → Int32)) := vl (wr σ 183 0 0) fun σ_1 => bi (f_X8_isEnd a1 σ_1) fun r_2 => if r_2 = 0 then (some ((-1), σ_1)) else (bi (f_X8_isShaft a2 σ_1) fun r_3 => if r_3 = 0 then (some ((-1), σ_1)) else (bi (f_X8_isColor a3 σ_1) fun r_4 => if r_4 = 0 then (some ((-1), σ_1)) else (bi (f_X8_act σ_1) fun σ_6 => ix (6 + a1) 456 <| ix (38 + a1) 456 <| vl ((10 * (σ_6 184 (6 + a1).toNatClampNeg)) + (σ_6 184 (38 + a1).toNatClampNeg)) fun x_7 => ix (6 + a1) 456 <| vl (wr σ_6 184 (6 + a1).toNatClampNeg a2) fun σ_8 => ix (38 + a1) 456 <| vl (wr σ_8 184 (38 + a1).toNatClampNeg a3) fun σ_9 => some (x_7, σ_9))))
set_option maxHeartbeats 4000000 in
set_option maxRecDepth 100000 in
theorem c_X8_setEnd (l : Launch) (D : va_G) (cI cS : ClassId) (Z : Nat) (K : Nat → Nat) (hL : ly K 183 lyModel) (a1 : Int32) (a2 : Int32) (a3 : Int32) (σ : Nat → Nat → Int32) (r : Int32) (σ' : Nat → Nat → Int32) (hf : f_X8_setEnd a1 a2 a3 σ = some (r, σ')) : Met l yX8_setEnd (wsT yX8_setEnd cX8_setEnd 5 (some .int)) { frames := 2, cells := 0, slots := 0, locals := 43 } (Pm D cI cS Z K [.ref (Z + 183), .int a1, .int a2, .int a3] σ) (Qi D cI cS Z K r σ') 0 0 (aZ Z) := by
  refine mm_met (lv := [(0, .ref (Z + 183)), (1, .int a1), (2, .int a2), (3, .int a3)]) (by decide) (Nat.le_of_ble_eq_true rfl) rfl ?_
  intro p e s m args below meth c ls hx hb hr hml hts hown hlocks hG hl hI hS
  have hown : s.vm.findClass RX8 = some m.cls := hown
  rw [f_X8_setEnd] at hf
  refine lv_aload_n hx hb dX8_setEnd_0 rfl (lv_at hl 0 rfl) ?_
  refine lv_iconst (v := 0) hx hb dX8_setEnd_1 (by decide) ?_
  obtain ⟨σ_1, eσ_1, hf⟩ := vl_e hf
  refine pX8_28 hx hb hts hown hG hI hS hL dX8_setEnd_2 (fun H locs hI hS => ?_)
  rw [← eσ_1] at hI
  refine lv_aload_n hx hb dX8_setEnd_5 rfl (lv_at hl 0 rfl) ?_
  refine lv_iload_n hx hb dX8_setEnd_6 rfl (lv_at hl 1 rfl) ?_
  obtain ⟨r_2, hr_2, hf⟩ := bi_e hf
  refine kX8_46 hx hb hml hts hown hG hI hS hl.1 hL (As := [.int a1]) (c_X8_isEnd l D cI cS Z K hL a1 σ_1 _ hr_2) ⟨(Nat.le_of_ble_eq_true rfl), (Nat.le_of_ble_eq_true rfl)⟩ rfl (Nat.le_of_ble_eq_true rfl) ⟨(Nat.le_of_ble_eq_true rfl), (Nat.le_of_ble_eq_true rfl)⟩ dX8_setEnd_7 (fun hzr_2 H locs hI hS => ?_)
  refine lv_if_eq (tgt := 28) hx hb dX8_setEnd_10 (by decide) (fun c_12 => ?_) (fun c_12 => ?_)
  · have hf := pos_e c_12 hf
    refine lv_iconst (v := (-1)) hx hb dX8_setEnd_28 (by decide) ?_
    obtain ⟨rfl, rfl⟩ := sp_e hf
    exact mm_ret hx hb hr hlocks rfl hI hS dX8_setEnd_29
  · have hf := neg_e c_12 hf
    refine lv_aload_n hx hb dX8_setEnd_13 rfl (lv_at hl 0 rfl) ?_
    refine lv_iload_n hx hb dX8_setEnd_14 rfl (lv_at hl 2 rfl) ?_
    obtain ⟨r_3, hr_3, hf⟩ := bi_e hf
    refine kX8_50 hx hb hml hts hown hG hI hS hl.1 hL (As := [.int a2]) (c_X8_isShaft l D cI cS Z K hL a2 σ_1 _ hr_3) ⟨(Nat.le_of_ble_eq_true rfl), (Nat.le_of_ble_eq_true rfl)⟩ rfl (Nat.le_of_ble_eq_true rfl) ⟨(Nat.le_of_ble_eq_true rfl), (Nat.le_of_ble_eq_true rfl)⟩ dX8_setEnd_15 (fun hzr_3 H locs hI hS => ?_)
    refine lv_if_eq (tgt := 28) hx hb dX8_setEnd_18 (by decide) (fun c_11 => ?_) (fun c_11 => ?_)
    · have hf := pos_e c_11 hf
      refine lv_iconst (v := (-1)) hx hb dX8_setEnd_28 (by decide) ?_
      obtain ⟨rfl, rfl⟩ := sp_e hf
      exact mm_ret hx hb hr hlocks rfl hI hS dX8_setEnd_29
    · have hf := neg_e c_11 hf
      refine lv_iload_n hx hb dX8_setEnd_21 rfl (lv_at hl 3 rfl) ?_
      obtain ⟨r_4, hr_4, hf⟩ := bi_e hf
      refine kX8_53 hx hb hml hts hown hG hI hS hl.1 (As := [.int a3]) (c_X8_isColor l D cI cS Z K a3 σ_1 _ hr_4) ⟨(Nat.le_of_ble_eq_true rfl), (Nat.le_of_ble_eq_true rfl)⟩ rfl (Nat.le_of_ble_eq_true rfl) ⟨(Nat.le_of_ble_eq_true rfl), (Nat.le_of_ble_eq_true rfl)⟩ dX8_setEnd_22 (fun hzr_4 H locs hI hS => ?_)
      refine lv_if_ne (tgt := 30) hx hb dX8_setEnd_25 (by decide) (fun c_10 => ?_) (fun c_10 => ?_)
      · have hf := neg_e c_10 hf
        refine lv_aload_n hx hb dX8_setEnd_30 rfl (lv_at hl 0 rfl) ?_
        obtain ⟨σ_6, hσ_6, hf⟩ := bi_e hf
        refine kX8_43 hx hb hml hts hown hG hI hS hl.1 hL (As := []) (c_X8_act l D cI cS Z K hL σ_1 _ hσ_6) ⟨(Nat.le_of_ble_eq_true rfl), (Nat.le_of_ble_eq_true rfl)⟩ rfl (Nat.le_of_ble_eq_true rfl) ⟨(Nat.le_of_ble_eq_true rfl), (Nat.le_of_ble_eq_true rfl)⟩ dX8_setEnd_31 (fun H locs hI hS => ?_)
        refine lv_bipush (v := 10) hx hb dX8_setEnd_34 (by decide) ?_
        refine lv_aload_n hx hb dX8_setEnd_36 rfl (lv_at hl 0 rfl) ?_
        refine gX8_7 (o' := 184) hx hb hts hown hG hI hL rfl dX8_setEnd_37 ?_
        refine lv_bipush (v := 6) hx hb dX8_setEnd_40 (by decide) ?_
        refine lv_iload_n hx hb dX8_setEnd_42 rfl (lv_at hl 1 rfl) ?_
        refine lv_iadd hx hb dX8_setEnd_43 ?_
        obtain ⟨hix, hf⟩ := ix_e hf
        refine mm_ald hx hb hG hI (ly_at hL 1 rfl) hix rfl dX8_setEnd_44 ?_
        refine lv_imul hx hb dX8_setEnd_45 ?_
        refine lv_aload_n hx hb dX8_setEnd_46 rfl (lv_at hl 0 rfl) ?_
        refine gX8_7 (o' := 184) hx hb hts hown hG hI hL rfl dX8_setEnd_47 ?_
        refine lv_bipush (v := 38) hx hb dX8_setEnd_50 (by decide) ?_
        refine lv_iload_n hx hb dX8_setEnd_52 rfl (lv_at hl 1 rfl) ?_
        refine lv_iadd hx hb dX8_setEnd_53 ?_
        obtain ⟨hix, hf⟩ := ix_e hf
        refine mm_ald hx hb hG hI (ly_at hL 1 rfl) hix rfl dX8_setEnd_54 ?_
        refine lv_iadd hx hb dX8_setEnd_55 ?_
        obtain ⟨x_7, ex_7, hf⟩ := vl_e hf
        refine mm_name ex_7 ?_
        refine lv_istore (lv' := [(4, .int x_7), (0, .ref (Z + 183)), (1, .int a1), (2, .int a2), (3, .int a3)]) hx hb dX8_setEnd_56 hl (by decide) rfl (fun ls hl => ?_)
        refine lv_aload_n hx hb dX8_setEnd_58 rfl (lv_at hl 1 rfl) ?_
        refine gX8_7 (o' := 184) hx hb hts hown hG hI hL rfl dX8_setEnd_59 ?_
        refine lv_bipush (v := 6) hx hb dX8_setEnd_62 (by decide) ?_
        refine lv_iload_n hx hb dX8_setEnd_64 rfl (lv_at hl 2 rfl) ?_
        refine lv_iadd hx hb dX8_setEnd_65 ?_
        refine lv_iload_n hx hb dX8_setEnd_66 rfl (lv_at hl 3 rfl) ?_
        obtain ⟨hix, hf⟩ := ix_e hf
        obtain ⟨σ_8, eσ_8, hf⟩ := vl_e hf
        refine mm_ast hx hb hG hI hS (ly_at hL 1 rfl) hix rfl dX8_setEnd_67 (fun H locs hI hS => ?_)
        rw [← eσ_8] at hI
        refine lv_aload_n hx hb dX8_setEnd_68 rfl (lv_at hl 1 rfl) ?_
        refine gX8_7 (o' := 184) hx hb hts hown hG hI hL rfl dX8_setEnd_69 ?_
        refine lv_bipush (v := 38) hx hb dX8_setEnd_72 (by decide) ?_
        refine lv_iload_n hx hb dX8_setEnd_74 rfl (lv_at hl 2 rfl) ?_
        refine lv_iadd hx hb dX8_setEnd_75 ?_
        refine lv_iload_n hx hb dX8_setEnd_76 rfl (lv_at hl 4 rfl) ?_
        obtain ⟨hix, hf⟩ := ix_e hf
        obtain ⟨σ_9, eσ_9, hf⟩ := vl_e hf
        refine mm_ast hx hb hG hI hS (ly_at hL 1 rfl) hix rfl dX8_setEnd_77 (fun H locs hI hS => ?_)
        rw [← eσ_9] at hI
        refine lv_iload hx hb dX8_setEnd_78 (lv_at hl 0 rfl) ?_
        obtain ⟨rfl, rfl⟩ := sp_e hf
        exact mm_ret hx hb hr hlocks rfl hI hS dX8_setEnd_80
      · have hf := pos_e c_10 hf
        refine lv_iconst (v := (-1)) hx hb dX8_setEnd_28 (by decide) ?_
        obtain ⟨rfl, rfl⟩ := sp_e hf
        exact mm_ret hx hb hr hlocks rfl hI hS dX8_setEnd_29
def f_X8_setFault (a1 : Int32) (a2 : Int32) (σ : Nat → Nat → Int32) : Option (Int32 × (Nat → Nat → Int32)) := vl (wr σ 183 0 0) fun σ_1 => bi (f_X8_isShaft a1 σ_1) fun r_2 => if r_2 = 0 then (some ((-1), σ_1)) else (bi (f_X8_in a2 0 2 σ_1) fun r_3 => if r_3 = 0 then (some ((-1), σ_1)) else (b2 (f_X8_put (70 + a1) a2 σ_1) fun r_4 σ_5 => some (r_4, σ_5)))
set_option maxHeartbeats 4000000 in
set_option maxRecDepth 100000 in
theorem c_X8_setFault (l : Launch) (D : va_G) (cI cS : ClassId) (Z : Nat) (K : Nat → Nat) (hL : ly K 183 lyModel) (a1 : Int32) (a2 : Int32) (σ : Nat → Nat → Int32) (r : Int32) (σ' : Nat → Nat → Int32) (hf : f_X8_setFault a1 a2 σ = some (r, σ')) : Met l yX8_setFault (wsT yX8_setFault cX8_setFault 3 (some .int)) { frames := 2, cells := 0, slots := 0, locals := 44 } (Pm D cI cS Z K [.ref (Z + 183), .int a1, .int a2] σ) (Qi D cI cS Z K r σ') 0 0 (aZ Z) := by
  refine mm_met (lv := [(0, .ref (Z + 183)), (1, .int a1), (2, .int a2)]) (by decide) (Nat.le_of_ble_eq_true rfl) rfl ?_
  intro p e s m args below meth c ls hx hb hr hml hts hown hlocks hG hl hI hS
  have hown : s.vm.findClass RX8 = some m.cls := hown
  rw [f_X8_setFault] at hf
  refine lv_aload_n hx hb dX8_setFault_0 rfl (lv_at hl 0 rfl) ?_
  refine lv_iconst (v := 0) hx hb dX8_setFault_1 (by decide) ?_
  obtain ⟨σ_1, eσ_1, hf⟩ := vl_e hf
  refine pX8_28 hx hb hts hown hG hI hS hL dX8_setFault_2 (fun H locs hI hS => ?_)
  rw [← eσ_1] at hI
  refine lv_aload_n hx hb dX8_setFault_5 rfl (lv_at hl 0 rfl) ?_
  refine lv_iload_n hx hb dX8_setFault_6 rfl (lv_at hl 1 rfl) ?_
  obtain ⟨r_2, hr_2, hf⟩ := bi_e hf
  refine kX8_50 hx hb hml hts hown hG hI hS hl.1 hL (As := [.int a1]) (c_X8_isShaft l D cI cS Z K hL a1 σ_1 _ hr_2) ⟨(Nat.le_of_ble_eq_true rfl), (Nat.le_of_ble_eq_true rfl)⟩ rfl (Nat.le_of_ble_eq_true rfl) ⟨(Nat.le_of_ble_eq_true rfl), (Nat.le_of_ble_eq_true rfl)⟩ dX8_setFault_7 (fun hzr_2 H locs hI hS => ?_)
  refine lv_if_eq (tgt := 34) hx hb dX8_setFault_10 (by decide) (fun c_7 => ?_) (fun c_7 => ?_)
  · have hf := pos_e c_7 hf
    refine lv_iconst (v := (-1)) hx hb dX8_setFault_34 (by decide) ?_
    obtain ⟨rfl, rfl⟩ := sp_e hf
    exact mm_ret hx hb hr hlocks rfl hI hS dX8_setFault_35
  · have hf := neg_e c_7 hf
    refine lv_iload_n hx hb dX8_setFault_13 rfl (lv_at hl 2 rfl) ?_
    refine lv_iconst (v := 0) hx hb dX8_setFault_14 (by decide) ?_
    refine lv_iconst (v := 2) hx hb dX8_setFault_15 (by decide) ?_
    obtain ⟨r_3, hr_3, hf⟩ := bi_e hf
    refine kX8_39 hx hb hml hts hown hG hI hS hl.1 (As := [.int a2, .int 0, .int 2]) (c_X8_in l D cI cS Z K a2 0 2 σ_1 _ hr_3) ⟨(Nat.le_of_ble_eq_true rfl), (Nat.le_of_ble_eq_true rfl)⟩ rfl (Nat.le_of_ble_eq_true rfl) ⟨(Nat.le_of_ble_eq_true rfl), (Nat.le_of_ble_eq_true rfl)⟩ dX8_setFault_16 (fun hzr_3 H locs hI hS => ?_)
    refine lv_if_eq (tgt := 34) hx hb dX8_setFault_19 (by decide) (fun c_6 => ?_) (fun c_6 => ?_)
    · have hf := pos_e c_6 hf
      refine lv_iconst (v := (-1)) hx hb dX8_setFault_34 (by decide) ?_
      obtain ⟨rfl, rfl⟩ := sp_e hf
      exact mm_ret hx hb hr hlocks rfl hI hS dX8_setFault_35
    · have hf := neg_e c_6 hf
      refine lv_aload_n hx hb dX8_setFault_22 rfl (lv_at hl 0 rfl) ?_
      refine lv_bipush (v := 70) hx hb dX8_setFault_23 (by decide) ?_
      refine lv_iload_n hx hb dX8_setFault_25 rfl (lv_at hl 1 rfl) ?_
      refine lv_iadd hx hb dX8_setFault_26 ?_
      refine lv_iload_n hx hb dX8_setFault_27 rfl (lv_at hl 2 rfl) ?_
      obtain ⟨r_4, σ_5, hr_4, hf⟩ := b2_e hf
      refine kX8_56 hx hb hml hts hown hG hI hS hl.1 hL (As := [.int (70 + a1), .int a2]) (c_X8_put l D cI cS Z K hL (70 + a1) a2 σ_1 _ _ hr_4) ⟨(Nat.le_of_ble_eq_true rfl), (Nat.le_of_ble_eq_true rfl)⟩ rfl (Nat.le_of_ble_eq_true rfl) ⟨(Nat.le_of_ble_eq_true rfl), (Nat.le_of_ble_eq_true rfl)⟩ dX8_setFault_28 (fun H locs hI hS => ?_)
      refine lv_goto (tgt := 35) hx hb dX8_setFault_31 (by decide) ?_
      obtain ⟨rfl, rfl⟩ := sp_e hf
      exact mm_ret hx hb hr hlocks rfl hI hS dX8_setFault_35
def f_X8_setLoom (a1 : Int32) (a2 : Int32) (σ : Nat → Nat → Int32) : Option (Int32 × (Nat → Nat → Int32)) := vl (wr σ 183 0 0) fun σ_1 => bi (f_X8_in a1 2 8 σ_1) fun r_2 => if r_2 = 0 then (some ((-1), σ_1)) else (bi (f_X8_in a2 4 32 σ_1) fun r_3 => if r_3 = 0 then (some ((-1), σ_1)) else (bi (f_X8_act σ_1) fun σ_5 => vl (σ_5 184 5) fun x_6 => bi (f_X8_begin a1 a2 σ_5) fun σ_8 => some (x_6, σ_8)))
set_option maxHeartbeats 4000000 in
set_option maxRecDepth 100000 in
theorem c_X8_setLoom (l : Launch) (D : va_G) (cI cS : ClassId) (Z : Nat) (K : Nat → Nat) (hL : ly K 183 lyModel) (a1 : Int32) (a2 : Int32) (σ : Nat → Nat → Int32) (r : Int32) (σ' : Nat → Nat → Int32) (hf : f_X8_setLoom a1 a2 σ = some (r, σ')) : Met l yX8_setLoom (wsT yX8_setLoom cX8_setLoom 4 (some .int)) { frames := 1, cells := 0, slots := 0, locals := 23 } (Pm D cI cS Z K [.ref (Z + 183), .int a1, .int a2] σ) (Qi D cI cS Z K r σ') 0 0 (aZ Z) := by
  refine mm_met (lv := [(0, .ref (Z + 183)), (1, .int a1), (2, .int a2)]) (by decide) (Nat.le_of_ble_eq_true rfl) rfl ?_
  intro p e s m args below meth c ls hx hb hr hml hts hown hlocks hG hl hI hS
  have hown : s.vm.findClass RX8 = some m.cls := hown
  rw [f_X8_setLoom] at hf
  refine lv_aload_n hx hb dX8_setLoom_0 rfl (lv_at hl 0 rfl) ?_
  refine lv_iconst (v := 0) hx hb dX8_setLoom_1 (by decide) ?_
  obtain ⟨σ_1, eσ_1, hf⟩ := vl_e hf
  refine pX8_28 hx hb hts hown hG hI hS hL dX8_setLoom_2 (fun H locs hI hS => ?_)
  rw [← eσ_1] at hI
  refine lv_iload_n hx hb dX8_setLoom_5 rfl (lv_at hl 1 rfl) ?_
  refine lv_iconst (v := 2) hx hb dX8_setLoom_6 (by decide) ?_
  refine lv_bipush (v := 8) hx hb dX8_setLoom_7 (by decide) ?_
  obtain ⟨r_2, hr_2, hf⟩ := bi_e hf
  refine kX8_39 hx hb hml hts hown hG hI hS hl.1 (As := [.int a1, .int 2, .int 8]) (c_X8_in l D cI cS Z K a1 2 8 σ_1 _ hr_2) ⟨(Nat.le_of_ble_eq_true rfl), (Nat.le_of_ble_eq_true rfl)⟩ rfl (Nat.le_of_ble_eq_true rfl) ⟨(Nat.le_of_ble_eq_true rfl), (Nat.le_of_ble_eq_true rfl)⟩ dX8_setLoom_9 (fun hzr_2 H locs hI hS => ?_)
  refine lv_if_eq (tgt := 25) hx hb dX8_setLoom_12 (by decide) (fun c_10 => ?_) (fun c_10 => ?_)
  · have hf := pos_e c_10 hf
    refine lv_iconst (v := (-1)) hx hb dX8_setLoom_25 (by decide) ?_
    obtain ⟨rfl, rfl⟩ := sp_e hf
    exact mm_ret hx hb hr hlocks rfl hI hS dX8_setLoom_26
  · have hf := neg_e c_10 hf
    refine lv_iload_n hx hb dX8_setLoom_15 rfl (lv_at hl 2 rfl) ?_
    refine lv_iconst (v := 4) hx hb dX8_setLoom_16 (by decide) ?_
    refine lv_bipush (v := 32) hx hb dX8_setLoom_17 (by decide) ?_
    obtain ⟨r_3, hr_3, hf⟩ := bi_e hf
    refine kX8_39 hx hb hml hts hown hG hI hS hl.1 (As := [.int a2, .int 4, .int 32]) (c_X8_in l D cI cS Z K a2 4 32 σ_1 _ hr_3) ⟨(Nat.le_of_ble_eq_true rfl), (Nat.le_of_ble_eq_true rfl)⟩ rfl (Nat.le_of_ble_eq_true rfl) ⟨(Nat.le_of_ble_eq_true rfl), (Nat.le_of_ble_eq_true rfl)⟩ dX8_setLoom_19 (fun hzr_3 H locs hI hS => ?_)
    refine lv_if_ne (tgt := 27) hx hb dX8_setLoom_22 (by decide) (fun c_9 => ?_) (fun c_9 => ?_)
    · have hf := neg_e c_9 hf
      refine lv_aload_n hx hb dX8_setLoom_27 rfl (lv_at hl 0 rfl) ?_
      obtain ⟨σ_5, hσ_5, hf⟩ := bi_e hf
      refine kX8_43 hx hb hml hts hown hG hI hS hl.1 hL (As := []) (c_X8_act l D cI cS Z K hL σ_1 _ hσ_5) ⟨(Nat.le_of_ble_eq_true rfl), (Nat.le_of_ble_eq_true rfl)⟩ rfl (Nat.le_of_ble_eq_true rfl) ⟨(Nat.le_of_ble_eq_true rfl), (Nat.le_of_ble_eq_true rfl)⟩ dX8_setLoom_28 (fun H locs hI hS => ?_)
      refine lv_aload_n hx hb dX8_setLoom_31 rfl (lv_at hl 0 rfl) ?_
      refine gX8_7 (o' := 184) hx hb hts hown hG hI hL rfl dX8_setLoom_32 ?_
      refine lv_iconst (v := 5) hx hb dX8_setLoom_35 (by decide) ?_
      refine mm_ald (k := 5) (n := 456) hx hb hG hI (ly_at hL 1 rfl) (by decide) rfl dX8_setLoom_36 ?_
      obtain ⟨x_6, ex_6, hf⟩ := vl_e hf
      refine mm_name ex_6 ?_
      refine lv_istore_n (lv' := [(3, .int x_6), (0, .ref (Z + 183)), (1, .int a1), (2, .int a2)]) hx hb dX8_setLoom_37 rfl hl (by decide) rfl (fun ls hl => ?_)
      refine lv_aload_n hx hb dX8_setLoom_38 rfl (lv_at hl 1 rfl) ?_
      refine lv_iload_n hx hb dX8_setLoom_39 rfl (lv_at hl 2 rfl) ?_
      refine lv_iload_n hx hb dX8_setLoom_40 rfl (lv_at hl 3 rfl) ?_
      obtain ⟨σ_8, hσ_8, hf⟩ := bi_e hf
      refine kX8_32 hx hb hml hts hown hG hI hS hl.1 hL (As := [.int a1, .int a2]) (c_X8_begin l D cI cS Z K hL a1 a2 σ_5 _ hσ_8) ⟨(Nat.le_of_ble_eq_true rfl), (Nat.le_of_ble_eq_true rfl)⟩ rfl (Nat.le_of_ble_eq_true rfl) ⟨(Nat.le_of_ble_eq_true rfl), (Nat.le_of_ble_eq_true rfl)⟩ dX8_setLoom_41 (fun H locs hI hS => ?_)
      refine lv_iload_n hx hb dX8_setLoom_44 rfl (lv_at hl 0 rfl) ?_
      obtain ⟨rfl, rfl⟩ := sp_e hf
      exact mm_ret hx hb hr hlocks rfl hI hS dX8_setLoom_45
    · have hf := pos_e c_9 hf
      refine lv_iconst (v := (-1)) hx hb dX8_setLoom_25 (by decide) ?_
      obtain ⟨rfl, rfl⟩ := sp_e hf
      exact mm_ret hx hb hr hlocks rfl hI hS dX8_setLoom_26
def b_X8_takeOut_45 (a1 : Int32) : Int32 × (Nat → Nat → Int32) → Option ((Int32 × (Nat → Nat → Int32)) ⊕ ((Nat → Nat → Int32)))
  | (y_5, σ_6) => if a1 ≤ y_5 then (some (.inr σ_6)) else (vl ((σ_6 184 5) - 1) fun x_24 => bi (f_X8_of x_24 0 σ_6) fun r_25 => ix (126 + r_25) 456 <| bi (f_X8_used x_24 σ_6) fun r_26 => ix (126 + r_25) 456 <| vl (wr σ_6 184 (126 + r_25).toNatClampNeg ((σ_6 184 (126 + r_25).toNatClampNeg) + r_26)) fun σ_27 => vl (wr σ_27 184 5 ((σ_27 184 5) - 1)) fun σ_28 => bi (f_X8_onward σ_28) fun r_29 => bi (f_X8_step (-r_29) σ_28) fun σ_31 => vl (y_5 + 1) fun x_32 => some (.inl (x_32, σ_31)))
def f_X8_takeOut (a1 : Int32) (σ : Nat → Nat → Int32) : Option (Int32 × (Nat → Nat → Int32)) := vl (wr σ 183 0 0) fun σ_1 => bi (f_X8_in a1 1 64 σ_1) fun r_2 => if r_2 = 0 then (some ((-1), σ_1)) else (if (σ_1 184 5) < a1 then (some ((-2), σ_1)) else (if (σ_1 184 2) = 0 then (some ((-2), σ_1)) else (bi (f_X8_act σ_1) fun σ_4 => bi (lp (b_X8_takeOut_45 a1) FU (0, σ_4)) fun σ_7 => some (σ_7 184 5, σ_7))))
set_option maxHeartbeats 4000000 in
set_option maxRecDepth 100000 in
theorem c_X8_takeOut (l : Launch) (D : va_G) (cI cS : ClassId) (Z : Nat) (K : Nat → Nat) (hL : ly K 183 lyModel) (a1 : Int32) (σ : Nat → Nat → Int32) (r : Int32) (σ' : Nat → Nat → Int32) (hf : f_X8_takeOut a1 σ = some (r, σ')) : Met l yX8_takeOut (wsT yX8_takeOut cX8_takeOut 4 (some .int)) { frames := 3, cells := 0, slots := 0, locals := 68 } (Pm D cI cS Z K [.ref (Z + 183), .int a1] σ) (Qi D cI cS Z K r σ') 0 0 (aZ Z) := by
  refine mm_met (lv := [(0, .ref (Z + 183)), (1, .int a1)]) (by decide) (Nat.le_of_ble_eq_true rfl) rfl ?_
  intro p e s m args below meth c ls hx hb hr hml hts hown hlocks hG hl hI hS
  have hown : s.vm.findClass RX8 = some m.cls := hown
  rw [f_X8_takeOut] at hf
  refine lv_aload_n hx hb dX8_takeOut_0 rfl (lv_at hl 0 rfl) ?_
  refine lv_iconst (v := 0) hx hb dX8_takeOut_1 (by decide) ?_
  obtain ⟨σ_1, eσ_1, hf⟩ := vl_e hf
  refine pX8_28 hx hb hts hown hG hI hS hL dX8_takeOut_2 (fun H locs hI hS => ?_)
  rw [← eσ_1] at hI
  refine lv_iload_n hx hb dX8_takeOut_5 rfl (lv_at hl 1 rfl) ?_
  refine lv_iconst (v := 1) hx hb dX8_takeOut_6 (by decide) ?_
  refine lv_bipush (v := 64) hx hb dX8_takeOut_7 (by decide) ?_
  obtain ⟨r_2, hr_2, hf⟩ := bi_e hf
  refine kX8_39 hx hb hml hts hown hG hI hS hl.1 (As := [.int a1, .int 1, .int 64]) (c_X8_in l D cI cS Z K a1 1 64 σ_1 _ hr_2) ⟨(Nat.le_of_ble_eq_true rfl), (Nat.le_of_ble_eq_true rfl)⟩ rfl (Nat.le_of_ble_eq_true rfl) ⟨(Nat.le_of_ble_eq_true rfl), (Nat.le_of_ble_eq_true rfl)⟩ dX8_takeOut_9 (fun hzr_2 H locs hI hS => ?_)
  refine lv_if_ne (tgt := 17) hx hb dX8_takeOut_12 (by decide) (fun c_37 => ?_) (fun c_37 => ?_)
  · have hf := neg_e c_37 hf
    refine lv_aload_n hx hb dX8_takeOut_17 rfl (lv_at hl 0 rfl) ?_
    refine gX8_7 (o' := 184) hx hb hts hown hG hI hL rfl dX8_takeOut_18 ?_
    refine lv_iconst (v := 5) hx hb dX8_takeOut_21 (by decide) ?_
    refine mm_ald (k := 5) (n := 456) hx hb hG hI (ly_at hL 1 rfl) (by decide) rfl dX8_takeOut_22 ?_
    refine lv_iload_n hx hb dX8_takeOut_23 rfl (lv_at hl 1 rfl) ?_
    refine lv_icmp_lt (tgt := 36) hx hb dX8_takeOut_24 (by decide) (fun c_36 => ?_) (fun c_36 => ?_)
    · have hf := pos_e c_36 hf
      refine lv_bipush (v := (-2)) hx hb dX8_takeOut_36 (by decide) ?_
      obtain ⟨rfl, rfl⟩ := sp_e hf
      exact mm_ret hx hb hr hlocks rfl hI hS dX8_takeOut_38
    · have hf := neg_e c_36 hf
      refine lv_aload_n hx hb dX8_takeOut_27 rfl (lv_at hl 0 rfl) ?_
      refine gX8_7 (o' := 184) hx hb hts hown hG hI hL rfl dX8_takeOut_28 ?_
      refine lv_iconst (v := 2) hx hb dX8_takeOut_31 (by decide) ?_
      refine mm_ald (k := 2) (n := 456) hx hb hG hI (ly_at hL 1 rfl) (by decide) rfl dX8_takeOut_32 ?_
      refine lv_if_ne (tgt := 39) hx hb dX8_takeOut_33 (by decide) (fun c_35 => ?_) (fun c_35 => ?_)
      · have hf := neg_e c_35 hf
        refine lv_aload_n hx hb dX8_takeOut_39 rfl (lv_at hl 0 rfl) ?_
        obtain ⟨σ_4, hσ_4, hf⟩ := bi_e hf
        refine kX8_43 hx hb hml hts hown hG hI hS hl.1 hL (As := []) (c_X8_act l D cI cS Z K hL σ_1 _ hσ_4) ⟨(Nat.le_of_ble_eq_true rfl), (Nat.le_of_ble_eq_true rfl)⟩ rfl (Nat.le_of_ble_eq_true rfl) ⟨(Nat.le_of_ble_eq_true rfl), (Nat.le_of_ble_eq_true rfl)⟩ dX8_takeOut_40 (fun H locs hI hS => ?_)
        refine lv_iconst (v := 0) hx hb dX8_takeOut_43 (by decide) ?_
        refine lv_istore_n (lv' := [(2, .int 0), (0, .ref (Z + 183)), (1, .int a1)]) hx hb dX8_takeOut_44 rfl hl (by decide) rfl (fun ls hl => ?_)
        have L_9 : ∀ (nn : Nat) (y_5 : Int32) (σ_6 : Nat → Nat → Int32) (σ_7 : Nat → Nat → Int32), lp (b_X8_takeOut_45 a1) nn (y_5, σ_6) = some σ_7 → (∀ (H : Heap) (locs : List Loc) (ls : Array Slot), fI D cI cS Z K σ_7 H → va_S (aZ Z) s.heap H locs → lv_has ls 4 [(0, .ref (Z + 183))] → W p l e { frames := 3, cells := 0, slots := 0, locals := 68 } s m args below meth c H locs 0 0 (MQ below (Qi D cI cS Z K r σ') args s 0 0 (aZ Z)) (F0 m 106 ls [])) → ∀ (H : Heap) (locs : List Loc) (ls : Array Slot), fI D cI cS Z K σ_6 H → va_S (aZ Z) s.heap H locs → lv_has ls 4 [(0, .ref (Z + 183)), (1, .int a1), (2, .int y_5)] → W p l e { frames := 3, cells := 0, slots := 0, locals := 68 } s m args below meth c H locs 0 0 (MQ below (Qi D cI cS Z K r σ') args s 0 0 (aZ Z)) (F0 m 45 ls []) := by
          intro nn
          induction nn with
          | zero =>
            intro y_5 σ_6 σ_7 hq
            exact (lp_0 hq).elim
          | succ nn ih_10 =>
            intro y_5 σ_6 σ_7 hq kn_12 H locs ls hI hS hl
            obtain ⟨w_8, hf, hk_11⟩ := lp_e hq
            rw [b_X8_takeOut_45] at hf
            have ih_10 := fun (y_5 : Int32) (σ_6 : Nat → Nat → Int32) q => ih_10 y_5 σ_6 σ_7 q kn_12
            refine lv_iload_n hx hb dX8_takeOut_45 rfl (lv_at hl 2 rfl) ?_
            refine lv_iload_n hx hb dX8_takeOut_46 rfl (lv_at hl 1 rfl) ?_
            refine lv_icmp_ge (tgt := 106) hx hb dX8_takeOut_47 (by decide) (fun c_33 => ?_) (fun c_33 => ?_)
            · have hf := pos_e c_33 hf
              obtain rfl := so_e hf
              obtain rfl := lk_r hk_11
              exact kn_12 _ _ _ hI hS (lv_sub hl [0] rfl)
            · have hf := neg_e c_33 hf
              refine lv_aload_n hx hb dX8_takeOut_50 rfl (lv_at hl 0 rfl) ?_
              refine gX8_7 (o' := 184) hx hb hts hown hG hI hL rfl dX8_takeOut_51 ?_
              refine lv_iconst (v := 5) hx hb dX8_takeOut_54 (by decide) ?_
              refine mm_ald (k := 5) (n := 456) hx hb hG hI (ly_at hL 1 rfl) (by decide) rfl dX8_takeOut_55 ?_
              refine lv_iconst (v := 1) hx hb dX8_takeOut_56 (by decide) ?_
              refine lv_isub hx hb dX8_takeOut_57 ?_
              obtain ⟨x_24, ex_24, hf⟩ := vl_e hf
              refine mm_name ex_24 ?_
              refine lv_istore_n (lv' := [(3, .int x_24), (0, .ref (Z + 183)), (1, .int a1), (2, .int y_5)]) hx hb dX8_takeOut_58 rfl hl (by decide) rfl (fun ls hl => ?_)
              refine lv_aload_n hx hb dX8_takeOut_59 rfl (lv_at hl 1 rfl) ?_
              refine gX8_7 (o' := 184) hx hb hts hown hG hI hL rfl dX8_takeOut_60 ?_
              refine lv_bipush (v := 126) hx hb dX8_takeOut_63 (by decide) ?_
              refine lv_aload_n hx hb dX8_takeOut_65 rfl (lv_at hl 1 rfl) ?_
              refine lv_iload_n hx hb dX8_takeOut_66 rfl (lv_at hl 0 rfl) ?_
              refine lv_iconst (v := 0) hx hb dX8_takeOut_67 (by decide) ?_
              obtain ⟨r_25, hr_25, hf⟩ := bi_e hf
              refine kX8_133 hx hb hml hts hown hG hI hS hl.1 hL (As := [.int x_24, .int 0]) (c_X8_of l D cI cS Z K hL x_24 0 σ_6 _ hr_25) ⟨(Nat.le_of_ble_eq_true rfl), (Nat.le_of_ble_eq_true rfl)⟩ rfl (Nat.le_of_ble_eq_true rfl) ⟨(Nat.le_of_ble_eq_true rfl), (Nat.le_of_ble_eq_true rfl)⟩ dX8_takeOut_68 (fun H locs hI hS => ?_)
              refine lv_iadd hx hb dX8_takeOut_71 ?_
              refine lv_dup2_11 hx hb dX8_takeOut_72 rfl rfl ?_
              obtain ⟨hix, hf⟩ := ix_e hf
              refine mm_ald hx hb hG hI (ly_at hL 1 rfl) hix rfl dX8_takeOut_73 ?_
              refine lv_aload_n hx hb dX8_takeOut_74 rfl (lv_at hl 1 rfl) ?_
              refine lv_iload_n hx hb dX8_takeOut_75 rfl (lv_at hl 0 rfl) ?_
              obtain ⟨r_26, hr_26, hf⟩ := bi_e hf
              refine kX8_145 hx hb hml hts hown hG hI hS hl.1 hL (As := [.int x_24]) (c_X8_used l D cI cS Z K hL x_24 σ_6 _ hr_26) ⟨(Nat.le_of_ble_eq_true rfl), (Nat.le_of_ble_eq_true rfl)⟩ rfl (Nat.le_of_ble_eq_true rfl) ⟨(Nat.le_of_ble_eq_true rfl), (Nat.le_of_ble_eq_true rfl)⟩ dX8_takeOut_76 (fun H locs hI hS => ?_)
              refine lv_iadd hx hb dX8_takeOut_79 ?_
              obtain ⟨hix, hf⟩ := ix_e hf
              obtain ⟨σ_27, eσ_27, hf⟩ := vl_e hf
              refine mm_ast hx hb hG hI hS (ly_at hL 1 rfl) hix rfl dX8_takeOut_80 (fun H locs hI hS => ?_)
              rw [← eσ_27] at hI
              refine lv_aload_n hx hb dX8_takeOut_81 rfl (lv_at hl 1 rfl) ?_
              refine gX8_7 (o' := 184) hx hb hts hown hG hI hL rfl dX8_takeOut_82 ?_
              refine lv_iconst (v := 5) hx hb dX8_takeOut_85 (by decide) ?_
              refine lv_dup2_11 hx hb dX8_takeOut_86 rfl rfl ?_
              refine mm_ald (k := 5) (n := 456) hx hb hG hI (ly_at hL 1 rfl) (by decide) rfl dX8_takeOut_87 ?_
              refine lv_iconst (v := 1) hx hb dX8_takeOut_88 (by decide) ?_
              refine lv_isub hx hb dX8_takeOut_89 ?_
              obtain ⟨σ_28, eσ_28, hf⟩ := vl_e hf
              refine mm_ast (k := 5) (n := 456) hx hb hG hI hS (ly_at hL 1 rfl) (by decide) rfl dX8_takeOut_90 (fun H locs hI hS => ?_)
              rw [← eσ_28] at hI
              refine lv_aload_n hx hb dX8_takeOut_91 rfl (lv_at hl 1 rfl) ?_
              refine lv_aload_n hx hb dX8_takeOut_92 rfl (lv_at hl 1 rfl) ?_
              obtain ⟨r_29, hr_29, hf⟩ := bi_e hf
              refine kX8_126 hx hb hml hts hown hG hI hS hl.1 hL (As := []) (c_X8_onward l D cI cS Z K hL σ_28 _ hr_29) ⟨(Nat.le_of_ble_eq_true rfl), (Nat.le_of_ble_eq_true rfl)⟩ rfl (Nat.le_of_ble_eq_true rfl) ⟨(Nat.le_of_ble_eq_true rfl), (Nat.le_of_ble_eq_true rfl)⟩ dX8_takeOut_93 (fun H locs hI hS => ?_)
              refine lv_ineg hx hb dX8_takeOut_96 ?_
              obtain ⟨σ_31, hσ_31, hf⟩ := bi_e hf
              refine kX8_129 hx hb hml hts hown hG hI hS hl.1 hL (As := [.int (-r_29)]) (c_X8_step l D cI cS Z K hL (-r_29) σ_28 _ hσ_31) ⟨(Nat.le_of_ble_eq_true rfl), (Nat.le_of_ble_eq_true rfl)⟩ rfl (Nat.le_of_ble_eq_true rfl) ⟨(Nat.le_of_ble_eq_true rfl), (Nat.le_of_ble_eq_true rfl)⟩ dX8_takeOut_97 (fun H locs hI hS => ?_)
              obtain ⟨x_32, ex_32, hf⟩ := vl_e hf
              refine lv_iinc (v := x_32) (lv' := [(2, .int x_32), (3, .int x_24), (0, .ref (Z + 183)), (1, .int a1)]) hx hb dX8_takeOut_100 hl (k := 3) rfl (by rw [ex_32]; rfl) (by decide) rfl (fun ls hl => ?_)
              refine lv_goto (tgt := 45) hx hb dX8_takeOut_103 (by decide) ?_
              obtain rfl := so_e hf
              exact ih_10 x_32 σ_31 hk_11 _ _ _ hI hS (lv_sub hl [2, 3, 0] rfl)
        obtain ⟨σ_7, hy, hf⟩ := bi_e hf
        refine L_9 FU 0 σ_4 _ hy ?_ _ _ _ hI hS (lv_sub hl [1, 2, 0] rfl)
        clear L_9
        intro H locs ls hI hS hl
        refine lv_aload_n hx hb dX8_takeOut_106 rfl (lv_at hl 0 rfl) ?_
        refine gX8_7 (o' := 184) hx hb hts hown hG hI hL rfl dX8_takeOut_107 ?_
        refine lv_iconst (v := 5) hx hb dX8_takeOut_110 (by decide) ?_
        refine mm_ald (k := 5) (n := 456) hx hb hG hI (ly_at hL 1 rfl) (by decide) rfl dX8_takeOut_111 ?_
        obtain ⟨rfl, rfl⟩ := sp_e hf
        exact mm_ret hx hb hr hlocks rfl hI hS dX8_takeOut_112
      · have hf := pos_e c_35 hf
        refine lv_bipush (v := (-2)) hx hb dX8_takeOut_36 (by decide) ?_
        obtain ⟨rfl, rfl⟩ := sp_e hf
        exact mm_ret hx hb hr hlocks rfl hI hS dX8_takeOut_38
  · have hf := pos_e c_37 hf
    refine lv_iconst (v := (-1)) hx hb dX8_takeOut_15 (by decide) ?_
    obtain ⟨rfl, rfl⟩ := sp_e hf
    exact mm_ret hx hb hr hlocks rfl hI hS dX8_takeOut_16
def f_X8_turnTo (a1 : Int32) (σ : Nat → Nat → Int32) : Option (Int32 × (Nat → Nat → Int32)) := vl (wr σ 183 0 0) fun σ_1 => bi (f_X8_isBar a1 σ_1) fun r_2 => if r_2 = 0 then (some ((-1), σ_1)) else (b2 (f_X8_put 3 a1 σ_1) fun r_3 σ_4 => some (r_3, σ_4))
set_option maxHeartbeats 4000000 in
set_option maxRecDepth 100000 in
theorem c_X8_turnTo (l : Launch) (D : va_G) (cI cS : ClassId) (Z : Nat) (K : Nat → Nat) (hL : ly K 183 lyModel) (a1 : Int32) (σ : Nat → Nat → Int32) (r : Int32) (σ' : Nat → Nat → Int32) (hf : f_X8_turnTo a1 σ = some (r, σ')) : Met l yX8_turnTo (wsT yX8_turnTo cX8_turnTo 2 (some .int)) { frames := 2, cells := 0, slots := 0, locals := 44 } (Pm D cI cS Z K [.ref (Z + 183), .int a1] σ) (Qi D cI cS Z K r σ') 0 0 (aZ Z) := by
  refine mm_met (lv := [(0, .ref (Z + 183)), (1, .int a1)]) (by decide) (Nat.le_of_ble_eq_true rfl) rfl ?_
  intro p e s m args below meth c ls hx hb hr hml hts hown hlocks hG hl hI hS
  have hown : s.vm.findClass RX8 = some m.cls := hown
  rw [f_X8_turnTo] at hf
  refine lv_aload_n hx hb dX8_turnTo_0 rfl (lv_at hl 0 rfl) ?_
  refine lv_iconst (v := 0) hx hb dX8_turnTo_1 (by decide) ?_
  obtain ⟨σ_1, eσ_1, hf⟩ := vl_e hf
  refine pX8_28 hx hb hts hown hG hI hS hL dX8_turnTo_2 (fun H locs hI hS => ?_)
  rw [← eσ_1] at hI
  refine lv_aload_n hx hb dX8_turnTo_5 rfl (lv_at hl 0 rfl) ?_
  refine lv_iload_n hx hb dX8_turnTo_6 rfl (lv_at hl 1 rfl) ?_
  obtain ⟨r_2, hr_2, hf⟩ := bi_e hf
  refine kX8_67 hx hb hml hts hown hG hI hS hl.1 hL (As := [.int a1]) (c_X8_isBar l D cI cS Z K hL a1 σ_1 _ hr_2) ⟨(Nat.le_of_ble_eq_true rfl), (Nat.le_of_ble_eq_true rfl)⟩ rfl (Nat.le_of_ble_eq_true rfl) ⟨(Nat.le_of_ble_eq_true rfl), (Nat.le_of_ble_eq_true rfl)⟩ dX8_turnTo_7 (fun hzr_2 H locs hI hS => ?_)
  refine lv_if_eq (tgt := 22) hx hb dX8_turnTo_10 (by decide) (fun c_5 => ?_) (fun c_5 => ?_)
  · have hf := pos_e c_5 hf
    refine lv_iconst (v := (-1)) hx hb dX8_turnTo_22 (by decide) ?_
    obtain ⟨rfl, rfl⟩ := sp_e hf
    exact mm_ret hx hb hr hlocks rfl hI hS dX8_turnTo_23
  · have hf := neg_e c_5 hf
    refine lv_aload_n hx hb dX8_turnTo_13 rfl (lv_at hl 0 rfl) ?_
    refine lv_iconst (v := 3) hx hb dX8_turnTo_14 (by decide) ?_
    refine lv_iload_n hx hb dX8_turnTo_15 rfl (lv_at hl 1 rfl) ?_
    obtain ⟨r_3, σ_4, hr_3, hf⟩ := b2_e hf
    refine kX8_56 hx hb hml hts hown hG hI hS hl.1 hL (As := [.int 3, .int a1]) (c_X8_put l D cI cS Z K hL 3 a1 σ_1 _ _ hr_3) ⟨(Nat.le_of_ble_eq_true rfl), (Nat.le_of_ble_eq_true rfl)⟩ rfl (Nat.le_of_ble_eq_true rfl) ⟨(Nat.le_of_ble_eq_true rfl), (Nat.le_of_ble_eq_true rfl)⟩ dX8_turnTo_16 (fun H locs hI hS => ?_)
    refine lv_goto (tgt := 23) hx hb dX8_turnTo_19 (by decide) ?_
    obtain ⟨rfl, rfl⟩ := sp_e hf
    exact mm_ret hx hb hr hlocks rfl hI hS dX8_turnTo_23
def b_X8_undo_27  : Int32 × (Nat → Nat → Int32) → Option ((Int32 × (Nat → Nat → Int32)) ⊕ ((Nat → Nat → Int32)))
  | (y_3, σ_4) => if 456 ≤ y_3 then (some (.inr σ_4)) else (ix ((456 * (σ_4 183 4)) + y_3) 2280 <| ix y_3 456 <| vl (wr σ_4 184 y_3.toNatClampNeg (σ_4 186 ((456 * (σ_4 183 4)) + y_3).toNatClampNeg)) fun σ_15 => vl (y_3 + 1) fun x_16 => some (.inl (x_16, σ_15)))
def f_X8_undo  (σ : Nat → Nat → Int32) : Option (Int32 × (Nat → Nat → Int32)) := vl (wr σ 183 0 0) fun σ_1 => if (σ_1 183 4) = 0 then (some ((-2), σ_1)) else (vl (wr σ_1 183 4 ((σ_1 183 4) - 1)) fun σ_2 => bi (lp (b_X8_undo_27) FU (0, σ_2)) fun σ_5 => some (σ_5 183 4, σ_5))
set_option maxHeartbeats 4000000 in
set_option maxRecDepth 100000 in
theorem c_X8_undo (l : Launch) (D : va_G) (cI cS : ClassId) (Z : Nat) (K : Nat → Nat) (hL : ly K 183 lyModel) (σ : Nat → Nat → Int32) (r : Int32) (σ' : Nat → Nat → Int32) (hf : f_X8_undo σ = some (r, σ')) : Met l yX8_undo (wsT yX8_undo cX8_undo 2 (some .int)) { frames := 0, cells := 0, slots := 0, locals := 0 } (Pm D cI cS Z K [.ref (Z + 183)] σ) (Qi D cI cS Z K r σ') 0 0 (aZ Z) := by
  refine mm_met (lv := [(0, .ref (Z + 183))]) (by decide) (Nat.le_of_ble_eq_true rfl) rfl ?_
  intro p e s m args below meth c ls hx hb hr hml hts hown hlocks hG hl hI hS
  have hown : s.vm.findClass RX8 = some m.cls := hown
  rw [f_X8_undo] at hf
  refine lv_aload_n hx hb dX8_undo_0 rfl (lv_at hl 0 rfl) ?_
  refine lv_iconst (v := 0) hx hb dX8_undo_1 (by decide) ?_
  obtain ⟨σ_1, eσ_1, hf⟩ := vl_e hf
  refine pX8_28 hx hb hts hown hG hI hS hL dX8_undo_2 (fun H locs hI hS => ?_)
  rw [← eσ_1] at hI
  refine lv_aload_n hx hb dX8_undo_5 rfl (lv_at hl 0 rfl) ?_
  refine gX8_36 hx hb hts hown hG hI hL dX8_undo_6 ?_
  refine lv_if_ne (tgt := 15) hx hb dX8_undo_9 (by decide) (fun c_19 => ?_) (fun c_19 => ?_)
  · have hf := neg_e c_19 hf
    refine lv_aload_n hx hb dX8_undo_15 rfl (lv_at hl 0 rfl) ?_
    refine lv_dup hx hb dX8_undo_16 rfl ?_
    refine gX8_36 hx hb hts hown hG hI hL dX8_undo_17 ?_
    refine lv_iconst (v := 1) hx hb dX8_undo_20 (by decide) ?_
    refine lv_isub hx hb dX8_undo_21 ?_
    obtain ⟨σ_2, eσ_2, hf⟩ := vl_e hf
    refine pX8_36 hx hb hts hown hG hI hS hL dX8_undo_22 (fun H locs hI hS => ?_)
    rw [← eσ_2] at hI
    refine lv_iconst (v := 0) hx hb dX8_undo_25 (by decide) ?_
    refine lv_istore_n (lv' := [(1, .int 0), (0, .ref (Z + 183))]) hx hb dX8_undo_26 rfl hl (by decide) rfl (fun ls hl => ?_)
    have L_7 : ∀ (nn : Nat) (y_3 : Int32) (σ_4 : Nat → Nat → Int32) (σ_5 : Nat → Nat → Int32), lp (b_X8_undo_27) nn (y_3, σ_4) = some σ_5 → (∀ (H : Heap) (locs : List Loc) (ls : Array Slot), fI D cI cS Z K σ_5 H → va_S (aZ Z) s.heap H locs → lv_has ls 2 [(0, .ref (Z + 183))] → W p l e { frames := 0, cells := 0, slots := 0, locals := 0 } s m args below meth c H locs 0 0 (MQ below (Qi D cI cS Z K r σ') args s 0 0 (aZ Z)) (F0 m 61 ls [])) → ∀ (H : Heap) (locs : List Loc) (ls : Array Slot), fI D cI cS Z K σ_4 H → va_S (aZ Z) s.heap H locs → lv_has ls 2 [(0, .ref (Z + 183)), (1, .int y_3)] → W p l e { frames := 0, cells := 0, slots := 0, locals := 0 } s m args below meth c H locs 0 0 (MQ below (Qi D cI cS Z K r σ') args s 0 0 (aZ Z)) (F0 m 27 ls []) := by
      intro nn
      induction nn with
      | zero =>
        intro y_3 σ_4 σ_5 hq
        exact (lp_0 hq).elim
      | succ nn ih_8 =>
        intro y_3 σ_4 σ_5 hq kn_10 H locs ls hI hS hl
        obtain ⟨w_6, hf, hk_9⟩ := lp_e hq
        rw [b_X8_undo_27] at hf
        have ih_8 := fun (y_3 : Int32) (σ_4 : Nat → Nat → Int32) q => ih_8 y_3 σ_4 σ_5 q kn_10
        refine lv_iload_n hx hb dX8_undo_27 rfl (lv_at hl 1 rfl) ?_
        refine lv_sipush (v := 456) hx hb dX8_undo_28 (by decide) ?_
        refine lv_icmp_ge (tgt := 61) hx hb dX8_undo_31 (by decide) (fun c_17 => ?_) (fun c_17 => ?_)
        · have hf := pos_e c_17 hf
          obtain rfl := so_e hf
          obtain rfl := lk_r hk_9
          exact kn_10 _ _ _ hI hS (lv_sub hl [0] rfl)
        · have hf := neg_e c_17 hf
          refine lv_aload_n hx hb dX8_undo_34 rfl (lv_at hl 0 rfl) ?_
          refine gX8_7 (o' := 184) hx hb hts hown hG hI hL rfl dX8_undo_35 ?_
          refine lv_iload_n hx hb dX8_undo_38 rfl (lv_at hl 1 rfl) ?_
          refine lv_aload_n hx hb dX8_undo_39 rfl (lv_at hl 0 rfl) ?_
          refine gX8_16 (o' := 186) hx hb hts hown hG hI hL rfl dX8_undo_40 ?_
          refine lv_sipush (v := 456) hx hb dX8_undo_43 (by decide) ?_
          refine lv_aload_n hx hb dX8_undo_46 rfl (lv_at hl 0 rfl) ?_
          refine gX8_36 hx hb hts hown hG hI hL dX8_undo_47 ?_
          refine lv_imul hx hb dX8_undo_50 ?_
          refine lv_iload_n hx hb dX8_undo_51 rfl (lv_at hl 1 rfl) ?_
          refine lv_iadd hx hb dX8_undo_52 ?_
          obtain ⟨hix, hf⟩ := ix_e hf
          refine mm_ald hx hb hG hI (ly_at hL 3 rfl) hix rfl dX8_undo_53 ?_
          obtain ⟨hix, hf⟩ := ix_e hf
          obtain ⟨σ_15, eσ_15, hf⟩ := vl_e hf
          refine mm_ast hx hb hG hI hS (ly_at hL 1 rfl) hix rfl dX8_undo_54 (fun H locs hI hS => ?_)
          rw [← eσ_15] at hI
          obtain ⟨x_16, ex_16, hf⟩ := vl_e hf
          refine lv_iinc (v := x_16) (lv' := [(1, .int x_16), (0, .ref (Z + 183))]) hx hb dX8_undo_55 hl (k := 1) rfl (by rw [ex_16]; rfl) (by decide) rfl (fun ls hl => ?_)
          refine lv_goto (tgt := 27) hx hb dX8_undo_58 (by decide) ?_
          obtain rfl := so_e hf
          exact ih_8 x_16 σ_15 hk_9 _ _ _ hI hS (lv_sub hl [1, 0] rfl)
    obtain ⟨σ_5, hy, hf⟩ := bi_e hf
    refine L_7 FU 0 σ_2 _ hy ?_ _ _ _ hI hS (lv_sub hl [1, 0] rfl)
    clear L_7
    intro H locs ls hI hS hl
    refine lv_aload_n hx hb dX8_undo_61 rfl (lv_at hl 0 rfl) ?_
    refine gX8_36 hx hb hts hown hG hI hL dX8_undo_62 ?_
    obtain ⟨rfl, rfl⟩ := sp_e hf
    exact mm_ret hx hb hr hlocks rfl hI hS dX8_undo_65
  · have hf := pos_e c_19 hf
    refine lv_bipush (v := (-2)) hx hb dX8_undo_12 (by decide) ?_
    obtain ⟨rfl, rfl⟩ := sp_e hf
    exact mm_ret hx hb hr hlocks rfl hI hS dX8_undo_14
def b_X8_weave_56 (a1 : Int32) : Int32 × (Nat → Nat → Int32) → Option ((Int32 × (Nat → Nat → Int32)) ⊕ (Int32 × (Nat → Nat → Int32)))
  | (y_6, σ_7) => if a1 ≤ y_6 then (some (.inr (y_6, σ_7))) else (bi (f_X8_stands σ_7) fun r_23 => if r_23 = 0 then (if 64 ≤ (σ_7 184 5) then (some (.inr (y_6, σ_7))) else (bi (f_X8_pick σ_7) fun σ_25 => vl (y_6 + 1) fun x_26 => some (.inl (x_26, σ_25)))) else (some (.inr (y_6, σ_7))))
def f_X8_weave (a1 : Int32) (σ : Nat → Nat → Int32) : Option (Int32 × (Nat → Nat → Int32)) := vl (wr σ 183 0 0) fun σ_1 => bi (f_X8_in a1 1 64 σ_1) fun r_2 => if r_2 = 0 then (some ((-1), σ_1)) else (if (σ_1 184 2) = 0 then (some ((-2), σ_1)) else (bi (f_X8_stands σ_1) fun r_3 => if r_3 = 0 then (if (σ_1 184 5) = 64 then (some ((-3), σ_1)) else (bi (f_X8_act σ_1) fun σ_5 => b2 (lp (b_X8_weave_56 a1) FU (0, σ_5)) fun z_8 σ_9 => some (z_8, σ_9))) else (some ((-2), σ_1))))
set_option maxHeartbeats 4000000 in
set_option maxRecDepth 100000 in
theorem c_X8_weave (l : Launch) (D : va_G) (cI cS : ClassId) (Z : Nat) (K : Nat → Nat) (hL : ly K 183 lyModel) (a1 : Int32) (σ : Nat → Nat → Int32) (r : Int32) (σ' : Nat → Nat → Int32) (hf : f_X8_weave a1 σ = some (r, σ')) : Met l yX8_weave (wsT yX8_weave cX8_weave 3 (some .int)) { frames := 3, cells := 0, slots := 0, locals := 73 } (Pm D cI cS Z K [.ref (Z + 183), .int a1] σ) (Qi D cI cS Z K r σ') 0 0 (aZ Z) := by
  refine mm_met (lv := [(0, .ref (Z + 183)), (1, .int a1)]) (by decide) (Nat.le_of_ble_eq_true rfl) rfl ?_
  intro p e s m args below meth c ls hx hb hr hml hts hown hlocks hG hl hI hS
  have hown : s.vm.findClass RX8 = some m.cls := hown
  rw [f_X8_weave] at hf
  refine lv_aload_n hx hb dX8_weave_0 rfl (lv_at hl 0 rfl) ?_
  refine lv_iconst (v := 0) hx hb dX8_weave_1 (by decide) ?_
  obtain ⟨σ_1, eσ_1, hf⟩ := vl_e hf
  refine pX8_28 hx hb hts hown hG hI hS hL dX8_weave_2 (fun H locs hI hS => ?_)
  rw [← eσ_1] at hI
  refine lv_iload_n hx hb dX8_weave_5 rfl (lv_at hl 1 rfl) ?_
  refine lv_iconst (v := 1) hx hb dX8_weave_6 (by decide) ?_
  refine lv_bipush (v := 64) hx hb dX8_weave_7 (by decide) ?_
  obtain ⟨r_2, hr_2, hf⟩ := bi_e hf
  refine kX8_39 hx hb hml hts hown hG hI hS hl.1 (As := [.int a1, .int 1, .int 64]) (c_X8_in l D cI cS Z K a1 1 64 σ_1 _ hr_2) ⟨(Nat.le_of_ble_eq_true rfl), (Nat.le_of_ble_eq_true rfl)⟩ rfl (Nat.le_of_ble_eq_true rfl) ⟨(Nat.le_of_ble_eq_true rfl), (Nat.le_of_ble_eq_true rfl)⟩ dX8_weave_9 (fun hzr_2 H locs hI hS => ?_)
  refine lv_if_ne (tgt := 17) hx hb dX8_weave_12 (by decide) (fun c_34 => ?_) (fun c_34 => ?_)
  · have hf := neg_e c_34 hf
    refine lv_aload_n hx hb dX8_weave_17 rfl (lv_at hl 0 rfl) ?_
    refine gX8_7 (o' := 184) hx hb hts hown hG hI hL rfl dX8_weave_18 ?_
    refine lv_iconst (v := 2) hx hb dX8_weave_21 (by decide) ?_
    refine mm_ald (k := 2) (n := 456) hx hb hG hI (ly_at hL 1 rfl) (by decide) rfl dX8_weave_22 ?_
    refine lv_if_eq (tgt := 33) hx hb dX8_weave_23 (by decide) (fun c_33 => ?_) (fun c_33 => ?_)
    · have hf := pos_e c_33 hf
      refine lv_bipush (v := (-2)) hx hb dX8_weave_33 (by decide) ?_
      obtain ⟨rfl, rfl⟩ := sp_e hf
      exact mm_ret hx hb hr hlocks rfl hI hS dX8_weave_35
    · have hf := neg_e c_33 hf
      refine lv_aload_n hx hb dX8_weave_26 rfl (lv_at hl 0 rfl) ?_
      obtain ⟨r_3, hr_3, hf⟩ := bi_e hf
      refine kX8_139 hx hb hml hts hown hG hI hS hl.1 hL (As := []) (c_X8_stands l D cI cS Z K hL σ_1 _ hr_3) ⟨(Nat.le_of_ble_eq_true rfl), (Nat.le_of_ble_eq_true rfl)⟩ rfl (Nat.le_of_ble_eq_true rfl) ⟨(Nat.le_of_ble_eq_true rfl), (Nat.le_of_ble_eq_true rfl)⟩ dX8_weave_27 (fun hzr_3 H locs hI hS => ?_)
      refine lv_if_eq (tgt := 36) hx hb dX8_weave_30 (by decide) (fun c_32 => ?_) (fun c_32 => ?_)
      · have hf := pos_e c_32 hf
        refine lv_aload_n hx hb dX8_weave_36 rfl (lv_at hl 0 rfl) ?_
        refine gX8_7 (o' := 184) hx hb hts hown hG hI hL rfl dX8_weave_37 ?_
        refine lv_iconst (v := 5) hx hb dX8_weave_40 (by decide) ?_
        refine mm_ald (k := 5) (n := 456) hx hb hG hI (ly_at hL 1 rfl) (by decide) rfl dX8_weave_41 ?_
        refine lv_bipush (v := 64) hx hb dX8_weave_42 (by decide) ?_
        refine lv_icmp_ne (tgt := 50) hx hb dX8_weave_44 (by decide) (fun c_31 => ?_) (fun c_31 => ?_)
        · have hf := neg_e c_31 hf
          refine lv_aload_n hx hb dX8_weave_50 rfl (lv_at hl 0 rfl) ?_
          obtain ⟨σ_5, hσ_5, hf⟩ := bi_e hf
          refine kX8_43 hx hb hml hts hown hG hI hS hl.1 hL (As := []) (c_X8_act l D cI cS Z K hL σ_1 _ hσ_5) ⟨(Nat.le_of_ble_eq_true rfl), (Nat.le_of_ble_eq_true rfl)⟩ rfl (Nat.le_of_ble_eq_true rfl) ⟨(Nat.le_of_ble_eq_true rfl), (Nat.le_of_ble_eq_true rfl)⟩ dX8_weave_51 (fun H locs hI hS => ?_)
          refine lv_iconst (v := 0) hx hb dX8_weave_54 (by decide) ?_
          refine lv_istore_n (lv' := [(2, .int 0), (0, .ref (Z + 183)), (1, .int a1)]) hx hb dX8_weave_55 rfl hl (by decide) rfl (fun ls hl => ?_)
          have L_11 : ∀ (nn : Nat) (y_6 : Int32) (σ_7 : Nat → Nat → Int32) (z_8 : Int32) (σ_9 : Nat → Nat → Int32), lp (b_X8_weave_56 a1) nn (y_6, σ_7) = some (z_8, σ_9) → (∀ (H : Heap) (locs : List Loc) (ls : Array Slot), fI D cI cS Z K σ_9 H → va_S (aZ Z) s.heap H locs → lv_has ls 3 [(2, .int z_8)] → W p l e { frames := 3, cells := 0, slots := 0, locals := 73 } s m args below meth c H locs 0 0 (MQ below (Qi D cI cS Z K r σ') args s 0 0 (aZ Z)) (F0 m 89 ls [])) → ∀ (H : Heap) (locs : List Loc) (ls : Array Slot), fI D cI cS Z K σ_7 H → va_S (aZ Z) s.heap H locs → lv_has ls 3 [(0, .ref (Z + 183)), (1, .int a1), (2, .int y_6)] → W p l e { frames := 3, cells := 0, slots := 0, locals := 73 } s m args below meth c H locs 0 0 (MQ below (Qi D cI cS Z K r σ') args s 0 0 (aZ Z)) (F0 m 56 ls []) := by
            intro nn
            induction nn with
            | zero =>
              intro y_6 σ_7 z_8 σ_9 hq
              exact (lp_0 hq).elim
            | succ nn ih_12 =>
              intro y_6 σ_7 z_8 σ_9 hq kn_14 H locs ls hI hS hl
              obtain ⟨w_10, hf, hk_13⟩ := lp_e hq
              rw [b_X8_weave_56] at hf
              have ih_12 := fun (y_6 : Int32) (σ_7 : Nat → Nat → Int32) q => ih_12 y_6 σ_7 z_8 σ_9 q kn_14
              refine lv_iload_n hx hb dX8_weave_56 rfl (lv_at hl 2 rfl) ?_
              refine lv_iload_n hx hb dX8_weave_57 rfl (lv_at hl 1 rfl) ?_
              refine lv_icmp_ge (tgt := 89) hx hb dX8_weave_58 (by decide) (fun c_29 => ?_) (fun c_29 => ?_)
              · have hf := pos_e c_29 hf
                obtain rfl := so_e hf
                obtain ⟨rfl, rfl⟩ := q2_e (lk_r hk_13)
                exact kn_14 _ _ _ hI hS (lv_sub hl [2] rfl)
              · have hf := neg_e c_29 hf
                refine lv_aload_n hx hb dX8_weave_61 rfl (lv_at hl 0 rfl) ?_
                obtain ⟨r_23, hr_23, hf⟩ := bi_e hf
                refine kX8_139 hx hb hml hts hown hG hI hS hl.1 hL (As := []) (c_X8_stands l D cI cS Z K hL σ_7 _ hr_23) ⟨(Nat.le_of_ble_eq_true rfl), (Nat.le_of_ble_eq_true rfl)⟩ rfl (Nat.le_of_ble_eq_true rfl) ⟨(Nat.le_of_ble_eq_true rfl), (Nat.le_of_ble_eq_true rfl)⟩ dX8_weave_62 (fun hzr_23 H locs hI hS => ?_)
                refine lv_if_ne (tgt := 89) hx hb dX8_weave_65 (by decide) (fun c_28 => ?_) (fun c_28 => ?_)
                · have hf := neg_e c_28 hf
                  obtain rfl := so_e hf
                  obtain ⟨rfl, rfl⟩ := q2_e (lk_r hk_13)
                  exact kn_14 _ _ _ hI hS (lv_sub hl [2] rfl)
                · have hf := pos_e c_28 hf
                  refine lv_aload_n hx hb dX8_weave_68 rfl (lv_at hl 0 rfl) ?_
                  refine gX8_7 (o' := 184) hx hb hts hown hG hI hL rfl dX8_weave_69 ?_
                  refine lv_iconst (v := 5) hx hb dX8_weave_72 (by decide) ?_
                  refine mm_ald (k := 5) (n := 456) hx hb hG hI (ly_at hL 1 rfl) (by decide) rfl dX8_weave_73 ?_
                  refine lv_bipush (v := 64) hx hb dX8_weave_74 (by decide) ?_
                  refine lv_icmp_ge (tgt := 89) hx hb dX8_weave_76 (by decide) (fun c_27 => ?_) (fun c_27 => ?_)
                  · have hf := pos_e c_27 hf
                    obtain rfl := so_e hf
                    obtain ⟨rfl, rfl⟩ := q2_e (lk_r hk_13)
                    exact kn_14 _ _ _ hI hS (lv_sub hl [2] rfl)
                  · have hf := neg_e c_27 hf
                    refine lv_aload_n hx hb dX8_weave_79 rfl (lv_at hl 0 rfl) ?_
                    obtain ⟨σ_25, hσ_25, hf⟩ := bi_e hf
                    refine kX8_142 hx hb hml hts hown hG hI hS hl.1 hL (As := []) (c_X8_pick l D cI cS Z K hL σ_7 _ hσ_25) ⟨(Nat.le_of_ble_eq_true rfl), (Nat.le_of_ble_eq_true rfl)⟩ rfl (Nat.le_of_ble_eq_true rfl) ⟨(Nat.le_of_ble_eq_true rfl), (Nat.le_of_ble_eq_true rfl)⟩ dX8_weave_80 (fun H locs hI hS => ?_)
                    obtain ⟨x_26, ex_26, hf⟩ := vl_e hf
                    refine lv_iinc (v := x_26) (lv' := [(2, .int x_26), (0, .ref (Z + 183)), (1, .int a1)]) hx hb dX8_weave_83 hl (k := 2) rfl (by rw [ex_26]; rfl) (by decide) rfl (fun ls hl => ?_)
                    refine lv_goto (tgt := 56) hx hb dX8_weave_86 (by decide) ?_
                    obtain rfl := so_e hf
                    exact ih_12 x_26 σ_25 hk_13 _ _ _ hI hS (lv_sub hl [1, 2, 0] rfl)
          obtain ⟨z_8, σ_9, hy, hf⟩ := b2_e hf
          refine L_11 FU 0 σ_5 _ _ hy ?_ _ _ _ hI hS (lv_sub hl [1, 2, 0] rfl)
          clear L_11
          intro H locs ls hI hS hl
          refine lv_iload_n hx hb dX8_weave_89 rfl (lv_at hl 0 rfl) ?_
          obtain ⟨rfl, rfl⟩ := sp_e hf
          exact mm_ret hx hb hr hlocks rfl hI hS dX8_weave_90
        · have hf := pos_e c_31 hf
          refine lv_bipush (v := (-3)) hx hb dX8_weave_47 (by decide) ?_
          obtain ⟨rfl, rfl⟩ := sp_e hf
          exact mm_ret hx hb hr hlocks rfl hI hS dX8_weave_49
      · have hf := neg_e c_32 hf
        refine lv_bipush (v := (-2)) hx hb dX8_weave_33 (by decide) ?_
        obtain ⟨rfl, rfl⟩ := sp_e hf
        exact mm_ret hx hb hr hlocks rfl hI hS dX8_weave_35
  · have hf := pos_e c_34 hf
    refine lv_iconst (v := (-1)) hx hb dX8_weave_15 (by decide) ?_
    obtain ⟨rfl, rfl⟩ := sp_e hf
    exact mm_ret hx hb hr hlocks rfl hI hS dX8_weave_16
def f_X8_wind (a1 : Int32) (a2 : Int32) (σ : Nat → Nat → Int32) : Option (Int32 × (Nat → Nat → Int32)) := vl (wr σ 183 0 0) fun σ_1 => bi (f_X8_isColor a1 σ_1) fun r_2 => if r_2 = 0 then (some ((-1), σ_1)) else (bi (f_X8_in a2 0 9999 σ_1) fun r_3 => if r_3 = 0 then (some ((-1), σ_1)) else (b2 (f_X8_put (126 + a1) a2 σ_1) fun r_4 σ_5 => some (r_4, σ_5)))
set_option maxHeartbeats 4000000 in
set_option maxRecDepth 100000 in
theorem c_X8_wind (l : Launch) (D : va_G) (cI cS : ClassId) (Z : Nat) (K : Nat → Nat) (hL : ly K 183 lyModel) (a1 : Int32) (a2 : Int32) (σ : Nat → Nat → Int32) (r : Int32) (σ' : Nat → Nat → Int32) (hf : f_X8_wind a1 a2 σ = some (r, σ')) : Met l yX8_wind (wsT yX8_wind cX8_wind 3 (some .int)) { frames := 2, cells := 0, slots := 0, locals := 44 } (Pm D cI cS Z K [.ref (Z + 183), .int a1, .int a2] σ) (Qi D cI cS Z K r σ') 0 0 (aZ Z) := by
  refine mm_met (lv := [(0, .ref (Z + 183)), (1, .int a1), (2, .int a2)]) (by decide) (Nat.le_of_ble_eq_true rfl) rfl ?_
  intro p e s m args below meth c ls hx hb hr hml hts hown hlocks hG hl hI hS
  have hown : s.vm.findClass RX8 = some m.cls := hown
  rw [f_X8_wind] at hf
  refine lv_aload_n hx hb dX8_wind_0 rfl (lv_at hl 0 rfl) ?_
  refine lv_iconst (v := 0) hx hb dX8_wind_1 (by decide) ?_
  obtain ⟨σ_1, eσ_1, hf⟩ := vl_e hf
  refine pX8_28 hx hb hts hown hG hI hS hL dX8_wind_2 (fun H locs hI hS => ?_)
  rw [← eσ_1] at hI
  refine lv_iload_n hx hb dX8_wind_5 rfl (lv_at hl 1 rfl) ?_
  obtain ⟨r_2, hr_2, hf⟩ := bi_e hf
  refine kX8_53 hx hb hml hts hown hG hI hS hl.1 (As := [.int a1]) (c_X8_isColor l D cI cS Z K a1 σ_1 _ hr_2) ⟨(Nat.le_of_ble_eq_true rfl), (Nat.le_of_ble_eq_true rfl)⟩ rfl (Nat.le_of_ble_eq_true rfl) ⟨(Nat.le_of_ble_eq_true rfl), (Nat.le_of_ble_eq_true rfl)⟩ dX8_wind_6 (fun hzr_2 H locs hI hS => ?_)
  refine lv_if_eq (tgt := 35) hx hb dX8_wind_9 (by decide) (fun c_7 => ?_) (fun c_7 => ?_)
  · have hf := pos_e c_7 hf
    refine lv_iconst (v := (-1)) hx hb dX8_wind_35 (by decide) ?_
    obtain ⟨rfl, rfl⟩ := sp_e hf
    exact mm_ret hx hb hr hlocks rfl hI hS dX8_wind_36
  · have hf := neg_e c_7 hf
    refine lv_iload_n hx hb dX8_wind_12 rfl (lv_at hl 2 rfl) ?_
    refine lv_iconst (v := 0) hx hb dX8_wind_13 (by decide) ?_
    refine lv_sipush (v := 9999) hx hb dX8_wind_14 (by decide) ?_
    obtain ⟨r_3, hr_3, hf⟩ := bi_e hf
    refine kX8_39 hx hb hml hts hown hG hI hS hl.1 (As := [.int a2, .int 0, .int 9999]) (c_X8_in l D cI cS Z K a2 0 9999 σ_1 _ hr_3) ⟨(Nat.le_of_ble_eq_true rfl), (Nat.le_of_ble_eq_true rfl)⟩ rfl (Nat.le_of_ble_eq_true rfl) ⟨(Nat.le_of_ble_eq_true rfl), (Nat.le_of_ble_eq_true rfl)⟩ dX8_wind_17 (fun hzr_3 H locs hI hS => ?_)
    refine lv_if_eq (tgt := 35) hx hb dX8_wind_20 (by decide) (fun c_6 => ?_) (fun c_6 => ?_)
    · have hf := pos_e c_6 hf
      refine lv_iconst (v := (-1)) hx hb dX8_wind_35 (by decide) ?_
      obtain ⟨rfl, rfl⟩ := sp_e hf
      exact mm_ret hx hb hr hlocks rfl hI hS dX8_wind_36
    · have hf := neg_e c_6 hf
      refine lv_aload_n hx hb dX8_wind_23 rfl (lv_at hl 0 rfl) ?_
      refine lv_bipush (v := 126) hx hb dX8_wind_24 (by decide) ?_
      refine lv_iload_n hx hb dX8_wind_26 rfl (lv_at hl 1 rfl) ?_
      refine lv_iadd hx hb dX8_wind_27 ?_
      refine lv_iload_n hx hb dX8_wind_28 rfl (lv_at hl 2 rfl) ?_
      obtain ⟨r_4, σ_5, hr_4, hf⟩ := b2_e hf
      refine kX8_56 hx hb hml hts hown hG hI hS hl.1 hL (As := [.int (126 + a1), .int a2]) (c_X8_put l D cI cS Z K hL (126 + a1) a2 σ_1 _ _ hr_4) ⟨(Nat.le_of_ble_eq_true rfl), (Nat.le_of_ble_eq_true rfl)⟩ rfl (Nat.le_of_ble_eq_true rfl) ⟨(Nat.le_of_ble_eq_true rfl), (Nat.le_of_ble_eq_true rfl)⟩ dX8_wind_29 (fun H locs hI hS => ?_)
      refine lv_goto (tgt := 36) hx hb dX8_wind_32 (by decide) ?_
      obtain ⟨rfl, rfl⟩ := sp_e hf
      exact mm_ret hx hb hr hlocks rfl hI hS dX8_wind_36
def f_X8_yarn (a1 : Int32) (σ : Nat → Nat → Int32) : Option (Int32 × (Nat → Nat → Int32)) := vl (wr σ 183 0 0) fun σ_1 => bi (f_X8_isColor a1 σ_1) fun r_2 => if r_2 = 0 then (some ((-1), σ_1)) else (ix (126 + a1) 456 <| some (σ_1 184 (126 + a1).toNatClampNeg, σ_1))
set_option maxHeartbeats 4000000 in
set_option maxRecDepth 100000 in
theorem c_X8_yarn (l : Launch) (D : va_G) (cI cS : ClassId) (Z : Nat) (K : Nat → Nat) (hL : ly K 183 lyModel) (a1 : Int32) (σ : Nat → Nat → Int32) (r : Int32) (σ' : Nat → Nat → Int32) (hf : f_X8_yarn a1 σ = some (r, σ')) : Met l yX8_yarn (wsT yX8_yarn cX8_yarn 2 (some .int)) { frames := 2, cells := 0, slots := 0, locals := 42 } (Pm D cI cS Z K [.ref (Z + 183), .int a1] σ) (Qi D cI cS Z K r σ') 0 0 (aZ Z) := by
  refine mm_met (lv := [(0, .ref (Z + 183)), (1, .int a1)]) (by decide) (Nat.le_of_ble_eq_true rfl) rfl ?_
  intro p e s m args below meth c ls hx hb hr hml hts hown hlocks hG hl hI hS
  have hown : s.vm.findClass RX8 = some m.cls := hown
  rw [f_X8_yarn] at hf
  refine lv_aload_n hx hb dX8_yarn_0 rfl (lv_at hl 0 rfl) ?_
  refine lv_iconst (v := 0) hx hb dX8_yarn_1 (by decide) ?_
  obtain ⟨σ_1, eσ_1, hf⟩ := vl_e hf
  refine pX8_28 hx hb hts hown hG hI hS hL dX8_yarn_2 (fun H locs hI hS => ?_)
  rw [← eσ_1] at hI
  refine lv_iload_n hx hb dX8_yarn_5 rfl (lv_at hl 1 rfl) ?_
  obtain ⟨r_2, hr_2, hf⟩ := bi_e hf
  refine kX8_53 hx hb hml hts hown hG hI hS hl.1 (As := [.int a1]) (c_X8_isColor l D cI cS Z K a1 σ_1 _ hr_2) ⟨(Nat.le_of_ble_eq_true rfl), (Nat.le_of_ble_eq_true rfl)⟩ rfl (Nat.le_of_ble_eq_true rfl) ⟨(Nat.le_of_ble_eq_true rfl), (Nat.le_of_ble_eq_true rfl)⟩ dX8_yarn_6 (fun hzr_2 H locs hI hS => ?_)
  refine lv_if_eq (tgt := 24) hx hb dX8_yarn_9 (by decide) (fun c_3 => ?_) (fun c_3 => ?_)
  · have hf := pos_e c_3 hf
    refine lv_iconst (v := (-1)) hx hb dX8_yarn_24 (by decide) ?_
    obtain ⟨rfl, rfl⟩ := sp_e hf
    exact mm_ret hx hb hr hlocks rfl hI hS dX8_yarn_25
  · have hf := neg_e c_3 hf
    refine lv_aload_n hx hb dX8_yarn_12 rfl (lv_at hl 0 rfl) ?_
    refine gX8_7 (o' := 184) hx hb hts hown hG hI hL rfl dX8_yarn_13 ?_
    refine lv_bipush (v := 126) hx hb dX8_yarn_16 (by decide) ?_
    refine lv_iload_n hx hb dX8_yarn_18 rfl (lv_at hl 1 rfl) ?_
    refine lv_iadd hx hb dX8_yarn_19 ?_
    obtain ⟨hix, hf⟩ := ix_e hf
    refine mm_ald hx hb hG hI (ly_at hL 1 rfl) hix rfl dX8_yarn_20 ?_
    refine lv_goto (tgt := 25) hx hb dX8_yarn_21 (by decide) ?_
    obtain ⟨rfl, rfl⟩ := sp_e hf
    exact mm_ret hx hb hr hlocks rfl hI hS dX8_yarn_25
def b_X8_yarnFor_49 (a1 : Int32) (a2 : Int32) (σ_1 : Nat → Nat → Int32) : Int32 × Int32 × Int32 → Option ((Int32 × Int32 × Int32) ⊕ (Int32))
  | (y_5, y_6, y_7) => if a2 ≤ y_7 then (some (.inr y_5)) else (ix (102 + y_6) 456 <| jn (α := Int32 → _) (fun k_30 => if (σ_1 184 (102 + y_6).toNatClampNeg) = a1 then (bi (f_X8_needOf y_6 σ_1) fun r_36 => k_30 r_36) else (k_30 0)) (fun v_29 => vl (y_5 + v_29) fun x_32 => bi (f_X8_onward σ_1) fun r_33 => nz (σ_1 184 2) <| vl (((y_6 + r_33) + (σ_1 184 2)) - ((y_6 + r_33) + (σ_1 184 2)) / (σ_1 184 2) * (σ_1 184 2)) fun x_34 => vl (y_7 + 1) fun x_35 => some (.inl (x_32, x_34, x_35))))
def f_X8_yarnFor (a1 : Int32) (a2 : Int32) (σ : Nat → Nat → Int32) : Option (Int32 × (Nat → Nat → Int32)) := vl (wr σ 183 0 0) fun σ_1 => bi (f_X8_isColor a1 σ_1) fun r_2 => if r_2 = 0 then (some ((-1), σ_1)) else (bi (f_X8_in a2 1 64 σ_1) fun r_3 => if r_3 = 0 then (some ((-1), σ_1)) else (if (σ_1 184 2) = 0 then (some ((-2), σ_1)) else (vl (σ_1 184 3) fun x_4 => bi (lp (b_X8_yarnFor_49 a1 a2 σ_1) FU (0, x_4, 0)) fun z_8 => some (z_8, σ_1))))
set_option maxHeartbeats 4000000 in
set_option maxRecDepth 100000 in
theorem c_X8_yarnFor (l : Launch) (D : va_G) (cI cS : ClassId) (Z : Nat) (K : Nat → Nat) (hL : ly K 183 lyModel) (a1 : Int32) (a2 : Int32) (σ : Nat → Nat → Int32) (r : Int32) (σ' : Nat → Nat → Int32) (hf : f_X8_yarnFor a1 a2 σ = some (r, σ')) : Met l yX8_yarnFor (wsT yX8_yarnFor cX8_yarnFor 6 (some .int)) { frames := 3, cells := 0, slots := 0, locals := 69 } (Pm D cI cS Z K [.ref (Z + 183), .int a1, .int a2] σ) (Qi D cI cS Z K r σ') 0 0 (aZ Z) := by
  refine mm_met (lv := [(0, .ref (Z + 183)), (1, .int a1), (2, .int a2)]) (by decide) (Nat.le_of_ble_eq_true rfl) rfl ?_
  intro p e s m args below meth c ls hx hb hr hml hts hown hlocks hG hl hI hS
  have hown : s.vm.findClass RX8 = some m.cls := hown
  rw [f_X8_yarnFor] at hf
  refine lv_aload_n hx hb dX8_yarnFor_0 rfl (lv_at hl 0 rfl) ?_
  refine lv_iconst (v := 0) hx hb dX8_yarnFor_1 (by decide) ?_
  obtain ⟨σ_1, eσ_1, hf⟩ := vl_e hf
  refine pX8_28 hx hb hts hown hG hI hS hL dX8_yarnFor_2 (fun H locs hI hS => ?_)
  rw [← eσ_1] at hI
  refine lv_iload_n hx hb dX8_yarnFor_5 rfl (lv_at hl 1 rfl) ?_
  obtain ⟨r_2, hr_2, hf⟩ := bi_e hf
  refine kX8_53 hx hb hml hts hown hG hI hS hl.1 (As := [.int a1]) (c_X8_isColor l D cI cS Z K a1 σ_1 _ hr_2) ⟨(Nat.le_of_ble_eq_true rfl), (Nat.le_of_ble_eq_true rfl)⟩ rfl (Nat.le_of_ble_eq_true rfl) ⟨(Nat.le_of_ble_eq_true rfl), (Nat.le_of_ble_eq_true rfl)⟩ dX8_yarnFor_6 (fun hzr_2 H locs hI hS => ?_)
  refine lv_if_eq (tgt := 22) hx hb dX8_yarnFor_9 (by decide) (fun c_42 => ?_) (fun c_42 => ?_)
  · have hf := pos_e c_42 hf
    refine lv_iconst (v := (-1)) hx hb dX8_yarnFor_22 (by decide) ?_
    obtain ⟨rfl, rfl⟩ := sp_e hf
    exact mm_ret hx hb hr hlocks rfl hI hS dX8_yarnFor_23
  · have hf := neg_e c_42 hf
    refine lv_iload_n hx hb dX8_yarnFor_12 rfl (lv_at hl 2 rfl) ?_
    refine lv_iconst (v := 1) hx hb dX8_yarnFor_13 (by decide) ?_
    refine lv_bipush (v := 64) hx hb dX8_yarnFor_14 (by decide) ?_
    obtain ⟨r_3, hr_3, hf⟩ := bi_e hf
    refine kX8_39 hx hb hml hts hown hG hI hS hl.1 (As := [.int a2, .int 1, .int 64]) (c_X8_in l D cI cS Z K a2 1 64 σ_1 _ hr_3) ⟨(Nat.le_of_ble_eq_true rfl), (Nat.le_of_ble_eq_true rfl)⟩ rfl (Nat.le_of_ble_eq_true rfl) ⟨(Nat.le_of_ble_eq_true rfl), (Nat.le_of_ble_eq_true rfl)⟩ dX8_yarnFor_16 (fun hzr_3 H locs hI hS => ?_)
    refine lv_if_ne (tgt := 24) hx hb dX8_yarnFor_19 (by decide) (fun c_41 => ?_) (fun c_41 => ?_)
    · have hf := neg_e c_41 hf
      refine lv_aload_n hx hb dX8_yarnFor_24 rfl (lv_at hl 0 rfl) ?_
      refine gX8_7 (o' := 184) hx hb hts hown hG hI hL rfl dX8_yarnFor_25 ?_
      refine lv_iconst (v := 2) hx hb dX8_yarnFor_28 (by decide) ?_
      refine mm_ald (k := 2) (n := 456) hx hb hG hI (ly_at hL 1 rfl) (by decide) rfl dX8_yarnFor_29 ?_
      refine lv_if_ne (tgt := 36) hx hb dX8_yarnFor_30 (by decide) (fun c_40 => ?_) (fun c_40 => ?_)
      · have hf := neg_e c_40 hf
        refine lv_iconst (v := 0) hx hb dX8_yarnFor_36 (by decide) ?_
        refine lv_istore_n (lv' := [(3, .int 0), (0, .ref (Z + 183)), (1, .int a1), (2, .int a2)]) hx hb dX8_yarnFor_37 rfl hl (by decide) rfl (fun ls hl => ?_)
        refine lv_aload_n hx hb dX8_yarnFor_38 rfl (lv_at hl 1 rfl) ?_
        refine gX8_7 (o' := 184) hx hb hts hown hG hI hL rfl dX8_yarnFor_39 ?_
        refine lv_iconst (v := 3) hx hb dX8_yarnFor_42 (by decide) ?_
        refine mm_ald (k := 3) (n := 456) hx hb hG hI (ly_at hL 1 rfl) (by decide) rfl dX8_yarnFor_43 ?_
        obtain ⟨x_4, ex_4, hf⟩ := vl_e hf
        refine mm_name ex_4 ?_
        refine lv_istore (lv' := [(4, .int x_4), (3, .int 0), (0, .ref (Z + 183)), (1, .int a1), (2, .int a2)]) hx hb dX8_yarnFor_44 hl (by decide) rfl (fun ls hl => ?_)
        refine lv_iconst (v := 0) hx hb dX8_yarnFor_46 (by decide) ?_
        refine lv_istore (lv' := [(5, .int 0), (4, .int x_4), (3, .int 0), (0, .ref (Z + 183)), (1, .int a1), (2, .int a2)]) hx hb dX8_yarnFor_47 hl (by decide) rfl (fun ls hl => ?_)
        have L_10 : ∀ (nn : Nat) (y_5 : Int32) (y_6 : Int32) (y_7 : Int32) (z_8 : Int32), lp (b_X8_yarnFor_49 a1 a2 σ_1) nn (y_5, y_6, y_7) = some z_8 → (∀ (H : Heap) (locs : List Loc) (ls : Array Slot), fI D cI cS Z K σ_1 H → va_S (aZ Z) s.heap H locs → lv_has ls 6 [(3, .int z_8)] → W p l e { frames := 3, cells := 0, slots := 0, locals := 69 } s m args below meth c H locs 0 0 (MQ below (Qi D cI cS Z K r σ') args s 0 0 (aZ Z)) (F0 m 111 ls [])) → ∀ (H : Heap) (locs : List Loc) (ls : Array Slot), fI D cI cS Z K σ_1 H → va_S (aZ Z) s.heap H locs → lv_has ls 6 [(0, .ref (Z + 183)), (1, .int a1), (2, .int a2), (3, .int y_5), (4, .int y_6), (5, .int y_7)] → W p l e { frames := 3, cells := 0, slots := 0, locals := 69 } s m args below meth c H locs 0 0 (MQ below (Qi D cI cS Z K r σ') args s 0 0 (aZ Z)) (F0 m 49 ls []) := by
          intro nn
          induction nn with
          | zero =>
            intro y_5 y_6 y_7 z_8 hq
            exact (lp_0 hq).elim
          | succ nn ih_11 =>
            intro y_5 y_6 y_7 z_8 hq kn_13 H locs ls hI hS hl
            obtain ⟨w_9, hf, hk_12⟩ := lp_e hq
            rw [b_X8_yarnFor_49] at hf
            have ih_11 := fun (y_5 : Int32) (y_6 : Int32) (y_7 : Int32) q => ih_11 y_5 y_6 y_7 z_8 q kn_13
            refine lv_iload hx hb dX8_yarnFor_49 (lv_at hl 5 rfl) ?_
            refine lv_iload_n hx hb dX8_yarnFor_51 rfl (lv_at hl 2 rfl) ?_
            refine lv_icmp_ge (tgt := 111) hx hb dX8_yarnFor_52 (by decide) (fun c_38 => ?_) (fun c_38 => ?_)
            · have hf := pos_e c_38 hf
              obtain rfl := so_e hf
              obtain rfl := lk_r hk_12
              exact kn_13 _ _ _ hI hS (lv_sub hl [3] rfl)
            · have hf := neg_e c_38 hf
              refine lv_iload_n hx hb dX8_yarnFor_55 rfl (lv_at hl 3 rfl) ?_
              refine lv_aload_n hx hb dX8_yarnFor_56 rfl (lv_at hl 0 rfl) ?_
              refine gX8_7 (o' := 184) hx hb hts hown hG hI hL rfl dX8_yarnFor_57 ?_
              refine lv_bipush (v := 102) hx hb dX8_yarnFor_60 (by decide) ?_
              refine lv_iload hx hb dX8_yarnFor_62 (lv_at hl 4 rfl) ?_
              refine lv_iadd hx hb dX8_yarnFor_64 ?_
              obtain ⟨hix, hf⟩ := ix_e hf
              refine mm_ald hx hb hG hI (ly_at hL 1 rfl) hix rfl dX8_yarnFor_65 ?_
              refine lv_iload_n hx hb dX8_yarnFor_66 rfl (lv_at hl 1 rfl) ?_
              obtain ⟨k_30, ek_30, hf⟩ := jn_e hf
              have HJ_31 : ∀ (v_29 : Int32) (H : Heap) (locs : List Loc) (ls : Array Slot), k_30 v_29 = some w_9 → fI D cI cS Z K σ_1 H → va_S (aZ Z) s.heap H locs → lv_has ls 6 [(0, .ref (Z + 183)), (1, .int a1), (2, .int a2), (4, .int y_6), (5, .int y_7)] → W p l e { frames := 3, cells := 0, slots := 0, locals := 69 } s m args below meth c H locs 0 0 (MQ below (Qi D cI cS Z K r σ') args s 0 0 (aZ Z)) (F0 m 80 ls [.int v_29, .int y_5]) := by
                intro v_29 H locs ls hf hI hS hl
                have hf := jb1 ek_30 hf
                refine lv_iadd hx hb dX8_yarnFor_80 ?_
                obtain ⟨x_32, ex_32, hf⟩ := vl_e hf
                refine mm_name ex_32 ?_
                refine lv_istore_n (lv' := [(3, .int x_32), (0, .ref (Z + 183)), (1, .int a1), (2, .int a2), (4, .int y_6), (5, .int y_7)]) hx hb dX8_yarnFor_81 rfl hl (by decide) rfl (fun ls hl => ?_)
                refine lv_iload hx hb dX8_yarnFor_82 (lv_at hl 4 rfl) ?_
                refine lv_aload_n hx hb dX8_yarnFor_84 rfl (lv_at hl 1 rfl) ?_
                obtain ⟨r_33, hr_33, hf⟩ := bi_e hf
                refine kX8_126 hx hb hml hts hown hG hI hS hl.1 hL (As := []) (c_X8_onward l D cI cS Z K hL σ_1 _ hr_33) ⟨(Nat.le_of_ble_eq_true rfl), (Nat.le_of_ble_eq_true rfl)⟩ rfl (Nat.le_of_ble_eq_true rfl) ⟨(Nat.le_of_ble_eq_true rfl), (Nat.le_of_ble_eq_true rfl)⟩ dX8_yarnFor_85 (fun H locs hI hS => ?_)
                refine lv_iadd hx hb dX8_yarnFor_88 ?_
                refine lv_aload_n hx hb dX8_yarnFor_89 rfl (lv_at hl 1 rfl) ?_
                refine gX8_7 (o' := 184) hx hb hts hown hG hI hL rfl dX8_yarnFor_90 ?_
                refine lv_iconst (v := 2) hx hb dX8_yarnFor_93 (by decide) ?_
                refine mm_ald (k := 2) (n := 456) hx hb hG hI (ly_at hL 1 rfl) (by decide) rfl dX8_yarnFor_94 ?_
                refine lv_iadd hx hb dX8_yarnFor_95 ?_
                refine lv_aload_n hx hb dX8_yarnFor_96 rfl (lv_at hl 1 rfl) ?_
                refine gX8_7 (o' := 184) hx hb hts hown hG hI hL rfl dX8_yarnFor_97 ?_
                refine lv_iconst (v := 2) hx hb dX8_yarnFor_100 (by decide) ?_
                refine mm_ald (k := 2) (n := 456) hx hb hG hI (ly_at hL 1 rfl) (by decide) rfl dX8_yarnFor_101 ?_
                obtain ⟨hnz, hf⟩ := nz_e hf
                refine lv_irem hx hb dX8_yarnFor_102 hnz ?_
                obtain ⟨x_34, ex_34, hf⟩ := vl_e hf
                refine mm_name ex_34 ?_
                refine lv_istore (lv' := [(4, .int x_34), (3, .int x_32), (0, .ref (Z + 183)), (1, .int a1), (2, .int a2), (5, .int y_7)]) hx hb dX8_yarnFor_103 hl (by decide) rfl (fun ls hl => ?_)
                obtain ⟨x_35, ex_35, hf⟩ := vl_e hf
                refine lv_iinc (v := x_35) (lv' := [(5, .int x_35), (4, .int x_34), (3, .int x_32), (0, .ref (Z + 183)), (1, .int a1), (2, .int a2)]) hx hb dX8_yarnFor_105 hl (k := 5) rfl (by rw [ex_35]; rfl) (by decide) rfl (fun ls hl => ?_)
                refine lv_goto (tgt := 49) hx hb dX8_yarnFor_108 (by decide) ?_
                obtain rfl := so_e hf
                exact ih_11 x_32 x_34 x_35 hk_12 _ _ _ hI hS (lv_sub hl [3, 4, 5, 2, 1, 0] rfl)
              clear ek_30
              refine lv_icmp_ne (tgt := 79) hx hb dX8_yarnFor_67 (by decide) (fun c_37 => ?_) (fun c_37 => ?_)
              · have hf := neg_e c_37 hf
                refine lv_iconst (v := 0) hx hb dX8_yarnFor_79 (by decide) ?_
                exact HJ_31 0 _ _ _ hf hI hS (lv_sub hl [0, 1, 2, 4, 5] rfl)
              · have hf := pos_e c_37 hf
                refine lv_aload_n hx hb dX8_yarnFor_70 rfl (lv_at hl 0 rfl) ?_
                refine lv_iload hx hb dX8_yarnFor_71 (lv_at hl 4 rfl) ?_
                obtain ⟨r_36, hr_36, hf⟩ := bi_e hf
                refine kX8_178 hx hb hml hts hown hG hI hS hl.1 hL (As := [.int y_6]) (c_X8_needOf l D cI cS Z K hL y_6 σ_1 _ hr_36) ⟨(Nat.le_of_ble_eq_true rfl), (Nat.le_of_ble_eq_true rfl)⟩ rfl (Nat.le_of_ble_eq_true rfl) ⟨(Nat.le_of_ble_eq_true rfl), (Nat.le_of_ble_eq_true rfl)⟩ dX8_yarnFor_73 (fun H locs hI hS => ?_)
                refine lv_goto (tgt := 80) hx hb dX8_yarnFor_76 (by decide) ?_
                exact HJ_31 r_36 _ _ _ hf hI hS (lv_sub hl [0, 1, 2, 4, 5] rfl)
        obtain ⟨z_8, hy, hf⟩ := bi_e hf
        refine L_10 FU 0 x_4 0 _ hy ?_ _ _ _ hI hS (lv_sub hl [3, 4, 5, 2, 1, 0] rfl)
        clear L_10
        intro H locs ls hI hS hl
        refine lv_iload_n hx hb dX8_yarnFor_111 rfl (lv_at hl 0 rfl) ?_
        obtain ⟨rfl, rfl⟩ := sp_e hf
        exact mm_ret hx hb hr hlocks rfl hI hS dX8_yarnFor_112
      · have hf := pos_e c_40 hf
        refine lv_bipush (v := (-2)) hx hb dX8_yarnFor_33 (by decide) ?_
        obtain ⟨rfl, rfl⟩ := sp_e hf
        exact mm_ret hx hb hr hlocks rfl hI hS dX8_yarnFor_35
    · have hf := pos_e c_41 hf
      refine lv_iconst (v := (-1)) hx hb dX8_yarnFor_22 (by decide) ?_
      obtain ⟨rfl, rfl⟩ := sp_e hf
      exact mm_ret hx hb hr hlocks rfl hI hS dX8_yarnFor_23
