/-! part 09: the ring of states -/
def Qr (D : va_G) (cI cS : ClassId) (Z : Nat) (K : Nat → Nat) (ad : Nat) (σ : Nat → Nat → Int32) : Array Value → State → Outcome → State → Prop := va_Qr (fun (_ : Unit) => True) (fun _ a t => a = Z + ad ∧ fI D cI cS Z K σ t.heap) (aZ Z)
theorem ly_ring0 {K : Nat → Nat} (h : ly K 29 lyHist) {i : Nat} (hi : i < 5) : ly K (31 + 28 * i) lyState := by
  match i, hi with
  | 0, _ => exact ly_sub h 2 (by decide +kernel)
  | 1, _ => exact ly_sub h 30 (by decide +kernel)
  | 2, _ => exact ly_sub h 58 (by decide +kernel)
  | 3, _ => exact ly_sub h 86 (by decide +kernel)
  | 4, _ => exact ly_sub h 114 (by decide +kernel)
theorem ly_ring {K : Nat → Nat} (h : ly K 29 lyHist) {x : Int32} (hx : vp_in x 5) : ly K (31 + 28 * x.toNatClampNeg) lyState := ly_ring0 h (Nat.not_le.mp fun q => hx (Or.inr q))
section RG
variable {p : Program} {l : Launch} {e : Env} {R : Room} {s : State} {m : MethodId} {args : Array Value} {below : List Frame} {meth : Method} {c : Code} {H H0 : Heap} {locs : List Loc} {cells slots : Nat} {Q : State → Prop}
variable {cc : ByteArray} {pc : Nat} {ls : Array Slot} {rest : List Value} {D : va_G} {cI cS : ClassId} {Z : Nat} {K : Nat → Nat} {σ : Nat → Nat → Int32}
theorem fE_r (cI cS : ClassId) (Z o : Nat) (g : Nat → Int32) : fE cI cS Z 15 o g = .inl (cS, 5, .inr (.inr (.inr (.inr (fun i => if i < 5 then some (Z + (o + 1 + 28 * i)) else none))))) := rfl
theorem mm_alenq (hx : p.tables.exec = Jvm.exec) (hb : c.code = cc) (hG : gK D cI cS s) (hI : fI D cI cS Z K σ H) {o : Nat} (hk : K o = 15) (hdg : decode cc pc = .ok (.arraylength, 1))
    (kk : W p l e R s m args below meth c H locs cells slots Q (F0 m (pc + 1) ls (.int 5 :: rest))) : W p l e R s m args below meth c H locs cells slots Q (F0 m pc ls (.ref (Z + o) :: rest)) :=
  va_alen (D := D) hx hb hG.1 (hI.one hk (by decide) (fE_r ..)) 0 1 rfl rfl rfl hdg kk
theorem mm_aldq (hx : p.tables.exec = Jvm.exec) (hb : c.code = cc) (hG : gK D cI cS s) (hI : fI D cI cS Z K σ H) {o : Nat} (hk : K o = 15) {i : Int32} (hin : vp_in i 5) (hdg : decode cc pc = .ok (.aaload, 1))
    (kk : W p l e R s m args below meth c H locs cells slots Q (F0 m (pc + 1) ls (.ref (Z + (o + 1 + 28 * i.toNatClampNeg)) :: rest))) : W p l e R s m args below meth c H locs cells slots Q (F0 m pc ls (.int i :: .ref (Z + o) :: rest)) :=
  va_aldq (D := D) hx hb hG.1 (hI.one hk (by decide) (fE_r ..)) 0 1 rfl rfl hin hdg (by rw [if_pos (Nat.not_le.mp fun q => hin (Or.inr q))]; exact kk)
theorem mm_aret {ad : Nat} (hx : p.tables.exec = Jvm.exec) (hb : c.code = cc) (hr : meth.sig.returnType = some (.object "DobbyLoom$State")) (hlocks : meth.locks = false) (hI : fI D cI cS Z K σ H) (hS : va_S (aZ Z) s.heap H locs) (hdg : decode cc pc = .ok (.areturn, 1)) : W p l e R s m args below meth c H locs cells slots (MQ below (Qr D cI cS Z K ad σ) args s cells slots (aZ Z)) (F0 m pc ls [.ref (Z + ad)]) :=
  W.aret hx hb hr (Or.inl ⟨_, rfl⟩) (Or.inr ⟨_, rfl⟩) (fun t ht hW => ⟨⟨(), Z + ad, rfl, trivial, rfl, by rw [ht]; exact hI⟩, hS.F ht⟩) hS.2.2 hdg hlocks
end RG
set_option maxHeartbeats 4000000 in
set_option maxRecDepth 100000 in
theorem c_X3_stateAt (l : Launch) (D : va_G) (cI cS : ClassId) (Z : Nat) (K : Nat → Nat) (hL : ly K 29 lyHist) (a1 : Int32) (σ : Nat → Nat → Int32) (hix : vp_in a1 5) : Met l yX3_stateAt (wsT yX3_stateAt cX3_stateAt 2 (some (.object "DobbyLoom$State"))) { frames := 0, cells := 0, slots := 0, locals := 0 } (Pm D cI cS Z K [.ref (Z + 29), .int a1] σ) (Qr D cI cS Z K (31 + 28 * a1.toNatClampNeg) σ) 0 0 (aZ Z) := by
  refine mm_met (lv := [(0, .ref (Z + 29)), (1, .int a1)]) (by decide) (Nat.le_of_ble_eq_true rfl) rfl ?_
  intro p e s m args below meth c ls hx hb hr hml hts hown hlocks hG hl hI hS
  have hown : s.vm.findClass RX3 = some m.cls := hown
  have h1 : ¬ a1 < 0 := fun h => hix (Or.inl h)
  have h2 : ¬ (5 : Int32) ≤ a1 := by
    obtain ⟨j, hj, e⟩ := vp_in_of hix (by decide)
    rw [e]
    exact nI_ge hj (by decide)
  refine lv_iload_n hx hb dX3_stateAt_0 rfl (lv_at hl 1 rfl) ?_
  refine lv_if_lt (tgt := 22) hx hb dX3_stateAt_1 (by decide) (fun c1 => absurd c1 h1) (fun c1 => ?_)
  refine lv_iload_n hx hb dX3_stateAt_4 rfl (lv_at hl 1 rfl) ?_
  refine lv_aload_n hx hb dX3_stateAt_5 rfl (lv_at hl 0 rfl) ?_
  refine gX3_11 (o' := 30) hx hb hts hown hG hI hL rfl dX3_stateAt_6 ?_
  refine mm_alenq hx hb hG hI (ly_at hL 1 rfl) dX3_stateAt_9 ?_
  refine lv_icmp_ge (tgt := 22) hx hb dX3_stateAt_10 (by decide) (fun c1 => absurd c1 h2) (fun c1 => ?_)
  refine lv_aload_n hx hb dX3_stateAt_13 rfl (lv_at hl 0 rfl) ?_
  refine gX3_11 (o' := 30) hx hb hts hown hG hI hL rfl dX3_stateAt_14 ?_
  refine lv_iload_n hx hb dX3_stateAt_17 rfl (lv_at hl 1 rfl) ?_
  refine mm_aldq hx hb hG hI (ly_at hL 1 rfl) hix dX3_stateAt_18 ?_
  refine lv_goto (tgt := 23) hx hb dX3_stateAt_19 (by decide) ?_
  exact mm_aret hx hb hr hlocks hI hS dX3_stateAt_23
section RH
variable {p : Program} {l : Launch} {e : Env} {R : Room} {s : State} {m : MethodId} {args : Array Value} {below : List Frame} {meth : Method} {c : Code} {H H0 : Heap} {locs : List Loc} {cells slots : Nat} {Q : State → Prop}
variable {cc : ByteArray} {pc : Nat} {ls : Array Slot} {rest : List Value} {D : va_G} {cI cS : ClassId} {Z : Nat} {K : Nat → Nat} {σ : Nat → Nat → Int32}
theorem kX3_stateAt (hx : p.tables.exec = Jvm.exec) (hb : c.code = cc) {nL : Nat} (hml : c.maxLocals = nL) (hts : ∀ w ∈ wsL_law, w.before args s = true) (hown : s.vm.findClass RX3 = some m.cls) (hG : gK D cI cS s) (hI : fI D cI cS Z K σ H) (hS : va_S (aZ Z) H0 H locs) (hsz : ls.size = nL) (hL : ly K 29 lyHist) {a1 : Int32} (hix : vp_in a1 5) (hR : ((1 ≤ R.frames ∧ 21 ≤ R.locals) ∧ ((rest.map fun v => v.category).sum ≤ 8 ∧ (cells ≤ R.cells ∧ slots ≤ R.slots)))) (hdg : decode cc pc = .ok (.invokevirtual 22, 3))
    (kk : ∀ (H1 : Heap) (locs1 : List Loc), fI D cI cS Z K σ H1 → va_S (aZ Z) H0 H1 locs1 → W p l e R s m args below meth c H1 locs1 cells slots Q (F0 m (pc + 3) ls (.ref (Z + (31 + 28 * a1.toNatClampNeg)) :: rest))) : W p l e R s m args below meth c H locs cells slots Q (F0 m pc ls (.int a1 :: .ref (Z + 29) :: rest)) := by
  refine va_callr (mm_runV (As := [.int a1]) (rest := rest) (n := 1) hx hb hml hts hown hG hI hsz (c_X3_stateAt l D cI cS Z K hL a1 σ hix) (ly_at hL 0 rfl) (by decide) rfl rfl (mT7 _ (List.mem_of_getElem? (i := 17) rfl)) (mT7 _ (List.mem_of_getElem? (i := 18) rfl)) (mT7 _ (List.mem_of_getElem? (i := 19) rfl)) (mT1 _ (List.mem_of_getElem? (i := 15) rfl)) (mT7 _ (List.mem_of_getElem? (i := 20) rfl)) (by decide +kernel) hR.1 rfl rfl rfl rfl hR.2.1 hR.2.2 hdg) hS (fun q _ h => h) (fun q h => h) ?_
  intro u ra t H1 locs1 ht hvm hw hB hz hk hS1
  obtain ⟨rfl, hB⟩ := hB
  exact kk H1 locs1 (by rw [← ht]; exact hB) hS1
end RH
