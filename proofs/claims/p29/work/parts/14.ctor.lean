/-! part 14: the constructors (written by wip/p29/ctor.py) -/
theorem zx_le {σ : Nat → Nat → Int32} {o n : Nat} (h : zx σ o = σ) (hn : o ≤ n) : zx σ n = σ := by rw [← h]; exact zx_zx hn
theorem bsz {D : va_G} {cI cS : ClassId} {Z o mc sz : Nat} {K : Nat → Nat} {σ : Nat → Nat → Int32} {H H0 : Heap} (hI : fI D cI cS Z K σ H) {i kd : Nat} (hk : K (o + i) = kd) (h9 : kd ≠ 99) (h : H.size ≤ H0.size + mc) (h0 : H0.size = Z + (o + 1)) (hm : mc = i) (hs : i + 1 = sz) : H.size = Z + (o + sz) := by
  have h1 := (hI (o + i) (by rw [hk]; exact h9)).lt
  have h2 : Z + (o + i) < H.size := h1
  omega
section CT
variable {p : Program} {l : Launch} {e : Env} {R : Room} {s : State} {m : MethodId} {args : Array Value} {below : List Frame} {meth : Method} {c : Code} {H H0 : Heap} {locs : List Loc} {cells slots : Nat} {Q : State → Prop}
variable {cc : ByteArray} {pc : Nat} {ls : Array Slot} {rest : List Value} {D : va_G} {cI cS : ClassId} {Z : Nat} {K0 : Nat → Nat} {σ : Nat → Nat → Int32} {o : Nat} {A A' : List Nat}
theorem mm_getN (hx : p.tables.exec = Jvm.exec) (hb : c.code = cc) (hts : ∀ w ∈ wsL_law, w.before args s = true) {own C : String} {T : u_T} {N ci index kd i : Nat} {fs : List Value} {v : Value} (hown : s.vm.findClass own = some m.cls) (hG : gK D cI cS s) (hN : bN D cI cS Z o K0 A σ H) (hin : ∀ w ∈ u_ws C T N, w ∈ wsL_law) (hk : A[i]? = some kd) (hfs : fE cI cS Z kd (o + i) (σ (o + i)) = .inr (ci, fs)) (h9 : kd ≠ 99) (hc : vwCl[ci]? = some (C, T, N)) (k : Nat) (hkN : k < N) (hlink : Cond.fieldLink own index (T k).1 (T k).2.1 (T k).2.2.1 ∈ wsL_law) (hv : fs[k]? = some v) (hdg : decode cc pc = .ok (.getfield index, 3))
    (kk : W p l e R s m args below meth c H locs cells slots Q (F0 m (pc + 3) ls (v :: rest))) : W p l e R s m args below meth c H locs cells slots Q (F0 m pc ls (.ref (Z + (o + i)) :: rest)) := by
  obtain ⟨K, ⟨f1, f2, f3⟩, f4, f5⟩ := hN
  exact mm_get hx hb hts hown hG f3 (f4 i kd hk) hin h9 hfs hc k hkN hlink hv hdg kk
theorem fE_q {cI cS : ClassId} {Z k o : Nat} {g : Nat → Int32} (h1 : 10 ≤ k) (h2 : k ≤ 15) : fE cI cS Z k o g = .inl (cS, 5, .inr (.inr (.inr (.inr (fun i => if i < k - 10 then some (Z + (o + 1 + 28 * i)) else none))))) := by
  rcases (show k = 10 ∨ k = 11 ∨ k = 12 ∨ k = 13 ∨ k = 14 ∨ k = 15 by omega) with rfl | rfl | rfl | rfl | rfl | rfl <;> rfl
theorem mm_alenN (hx : p.tables.exec = Jvm.exec) (hb : c.code = cc) (hG : gK D cI cS s) (hN : bN D cI cS Z o K0 A σ H) {i kd : Nat} (hk : A[i]? = some kd) (h1 : 10 ≤ kd) (h2 : kd ≤ 15) (hdg : decode cc pc = .ok (.arraylength, 1))
    (kk : W p l e R s m args below meth c H locs cells slots Q (F0 m (pc + 1) ls (.int 5 :: rest))) : W p l e R s m args below meth c H locs cells slots Q (F0 m pc ls (.ref (Z + (o + i)) :: rest)) := by
  obtain ⟨K, ⟨f1, f2, f3⟩, f4, f5⟩ := hN
  exact va_alen (D := D) hx hb hG.1 (f3.one (f4 i kd hk) (by omega) (fE_q h1 h2)) 0 1 rfl rfl rfl hdg kk
theorem mm_newq (hx : p.tables.exec = Jvm.exec) (hb : c.code = cc) (hts : ∀ w ∈ wsL_law, w.before args s = true) {own : String} {index : Nat} (hown : s.vm.findClass own = some m.cls) (hG : gK D cI cS s) (hN : bN D cI cS Z o K0 A σ H) (hS : va_S (aZ Z) H0 H locs) (hcl : Cond.classLink own index "DobbyLoom$State" ∈ wsL_law) (n : Nat) (hn : o + A.length = n) (hcells : cells + 1 ≤ R.cells) (hslots : slots + 5 ≤ R.slots) (hdg : decode cc pc = .ok (.anewarray index, 3))
    (kk : ∀ (H1 : Heap), bN D cI cS Z o K0 (A ++ [10]) (zx σ n) H1 → va_S (aZ Z) H0 H1 locs → W p l e R s m args below meth c H1 locs (cells + 1) (slots + 5) Q (F0 m (pc + 3) ls (.ref (Z + n) :: rest))) : W p l e R s m args below meth c H locs cells slots Q (F0 m pc ls (.int 5 :: rest)) := by
  subst hn
  have hsz := hN.szA
  refine W.anew hx hb hown (hts _ hcl) (va_AO.use hG.2.2) rfl hdg rfl (by decide) (by decide) hcells hslots fun cA kA comp f1 f2 f3 f4 => ?_
  have hcA : cA = cS := Option.some.inj (f1.symm.trans (hG.1.2 1 _ rfl).2.choose_spec.choose_spec.2.2.2)
  subst hcA
  generalize hH1 : H.push ({ cls := cA, slots := Array.replicate (5 : Int32).toNatClampNeg .null, vm := .none } : Cell) = H1
  have z1 : H1.size = H.size + 1 := by rw [← hH1, Array.size_push]
  have e1 : H1[H.size]? = some (arrV cA 5 (fun _ => .null)) := by rw [← hH1, Array.getElem?_push_size, ← arrV_new]; rfl
  have o1 : ∀ q : Nat, q < H.size → H1[q]? = H[q]? := fun q hq => by rw [← hH1, Array.getElem?_push, if_neg (Nat.ne_of_lt hq)]
  have := kk H1 (hN.push z1 o1 (by
    rw [fE_q (by decide) (by decide), ← hsz]
    show H1[H.size]? = some (vp_cell _ _)
    rw [vp_cell_q, e1]
    congr 2
    )) (hS.grow z1 o1)
  rw [← hsz] at this
  exact this
theorem mm_astq (hx : p.tables.exec = Jvm.exec) (hb : c.code = cc) (hG : gK D cI cS s) (hN : bN D cI cS Z o K0 A σ H) (hS : va_S (aZ Z) H0 H locs) {i j v kd k2 : Nat} {x : Int32} (hk : A[i]? = some kd) (hv : A[v]? = some 5) (hA : A.set i k2 = A') (hkd : kd = 10 + j) (hk2 : k2 = 11 + j) (hj : j < 5 ∧ v = i + 1 + 28 * j) (hxj : x = nI j) (hdg : decode cc pc = .ok (.aastore, 1))
    (kk : ∀ (H1 : Heap) (locs1 : List Loc), bN D cI cS Z o K0 A' σ H1 → va_S (aZ Z) H0 H1 locs1 → W p l e R s m args below meth c H1 locs1 cells slots Q (F0 m (pc + 1) ls rest)) : W p l e R s m args below meth c H locs cells slots Q (F0 m pc ls (.ref (Z + (o + v)) :: .int x :: .ref (Z + (o + i)) :: rest)) := by
  subst hkd; subst hk2; subst hxj
  have hz : Z + (o + v) = Z + (o + i + 1 + 28 * j) := by omega
  have hN0 := hN
  obtain ⟨K, ⟨f1, f2, f3⟩, f4, f5⟩ := hN
  have hP := f3.one (f4 i _ hk) (by omega) (fE_q (by omega) (by omega))
  have hPv := f3.one (f4 v 5 hv) (by decide) rfl
  have hcl : (nI j).toNatClampNeg = j := nI_clamp (by omega)
  have hlt : (nI j).toNatClampNeg < 5 := by rw [hcl]; exact hj.1
  have h0 : ¬ nI j < 0 := nI_pos (by omega)
  obtain ⟨r', hr', cellV, g1, g2, g3, -⟩ := hPv 0 _ rfl
  have hcls := (hG.1.1 5 _ rfl).2
  obtain ⟨kA, comp, k1, k2, k3, -⟩ := (hG.1.2 1 _ rfl).2
  have hcomp : comp = D.1 5 := Option.some.inj (k3.symm.trans hcls.1)
  subst hcomp
  obtain ⟨kC, hkC, -⟩ := hcls.2
  refine W.aast hx hb (hP 0 _ rfl) (fun q h => by cases h) (fun h => by cases h) k1 k2 rfl hkC ⟨h0, by show _ < (arrV _ _ _).slots.size; rw [arrV_size]; exact hlt⟩ g1 (fun q h => by rw [g3] at h; cases h) (by rw [g2]; exact hkC) (by rw [g2]; exact va_assign hcls) rfl rfl hdg fun H1 e z oq => ?_
  refine kk H1 _ (hN0.kind (List.getElem?_eq_some_iff.mp hk).1 hA z oq ?_) (hS.put z oq (Nat.le_add_right Z _))
  rw [fE_q (by omega) (by omega)]
  show H1[Z + (o + i)]? = some (vp_cell _ _)
  rw [e]
  rw [vp_cell_q, vp_cell_q, arrV_store]
  congr 2
  funext q
  rw [hcl]
  by_cases hq : q = j
  · rw [hq, show updV _ j _ j = _ from if_pos rfl, if_pos (by omega), hz]
    rfl
  · rw [show updV _ j _ q = _ from if_neg hq]
    by_cases h : q < 10 + j - 10
    · rw [if_pos h, if_pos (by omega)]
    · rw [if_neg h, if_neg (by omega)]
end CT

set_option maxHeartbeats 4000000 in
set_option maxRecDepth 100000 in
theorem c_X4_init (l : Launch) (D : va_G) (cI cS : ClassId) (Z : Nat) (K0 : Nat → Nat) (o N : Nat) (hNb : N ≤ 65536) (σ : Nat → Nat → Int32) (hz : zx σ o = σ) : Met l yX4_init (wsT yX4_init cX4_init 2 none) { frames := 1, cells := 1, slots := N, locals := 21 } (PN D cI cS Z o K0 27 [.ref (Z + o), .int (nI N)] σ) (QN D cI cS Z o K0 (lyNum N) (fun σ1 => σ1 = σ)) 1 N (aZ Z) := by
  refine mm_metN (lv := [(0, .ref (Z + o)), (1, .int (nI N))]) (by decide) (Nat.le_of_ble_eq_true rfl) rfl ?_
  intro p e s m args below meth c ls hx hb hr hml hts hown hlocks hname hG hl hN hS
  have hown : s.vm.findClass RX4 = some m.cls := hown
  have hNb2 : N < 2 ^ 31 := by omega
  have hsz0 := hN.szA
  refine lv_aload_n hx hb dX4_init_0 rfl (lv_at hl 0 rfl) ?_
  refine W.objInit hx hb hown (hts _ (mT3 _ (List.mem_of_getElem? (i := 6) rfl))) (hts _ (mT1 _ (List.mem_of_getElem? (i := 7) rfl))) (hts _ (mT1 _ (List.mem_of_getElem? (i := 8) rfl))) rfl (by rw [hml]; exact hl.1) rfl dX4_init_1 (Nat.le_of_ble_eq_true rfl) (Nat.le_of_ble_eq_true rfl) ?_
  refine W.eq (g2 := F0 m 4 ls []) rfl ?_
  refine lv_aload_n hx hb dX4_init_4 rfl (lv_at hl 0 rfl) ?_
  refine lv_iload_n hx hb dX4_init_5 rfl (lv_at hl 1 rfl) ?_
  refine lv_iconst (v := 0) hx hb dX4_init_6 (by decide) ?_
  refine va_mmax hx hb (hml.trans hl.1.symm) hown (hts _ (mT3 _ (List.mem_of_getElem? (i := 7) rfl))) (hts _ (mT3 _ (List.mem_of_getElem? (i := 8) rfl))) (hts _ (mT3 _ (List.mem_of_getElem? (i := 9) rfl))) (hts _ (mT3 _ (List.mem_of_getElem? (i := 10) rfl))) (Nat.le_of_ble_eq_true rfl) (Nat.le_of_ble_eq_true rfl) (Nat.le_of_ble_eq_true rfl) (Nat.zero_le _) dX4_init_7 ?_
  refine mm_name (x := nI N) (by rw [if_neg (nI_pos hNb2)]) ?_
  refine mm_newa (N := N) hx hb hts hG hN hS (mT3 _ (List.mem_of_getElem? (i := 11) rfl)) (o + 1) rfl (nI_pos hNb2) (nI_clamp hNb2) (by omega) (Nat.le_of_ble_eq_true rfl) (by show 0 + N ≤ N; omega) dX4_init_10 (fun H hN hS => ?_)
  have hN : bN D cI cS Z o K0 [27, 100 + N] σ H := by rw [zx_le hz (by omega)] at hN; exact hN
  refine mm_putF (i := 0) (k1 := 27) (k2 := 4) (v := Z + (o + 1)) (ty := (.array .int)) hx hb hts hown hG hN hS inlX4 tyX4 tyX4_ok nmX4 rfl rfl rfl (by decide) 0 (by decide) rfl rfl (Nat.le_of_ble_eq_true rfl) (mT3 _ (List.mem_of_getElem? (i := 12) rfl)) rfl hname rfl (by decide +kernel) rfl rfl dX4_init_12 (fun H locs hN hS => ?_)
  have hN : bN D cI cS Z o K0 [4, 100 + N] σ H := hN
  refine W.widen (k := 1) (n := N) (by omega) (by omega) ?_
  exact mm_vretN (post := fun x => x = σ) hx hb hr hlocks rfl hN hS dX4_init_15
set_option maxHeartbeats 4000000 in
set_option maxRecDepth 100000 in
theorem c_X0_init (l : Launch) (D : va_G) (cI cS : ClassId) (Z : Nat) (K0 : Nat → Nat) (o : Nat) (σ : Nat → Nat → Int32) (hz : zx σ o = σ) : Met l yX0_init (wsT yX0_init cX0_init 1 none) { frames := 2, cells := 4, slots := 50, locals := 42 } (PN D cI cS Z o K0 16 [.ref (Z + o)] σ) (QN D cI cS Z o K0 lyChain (fun σ1 => σ1 = σ)) 4 50 (aZ Z) := by
  refine mm_metN (lv := [(0, .ref (Z + o))]) (by decide) (Nat.le_of_ble_eq_true rfl) rfl ?_
  intro p e s m args below meth c ls hx hb hr hml hts hown hlocks hname hG hl hN hS
  have hown : s.vm.findClass RX0 = some m.cls := hown
  have hsz0 := hN.szA
  refine lv_aload_n hx hb dX0_init_0 rfl (lv_at hl 0 rfl) ?_
  refine W.objInit hx hb hown (hts _ (mT3 _ (List.mem_of_getElem? (i := 15) rfl))) (hts _ (mT1 _ (List.mem_of_getElem? (i := 7) rfl))) (hts _ (mT1 _ (List.mem_of_getElem? (i := 8) rfl))) rfl (by rw [hml]; exact hl.1) rfl dX0_init_1 (Nat.le_of_ble_eq_true rfl) (Nat.le_of_ble_eq_true rfl) ?_
  refine W.eq (g2 := F0 m 4 ls []) rfl ?_
  refine lv_aload_n hx hb dX0_init_4 rfl (lv_at hl 0 rfl) ?_
  refine mm_new (kd := 27) (ci := 4) (N := 1) hx hb hts hown hG hN hS inlX4 tyX4 tyX4_ok (mT3 _ (List.mem_of_getElem? (i := 16) rfl)) (mT1 _ (List.mem_of_getElem? (i := 22) rfl)) (mT1 _ (List.mem_of_getElem? (i := 23) rfl)) rfl (o + 1) rfl rfl (fun j hj => by rcases (show j = 0 by omega) with rfl <;> rfl) (Nat.le_of_ble_eq_true rfl) (Nat.le_of_ble_eq_true rfl) dX0_init_5 (fun H hN hS => ?_)
  have hN : bN D cI cS Z o K0 [16, 27] σ H := by rw [zx_le hz (by omega)] at hN; exact hN
  refine lv_dup hx hb dX0_init_8 rfl ?_
  refine lv_bipush (v := 24) hx hb dX0_init_9 (by decide) ?_
  obtain ⟨K1, hK1⟩ := hN
  refine mm_bN hS (mm_runI (As := [.int (nI 24)]) (o := (o + 1)) (kd := 27) (mc := 1) (ms := 24) (n := 1) hx hb hml hts hown hG ⟨K1, hK1.1, ly_sub hK1.2.1 1 (by decide +kernel), fun _ _ => rfl⟩ hl.1 (c_X4_init l D cI cS Z K1 (o + 1) 24 (by decide) σ (zx_le hz (by omega))) (mT3 _ (List.mem_of_getElem? (i := 19) rfl)) (mT3 _ (List.mem_of_getElem? (i := 4) rfl)) (mT1 _ (List.mem_of_getElem? (i := 23) rfl)) (mT3 _ (List.mem_of_getElem? (i := 5) rfl)) rfl (by decide +kernel) ⟨(Nat.le_of_ble_eq_true rfl), (Nat.le_of_ble_eq_true rfl)⟩ rfl rfl rfl rfl (Nat.le_of_ble_eq_true rfl) ⟨(Nat.le_of_ble_eq_true rfl), (Nat.le_of_ble_eq_true rfl)⟩ dX0_init_11) (fun σ1 H locs hp hN2 hS => ?_)
  rw [hp] at hN2
  have hN : bN D cI cS Z o K0 [16, 4, 124] σ H := bN.join (A := [16]) ⟨hK1.1, hK1.2.1, hK1.2.2⟩ rfl hN2 rfl
  refine mm_putF (i := 0) (k1 := 16) (k2 := 17) (v := Z + (o + 1)) (ty := (.object "DobbyLoom$Numbers")) hx hb hts hown hG hN hS inlX0 tyX0 tyX0_ok nmX0 rfl rfl rfl (by decide) 3 (by decide) rfl rfl (Nat.le_of_ble_eq_true rfl) (mT3 _ (List.mem_of_getElem? (i := 17) rfl)) rfl hname rfl (by decide +kernel) rfl rfl dX0_init_14 (fun H locs hN hS => ?_)
  have hN : bN D cI cS Z o K0 [17, 4, 124] σ H := hN
  refine lv_aload_n hx hb dX0_init_17 rfl (lv_at hl 0 rfl) ?_
  refine mm_new (kd := 27) (ci := 4) (N := 1) hx hb hts hown hG hN hS inlX4 tyX4 tyX4_ok (mT3 _ (List.mem_of_getElem? (i := 16) rfl)) (mT1 _ (List.mem_of_getElem? (i := 22) rfl)) (mT1 _ (List.mem_of_getElem? (i := 23) rfl)) rfl (o + 3) rfl rfl (fun j hj => by rcases (show j = 0 by omega) with rfl <;> rfl) (Nat.le_of_ble_eq_true rfl) (Nat.le_of_ble_eq_true rfl) dX0_init_18 (fun H hN hS => ?_)
  have hN : bN D cI cS Z o K0 [17, 4, 124, 27] σ H := by rw [zx_le hz (by omega)] at hN; exact hN
  refine lv_dup hx hb dX0_init_21 rfl ?_
  refine lv_bipush (v := 24) hx hb dX0_init_22 (by decide) ?_
  obtain ⟨K1, hK1⟩ := hN
  refine mm_bN hS (mm_runI (As := [.int (nI 24)]) (o := (o + 3)) (kd := 27) (mc := 1) (ms := 24) (n := 1) hx hb hml hts hown hG ⟨K1, hK1.1, ly_sub hK1.2.1 3 (by decide +kernel), fun _ _ => rfl⟩ hl.1 (c_X4_init l D cI cS Z K1 (o + 3) 24 (by decide) σ (zx_le hz (by omega))) (mT3 _ (List.mem_of_getElem? (i := 19) rfl)) (mT3 _ (List.mem_of_getElem? (i := 4) rfl)) (mT1 _ (List.mem_of_getElem? (i := 23) rfl)) (mT3 _ (List.mem_of_getElem? (i := 5) rfl)) rfl (by decide +kernel) ⟨(Nat.le_of_ble_eq_true rfl), (Nat.le_of_ble_eq_true rfl)⟩ rfl rfl rfl rfl (Nat.le_of_ble_eq_true rfl) ⟨(Nat.le_of_ble_eq_true rfl), (Nat.le_of_ble_eq_true rfl)⟩ dX0_init_24) (fun σ1 H locs hp hN2 hS => ?_)
  rw [hp] at hN2
  have hN : bN D cI cS Z o K0 [17, 4, 124, 4, 124] σ H := bN.join (A := [17, 4, 124]) ⟨hK1.1, hK1.2.1, hK1.2.2⟩ rfl hN2 rfl
  refine mm_putF (i := 0) (k1 := 17) (k2 := 0) (v := Z + (o + 3)) (ty := (.object "DobbyLoom$Numbers")) hx hb hts hown hG hN hS inlX0 tyX0 tyX0_ok nmX0 rfl rfl rfl (by decide) 4 (by decide) rfl rfl (Nat.le_of_ble_eq_true rfl) (mT3 _ (List.mem_of_getElem? (i := 18) rfl)) rfl hname rfl (by decide +kernel) rfl rfl dX0_init_27 (fun H locs hN hS => ?_)
  have hN : bN D cI cS Z o K0 [0, 4, 124, 4, 124] σ H := hN
  exact mm_vretN (post := fun x => x = σ) hx hb hr hlocks rfl hN hS dX0_init_30
set_option maxHeartbeats 4000000 in
set_option maxRecDepth 100000 in
theorem c_X6_init (l : Launch) (D : va_G) (cI cS : ClassId) (Z : Nat) (K0 : Nat → Nat) (o : Nat) (σ : Nat → Nat → Int32) (hz : zx σ o = σ) : Met l yX6_init (wsT yX6_init cX6_init 1 none) { frames := 2, cells := 6, slots := 75, locals := 42 } (PN D cI cS Z o K0 32 [.ref (Z + o)] σ) (QN D cI cS Z o K0 lyWarp (fun σ1 => σ1 = σ)) 6 75 (aZ Z) := by
  refine mm_metN (lv := [(0, .ref (Z + o))]) (by decide) (Nat.le_of_ble_eq_true rfl) rfl ?_
  intro p e s m args below meth c ls hx hb hr hml hts hown hlocks hname hG hl hN hS
  have hown : s.vm.findClass RX6 = some m.cls := hown
  have hsz0 := hN.szA
  refine lv_aload_n hx hb dX6_init_0 rfl (lv_at hl 0 rfl) ?_
  refine W.objInit hx hb hown (hts _ (mT2 _ (List.mem_of_getElem? (i := 22) rfl))) (hts _ (mT1 _ (List.mem_of_getElem? (i := 7) rfl))) (hts _ (mT1 _ (List.mem_of_getElem? (i := 8) rfl))) rfl (by rw [hml]; exact hl.1) rfl dX6_init_1 (Nat.le_of_ble_eq_true rfl) (Nat.le_of_ble_eq_true rfl) ?_
  refine W.eq (g2 := F0 m 4 ls []) rfl ?_
  refine lv_aload_n hx hb dX6_init_4 rfl (lv_at hl 0 rfl) ?_
  refine mm_new (kd := 27) (ci := 4) (N := 1) hx hb hts hown hG hN hS inlX4 tyX4 tyX4_ok (mT2 _ (List.mem_of_getElem? (i := 23) rfl)) (mT1 _ (List.mem_of_getElem? (i := 22) rfl)) (mT1 _ (List.mem_of_getElem? (i := 23) rfl)) rfl (o + 1) rfl rfl (fun j hj => by rcases (show j = 0 by omega) with rfl <;> rfl) (Nat.le_of_ble_eq_true rfl) (Nat.le_of_ble_eq_true rfl) dX6_init_5 (fun H hN hS => ?_)
  have hN : bN D cI cS Z o K0 [32, 27] σ H := by rw [zx_le hz (by omega)] at hN; exact hN
  refine lv_dup hx hb dX6_init_8 rfl ?_
  refine lv_bipush (v := 32) hx hb dX6_init_9 (by decide) ?_
  obtain ⟨K1, hK1⟩ := hN
  refine mm_bN hS (mm_runI (As := [.int (nI 32)]) (o := (o + 1)) (kd := 27) (mc := 1) (ms := 32) (n := 1) hx hb hml hts hown hG ⟨K1, hK1.1, ly_sub hK1.2.1 1 (by decide +kernel), fun _ _ => rfl⟩ hl.1 (c_X4_init l D cI cS Z K1 (o + 1) 32 (by decide) σ (zx_le hz (by omega))) (mT3 _ (List.mem_of_getElem? (i := 3) rfl)) (mT3 _ (List.mem_of_getElem? (i := 4) rfl)) (mT1 _ (List.mem_of_getElem? (i := 23) rfl)) (mT3 _ (List.mem_of_getElem? (i := 5) rfl)) rfl (by decide +kernel) ⟨(Nat.le_of_ble_eq_true rfl), (Nat.le_of_ble_eq_true rfl)⟩ rfl rfl rfl rfl (Nat.le_of_ble_eq_true rfl) ⟨(Nat.le_of_ble_eq_true rfl), (Nat.le_of_ble_eq_true rfl)⟩ dX6_init_11) (fun σ1 H locs hp hN2 hS => ?_)
  rw [hp] at hN2
  have hN : bN D cI cS Z o K0 [32, 4, 132] σ H := bN.join (A := [32]) ⟨hK1.1, hK1.2.1, hK1.2.2⟩ rfl hN2 rfl
  refine mm_putF (i := 0) (k1 := 32) (k2 := 33) (v := Z + (o + 1)) (ty := (.object "DobbyLoom$Numbers")) hx hb hts hown hG hN hS inlX6 tyX6 tyX6_ok nmX6 rfl rfl rfl (by decide) 2 (by decide) rfl rfl (Nat.le_of_ble_eq_true rfl) (mT3 _ (List.mem_of_getElem? (i := 0) rfl)) rfl hname rfl (by decide +kernel) rfl rfl dX6_init_14 (fun H locs hN hS => ?_)
  have hN : bN D cI cS Z o K0 [33, 4, 132] σ H := hN
  refine lv_aload_n hx hb dX6_init_17 rfl (lv_at hl 0 rfl) ?_
  refine mm_new (kd := 27) (ci := 4) (N := 1) hx hb hts hown hG hN hS inlX4 tyX4 tyX4_ok (mT2 _ (List.mem_of_getElem? (i := 23) rfl)) (mT1 _ (List.mem_of_getElem? (i := 22) rfl)) (mT1 _ (List.mem_of_getElem? (i := 23) rfl)) rfl (o + 3) rfl rfl (fun j hj => by rcases (show j = 0 by omega) with rfl <;> rfl) (Nat.le_of_ble_eq_true rfl) (Nat.le_of_ble_eq_true rfl) dX6_init_18 (fun H hN hS => ?_)
  have hN : bN D cI cS Z o K0 [33, 4, 132, 27] σ H := by rw [zx_le hz (by omega)] at hN; exact hN
  refine lv_dup hx hb dX6_init_21 rfl ?_
  refine lv_bipush (v := 32) hx hb dX6_init_22 (by decide) ?_
  obtain ⟨K1, hK1⟩ := hN
  refine mm_bN hS (mm_runI (As := [.int (nI 32)]) (o := (o + 3)) (kd := 27) (mc := 1) (ms := 32) (n := 1) hx hb hml hts hown hG ⟨K1, hK1.1, ly_sub hK1.2.1 3 (by decide +kernel), fun _ _ => rfl⟩ hl.1 (c_X4_init l D cI cS Z K1 (o + 3) 32 (by decide) σ (zx_le hz (by omega))) (mT3 _ (List.mem_of_getElem? (i := 3) rfl)) (mT3 _ (List.mem_of_getElem? (i := 4) rfl)) (mT1 _ (List.mem_of_getElem? (i := 23) rfl)) (mT3 _ (List.mem_of_getElem? (i := 5) rfl)) rfl (by decide +kernel) ⟨(Nat.le_of_ble_eq_true rfl), (Nat.le_of_ble_eq_true rfl)⟩ rfl rfl rfl rfl (Nat.le_of_ble_eq_true rfl) ⟨(Nat.le_of_ble_eq_true rfl), (Nat.le_of_ble_eq_true rfl)⟩ dX6_init_24) (fun σ1 H locs hp hN2 hS => ?_)
  rw [hp] at hN2
  have hN : bN D cI cS Z o K0 [33, 4, 132, 4, 132] σ H := bN.join (A := [33, 4, 132]) ⟨hK1.1, hK1.2.1, hK1.2.2⟩ rfl hN2 rfl
  refine mm_putF (i := 0) (k1 := 33) (k2 := 34) (v := Z + (o + 3)) (ty := (.object "DobbyLoom$Numbers")) hx hb hts hown hG hN hS inlX6 tyX6 tyX6_ok nmX6 rfl rfl rfl (by decide) 3 (by decide) rfl rfl (Nat.le_of_ble_eq_true rfl) (mT3 _ (List.mem_of_getElem? (i := 1) rfl)) rfl hname rfl (by decide +kernel) rfl rfl dX6_init_27 (fun H locs hN hS => ?_)
  have hN : bN D cI cS Z o K0 [34, 4, 132, 4, 132] σ H := hN
  refine lv_aload_n hx hb dX6_init_30 rfl (lv_at hl 0 rfl) ?_
  refine mm_new (kd := 27) (ci := 4) (N := 1) hx hb hts hown hG hN hS inlX4 tyX4 tyX4_ok (mT2 _ (List.mem_of_getElem? (i := 23) rfl)) (mT1 _ (List.mem_of_getElem? (i := 22) rfl)) (mT1 _ (List.mem_of_getElem? (i := 23) rfl)) rfl (o + 5) rfl rfl (fun j hj => by rcases (show j = 0 by omega) with rfl <;> rfl) (Nat.le_of_ble_eq_true rfl) (Nat.le_of_ble_eq_true rfl) dX6_init_31 (fun H hN hS => ?_)
  have hN : bN D cI cS Z o K0 [34, 4, 132, 4, 132, 27] σ H := by rw [zx_le hz (by omega)] at hN; exact hN
  refine lv_dup hx hb dX6_init_34 rfl ?_
  refine lv_bipush (v := 8) hx hb dX6_init_35 (by decide) ?_
  obtain ⟨K1, hK1⟩ := hN
  refine mm_bN hS (mm_runI (As := [.int (nI 8)]) (o := (o + 5)) (kd := 27) (mc := 1) (ms := 8) (n := 1) hx hb hml hts hown hG ⟨K1, hK1.1, ly_sub hK1.2.1 5 (by decide +kernel), fun _ _ => rfl⟩ hl.1 (c_X4_init l D cI cS Z K1 (o + 5) 8 (by decide) σ (zx_le hz (by omega))) (mT3 _ (List.mem_of_getElem? (i := 3) rfl)) (mT3 _ (List.mem_of_getElem? (i := 4) rfl)) (mT1 _ (List.mem_of_getElem? (i := 23) rfl)) (mT3 _ (List.mem_of_getElem? (i := 5) rfl)) rfl (by decide +kernel) ⟨(Nat.le_of_ble_eq_true rfl), (Nat.le_of_ble_eq_true rfl)⟩ rfl rfl rfl rfl (Nat.le_of_ble_eq_true rfl) ⟨(Nat.le_of_ble_eq_true rfl), (Nat.le_of_ble_eq_true rfl)⟩ dX6_init_37) (fun σ1 H locs hp hN2 hS => ?_)
  rw [hp] at hN2
  have hN : bN D cI cS Z o K0 [34, 4, 132, 4, 132, 4, 108] σ H := bN.join (A := [34, 4, 132, 4, 132]) ⟨hK1.1, hK1.2.1, hK1.2.2⟩ rfl hN2 rfl
  refine mm_putF (i := 0) (k1 := 34) (k2 := 6) (v := Z + (o + 5)) (ty := (.object "DobbyLoom$Numbers")) hx hb hts hown hG hN hS inlX6 tyX6 tyX6_ok nmX6 rfl rfl rfl (by decide) 4 (by decide) rfl rfl (Nat.le_of_ble_eq_true rfl) (mT3 _ (List.mem_of_getElem? (i := 2) rfl)) rfl hname rfl (by decide +kernel) rfl rfl dX6_init_40 (fun H locs hN hS => ?_)
  have hN : bN D cI cS Z o K0 [6, 4, 132, 4, 132, 4, 108] σ H := hN
  exact mm_vretN (post := fun x => x = σ) hx hb hr hlocks rfl hN hS dX6_init_43
set_option maxHeartbeats 4000000 in
set_option maxRecDepth 100000 in
theorem c_X2_init (l : Launch) (D : va_G) (cI cS : ClassId) (Z : Nat) (K0 : Nat → Nat) (o : Nat) (σ : Nat → Nat → Int32) (hz : zx σ o = σ) : Met l yX2_init (wsT yX2_init cX2_init 1 none) { frames := 2, cells := 12, slots := 390, locals := 42 } (PN D cI cS Z o K0 20 [.ref (Z + o)] σ) (QN D cI cS Z o K0 lyCloth (fun σ1 => σ1 = σ)) 12 390 (aZ Z) := by
  refine mm_metN (lv := [(0, .ref (Z + o))]) (by decide) (Nat.le_of_ble_eq_true rfl) rfl ?_
  intro p e s m args below meth c ls hx hb hr hml hts hown hlocks hname hG hl hN hS
  have hown : s.vm.findClass RX2 = some m.cls := hown
  have hsz0 := hN.szA
  refine lv_aload_n hx hb dX2_init_0 rfl (lv_at hl 0 rfl) ?_
  refine W.objInit hx hb hown (hts _ (mT3 _ (List.mem_of_getElem? (i := 23) rfl))) (hts _ (mT1 _ (List.mem_of_getElem? (i := 7) rfl))) (hts _ (mT1 _ (List.mem_of_getElem? (i := 8) rfl))) rfl (by rw [hml]; exact hl.1) rfl dX2_init_1 (Nat.le_of_ble_eq_true rfl) (Nat.le_of_ble_eq_true rfl) ?_
  refine W.eq (g2 := F0 m 4 ls []) rfl ?_
  refine lv_aload_n hx hb dX2_init_4 rfl (lv_at hl 0 rfl) ?_
  refine mm_new (kd := 27) (ci := 4) (N := 1) hx hb hts hown hG hN hS inlX4 tyX4 tyX4_ok (mT4 _ (List.mem_of_getElem? (i := 0) rfl)) (mT1 _ (List.mem_of_getElem? (i := 22) rfl)) (mT1 _ (List.mem_of_getElem? (i := 23) rfl)) rfl (o + 1) rfl rfl (fun j hj => by rcases (show j = 0 by omega) with rfl <;> rfl) (Nat.le_of_ble_eq_true rfl) (Nat.le_of_ble_eq_true rfl) dX2_init_5 (fun H hN hS => ?_)
  have hN : bN D cI cS Z o K0 [20, 27] σ H := by rw [zx_le hz (by omega)] at hN; exact hN
  refine lv_dup hx hb dX2_init_8 rfl ?_
  refine lv_bipush (v := 64) hx hb dX2_init_9 (by decide) ?_
  obtain ⟨K1, hK1⟩ := hN
  refine mm_bN hS (mm_runI (As := [.int (nI 64)]) (o := (o + 1)) (kd := 27) (mc := 1) (ms := 64) (n := 1) hx hb hml hts hown hG ⟨K1, hK1.1, ly_sub hK1.2.1 1 (by decide +kernel), fun _ _ => rfl⟩ hl.1 (c_X4_init l D cI cS Z K1 (o + 1) 64 (by decide) σ (zx_le hz (by omega))) (mT4 _ (List.mem_of_getElem? (i := 7) rfl)) (mT3 _ (List.mem_of_getElem? (i := 4) rfl)) (mT1 _ (List.mem_of_getElem? (i := 23) rfl)) (mT3 _ (List.mem_of_getElem? (i := 5) rfl)) rfl (by decide +kernel) ⟨(Nat.le_of_ble_eq_true rfl), (Nat.le_of_ble_eq_true rfl)⟩ rfl rfl rfl rfl (Nat.le_of_ble_eq_true rfl) ⟨(Nat.le_of_ble_eq_true rfl), (Nat.le_of_ble_eq_true rfl)⟩ dX2_init_11) (fun σ1 H locs hp hN2 hS => ?_)
  rw [hp] at hN2
  have hN : bN D cI cS Z o K0 [20, 4, 164] σ H := bN.join (A := [20]) ⟨hK1.1, hK1.2.1, hK1.2.2⟩ rfl hN2 rfl
  refine mm_putF (i := 0) (k1 := 20) (k2 := 21) (v := Z + (o + 1)) (ty := (.object "DobbyLoom$Numbers")) hx hb hts hown hG hN hS inlX2 tyX2 tyX2_ok nmX2 rfl rfl rfl (by decide) 1 (by decide) rfl rfl (Nat.le_of_ble_eq_true rfl) (mT4 _ (List.mem_of_getElem? (i := 1) rfl)) rfl hname rfl (by decide +kernel) rfl rfl dX2_init_14 (fun H locs hN hS => ?_)
  have hN : bN D cI cS Z o K0 [21, 4, 164] σ H := hN
  refine lv_aload_n hx hb dX2_init_17 rfl (lv_at hl 0 rfl) ?_
  refine mm_new (kd := 27) (ci := 4) (N := 1) hx hb hts hown hG hN hS inlX4 tyX4 tyX4_ok (mT4 _ (List.mem_of_getElem? (i := 0) rfl)) (mT1 _ (List.mem_of_getElem? (i := 22) rfl)) (mT1 _ (List.mem_of_getElem? (i := 23) rfl)) rfl (o + 3) rfl rfl (fun j hj => by rcases (show j = 0 by omega) with rfl <;> rfl) (Nat.le_of_ble_eq_true rfl) (Nat.le_of_ble_eq_true rfl) dX2_init_18 (fun H hN hS => ?_)
  have hN : bN D cI cS Z o K0 [21, 4, 164, 27] σ H := by rw [zx_le hz (by omega)] at hN; exact hN
  refine lv_dup hx hb dX2_init_21 rfl ?_
  refine lv_bipush (v := 64) hx hb dX2_init_22 (by decide) ?_
  obtain ⟨K1, hK1⟩ := hN
  refine mm_bN hS (mm_runI (As := [.int (nI 64)]) (o := (o + 3)) (kd := 27) (mc := 1) (ms := 64) (n := 1) hx hb hml hts hown hG ⟨K1, hK1.1, ly_sub hK1.2.1 3 (by decide +kernel), fun _ _ => rfl⟩ hl.1 (c_X4_init l D cI cS Z K1 (o + 3) 64 (by decide) σ (zx_le hz (by omega))) (mT4 _ (List.mem_of_getElem? (i := 7) rfl)) (mT3 _ (List.mem_of_getElem? (i := 4) rfl)) (mT1 _ (List.mem_of_getElem? (i := 23) rfl)) (mT3 _ (List.mem_of_getElem? (i := 5) rfl)) rfl (by decide +kernel) ⟨(Nat.le_of_ble_eq_true rfl), (Nat.le_of_ble_eq_true rfl)⟩ rfl rfl rfl rfl (Nat.le_of_ble_eq_true rfl) ⟨(Nat.le_of_ble_eq_true rfl), (Nat.le_of_ble_eq_true rfl)⟩ dX2_init_24) (fun σ1 H locs hp hN2 hS => ?_)
  rw [hp] at hN2
  have hN : bN D cI cS Z o K0 [21, 4, 164, 4, 164] σ H := bN.join (A := [21, 4, 164]) ⟨hK1.1, hK1.2.1, hK1.2.2⟩ rfl hN2 rfl
  refine mm_putF (i := 0) (k1 := 21) (k2 := 22) (v := Z + (o + 3)) (ty := (.object "DobbyLoom$Numbers")) hx hb hts hown hG hN hS inlX2 tyX2 tyX2_ok nmX2 rfl rfl rfl (by decide) 2 (by decide) rfl rfl (Nat.le_of_ble_eq_true rfl) (mT4 _ (List.mem_of_getElem? (i := 2) rfl)) rfl hname rfl (by decide +kernel) rfl rfl dX2_init_27 (fun H locs hN hS => ?_)
  have hN : bN D cI cS Z o K0 [22, 4, 164, 4, 164] σ H := hN
  refine lv_aload_n hx hb dX2_init_30 rfl (lv_at hl 0 rfl) ?_
  refine mm_new (kd := 27) (ci := 4) (N := 1) hx hb hts hown hG hN hS inlX4 tyX4 tyX4_ok (mT4 _ (List.mem_of_getElem? (i := 0) rfl)) (mT1 _ (List.mem_of_getElem? (i := 22) rfl)) (mT1 _ (List.mem_of_getElem? (i := 23) rfl)) rfl (o + 5) rfl rfl (fun j hj => by rcases (show j = 0 by omega) with rfl <;> rfl) (Nat.le_of_ble_eq_true rfl) (Nat.le_of_ble_eq_true rfl) dX2_init_31 (fun H hN hS => ?_)
  have hN : bN D cI cS Z o K0 [22, 4, 164, 4, 164, 27] σ H := by rw [zx_le hz (by omega)] at hN; exact hN
  refine lv_dup hx hb dX2_init_34 rfl ?_
  refine lv_bipush (v := 64) hx hb dX2_init_35 (by decide) ?_
  obtain ⟨K1, hK1⟩ := hN
  refine mm_bN hS (mm_runI (As := [.int (nI 64)]) (o := (o + 5)) (kd := 27) (mc := 1) (ms := 64) (n := 1) hx hb hml hts hown hG ⟨K1, hK1.1, ly_sub hK1.2.1 5 (by decide +kernel), fun _ _ => rfl⟩ hl.1 (c_X4_init l D cI cS Z K1 (o + 5) 64 (by decide) σ (zx_le hz (by omega))) (mT4 _ (List.mem_of_getElem? (i := 7) rfl)) (mT3 _ (List.mem_of_getElem? (i := 4) rfl)) (mT1 _ (List.mem_of_getElem? (i := 23) rfl)) (mT3 _ (List.mem_of_getElem? (i := 5) rfl)) rfl (by decide +kernel) ⟨(Nat.le_of_ble_eq_true rfl), (Nat.le_of_ble_eq_true rfl)⟩ rfl rfl rfl rfl (Nat.le_of_ble_eq_true rfl) ⟨(Nat.le_of_ble_eq_true rfl), (Nat.le_of_ble_eq_true rfl)⟩ dX2_init_37) (fun σ1 H locs hp hN2 hS => ?_)
  rw [hp] at hN2
  have hN : bN D cI cS Z o K0 [22, 4, 164, 4, 164, 4, 164] σ H := bN.join (A := [22, 4, 164, 4, 164]) ⟨hK1.1, hK1.2.1, hK1.2.2⟩ rfl hN2 rfl
  refine mm_putF (i := 0) (k1 := 22) (k2 := 23) (v := Z + (o + 5)) (ty := (.object "DobbyLoom$Numbers")) hx hb hts hown hG hN hS inlX2 tyX2 tyX2_ok nmX2 rfl rfl rfl (by decide) 3 (by decide) rfl rfl (Nat.le_of_ble_eq_true rfl) (mT4 _ (List.mem_of_getElem? (i := 3) rfl)) rfl hname rfl (by decide +kernel) rfl rfl dX2_init_40 (fun H locs hN hS => ?_)
  have hN : bN D cI cS Z o K0 [23, 4, 164, 4, 164, 4, 164] σ H := hN
  refine lv_aload_n hx hb dX2_init_43 rfl (lv_at hl 0 rfl) ?_
  refine mm_new (kd := 27) (ci := 4) (N := 1) hx hb hts hown hG hN hS inlX4 tyX4 tyX4_ok (mT4 _ (List.mem_of_getElem? (i := 0) rfl)) (mT1 _ (List.mem_of_getElem? (i := 22) rfl)) (mT1 _ (List.mem_of_getElem? (i := 23) rfl)) rfl (o + 7) rfl rfl (fun j hj => by rcases (show j = 0 by omega) with rfl <;> rfl) (Nat.le_of_ble_eq_true rfl) (Nat.le_of_ble_eq_true rfl) dX2_init_44 (fun H hN hS => ?_)
  have hN : bN D cI cS Z o K0 [23, 4, 164, 4, 164, 4, 164, 27] σ H := by rw [zx_le hz (by omega)] at hN; exact hN
  refine lv_dup hx hb dX2_init_47 rfl ?_
  refine lv_bipush (v := 64) hx hb dX2_init_48 (by decide) ?_
  obtain ⟨K1, hK1⟩ := hN
  refine mm_bN hS (mm_runI (As := [.int (nI 64)]) (o := (o + 7)) (kd := 27) (mc := 1) (ms := 64) (n := 1) hx hb hml hts hown hG ⟨K1, hK1.1, ly_sub hK1.2.1 7 (by decide +kernel), fun _ _ => rfl⟩ hl.1 (c_X4_init l D cI cS Z K1 (o + 7) 64 (by decide) σ (zx_le hz (by omega))) (mT4 _ (List.mem_of_getElem? (i := 7) rfl)) (mT3 _ (List.mem_of_getElem? (i := 4) rfl)) (mT1 _ (List.mem_of_getElem? (i := 23) rfl)) (mT3 _ (List.mem_of_getElem? (i := 5) rfl)) rfl (by decide +kernel) ⟨(Nat.le_of_ble_eq_true rfl), (Nat.le_of_ble_eq_true rfl)⟩ rfl rfl rfl rfl (Nat.le_of_ble_eq_true rfl) ⟨(Nat.le_of_ble_eq_true rfl), (Nat.le_of_ble_eq_true rfl)⟩ dX2_init_50) (fun σ1 H locs hp hN2 hS => ?_)
  rw [hp] at hN2
  have hN : bN D cI cS Z o K0 [23, 4, 164, 4, 164, 4, 164, 4, 164] σ H := bN.join (A := [23, 4, 164, 4, 164, 4, 164]) ⟨hK1.1, hK1.2.1, hK1.2.2⟩ rfl hN2 rfl
  refine mm_putF (i := 0) (k1 := 23) (k2 := 24) (v := Z + (o + 7)) (ty := (.object "DobbyLoom$Numbers")) hx hb hts hown hG hN hS inlX2 tyX2 tyX2_ok nmX2 rfl rfl rfl (by decide) 4 (by decide) rfl rfl (Nat.le_of_ble_eq_true rfl) (mT4 _ (List.mem_of_getElem? (i := 4) rfl)) rfl hname rfl (by decide +kernel) rfl rfl dX2_init_53 (fun H locs hN hS => ?_)
  have hN : bN D cI cS Z o K0 [24, 4, 164, 4, 164, 4, 164, 4, 164] σ H := hN
  refine lv_aload_n hx hb dX2_init_56 rfl (lv_at hl 0 rfl) ?_
  refine mm_new (kd := 27) (ci := 4) (N := 1) hx hb hts hown hG hN hS inlX4 tyX4 tyX4_ok (mT4 _ (List.mem_of_getElem? (i := 0) rfl)) (mT1 _ (List.mem_of_getElem? (i := 22) rfl)) (mT1 _ (List.mem_of_getElem? (i := 23) rfl)) rfl (o + 9) rfl rfl (fun j hj => by rcases (show j = 0 by omega) with rfl <;> rfl) (Nat.le_of_ble_eq_true rfl) (Nat.le_of_ble_eq_true rfl) dX2_init_57 (fun H hN hS => ?_)
  have hN : bN D cI cS Z o K0 [24, 4, 164, 4, 164, 4, 164, 4, 164, 27] σ H := by rw [zx_le hz (by omega)] at hN; exact hN
  refine lv_dup hx hb dX2_init_60 rfl ?_
  refine lv_bipush (v := 64) hx hb dX2_init_61 (by decide) ?_
  obtain ⟨K1, hK1⟩ := hN
  refine mm_bN hS (mm_runI (As := [.int (nI 64)]) (o := (o + 9)) (kd := 27) (mc := 1) (ms := 64) (n := 1) hx hb hml hts hown hG ⟨K1, hK1.1, ly_sub hK1.2.1 9 (by decide +kernel), fun _ _ => rfl⟩ hl.1 (c_X4_init l D cI cS Z K1 (o + 9) 64 (by decide) σ (zx_le hz (by omega))) (mT4 _ (List.mem_of_getElem? (i := 7) rfl)) (mT3 _ (List.mem_of_getElem? (i := 4) rfl)) (mT1 _ (List.mem_of_getElem? (i := 23) rfl)) (mT3 _ (List.mem_of_getElem? (i := 5) rfl)) rfl (by decide +kernel) ⟨(Nat.le_of_ble_eq_true rfl), (Nat.le_of_ble_eq_true rfl)⟩ rfl rfl rfl rfl (Nat.le_of_ble_eq_true rfl) ⟨(Nat.le_of_ble_eq_true rfl), (Nat.le_of_ble_eq_true rfl)⟩ dX2_init_63) (fun σ1 H locs hp hN2 hS => ?_)
  rw [hp] at hN2
  have hN : bN D cI cS Z o K0 [24, 4, 164, 4, 164, 4, 164, 4, 164, 4, 164] σ H := bN.join (A := [24, 4, 164, 4, 164, 4, 164, 4, 164]) ⟨hK1.1, hK1.2.1, hK1.2.2⟩ rfl hN2 rfl
  refine mm_putF (i := 0) (k1 := 24) (k2 := 25) (v := Z + (o + 9)) (ty := (.object "DobbyLoom$Numbers")) hx hb hts hown hG hN hS inlX2 tyX2 tyX2_ok nmX2 rfl rfl rfl (by decide) 5 (by decide) rfl rfl (Nat.le_of_ble_eq_true rfl) (mT4 _ (List.mem_of_getElem? (i := 5) rfl)) rfl hname rfl (by decide +kernel) rfl rfl dX2_init_66 (fun H locs hN hS => ?_)
  have hN : bN D cI cS Z o K0 [25, 4, 164, 4, 164, 4, 164, 4, 164, 4, 164] σ H := hN
  refine lv_aload_n hx hb dX2_init_69 rfl (lv_at hl 0 rfl) ?_
  refine mm_new (kd := 27) (ci := 4) (N := 1) hx hb hts hown hG hN hS inlX4 tyX4 tyX4_ok (mT4 _ (List.mem_of_getElem? (i := 0) rfl)) (mT1 _ (List.mem_of_getElem? (i := 22) rfl)) (mT1 _ (List.mem_of_getElem? (i := 23) rfl)) rfl (o + 11) rfl rfl (fun j hj => by rcases (show j = 0 by omega) with rfl <;> rfl) (Nat.le_of_ble_eq_true rfl) (Nat.le_of_ble_eq_true rfl) dX2_init_70 (fun H hN hS => ?_)
  have hN : bN D cI cS Z o K0 [25, 4, 164, 4, 164, 4, 164, 4, 164, 4, 164, 27] σ H := by rw [zx_le hz (by omega)] at hN; exact hN
  refine lv_dup hx hb dX2_init_73 rfl ?_
  refine lv_bipush (v := 64) hx hb dX2_init_74 (by decide) ?_
  obtain ⟨K1, hK1⟩ := hN
  refine mm_bN hS (mm_runI (As := [.int (nI 64)]) (o := (o + 11)) (kd := 27) (mc := 1) (ms := 64) (n := 1) hx hb hml hts hown hG ⟨K1, hK1.1, ly_sub hK1.2.1 11 (by decide +kernel), fun _ _ => rfl⟩ hl.1 (c_X4_init l D cI cS Z K1 (o + 11) 64 (by decide) σ (zx_le hz (by omega))) (mT4 _ (List.mem_of_getElem? (i := 7) rfl)) (mT3 _ (List.mem_of_getElem? (i := 4) rfl)) (mT1 _ (List.mem_of_getElem? (i := 23) rfl)) (mT3 _ (List.mem_of_getElem? (i := 5) rfl)) rfl (by decide +kernel) ⟨(Nat.le_of_ble_eq_true rfl), (Nat.le_of_ble_eq_true rfl)⟩ rfl rfl rfl rfl (Nat.le_of_ble_eq_true rfl) ⟨(Nat.le_of_ble_eq_true rfl), (Nat.le_of_ble_eq_true rfl)⟩ dX2_init_76) (fun σ1 H locs hp hN2 hS => ?_)
  rw [hp] at hN2
  have hN : bN D cI cS Z o K0 [25, 4, 164, 4, 164, 4, 164, 4, 164, 4, 164, 4, 164] σ H := bN.join (A := [25, 4, 164, 4, 164, 4, 164, 4, 164, 4, 164]) ⟨hK1.1, hK1.2.1, hK1.2.2⟩ rfl hN2 rfl
  refine mm_putF (i := 0) (k1 := 25) (k2 := 2) (v := Z + (o + 11)) (ty := (.object "DobbyLoom$Numbers")) hx hb hts hown hG hN hS inlX2 tyX2 tyX2_ok nmX2 rfl rfl rfl (by decide) 6 (by decide) rfl rfl (Nat.le_of_ble_eq_true rfl) (mT4 _ (List.mem_of_getElem? (i := 6) rfl)) rfl hname rfl (by decide +kernel) rfl rfl dX2_init_79 (fun H locs hN hS => ?_)
  have hN : bN D cI cS Z o K0 [2, 4, 164, 4, 164, 4, 164, 4, 164, 4, 164, 4, 164] σ H := hN
  exact mm_vretN (post := fun x => x = σ) hx hb hr hlocks rfl hN hS dX2_init_82
set_option maxHeartbeats 4000000 in
set_option maxRecDepth 100000 in
theorem c_X5_init (l : Launch) (D : va_G) (cI cS : ClassId) (Z : Nat) (K0 : Nat → Nat) (o : Nat) (σ : Nat → Nat → Int32) (hz : zx σ o = σ) (σ' : Nat → Nat → Int32) (hr5 : f_X5_reset o 4 8 σ = some σ') : Met l yX5_init (wsT yX5_init cX5_init 1 none) { frames := 3, cells := 27, slots := 543, locals := 68 } (PN D cI cS Z o K0 28 [.ref (Z + o)] σ) (QN D cI cS Z o K0 lyState (fun σ1 => σ1 = σ')) 27 543 (aZ Z) := by
  refine mm_metN (lv := [(0, .ref (Z + o))]) (by decide) (Nat.le_of_ble_eq_true rfl) rfl ?_
  intro p e s m args below meth c ls hx hb hr hml hts hown hlocks hname hG hl hN hS
  have hown : s.vm.findClass RX5 = some m.cls := hown
  have hsz0 := hN.szA
  refine lv_aload_n hx hb dX5_init_0 rfl (lv_at hl 0 rfl) ?_
  refine W.objInit hx hb hown (hts _ (mT2 _ (List.mem_of_getElem? (i := 5) rfl))) (hts _ (mT1 _ (List.mem_of_getElem? (i := 7) rfl))) (hts _ (mT1 _ (List.mem_of_getElem? (i := 8) rfl))) rfl (by rw [hml]; exact hl.1) rfl dX5_init_1 (Nat.le_of_ble_eq_true rfl) (Nat.le_of_ble_eq_true rfl) ?_
  refine W.eq (g2 := F0 m 4 ls []) rfl ?_
  refine lv_aload_n hx hb dX5_init_4 rfl (lv_at hl 0 rfl) ?_
  refine mm_new (kd := 32) (ci := 6) (N := 5) hx hb hts hown hG hN hS inlX6 tyX6 tyX6_ok (mT2 _ (List.mem_of_getElem? (i := 6) rfl)) (mT2 _ (List.mem_of_getElem? (i := 7) rfl)) (mT2 _ (List.mem_of_getElem? (i := 8) rfl)) rfl (o + 1) rfl rfl (fun j hj => by rcases (show j = 0 ∨ j = 1 ∨ j = 2 ∨ j = 3 ∨ j = 4 by omega) with rfl | rfl | rfl | rfl | rfl <;> rfl) (Nat.le_of_ble_eq_true rfl) (Nat.le_of_ble_eq_true rfl) dX5_init_5 (fun H hN hS => ?_)
  have hN : bN D cI cS Z o K0 [28, 32] σ H := by rw [zx_le hz (by omega)] at hN; exact hN
  refine lv_dup hx hb dX5_init_8 rfl ?_
  obtain ⟨K1, hK1⟩ := hN
  refine mm_bN hS (mm_runIN (host := RX7) (As := []) (o := (o + 1)) (kd := 32) (mc := 6) (ms := 75) (n := 0) hx hb hml hts hown hG ⟨K1, hK1.1, ly_sub hK1.2.1 1 (by decide +kernel), fun _ _ => rfl⟩ hl.1 (c_X6_init l D cI cS Z K1 (o + 1) σ (zx_le hz (by omega))) (List.mem_of_getElem? (i := 0) rfl) (mT2 _ (List.mem_of_getElem? (i := 20) rfl)) (mT2 _ (List.mem_of_getElem? (i := 8) rfl)) (mT2 _ (List.mem_of_getElem? (i := 21) rfl)) rfl (by decide +kernel) ⟨(Nat.le_of_ble_eq_true rfl), (Nat.le_of_ble_eq_true rfl)⟩ rfl rfl rfl rfl (Nat.le_of_ble_eq_true rfl) ⟨(Nat.le_of_ble_eq_true rfl), (Nat.le_of_ble_eq_true rfl)⟩ dX5_init_9) (fun σ1 H locs hp hN2 hS => ?_)
  rw [hp] at hN2
  have hN : bN D cI cS Z o K0 [28, 6, 4, 132, 4, 132, 4, 108] σ H := bN.join (A := [28]) ⟨hK1.1, hK1.2.1, hK1.2.2⟩ rfl hN2 rfl
  refine mm_putF (i := 0) (k1 := 28) (k2 := 29) (v := Z + (o + 1)) (ty := (.object "DobbyLoom$Warp")) hx hb hts hown hG hN hS inlX5 tyX5 tyX5_ok nmX5 rfl rfl rfl (by decide) 0 (by decide) rfl rfl (Nat.le_of_ble_eq_true rfl) (mT2 _ (List.mem_of_getElem? (i := 9) rfl)) rfl hname rfl (by decide +kernel) rfl rfl dX5_init_12 (fun H locs hN hS => ?_)
  have hN : bN D cI cS Z o K0 [29, 6, 4, 132, 4, 132, 4, 108] σ H := hN
  refine lv_aload_n hx hb dX5_init_15 rfl (lv_at hl 0 rfl) ?_
  refine mm_new (kd := 16) (ci := 0) (N := 5) hx hb hts hown hG hN hS inlX0 tyX0 tyX0_ok (mT2 _ (List.mem_of_getElem? (i := 10) rfl)) (mT2 _ (List.mem_of_getElem? (i := 11) rfl)) (mT2 _ (List.mem_of_getElem? (i := 12) rfl)) rfl (o + 8) rfl rfl (fun j hj => by rcases (show j = 0 ∨ j = 1 ∨ j = 2 ∨ j = 3 ∨ j = 4 by omega) with rfl | rfl | rfl | rfl | rfl <;> rfl) (Nat.le_of_ble_eq_true rfl) (Nat.le_of_ble_eq_true rfl) dX5_init_16 (fun H hN hS => ?_)
  have hN : bN D cI cS Z o K0 [29, 6, 4, 132, 4, 132, 4, 108, 16] σ H := by rw [zx_le hz (by omega)] at hN; exact hN
  refine lv_dup hx hb dX5_init_19 rfl ?_
  obtain ⟨K1, hK1⟩ := hN
  refine mm_bN hS (mm_runIN (host := RX7) (As := []) (o := (o + 8)) (kd := 16) (mc := 4) (ms := 50) (n := 0) hx hb hml hts hown hG ⟨K1, hK1.1, ly_sub hK1.2.1 8 (by decide +kernel), fun _ _ => rfl⟩ hl.1 (c_X0_init l D cI cS Z K1 (o + 8) σ (zx_le hz (by omega))) (List.mem_of_getElem? (i := 1) rfl) (mT3 _ (List.mem_of_getElem? (i := 13) rfl)) (mT2 _ (List.mem_of_getElem? (i := 12) rfl)) (mT3 _ (List.mem_of_getElem? (i := 14) rfl)) rfl (by decide +kernel) ⟨(Nat.le_of_ble_eq_true rfl), (Nat.le_of_ble_eq_true rfl)⟩ rfl rfl rfl rfl (Nat.le_of_ble_eq_true rfl) ⟨(Nat.le_of_ble_eq_true rfl), (Nat.le_of_ble_eq_true rfl)⟩ dX5_init_20) (fun σ1 H locs hp hN2 hS => ?_)
  rw [hp] at hN2
  have hN : bN D cI cS Z o K0 [29, 6, 4, 132, 4, 132, 4, 108, 0, 4, 124, 4, 124] σ H := bN.join (A := [29, 6, 4, 132, 4, 132, 4, 108]) ⟨hK1.1, hK1.2.1, hK1.2.2⟩ rfl hN2 rfl
  refine mm_putF (i := 0) (k1 := 29) (k2 := 30) (v := Z + (o + 8)) (ty := (.object "DobbyLoom$Chain")) hx hb hts hown hG hN hS inlX5 tyX5 tyX5_ok nmX5 rfl rfl rfl (by decide) 1 (by decide) rfl rfl (Nat.le_of_ble_eq_true rfl) (mT2 _ (List.mem_of_getElem? (i := 13) rfl)) rfl hname rfl (by decide +kernel) rfl rfl dX5_init_23 (fun H locs hN hS => ?_)
  have hN : bN D cI cS Z o K0 [30, 6, 4, 132, 4, 132, 4, 108, 0, 4, 124, 4, 124] σ H := hN
  refine lv_aload_n hx hb dX5_init_26 rfl (lv_at hl 0 rfl) ?_
  refine mm_new (kd := 27) (ci := 4) (N := 1) hx hb hts hown hG hN hS inlX4 tyX4 tyX4_ok (mT2 _ (List.mem_of_getElem? (i := 14) rfl)) (mT1 _ (List.mem_of_getElem? (i := 22) rfl)) (mT1 _ (List.mem_of_getElem? (i := 23) rfl)) rfl (o + 13) rfl rfl (fun j hj => by rcases (show j = 0 by omega) with rfl <;> rfl) (Nat.le_of_ble_eq_true rfl) (Nat.le_of_ble_eq_true rfl) dX5_init_27 (fun H hN hS => ?_)
  have hN : bN D cI cS Z o K0 [30, 6, 4, 132, 4, 132, 4, 108, 0, 4, 124, 4, 124, 27] σ H := by rw [zx_le hz (by omega)] at hN; exact hN
  refine lv_dup hx hb dX5_init_30 rfl ?_
  refine lv_bipush (v := 10) hx hb dX5_init_31 (by decide) ?_
  obtain ⟨K1, hK1⟩ := hN
  refine mm_bN hS (mm_runI (As := [.int (nI 10)]) (o := (o + 13)) (kd := 27) (mc := 1) (ms := 10) (n := 1) hx hb hml hts hown hG ⟨K1, hK1.1, ly_sub hK1.2.1 13 (by decide +kernel), fun _ _ => rfl⟩ hl.1 (c_X4_init l D cI cS Z K1 (o + 13) 10 (by decide) σ (zx_le hz (by omega))) (mT3 _ (List.mem_of_getElem? (i := 20) rfl)) (mT3 _ (List.mem_of_getElem? (i := 4) rfl)) (mT1 _ (List.mem_of_getElem? (i := 23) rfl)) (mT3 _ (List.mem_of_getElem? (i := 5) rfl)) rfl (by decide +kernel) ⟨(Nat.le_of_ble_eq_true rfl), (Nat.le_of_ble_eq_true rfl)⟩ rfl rfl rfl rfl (Nat.le_of_ble_eq_true rfl) ⟨(Nat.le_of_ble_eq_true rfl), (Nat.le_of_ble_eq_true rfl)⟩ dX5_init_33) (fun σ1 H locs hp hN2 hS => ?_)
  rw [hp] at hN2
  have hN : bN D cI cS Z o K0 [30, 6, 4, 132, 4, 132, 4, 108, 0, 4, 124, 4, 124, 4, 110] σ H := bN.join (A := [30, 6, 4, 132, 4, 132, 4, 108, 0, 4, 124, 4, 124]) ⟨hK1.1, hK1.2.1, hK1.2.2⟩ rfl hN2 rfl
  refine mm_putF (i := 0) (k1 := 30) (k2 := 31) (v := Z + (o + 13)) (ty := (.object "DobbyLoom$Numbers")) hx hb hts hown hG hN hS inlX5 tyX5 tyX5_ok nmX5 rfl rfl rfl (by decide) 2 (by decide) rfl rfl (Nat.le_of_ble_eq_true rfl) (mT2 _ (List.mem_of_getElem? (i := 15) rfl)) rfl hname rfl (by decide +kernel) rfl rfl dX5_init_36 (fun H locs hN hS => ?_)
  have hN : bN D cI cS Z o K0 [31, 6, 4, 132, 4, 132, 4, 108, 0, 4, 124, 4, 124, 4, 110] σ H := hN
  refine lv_aload_n hx hb dX5_init_39 rfl (lv_at hl 0 rfl) ?_
  refine mm_new (kd := 20) (ci := 2) (N := 7) hx hb hts hown hG hN hS inlX2 tyX2 tyX2_ok (mT2 _ (List.mem_of_getElem? (i := 16) rfl)) (mT2 _ (List.mem_of_getElem? (i := 17) rfl)) (mT2 _ (List.mem_of_getElem? (i := 18) rfl)) rfl (o + 15) rfl rfl (fun j hj => by rcases (show j = 0 ∨ j = 1 ∨ j = 2 ∨ j = 3 ∨ j = 4 ∨ j = 5 ∨ j = 6 by omega) with rfl | rfl | rfl | rfl | rfl | rfl | rfl <;> rfl) (Nat.le_of_ble_eq_true rfl) (Nat.le_of_ble_eq_true rfl) dX5_init_40 (fun H hN hS => ?_)
  have hN : bN D cI cS Z o K0 [31, 6, 4, 132, 4, 132, 4, 108, 0, 4, 124, 4, 124, 4, 110, 20] σ H := by rw [zx_le hz (by omega)] at hN; exact hN
  refine lv_dup hx hb dX5_init_43 rfl ?_
  obtain ⟨K1, hK1⟩ := hN
  refine mm_bN hS (mm_runIN (host := RX7) (As := []) (o := (o + 15)) (kd := 20) (mc := 12) (ms := 390) (n := 0) hx hb hml hts hown hG ⟨K1, hK1.1, ly_sub hK1.2.1 15 (by decide +kernel), fun _ _ => rfl⟩ hl.1 (c_X2_init l D cI cS Z K1 (o + 15) σ (zx_le hz (by omega))) (List.mem_of_getElem? (i := 2) rfl) (mT3 _ (List.mem_of_getElem? (i := 21) rfl)) (mT2 _ (List.mem_of_getElem? (i := 18) rfl)) (mT3 _ (List.mem_of_getElem? (i := 22) rfl)) rfl (by decide +kernel) ⟨(Nat.le_of_ble_eq_true rfl), (Nat.le_of_ble_eq_true rfl)⟩ rfl rfl rfl rfl (Nat.le_of_ble_eq_true rfl) ⟨(Nat.le_of_ble_eq_true rfl), (Nat.le_of_ble_eq_true rfl)⟩ dX5_init_44) (fun σ1 H locs hp hN2 hS => ?_)
  rw [hp] at hN2
  have hN : bN D cI cS Z o K0 [31, 6, 4, 132, 4, 132, 4, 108, 0, 4, 124, 4, 124, 4, 110, 2, 4, 164, 4, 164, 4, 164, 4, 164, 4, 164, 4, 164] σ H := bN.join (A := [31, 6, 4, 132, 4, 132, 4, 108, 0, 4, 124, 4, 124, 4, 110]) ⟨hK1.1, hK1.2.1, hK1.2.2⟩ rfl hN2 rfl
  refine mm_putF (i := 0) (k1 := 31) (k2 := 5) (v := Z + (o + 15)) (ty := (.object "DobbyLoom$Cloth")) hx hb hts hown hG hN hS inlX5 tyX5 tyX5_ok nmX5 rfl rfl rfl (by decide) 3 (by decide) rfl rfl (Nat.le_of_ble_eq_true rfl) (mT2 _ (List.mem_of_getElem? (i := 19) rfl)) rfl hname rfl (by decide +kernel) rfl rfl dX5_init_47 (fun H locs hN hS => ?_)
  have hN : bN D cI cS Z o K0 [5, 6, 4, 132, 4, 132, 4, 108, 0, 4, 124, 4, 124, 4, 110, 2, 4, 164, 4, 164, 4, 164, 4, 164, 4, 164, 4, 164] σ H := hN
  refine lv_aload_n hx hb dX5_init_50 rfl (lv_at hl 0 rfl) ?_
  refine lv_iconst (v := 4) hx hb dX5_init_51 (by decide) ?_
  refine lv_bipush (v := 8) hx hb dX5_init_52 (by decide) ?_
  obtain ⟨K1, ⟨hKs, hK9, hI⟩, hLy, hKo⟩ := hN
  refine kX5_41 hx hb hml hts hown hG hI hS hl.1 hLy (As := [.int 4, .int 8]) (c_X5_reset l D cI cS Z K1 o hLy 4 8 σ σ' hr5) ⟨(Nat.le_of_ble_eq_true rfl), (Nat.le_of_ble_eq_true rfl)⟩ rfl (Nat.le_of_ble_eq_true rfl) ⟨(Nat.le_of_ble_eq_true rfl), (Nat.le_of_ble_eq_true rfl)⟩ dX5_init_54 (fun H locs hI hS => ?_)
  refine mm_size (fun hsz => ?_)
  have hN : bN D cI cS Z o K0 lyState σ' H := ⟨K1, ⟨bsz hI (ly_at hLy 27 rfl) (by decide) hsz hsz0 rfl rfl, hK9, hI⟩, hLy, hKo⟩
  exact mm_vretN (post := fun x => x = σ') hx hb hr hlocks rfl hN hS dX5_init_57
set_option maxHeartbeats 4000000 in
set_option maxRecDepth 100000 in
theorem c_X1_init (l : Launch) (D : va_G) (cI cS : ClassId) (Z : Nat) (K0 : Nat → Nat) (o : Nat) (σ : Nat → Nat → Int32) (hz : zx σ o = σ) : Met l yX1_init (wsT yX1_init cX1_init 1 none) { frames := 3, cells := 7, slots := 176, locals := 62 } (PN D cI cS Z o K0 18 [.ref (Z + o)] σ) (QN D cI cS Z o K0 lyReader (fun σ1 => σ1 = σ)) 7 176 (aZ Z) := by
  refine mm_metN (lv := [(0, .ref (Z + o))]) (by decide) (Nat.le_of_ble_eq_true rfl) rfl ?_
  intro p e s m args below meth c ls hx hb hr hml hts hown hlocks hname hG hl hN hS
  have hown : s.vm.findClass RX1 = some m.cls := hown
  have hsz0 := hN.szA
  refine lv_aload_n hx hb dX1_init_0 rfl (lv_at hl 0 rfl) ?_
  refine W.objInit hx hb hown (hts _ (mT5 _ (List.mem_of_getElem? (i := 20) rfl))) (hts _ (mT1 _ (List.mem_of_getElem? (i := 7) rfl))) (hts _ (mT1 _ (List.mem_of_getElem? (i := 8) rfl))) rfl (by rw [hml]; exact hl.1) rfl dX1_init_1 (Nat.le_of_ble_eq_true rfl) (Nat.le_of_ble_eq_true rfl) ?_
  refine W.eq (g2 := F0 m 4 ls []) rfl ?_
  refine lv_aload_n hx hb dX1_init_4 rfl (lv_at hl 0 rfl) ?_
  refine mm_new (kd := 27) (ci := 4) (N := 1) hx hb hts hown hG hN hS inlX4 tyX4 tyX4_ok (mT5 _ (List.mem_of_getElem? (i := 21) rfl)) (mT1 _ (List.mem_of_getElem? (i := 22) rfl)) (mT1 _ (List.mem_of_getElem? (i := 23) rfl)) rfl (o + 1) rfl rfl (fun j hj => by rcases (show j = 0 by omega) with rfl <;> rfl) (Nat.le_of_ble_eq_true rfl) (Nat.le_of_ble_eq_true rfl) dX1_init_5 (fun H hN hS => ?_)
  have hN : bN D cI cS Z o K0 [18, 27] σ H := by rw [zx_le hz (by omega)] at hN; exact hN
  refine lv_dup hx hb dX1_init_8 rfl ?_
  refine lv_bipush (v := 120) hx hb dX1_init_9 (by decide) ?_
  obtain ⟨K1, hK1⟩ := hN
  refine mm_bN hS (mm_runI (As := [.int (nI 120)]) (o := (o + 1)) (kd := 27) (mc := 1) (ms := 120) (n := 1) hx hb hml hts hown hG ⟨K1, hK1.1, ly_sub hK1.2.1 1 (by decide +kernel), fun _ _ => rfl⟩ hl.1 (c_X4_init l D cI cS Z K1 (o + 1) 120 (by decide) σ (zx_le hz (by omega))) (mT6 _ (List.mem_of_getElem? (i := 1) rfl)) (mT3 _ (List.mem_of_getElem? (i := 4) rfl)) (mT1 _ (List.mem_of_getElem? (i := 23) rfl)) (mT3 _ (List.mem_of_getElem? (i := 5) rfl)) rfl (by decide +kernel) ⟨(Nat.le_of_ble_eq_true rfl), (Nat.le_of_ble_eq_true rfl)⟩ rfl rfl rfl rfl (Nat.le_of_ble_eq_true rfl) ⟨(Nat.le_of_ble_eq_true rfl), (Nat.le_of_ble_eq_true rfl)⟩ dX1_init_11) (fun σ1 H locs hp hN2 hS => ?_)
  rw [hp] at hN2
  have hN : bN D cI cS Z o K0 [18, 4, 220] σ H := bN.join (A := [18]) ⟨hK1.1, hK1.2.1, hK1.2.2⟩ rfl hN2 rfl
  refine mm_putF (i := 0) (k1 := 18) (k2 := 19) (v := Z + (o + 1)) (ty := (.object "DobbyLoom$Numbers")) hx hb hts hown hG hN hS inlX1 tyX1 tyX1_ok nmX1 rfl rfl rfl (by decide) 0 (by decide) rfl rfl (Nat.le_of_ble_eq_true rfl) (mT5 _ (List.mem_of_getElem? (i := 22) rfl)) rfl hname rfl (by decide +kernel) rfl rfl dX1_init_14 (fun H locs hN hS => ?_)
  have hN : bN D cI cS Z o K0 [19, 4, 220] σ H := hN
  refine lv_aload_n hx hb dX1_init_17 rfl (lv_at hl 0 rfl) ?_
  refine mm_new (kd := 16) (ci := 0) (N := 5) hx hb hts hown hG hN hS inlX0 tyX0 tyX0_ok (mT5 _ (List.mem_of_getElem? (i := 23) rfl)) (mT2 _ (List.mem_of_getElem? (i := 11) rfl)) (mT2 _ (List.mem_of_getElem? (i := 12) rfl)) rfl (o + 3) rfl rfl (fun j hj => by rcases (show j = 0 ∨ j = 1 ∨ j = 2 ∨ j = 3 ∨ j = 4 by omega) with rfl | rfl | rfl | rfl | rfl <;> rfl) (Nat.le_of_ble_eq_true rfl) (Nat.le_of_ble_eq_true rfl) dX1_init_18 (fun H hN hS => ?_)
  have hN : bN D cI cS Z o K0 [19, 4, 220, 16] σ H := by rw [zx_le hz (by omega)] at hN; exact hN
  refine lv_dup hx hb dX1_init_21 rfl ?_
  obtain ⟨K1, hK1⟩ := hN
  refine mm_bN hS (mm_runIN (host := RX7) (As := []) (o := (o + 3)) (kd := 16) (mc := 4) (ms := 50) (n := 0) hx hb hml hts hown hG ⟨K1, hK1.1, ly_sub hK1.2.1 3 (by decide +kernel), fun _ _ => rfl⟩ hl.1 (c_X0_init l D cI cS Z K1 (o + 3) σ (zx_le hz (by omega))) (List.mem_of_getElem? (i := 4) rfl) (mT3 _ (List.mem_of_getElem? (i := 13) rfl)) (mT2 _ (List.mem_of_getElem? (i := 12) rfl)) (mT3 _ (List.mem_of_getElem? (i := 14) rfl)) rfl (by decide +kernel) ⟨(Nat.le_of_ble_eq_true rfl), (Nat.le_of_ble_eq_true rfl)⟩ rfl rfl rfl rfl (Nat.le_of_ble_eq_true rfl) ⟨(Nat.le_of_ble_eq_true rfl), (Nat.le_of_ble_eq_true rfl)⟩ dX1_init_22) (fun σ1 H locs hp hN2 hS => ?_)
  rw [hp] at hN2
  have hN : bN D cI cS Z o K0 [19, 4, 220, 0, 4, 124, 4, 124] σ H := bN.join (A := [19, 4, 220]) ⟨hK1.1, hK1.2.1, hK1.2.2⟩ rfl hN2 rfl
  refine mm_putF (i := 0) (k1 := 19) (k2 := 1) (v := Z + (o + 3)) (ty := (.object "DobbyLoom$Chain")) hx hb hts hown hG hN hS inlX1 tyX1 tyX1_ok nmX1 rfl rfl rfl (by decide) 1 (by decide) rfl rfl (Nat.le_of_ble_eq_true rfl) (mT6 _ (List.mem_of_getElem? (i := 0) rfl)) rfl hname rfl (by decide +kernel) rfl rfl dX1_init_25 (fun H locs hN hS => ?_)
  have hN : bN D cI cS Z o K0 [1, 4, 220, 0, 4, 124, 4, 124] σ H := hN
  exact mm_vretN (post := fun x => x = σ) hx hb hr hlocks rfl hN hS dX1_init_28
set_option maxHeartbeats 4000000 in
set_option maxRecDepth 100000 in
theorem c_X3_init (l : Launch) (D : va_G) (cI cS : ClassId) (Z : Nat) (K0 : Nat → Nat) (o : Nat) (s0 : Nat → Nat → Int32) (s1 : Nat → Nat → Int32) (s2 : Nat → Nat → Int32) (s3 : Nat → Nat → Int32) (s4 : Nat → Nat → Int32) (s5 : Nat → Nat → Int32) (hz : zx s0 o = s0) (hr1 : f_X5_reset (o + 2) 4 8 s0 = some s1) (hz1 : zx s1 (o + 30) = s1) (hr2 : f_X5_reset (o + 30) 4 8 s1 = some s2) (hz2 : zx s2 (o + 58) = s2) (hr3 : f_X5_reset (o + 58) 4 8 s2 = some s3) (hz3 : zx s3 (o + 86) = s3) (hr4 : f_X5_reset (o + 86) 4 8 s3 = some s4) (hz4 : zx s4 (o + 114) = s4) (hr5 : f_X5_reset (o + 114) 4 8 s4 = some s5) (hz5 : zx s5 (o + 142) = s5) : Met l yX3_init (wsT yX3_init cX3_init 2 none) { frames := 4, cells := 141, slots := 2740, locals := 88 } (PN D cI cS Z o K0 26 [.ref (Z + o)] s0) (QN D cI cS Z o K0 lyHist (fun σ1 => σ1 = s5)) 141 2740 (aZ Z) := by
  refine mm_metN (lv := [(0, .ref (Z + o))]) (by decide) (Nat.le_of_ble_eq_true rfl) rfl ?_
  intro p e s m args below meth c ls hx hb hr hml hts hown hlocks hname hG hl hN hS
  have hown : s.vm.findClass RX3 = some m.cls := hown
  have hsz0 := hN.szA
  refine lv_aload_n hx hb dX3_init_0 rfl (lv_at hl 0 rfl) ?_
  refine W.objInit hx hb hown (hts _ (mT5 _ (List.mem_of_getElem? (i := 14) rfl))) (hts _ (mT1 _ (List.mem_of_getElem? (i := 7) rfl))) (hts _ (mT1 _ (List.mem_of_getElem? (i := 8) rfl))) rfl (by rw [hml]; exact hl.1) rfl dX3_init_1 (Nat.le_of_ble_eq_true rfl) (Nat.le_of_ble_eq_true rfl) ?_
  refine W.eq (g2 := F0 m 4 ls []) rfl ?_
  refine lv_aload_n hx hb dX3_init_4 rfl (lv_at hl 0 rfl) ?_
  refine lv_iconst (v := 5) hx hb dX3_init_5 (by decide) ?_
  refine mm_newq hx hb hts hown hG hN hS (mT5 _ (List.mem_of_getElem? (i := 15) rfl)) (o + 1) rfl (Nat.le_of_ble_eq_true rfl) (Nat.le_of_ble_eq_true rfl) dX3_init_6 (fun H hN hS => ?_)
  have hN : bN D cI cS Z o K0 [26, 10] s0 H := by rw [zx_le hz (by omega)] at hN; exact hN
  refine mm_putF (i := 0) (k1 := 26) (k2 := 3) (v := Z + (o + 1)) (ty := (.array (.object "DobbyLoom$State"))) hx hb hts hown hG hN hS inlX3 tyX3 tyX3_ok nmX3 rfl rfl rfl (by decide) 0 (by decide) rfl rfl (Nat.le_of_ble_eq_true rfl) (mT5 _ (List.mem_of_getElem? (i := 16) rfl)) rfl hname rfl (by decide +kernel) rfl rfl dX3_init_9 (fun H locs hN hS => ?_)
  have hN : bN D cI cS Z o K0 [3, 10] s0 H := hN
  refine lv_iconst (v := 0) hx hb dX3_init_12 (by decide) ?_
  refine lv_istore_n (lv' := [(1, .int 0), (0, .ref (Z + o))]) hx hb dX3_init_13 rfl hl (by decide) rfl (fun ls hl => ?_)
  refine lv_iload_n hx hb dX3_init_14 rfl (lv_at hl 0 rfl) ?_
  refine lv_aload_n hx hb dX3_init_15 rfl (lv_at hl 1 rfl) ?_
  refine mm_getN (i := 0) (v := .ref (Z + (o + 1))) hx hb hts hown hG hN inlX3 rfl rfl (by decide) rfl 0 (by decide) (mT5 _ (List.mem_of_getElem? (i := 16) rfl)) rfl dX3_init_16 ?_
  refine mm_alenN hx hb hG hN (i := 1) rfl (by decide) (by decide) dX3_init_19 ?_
  refine lv_icmp_ge (tgt := 42) hx hb dX3_init_20 (by decide) (fun c_1 => absurd c_1 (by decide)) (fun c_1 => ?_)
  refine lv_aload_n hx hb dX3_init_23 rfl (lv_at hl 1 rfl) ?_
  refine mm_getN (i := 0) (v := .ref (Z + (o + 1))) hx hb hts hown hG hN inlX3 rfl rfl (by decide) rfl 0 (by decide) (mT5 _ (List.mem_of_getElem? (i := 16) rfl)) rfl dX3_init_24 ?_
  refine lv_iload_n hx hb dX3_init_27 rfl (lv_at hl 0 rfl) ?_
  refine mm_new (kd := 28) (ci := 5) (N := 4) hx hb hts hown hG hN hS inlX5 tyX5 tyX5_ok (mT5 _ (List.mem_of_getElem? (i := 15) rfl)) (mT1 _ (List.mem_of_getElem? (i := 10) rfl)) (mT1 _ (List.mem_of_getElem? (i := 11) rfl)) rfl (o + 2) rfl rfl (fun j hj => by rcases (show j = 0 ∨ j = 1 ∨ j = 2 ∨ j = 3 by omega) with rfl | rfl | rfl | rfl <;> rfl) (Nat.le_of_ble_eq_true rfl) (Nat.le_of_ble_eq_true rfl) dX3_init_28 (fun H hN hS => ?_)
  have hN : bN D cI cS Z o K0 [3, 10, 28] s0 H := by rw [zx_le hz (by omega)] at hN; exact hN
  refine lv_dup hx hb dX3_init_31 rfl ?_
  obtain ⟨K1, hK1⟩ := hN
  refine mm_bN hS (mm_runI (As := []) (o := (o + 2)) (kd := 28) (mc := 27) (ms := 543) (n := 0) hx hb hml hts hown hG ⟨K1, hK1.1, ly_sub hK1.2.1 2 (by decide +kernel), fun _ _ => rfl⟩ hl.1 (c_X5_init l D cI cS Z K1 (o + 2) s0 (zx_le hz (by omega)) s1 hr1) (mT5 _ (List.mem_of_getElem? (i := 17) rfl)) (mT2 _ (List.mem_of_getElem? (i := 3) rfl)) (mT1 _ (List.mem_of_getElem? (i := 11) rfl)) (mT2 _ (List.mem_of_getElem? (i := 4) rfl)) rfl (by decide +kernel) ⟨(Nat.le_of_ble_eq_true rfl), (Nat.le_of_ble_eq_true rfl)⟩ rfl rfl rfl rfl (Nat.le_of_ble_eq_true rfl) ⟨(Nat.le_of_ble_eq_true rfl), (Nat.le_of_ble_eq_true rfl)⟩ dX3_init_32) (fun σ1 H locs hp hN2 hS => ?_)
  rw [hp] at hN2
  have hN : bN D cI cS Z o K0 [3, 10, 5, 6, 4, 132, 4, 132, 4, 108, 0, 4, 124, 4, 124, 4, 110, 2, 4, 164, 4, 164, 4, 164, 4, 164, 4, 164, 4, 164] s1 H := bN.join (A := [3, 10]) ⟨hK1.1, hK1.2.1, hK1.2.2⟩ rfl hN2 rfl
  refine mm_astq (j := 0) (k2 := 11) (v := 2) hx hb hG hN hS (i := 1) rfl rfl rfl (by decide) (by decide) (by decide) (by decide) dX3_init_35 (fun H locs hN hS => ?_)
  have hN : bN D cI cS Z o K0 [3, 11, 5, 6, 4, 132, 4, 132, 4, 108, 0, 4, 124, 4, 124, 4, 110, 2, 4, 164, 4, 164, 4, 164, 4, 164, 4, 164, 4, 164] s1 H := hN
  refine lv_iinc (v := 1) (lv' := [(1, .int 1), (0, .ref (Z + o))]) hx hb dX3_init_36 hl (k := 0) rfl (by decide) (by decide) rfl (fun ls hl => ?_)
  refine lv_goto (tgt := 14) hx hb dX3_init_39 (by decide) ?_
  refine lv_iload_n hx hb dX3_init_14 rfl (lv_at hl 0 rfl) ?_
  refine lv_aload_n hx hb dX3_init_15 rfl (lv_at hl 1 rfl) ?_
  refine mm_getN (i := 0) (v := .ref (Z + (o + 1))) hx hb hts hown hG hN inlX3 rfl rfl (by decide) rfl 0 (by decide) (mT5 _ (List.mem_of_getElem? (i := 16) rfl)) rfl dX3_init_16 ?_
  refine mm_alenN hx hb hG hN (i := 1) rfl (by decide) (by decide) dX3_init_19 ?_
  refine lv_icmp_ge (tgt := 42) hx hb dX3_init_20 (by decide) (fun c_1 => absurd c_1 (by decide)) (fun c_1 => ?_)
  refine lv_aload_n hx hb dX3_init_23 rfl (lv_at hl 1 rfl) ?_
  refine mm_getN (i := 0) (v := .ref (Z + (o + 1))) hx hb hts hown hG hN inlX3 rfl rfl (by decide) rfl 0 (by decide) (mT5 _ (List.mem_of_getElem? (i := 16) rfl)) rfl dX3_init_24 ?_
  refine lv_iload_n hx hb dX3_init_27 rfl (lv_at hl 0 rfl) ?_
  refine mm_new (kd := 28) (ci := 5) (N := 4) hx hb hts hown hG hN hS inlX5 tyX5 tyX5_ok (mT5 _ (List.mem_of_getElem? (i := 15) rfl)) (mT1 _ (List.mem_of_getElem? (i := 10) rfl)) (mT1 _ (List.mem_of_getElem? (i := 11) rfl)) rfl (o + 30) rfl rfl (fun j hj => by rcases (show j = 0 ∨ j = 1 ∨ j = 2 ∨ j = 3 by omega) with rfl | rfl | rfl | rfl <;> rfl) (Nat.le_of_ble_eq_true rfl) (Nat.le_of_ble_eq_true rfl) dX3_init_28 (fun H hN hS => ?_)
  have hN : bN D cI cS Z o K0 [3, 11, 5, 6, 4, 132, 4, 132, 4, 108, 0, 4, 124, 4, 124, 4, 110, 2, 4, 164, 4, 164, 4, 164, 4, 164, 4, 164, 4, 164, 28] s1 H := by rw [zx_le hz1 (by omega)] at hN; exact hN
  refine lv_dup hx hb dX3_init_31 rfl ?_
  obtain ⟨K1, hK1⟩ := hN
  refine mm_bN hS (mm_runI (As := []) (o := (o + 30)) (kd := 28) (mc := 27) (ms := 543) (n := 0) hx hb hml hts hown hG ⟨K1, hK1.1, ly_sub hK1.2.1 30 (by decide +kernel), fun _ _ => rfl⟩ hl.1 (c_X5_init l D cI cS Z K1 (o + 30) s1 (zx_le hz1 (by omega)) s2 hr2) (mT5 _ (List.mem_of_getElem? (i := 17) rfl)) (mT2 _ (List.mem_of_getElem? (i := 3) rfl)) (mT1 _ (List.mem_of_getElem? (i := 11) rfl)) (mT2 _ (List.mem_of_getElem? (i := 4) rfl)) rfl (by decide +kernel) ⟨(Nat.le_of_ble_eq_true rfl), (Nat.le_of_ble_eq_true rfl)⟩ rfl rfl rfl rfl (Nat.le_of_ble_eq_true rfl) ⟨(Nat.le_of_ble_eq_true rfl), (Nat.le_of_ble_eq_true rfl)⟩ dX3_init_32) (fun σ1 H locs hp hN2 hS => ?_)
  rw [hp] at hN2
  have hN : bN D cI cS Z o K0 [3, 11, 5, 6, 4, 132, 4, 132, 4, 108, 0, 4, 124, 4, 124, 4, 110, 2, 4, 164, 4, 164, 4, 164, 4, 164, 4, 164, 4, 164, 5, 6, 4, 132, 4, 132, 4, 108, 0, 4, 124, 4, 124, 4, 110, 2, 4, 164, 4, 164, 4, 164, 4, 164, 4, 164, 4, 164] s2 H := bN.join (A := [3, 11, 5, 6, 4, 132, 4, 132, 4, 108, 0, 4, 124, 4, 124, 4, 110, 2, 4, 164, 4, 164, 4, 164, 4, 164, 4, 164, 4, 164]) ⟨hK1.1, hK1.2.1, hK1.2.2⟩ rfl hN2 rfl
  refine mm_astq (j := 1) (k2 := 12) (v := 30) hx hb hG hN hS (i := 1) rfl rfl rfl (by decide) (by decide) (by decide) (by decide) dX3_init_35 (fun H locs hN hS => ?_)
  have hN : bN D cI cS Z o K0 [3, 12, 5, 6, 4, 132, 4, 132, 4, 108, 0, 4, 124, 4, 124, 4, 110, 2, 4, 164, 4, 164, 4, 164, 4, 164, 4, 164, 4, 164, 5, 6, 4, 132, 4, 132, 4, 108, 0, 4, 124, 4, 124, 4, 110, 2, 4, 164, 4, 164, 4, 164, 4, 164, 4, 164, 4, 164] s2 H := hN
  refine lv_iinc (v := 2) (lv' := [(1, .int 2), (0, .ref (Z + o))]) hx hb dX3_init_36 hl (k := 0) rfl (by decide) (by decide) rfl (fun ls hl => ?_)
  refine lv_goto (tgt := 14) hx hb dX3_init_39 (by decide) ?_
  refine lv_iload_n hx hb dX3_init_14 rfl (lv_at hl 0 rfl) ?_
  refine lv_aload_n hx hb dX3_init_15 rfl (lv_at hl 1 rfl) ?_
  refine mm_getN (i := 0) (v := .ref (Z + (o + 1))) hx hb hts hown hG hN inlX3 rfl rfl (by decide) rfl 0 (by decide) (mT5 _ (List.mem_of_getElem? (i := 16) rfl)) rfl dX3_init_16 ?_
  refine mm_alenN hx hb hG hN (i := 1) rfl (by decide) (by decide) dX3_init_19 ?_
  refine lv_icmp_ge (tgt := 42) hx hb dX3_init_20 (by decide) (fun c_1 => absurd c_1 (by decide)) (fun c_1 => ?_)
  refine lv_aload_n hx hb dX3_init_23 rfl (lv_at hl 1 rfl) ?_
  refine mm_getN (i := 0) (v := .ref (Z + (o + 1))) hx hb hts hown hG hN inlX3 rfl rfl (by decide) rfl 0 (by decide) (mT5 _ (List.mem_of_getElem? (i := 16) rfl)) rfl dX3_init_24 ?_
  refine lv_iload_n hx hb dX3_init_27 rfl (lv_at hl 0 rfl) ?_
  refine mm_new (kd := 28) (ci := 5) (N := 4) hx hb hts hown hG hN hS inlX5 tyX5 tyX5_ok (mT5 _ (List.mem_of_getElem? (i := 15) rfl)) (mT1 _ (List.mem_of_getElem? (i := 10) rfl)) (mT1 _ (List.mem_of_getElem? (i := 11) rfl)) rfl (o + 58) rfl rfl (fun j hj => by rcases (show j = 0 ∨ j = 1 ∨ j = 2 ∨ j = 3 by omega) with rfl | rfl | rfl | rfl <;> rfl) (Nat.le_of_ble_eq_true rfl) (Nat.le_of_ble_eq_true rfl) dX3_init_28 (fun H hN hS => ?_)
  have hN : bN D cI cS Z o K0 [3, 12, 5, 6, 4, 132, 4, 132, 4, 108, 0, 4, 124, 4, 124, 4, 110, 2, 4, 164, 4, 164, 4, 164, 4, 164, 4, 164, 4, 164, 5, 6, 4, 132, 4, 132, 4, 108, 0, 4, 124, 4, 124, 4, 110, 2, 4, 164, 4, 164, 4, 164, 4, 164, 4, 164, 4, 164, 28] s2 H := by rw [zx_le hz2 (by omega)] at hN; exact hN
  refine lv_dup hx hb dX3_init_31 rfl ?_
  obtain ⟨K1, hK1⟩ := hN
  refine mm_bN hS (mm_runI (As := []) (o := (o + 58)) (kd := 28) (mc := 27) (ms := 543) (n := 0) hx hb hml hts hown hG ⟨K1, hK1.1, ly_sub hK1.2.1 58 (by decide +kernel), fun _ _ => rfl⟩ hl.1 (c_X5_init l D cI cS Z K1 (o + 58) s2 (zx_le hz2 (by omega)) s3 hr3) (mT5 _ (List.mem_of_getElem? (i := 17) rfl)) (mT2 _ (List.mem_of_getElem? (i := 3) rfl)) (mT1 _ (List.mem_of_getElem? (i := 11) rfl)) (mT2 _ (List.mem_of_getElem? (i := 4) rfl)) rfl (by decide +kernel) ⟨(Nat.le_of_ble_eq_true rfl), (Nat.le_of_ble_eq_true rfl)⟩ rfl rfl rfl rfl (Nat.le_of_ble_eq_true rfl) ⟨(Nat.le_of_ble_eq_true rfl), (Nat.le_of_ble_eq_true rfl)⟩ dX3_init_32) (fun σ1 H locs hp hN2 hS => ?_)
  rw [hp] at hN2
  have hN : bN D cI cS Z o K0 [3, 12, 5, 6, 4, 132, 4, 132, 4, 108, 0, 4, 124, 4, 124, 4, 110, 2, 4, 164, 4, 164, 4, 164, 4, 164, 4, 164, 4, 164, 5, 6, 4, 132, 4, 132, 4, 108, 0, 4, 124, 4, 124, 4, 110, 2, 4, 164, 4, 164, 4, 164, 4, 164, 4, 164, 4, 164, 5, 6, 4, 132, 4, 132, 4, 108, 0, 4, 124, 4, 124, 4, 110, 2, 4, 164, 4, 164, 4, 164, 4, 164, 4, 164, 4, 164] s3 H := bN.join (A := [3, 12, 5, 6, 4, 132, 4, 132, 4, 108, 0, 4, 124, 4, 124, 4, 110, 2, 4, 164, 4, 164, 4, 164, 4, 164, 4, 164, 4, 164, 5, 6, 4, 132, 4, 132, 4, 108, 0, 4, 124, 4, 124, 4, 110, 2, 4, 164, 4, 164, 4, 164, 4, 164, 4, 164, 4, 164]) ⟨hK1.1, hK1.2.1, hK1.2.2⟩ rfl hN2 rfl
  refine mm_astq (j := 2) (k2 := 13) (v := 58) hx hb hG hN hS (i := 1) rfl rfl rfl (by decide) (by decide) (by decide) (by decide) dX3_init_35 (fun H locs hN hS => ?_)
  have hN : bN D cI cS Z o K0 [3, 13, 5, 6, 4, 132, 4, 132, 4, 108, 0, 4, 124, 4, 124, 4, 110, 2, 4, 164, 4, 164, 4, 164, 4, 164, 4, 164, 4, 164, 5, 6, 4, 132, 4, 132, 4, 108, 0, 4, 124, 4, 124, 4, 110, 2, 4, 164, 4, 164, 4, 164, 4, 164, 4, 164, 4, 164, 5, 6, 4, 132, 4, 132, 4, 108, 0, 4, 124, 4, 124, 4, 110, 2, 4, 164, 4, 164, 4, 164, 4, 164, 4, 164, 4, 164] s3 H := hN
  refine lv_iinc (v := 3) (lv' := [(1, .int 3), (0, .ref (Z + o))]) hx hb dX3_init_36 hl (k := 0) rfl (by decide) (by decide) rfl (fun ls hl => ?_)
  refine lv_goto (tgt := 14) hx hb dX3_init_39 (by decide) ?_
  refine lv_iload_n hx hb dX3_init_14 rfl (lv_at hl 0 rfl) ?_
  refine lv_aload_n hx hb dX3_init_15 rfl (lv_at hl 1 rfl) ?_
  refine mm_getN (i := 0) (v := .ref (Z + (o + 1))) hx hb hts hown hG hN inlX3 rfl rfl (by decide) rfl 0 (by decide) (mT5 _ (List.mem_of_getElem? (i := 16) rfl)) rfl dX3_init_16 ?_
  refine mm_alenN hx hb hG hN (i := 1) rfl (by decide) (by decide) dX3_init_19 ?_
  refine lv_icmp_ge (tgt := 42) hx hb dX3_init_20 (by decide) (fun c_1 => absurd c_1 (by decide)) (fun c_1 => ?_)
  refine lv_aload_n hx hb dX3_init_23 rfl (lv_at hl 1 rfl) ?_
  refine mm_getN (i := 0) (v := .ref (Z + (o + 1))) hx hb hts hown hG hN inlX3 rfl rfl (by decide) rfl 0 (by decide) (mT5 _ (List.mem_of_getElem? (i := 16) rfl)) rfl dX3_init_24 ?_
  refine lv_iload_n hx hb dX3_init_27 rfl (lv_at hl 0 rfl) ?_
  refine mm_new (kd := 28) (ci := 5) (N := 4) hx hb hts hown hG hN hS inlX5 tyX5 tyX5_ok (mT5 _ (List.mem_of_getElem? (i := 15) rfl)) (mT1 _ (List.mem_of_getElem? (i := 10) rfl)) (mT1 _ (List.mem_of_getElem? (i := 11) rfl)) rfl (o + 86) rfl rfl (fun j hj => by rcases (show j = 0 ∨ j = 1 ∨ j = 2 ∨ j = 3 by omega) with rfl | rfl | rfl | rfl <;> rfl) (Nat.le_of_ble_eq_true rfl) (Nat.le_of_ble_eq_true rfl) dX3_init_28 (fun H hN hS => ?_)
  have hN : bN D cI cS Z o K0 [3, 13, 5, 6, 4, 132, 4, 132, 4, 108, 0, 4, 124, 4, 124, 4, 110, 2, 4, 164, 4, 164, 4, 164, 4, 164, 4, 164, 4, 164, 5, 6, 4, 132, 4, 132, 4, 108, 0, 4, 124, 4, 124, 4, 110, 2, 4, 164, 4, 164, 4, 164, 4, 164, 4, 164, 4, 164, 5, 6, 4, 132, 4, 132, 4, 108, 0, 4, 124, 4, 124, 4, 110, 2, 4, 164, 4, 164, 4, 164, 4, 164, 4, 164, 4, 164, 28] s3 H := by rw [zx_le hz3 (by omega)] at hN; exact hN
  refine lv_dup hx hb dX3_init_31 rfl ?_
  obtain ⟨K1, hK1⟩ := hN
  refine mm_bN hS (mm_runI (As := []) (o := (o + 86)) (kd := 28) (mc := 27) (ms := 543) (n := 0) hx hb hml hts hown hG ⟨K1, hK1.1, ly_sub hK1.2.1 86 (by decide +kernel), fun _ _ => rfl⟩ hl.1 (c_X5_init l D cI cS Z K1 (o + 86) s3 (zx_le hz3 (by omega)) s4 hr4) (mT5 _ (List.mem_of_getElem? (i := 17) rfl)) (mT2 _ (List.mem_of_getElem? (i := 3) rfl)) (mT1 _ (List.mem_of_getElem? (i := 11) rfl)) (mT2 _ (List.mem_of_getElem? (i := 4) rfl)) rfl (by decide +kernel) ⟨(Nat.le_of_ble_eq_true rfl), (Nat.le_of_ble_eq_true rfl)⟩ rfl rfl rfl rfl (Nat.le_of_ble_eq_true rfl) ⟨(Nat.le_of_ble_eq_true rfl), (Nat.le_of_ble_eq_true rfl)⟩ dX3_init_32) (fun σ1 H locs hp hN2 hS => ?_)
  rw [hp] at hN2
  have hN : bN D cI cS Z o K0 [3, 13, 5, 6, 4, 132, 4, 132, 4, 108, 0, 4, 124, 4, 124, 4, 110, 2, 4, 164, 4, 164, 4, 164, 4, 164, 4, 164, 4, 164, 5, 6, 4, 132, 4, 132, 4, 108, 0, 4, 124, 4, 124, 4, 110, 2, 4, 164, 4, 164, 4, 164, 4, 164, 4, 164, 4, 164, 5, 6, 4, 132, 4, 132, 4, 108, 0, 4, 124, 4, 124, 4, 110, 2, 4, 164, 4, 164, 4, 164, 4, 164, 4, 164, 4, 164, 5, 6, 4, 132, 4, 132, 4, 108, 0, 4, 124, 4, 124, 4, 110, 2, 4, 164, 4, 164, 4, 164, 4, 164, 4, 164, 4, 164] s4 H := bN.join (A := [3, 13, 5, 6, 4, 132, 4, 132, 4, 108, 0, 4, 124, 4, 124, 4, 110, 2, 4, 164, 4, 164, 4, 164, 4, 164, 4, 164, 4, 164, 5, 6, 4, 132, 4, 132, 4, 108, 0, 4, 124, 4, 124, 4, 110, 2, 4, 164, 4, 164, 4, 164, 4, 164, 4, 164, 4, 164, 5, 6, 4, 132, 4, 132, 4, 108, 0, 4, 124, 4, 124, 4, 110, 2, 4, 164, 4, 164, 4, 164, 4, 164, 4, 164, 4, 164]) ⟨hK1.1, hK1.2.1, hK1.2.2⟩ rfl hN2 rfl
  refine mm_astq (j := 3) (k2 := 14) (v := 86) hx hb hG hN hS (i := 1) rfl rfl rfl (by decide) (by decide) (by decide) (by decide) dX3_init_35 (fun H locs hN hS => ?_)
  have hN : bN D cI cS Z o K0 [3, 14, 5, 6, 4, 132, 4, 132, 4, 108, 0, 4, 124, 4, 124, 4, 110, 2, 4, 164, 4, 164, 4, 164, 4, 164, 4, 164, 4, 164, 5, 6, 4, 132, 4, 132, 4, 108, 0, 4, 124, 4, 124, 4, 110, 2, 4, 164, 4, 164, 4, 164, 4, 164, 4, 164, 4, 164, 5, 6, 4, 132, 4, 132, 4, 108, 0, 4, 124, 4, 124, 4, 110, 2, 4, 164, 4, 164, 4, 164, 4, 164, 4, 164, 4, 164, 5, 6, 4, 132, 4, 132, 4, 108, 0, 4, 124, 4, 124, 4, 110, 2, 4, 164, 4, 164, 4, 164, 4, 164, 4, 164, 4, 164] s4 H := hN
  refine lv_iinc (v := 4) (lv' := [(1, .int 4), (0, .ref (Z + o))]) hx hb dX3_init_36 hl (k := 0) rfl (by decide) (by decide) rfl (fun ls hl => ?_)
  refine lv_goto (tgt := 14) hx hb dX3_init_39 (by decide) ?_
  refine lv_iload_n hx hb dX3_init_14 rfl (lv_at hl 0 rfl) ?_
  refine lv_aload_n hx hb dX3_init_15 rfl (lv_at hl 1 rfl) ?_
  refine mm_getN (i := 0) (v := .ref (Z + (o + 1))) hx hb hts hown hG hN inlX3 rfl rfl (by decide) rfl 0 (by decide) (mT5 _ (List.mem_of_getElem? (i := 16) rfl)) rfl dX3_init_16 ?_
  refine mm_alenN hx hb hG hN (i := 1) rfl (by decide) (by decide) dX3_init_19 ?_
  refine lv_icmp_ge (tgt := 42) hx hb dX3_init_20 (by decide) (fun c_1 => absurd c_1 (by decide)) (fun c_1 => ?_)
  refine lv_aload_n hx hb dX3_init_23 rfl (lv_at hl 1 rfl) ?_
  refine mm_getN (i := 0) (v := .ref (Z + (o + 1))) hx hb hts hown hG hN inlX3 rfl rfl (by decide) rfl 0 (by decide) (mT5 _ (List.mem_of_getElem? (i := 16) rfl)) rfl dX3_init_24 ?_
  refine lv_iload_n hx hb dX3_init_27 rfl (lv_at hl 0 rfl) ?_
  refine mm_new (kd := 28) (ci := 5) (N := 4) hx hb hts hown hG hN hS inlX5 tyX5 tyX5_ok (mT5 _ (List.mem_of_getElem? (i := 15) rfl)) (mT1 _ (List.mem_of_getElem? (i := 10) rfl)) (mT1 _ (List.mem_of_getElem? (i := 11) rfl)) rfl (o + 114) rfl rfl (fun j hj => by rcases (show j = 0 ∨ j = 1 ∨ j = 2 ∨ j = 3 by omega) with rfl | rfl | rfl | rfl <;> rfl) (Nat.le_of_ble_eq_true rfl) (Nat.le_of_ble_eq_true rfl) dX3_init_28 (fun H hN hS => ?_)
  have hN : bN D cI cS Z o K0 [3, 14, 5, 6, 4, 132, 4, 132, 4, 108, 0, 4, 124, 4, 124, 4, 110, 2, 4, 164, 4, 164, 4, 164, 4, 164, 4, 164, 4, 164, 5, 6, 4, 132, 4, 132, 4, 108, 0, 4, 124, 4, 124, 4, 110, 2, 4, 164, 4, 164, 4, 164, 4, 164, 4, 164, 4, 164, 5, 6, 4, 132, 4, 132, 4, 108, 0, 4, 124, 4, 124, 4, 110, 2, 4, 164, 4, 164, 4, 164, 4, 164, 4, 164, 4, 164, 5, 6, 4, 132, 4, 132, 4, 108, 0, 4, 124, 4, 124, 4, 110, 2, 4, 164, 4, 164, 4, 164, 4, 164, 4, 164, 4, 164, 28] s4 H := by rw [zx_le hz4 (by omega)] at hN; exact hN
  refine lv_dup hx hb dX3_init_31 rfl ?_
  obtain ⟨K1, hK1⟩ := hN
  refine mm_bN hS (mm_runI (As := []) (o := (o + 114)) (kd := 28) (mc := 27) (ms := 543) (n := 0) hx hb hml hts hown hG ⟨K1, hK1.1, ly_sub hK1.2.1 114 (by decide +kernel), fun _ _ => rfl⟩ hl.1 (c_X5_init l D cI cS Z K1 (o + 114) s4 (zx_le hz4 (by omega)) s5 hr5) (mT5 _ (List.mem_of_getElem? (i := 17) rfl)) (mT2 _ (List.mem_of_getElem? (i := 3) rfl)) (mT1 _ (List.mem_of_getElem? (i := 11) rfl)) (mT2 _ (List.mem_of_getElem? (i := 4) rfl)) rfl (by decide +kernel) ⟨(Nat.le_of_ble_eq_true rfl), (Nat.le_of_ble_eq_true rfl)⟩ rfl rfl rfl rfl (Nat.le_of_ble_eq_true rfl) ⟨(Nat.le_of_ble_eq_true rfl), (Nat.le_of_ble_eq_true rfl)⟩ dX3_init_32) (fun σ1 H locs hp hN2 hS => ?_)
  rw [hp] at hN2
  have hN : bN D cI cS Z o K0 [3, 14, 5, 6, 4, 132, 4, 132, 4, 108, 0, 4, 124, 4, 124, 4, 110, 2, 4, 164, 4, 164, 4, 164, 4, 164, 4, 164, 4, 164, 5, 6, 4, 132, 4, 132, 4, 108, 0, 4, 124, 4, 124, 4, 110, 2, 4, 164, 4, 164, 4, 164, 4, 164, 4, 164, 4, 164, 5, 6, 4, 132, 4, 132, 4, 108, 0, 4, 124, 4, 124, 4, 110, 2, 4, 164, 4, 164, 4, 164, 4, 164, 4, 164, 4, 164, 5, 6, 4, 132, 4, 132, 4, 108, 0, 4, 124, 4, 124, 4, 110, 2, 4, 164, 4, 164, 4, 164, 4, 164, 4, 164, 4, 164, 5, 6, 4, 132, 4, 132, 4, 108, 0, 4, 124, 4, 124, 4, 110, 2, 4, 164, 4, 164, 4, 164, 4, 164, 4, 164, 4, 164] s5 H := bN.join (A := [3, 14, 5, 6, 4, 132, 4, 132, 4, 108, 0, 4, 124, 4, 124, 4, 110, 2, 4, 164, 4, 164, 4, 164, 4, 164, 4, 164, 4, 164, 5, 6, 4, 132, 4, 132, 4, 108, 0, 4, 124, 4, 124, 4, 110, 2, 4, 164, 4, 164, 4, 164, 4, 164, 4, 164, 4, 164, 5, 6, 4, 132, 4, 132, 4, 108, 0, 4, 124, 4, 124, 4, 110, 2, 4, 164, 4, 164, 4, 164, 4, 164, 4, 164, 4, 164, 5, 6, 4, 132, 4, 132, 4, 108, 0, 4, 124, 4, 124, 4, 110, 2, 4, 164, 4, 164, 4, 164, 4, 164, 4, 164, 4, 164]) ⟨hK1.1, hK1.2.1, hK1.2.2⟩ rfl hN2 rfl
  refine mm_astq (j := 4) (k2 := 15) (v := 114) hx hb hG hN hS (i := 1) rfl rfl rfl (by decide) (by decide) (by decide) (by decide) dX3_init_35 (fun H locs hN hS => ?_)
  have hN : bN D cI cS Z o K0 [3, 15, 5, 6, 4, 132, 4, 132, 4, 108, 0, 4, 124, 4, 124, 4, 110, 2, 4, 164, 4, 164, 4, 164, 4, 164, 4, 164, 4, 164, 5, 6, 4, 132, 4, 132, 4, 108, 0, 4, 124, 4, 124, 4, 110, 2, 4, 164, 4, 164, 4, 164, 4, 164, 4, 164, 4, 164, 5, 6, 4, 132, 4, 132, 4, 108, 0, 4, 124, 4, 124, 4, 110, 2, 4, 164, 4, 164, 4, 164, 4, 164, 4, 164, 4, 164, 5, 6, 4, 132, 4, 132, 4, 108, 0, 4, 124, 4, 124, 4, 110, 2, 4, 164, 4, 164, 4, 164, 4, 164, 4, 164, 4, 164, 5, 6, 4, 132, 4, 132, 4, 108, 0, 4, 124, 4, 124, 4, 110, 2, 4, 164, 4, 164, 4, 164, 4, 164, 4, 164, 4, 164] s5 H := hN
  refine lv_iinc (v := 5) (lv' := [(1, .int 5), (0, .ref (Z + o))]) hx hb dX3_init_36 hl (k := 0) rfl (by decide) (by decide) rfl (fun ls hl => ?_)
  refine lv_goto (tgt := 14) hx hb dX3_init_39 (by decide) ?_
  refine lv_iload_n hx hb dX3_init_14 rfl (lv_at hl 0 rfl) ?_
  refine lv_aload_n hx hb dX3_init_15 rfl (lv_at hl 1 rfl) ?_
  refine mm_getN (i := 0) (v := .ref (Z + (o + 1))) hx hb hts hown hG hN inlX3 rfl rfl (by decide) rfl 0 (by decide) (mT5 _ (List.mem_of_getElem? (i := 16) rfl)) rfl dX3_init_16 ?_
  refine mm_alenN hx hb hG hN (i := 1) rfl (by decide) (by decide) dX3_init_19 ?_
  refine lv_icmp_ge (tgt := 42) hx hb dX3_init_20 (by decide) (fun c_1 => ?_) (fun c_1 => absurd (by decide) c_1)
  exact mm_vretN (post := fun x => x = s5) hx hb hr hlocks rfl hN hS dX3_init_42
set_option maxHeartbeats 4000000 in
set_option maxRecDepth 100000 in
theorem c_X7_init (l : Launch) (D : va_G) (cI cS : ClassId) (Z : Nat) (K0 : Nat → Nat) (σ : Nat → Nat → Int32) (s0 : Nat → Nat → Int32) (s1 : Nat → Nat → Int32) (s2 : Nat → Nat → Int32) (s3 : Nat → Nat → Int32) (s4 : Nat → Nat → Int32) (s5 : Nat → Nat → Int32) (hz : zx σ 0 = σ) (hr0 : f_X5_reset 1 4 8 σ = some s0) (hza : zx s0 29 = s0) (hr1 : f_X5_reset 31 4 8 s0 = some s1) (hz1 : zx s1 59 = s1) (hr2 : f_X5_reset 59 4 8 s1 = some s2) (hz2 : zx s2 87 = s2) (hr3 : f_X5_reset 87 4 8 s2 = some s3) (hz3 : zx s3 115 = s3) (hr4 : f_X5_reset 115 4 8 s3 = some s4) (hz4 : zx s4 143 = s4) (hr5 : f_X5_reset 143 4 8 s4 = some s5) (hz5 : zx s5 171 = s5) (hzb : zx s5 171 = s5) : Met l yX7_init (wsT yX7_init cX7_init 1 none) { frames := 5, cells := 182, slots := 3509, locals := 109 } (PN D cI cS Z 0 K0 35 [.ref (Z + 0)] σ) (QN D cI cS Z 0 K0 lyLoom (fun σ1 => σ1 = s5)) 182 3509 (aZ Z) := by
  refine mm_metN (lv := [(0, .ref (Z + 0))]) (by decide) (Nat.le_of_ble_eq_true rfl) rfl ?_
  intro p e s m args below meth c ls hx hb hr hml hts hown hlocks hname hG hl hN hS
  have hown : s.vm.findClass RX7 = some m.cls := hown
  have hsz0 := hN.szA
  refine lv_aload_n hx hb dX7_init_0 rfl (lv_at hl 0 rfl) ?_
  refine W.objInit hx hb hown (hts _ (mT1 _ (List.mem_of_getElem? (i := 6) rfl))) (hts _ (mT1 _ (List.mem_of_getElem? (i := 7) rfl))) (hts _ (mT1 _ (List.mem_of_getElem? (i := 8) rfl))) rfl (by rw [hml]; exact hl.1) rfl dX7_init_1 (Nat.le_of_ble_eq_true rfl) (Nat.le_of_ble_eq_true rfl) ?_
  refine W.eq (g2 := F0 m 4 ls []) rfl ?_
  refine lv_aload_n hx hb dX7_init_4 rfl (lv_at hl 0 rfl) ?_
  refine mm_new (kd := 28) (ci := 5) (N := 4) hx hb hts hown hG hN hS inlX5 tyX5 tyX5_ok (mT1 _ (List.mem_of_getElem? (i := 9) rfl)) (mT1 _ (List.mem_of_getElem? (i := 10) rfl)) (mT1 _ (List.mem_of_getElem? (i := 11) rfl)) rfl 1 rfl rfl (fun j hj => by rcases (show j = 0 ∨ j = 1 ∨ j = 2 ∨ j = 3 by omega) with rfl | rfl | rfl | rfl <;> rfl) (Nat.le_of_ble_eq_true rfl) (Nat.le_of_ble_eq_true rfl) dX7_init_5 (fun H hN hS => ?_)
  have hN : bN D cI cS Z 0 K0 [35, 28] σ H := by rw [zx_le hz (by omega)] at hN; exact hN
  refine lv_dup hx hb dX7_init_8 rfl ?_
  obtain ⟨K1, hK1⟩ := hN
  refine mm_bN hS (mm_runI (As := []) (o := 1) (kd := 28) (mc := 27) (ms := 543) (n := 0) hx hb hml hts hown hG ⟨K1, hK1.1, ly_sub hK1.2.1 1 (by decide +kernel), fun _ _ => rfl⟩ hl.1 (c_X5_init l D cI cS Z K1 1 σ (zx_le hz (by omega)) s0 hr0) (mT2 _ (List.mem_of_getElem? (i := 2) rfl)) (mT2 _ (List.mem_of_getElem? (i := 3) rfl)) (mT1 _ (List.mem_of_getElem? (i := 11) rfl)) (mT2 _ (List.mem_of_getElem? (i := 4) rfl)) rfl (by decide +kernel) ⟨(Nat.le_of_ble_eq_true rfl), (Nat.le_of_ble_eq_true rfl)⟩ rfl rfl rfl rfl (Nat.le_of_ble_eq_true rfl) ⟨(Nat.le_of_ble_eq_true rfl), (Nat.le_of_ble_eq_true rfl)⟩ dX7_init_9) (fun σ1 H locs hp hN2 hS => ?_)
  rw [hp] at hN2
  have hN : bN D cI cS Z 0 K0 [35, 5, 6, 4, 132, 4, 132, 4, 108, 0, 4, 124, 4, 124, 4, 110, 2, 4, 164, 4, 164, 4, 164, 4, 164, 4, 164, 4, 164] s0 H := bN.join (A := [35]) ⟨hK1.1, hK1.2.1, hK1.2.2⟩ rfl hN2 rfl
  refine mm_putF (i := 0) (k1 := 35) (k2 := 36) (v := Z + 1) (ty := (.object "DobbyLoom$State")) hx hb hts hown hG hN hS inlX7 tyX7 tyX7_ok nmX7 rfl rfl rfl (by decide) 0 (by decide) rfl rfl (Nat.le_of_ble_eq_true rfl) (mT1 _ (List.mem_of_getElem? (i := 12) rfl)) rfl hname rfl (by decide +kernel) rfl rfl dX7_init_12 (fun H locs hN hS => ?_)
  have hN : bN D cI cS Z 0 K0 [36, 5, 6, 4, 132, 4, 132, 4, 108, 0, 4, 124, 4, 124, 4, 110, 2, 4, 164, 4, 164, 4, 164, 4, 164, 4, 164, 4, 164] s0 H := hN
  refine lv_aload_n hx hb dX7_init_15 rfl (lv_at hl 0 rfl) ?_
  refine mm_new (kd := 26) (ci := 3) (N := 3) hx hb hts hown hG hN hS inlX3 tyX3 tyX3_ok (mT1 _ (List.mem_of_getElem? (i := 13) rfl)) (mT1 _ (List.mem_of_getElem? (i := 14) rfl)) (mT1 _ (List.mem_of_getElem? (i := 15) rfl)) rfl 29 rfl rfl (fun j hj => by rcases (show j = 0 ∨ j = 1 ∨ j = 2 by omega) with rfl | rfl | rfl <;> rfl) (Nat.le_of_ble_eq_true rfl) (Nat.le_of_ble_eq_true rfl) dX7_init_16 (fun H hN hS => ?_)
  have hN : bN D cI cS Z 0 K0 [36, 5, 6, 4, 132, 4, 132, 4, 108, 0, 4, 124, 4, 124, 4, 110, 2, 4, 164, 4, 164, 4, 164, 4, 164, 4, 164, 4, 164, 26] s0 H := by rw [zx_le hza (by omega)] at hN; exact hN
  refine lv_dup hx hb dX7_init_19 rfl ?_
  obtain ⟨K1, hK1⟩ := hN
  refine mm_bN hS (mm_runI (As := []) (o := 29) (kd := 26) (mc := 141) (ms := 2740) (n := 0) hx hb hml hts hown hG ⟨K1, hK1.1, ly_sub hK1.2.1 29 (by decide +kernel), fun _ _ => rfl⟩ hl.1 (c_X3_init l D cI cS Z K1 29 s0 s1 s2 s3 s4 s5 hza hr1 hz1 hr2 hz2 hr3 hz3 hr4 hz4 hr5 hz5) (mT5 _ (List.mem_of_getElem? (i := 11) rfl)) (mT5 _ (List.mem_of_getElem? (i := 12) rfl)) (mT1 _ (List.mem_of_getElem? (i := 15) rfl)) (mT5 _ (List.mem_of_getElem? (i := 13) rfl)) rfl (by decide +kernel) ⟨(Nat.le_of_ble_eq_true rfl), (Nat.le_of_ble_eq_true rfl)⟩ rfl rfl rfl rfl (Nat.le_of_ble_eq_true rfl) ⟨(Nat.le_of_ble_eq_true rfl), (Nat.le_of_ble_eq_true rfl)⟩ dX7_init_20) (fun σ1 H locs hp hN2 hS => ?_)
  rw [hp] at hN2
  have hN : bN D cI cS Z 0 K0 [36, 5, 6, 4, 132, 4, 132, 4, 108, 0, 4, 124, 4, 124, 4, 110, 2, 4, 164, 4, 164, 4, 164, 4, 164, 4, 164, 4, 164, 3, 15, 5, 6, 4, 132, 4, 132, 4, 108, 0, 4, 124, 4, 124, 4, 110, 2, 4, 164, 4, 164, 4, 164, 4, 164, 4, 164, 4, 164, 5, 6, 4, 132, 4, 132, 4, 108, 0, 4, 124, 4, 124, 4, 110, 2, 4, 164, 4, 164, 4, 164, 4, 164, 4, 164, 4, 164, 5, 6, 4, 132, 4, 132, 4, 108, 0, 4, 124, 4, 124, 4, 110, 2, 4, 164, 4, 164, 4, 164, 4, 164, 4, 164, 4, 164, 5, 6, 4, 132, 4, 132, 4, 108, 0, 4, 124, 4, 124, 4, 110, 2, 4, 164, 4, 164, 4, 164, 4, 164, 4, 164, 4, 164, 5, 6, 4, 132, 4, 132, 4, 108, 0, 4, 124, 4, 124, 4, 110, 2, 4, 164, 4, 164, 4, 164, 4, 164, 4, 164, 4, 164] s5 H := bN.join (A := [36, 5, 6, 4, 132, 4, 132, 4, 108, 0, 4, 124, 4, 124, 4, 110, 2, 4, 164, 4, 164, 4, 164, 4, 164, 4, 164, 4, 164]) ⟨hK1.1, hK1.2.1, hK1.2.2⟩ rfl hN2 rfl
  refine mm_putF (i := 0) (k1 := 36) (k2 := 37) (v := Z + 29) (ty := (.object "DobbyLoom$History")) hx hb hts hown hG hN hS inlX7 tyX7 tyX7_ok nmX7 rfl rfl rfl (by decide) 1 (by decide) rfl rfl (Nat.le_of_ble_eq_true rfl) (mT1 _ (List.mem_of_getElem? (i := 16) rfl)) rfl hname rfl (by decide +kernel) rfl rfl dX7_init_23 (fun H locs hN hS => ?_)
  have hN : bN D cI cS Z 0 K0 [37, 5, 6, 4, 132, 4, 132, 4, 108, 0, 4, 124, 4, 124, 4, 110, 2, 4, 164, 4, 164, 4, 164, 4, 164, 4, 164, 4, 164, 3, 15, 5, 6, 4, 132, 4, 132, 4, 108, 0, 4, 124, 4, 124, 4, 110, 2, 4, 164, 4, 164, 4, 164, 4, 164, 4, 164, 4, 164, 5, 6, 4, 132, 4, 132, 4, 108, 0, 4, 124, 4, 124, 4, 110, 2, 4, 164, 4, 164, 4, 164, 4, 164, 4, 164, 4, 164, 5, 6, 4, 132, 4, 132, 4, 108, 0, 4, 124, 4, 124, 4, 110, 2, 4, 164, 4, 164, 4, 164, 4, 164, 4, 164, 4, 164, 5, 6, 4, 132, 4, 132, 4, 108, 0, 4, 124, 4, 124, 4, 110, 2, 4, 164, 4, 164, 4, 164, 4, 164, 4, 164, 4, 164, 5, 6, 4, 132, 4, 132, 4, 108, 0, 4, 124, 4, 124, 4, 110, 2, 4, 164, 4, 164, 4, 164, 4, 164, 4, 164, 4, 164] s5 H := hN
  refine lv_aload_n hx hb dX7_init_26 rfl (lv_at hl 0 rfl) ?_
  refine mm_new (kd := 18) (ci := 1) (N := 7) hx hb hts hown hG hN hS inlX1 tyX1 tyX1_ok (mT1 _ (List.mem_of_getElem? (i := 17) rfl)) (mT1 _ (List.mem_of_getElem? (i := 18) rfl)) (mT1 _ (List.mem_of_getElem? (i := 19) rfl)) rfl 171 rfl rfl (fun j hj => by rcases (show j = 0 ∨ j = 1 ∨ j = 2 ∨ j = 3 ∨ j = 4 ∨ j = 5 ∨ j = 6 by omega) with rfl | rfl | rfl | rfl | rfl | rfl | rfl <;> rfl) (Nat.le_of_ble_eq_true rfl) (Nat.le_of_ble_eq_true rfl) dX7_init_27 (fun H hN hS => ?_)
  have hN : bN D cI cS Z 0 K0 [37, 5, 6, 4, 132, 4, 132, 4, 108, 0, 4, 124, 4, 124, 4, 110, 2, 4, 164, 4, 164, 4, 164, 4, 164, 4, 164, 4, 164, 3, 15, 5, 6, 4, 132, 4, 132, 4, 108, 0, 4, 124, 4, 124, 4, 110, 2, 4, 164, 4, 164, 4, 164, 4, 164, 4, 164, 4, 164, 5, 6, 4, 132, 4, 132, 4, 108, 0, 4, 124, 4, 124, 4, 110, 2, 4, 164, 4, 164, 4, 164, 4, 164, 4, 164, 4, 164, 5, 6, 4, 132, 4, 132, 4, 108, 0, 4, 124, 4, 124, 4, 110, 2, 4, 164, 4, 164, 4, 164, 4, 164, 4, 164, 4, 164, 5, 6, 4, 132, 4, 132, 4, 108, 0, 4, 124, 4, 124, 4, 110, 2, 4, 164, 4, 164, 4, 164, 4, 164, 4, 164, 4, 164, 5, 6, 4, 132, 4, 132, 4, 108, 0, 4, 124, 4, 124, 4, 110, 2, 4, 164, 4, 164, 4, 164, 4, 164, 4, 164, 4, 164, 18] s5 H := by rw [zx_le hzb (by omega)] at hN; exact hN
  refine lv_dup hx hb dX7_init_30 rfl ?_
  obtain ⟨K1, hK1⟩ := hN
  refine mm_bN hS (mm_runIN (host := RX7) (As := []) (o := 171) (kd := 18) (mc := 7) (ms := 176) (n := 0) hx hb hml hts hown hG ⟨K1, hK1.1, ly_sub hK1.2.1 171 (by decide +kernel), fun _ _ => rfl⟩ hl.1 (c_X1_init l D cI cS Z K1 171 s5 (zx_le hzb (by omega))) (List.mem_of_getElem? (i := 3) rfl) (mT5 _ (List.mem_of_getElem? (i := 18) rfl)) (mT1 _ (List.mem_of_getElem? (i := 19) rfl)) (mT5 _ (List.mem_of_getElem? (i := 19) rfl)) rfl (by decide +kernel) ⟨(Nat.le_of_ble_eq_true rfl), (Nat.le_of_ble_eq_true rfl)⟩ rfl rfl rfl rfl (Nat.le_of_ble_eq_true rfl) ⟨(Nat.le_of_ble_eq_true rfl), (Nat.le_of_ble_eq_true rfl)⟩ dX7_init_31) (fun σ1 H locs hp hN2 hS => ?_)
  rw [hp] at hN2
  have hN : bN D cI cS Z 0 K0 [37, 5, 6, 4, 132, 4, 132, 4, 108, 0, 4, 124, 4, 124, 4, 110, 2, 4, 164, 4, 164, 4, 164, 4, 164, 4, 164, 4, 164, 3, 15, 5, 6, 4, 132, 4, 132, 4, 108, 0, 4, 124, 4, 124, 4, 110, 2, 4, 164, 4, 164, 4, 164, 4, 164, 4, 164, 4, 164, 5, 6, 4, 132, 4, 132, 4, 108, 0, 4, 124, 4, 124, 4, 110, 2, 4, 164, 4, 164, 4, 164, 4, 164, 4, 164, 4, 164, 5, 6, 4, 132, 4, 132, 4, 108, 0, 4, 124, 4, 124, 4, 110, 2, 4, 164, 4, 164, 4, 164, 4, 164, 4, 164, 4, 164, 5, 6, 4, 132, 4, 132, 4, 108, 0, 4, 124, 4, 124, 4, 110, 2, 4, 164, 4, 164, 4, 164, 4, 164, 4, 164, 4, 164, 5, 6, 4, 132, 4, 132, 4, 108, 0, 4, 124, 4, 124, 4, 110, 2, 4, 164, 4, 164, 4, 164, 4, 164, 4, 164, 4, 164, 1, 4, 220, 0, 4, 124, 4, 124] s5 H := bN.join (A := [37, 5, 6, 4, 132, 4, 132, 4, 108, 0, 4, 124, 4, 124, 4, 110, 2, 4, 164, 4, 164, 4, 164, 4, 164, 4, 164, 4, 164, 3, 15, 5, 6, 4, 132, 4, 132, 4, 108, 0, 4, 124, 4, 124, 4, 110, 2, 4, 164, 4, 164, 4, 164, 4, 164, 4, 164, 4, 164, 5, 6, 4, 132, 4, 132, 4, 108, 0, 4, 124, 4, 124, 4, 110, 2, 4, 164, 4, 164, 4, 164, 4, 164, 4, 164, 4, 164, 5, 6, 4, 132, 4, 132, 4, 108, 0, 4, 124, 4, 124, 4, 110, 2, 4, 164, 4, 164, 4, 164, 4, 164, 4, 164, 4, 164, 5, 6, 4, 132, 4, 132, 4, 108, 0, 4, 124, 4, 124, 4, 110, 2, 4, 164, 4, 164, 4, 164, 4, 164, 4, 164, 4, 164, 5, 6, 4, 132, 4, 132, 4, 108, 0, 4, 124, 4, 124, 4, 110, 2, 4, 164, 4, 164, 4, 164, 4, 164, 4, 164, 4, 164]) ⟨hK1.1, hK1.2.1, hK1.2.2⟩ rfl hN2 rfl
  refine mm_putF (i := 0) (k1 := 37) (k2 := 38) (v := Z + 171) (ty := (.object "DobbyLoom$ChainReader")) hx hb hts hown hG hN hS inlX7 tyX7 tyX7_ok nmX7 rfl rfl rfl (by decide) 2 (by decide) rfl rfl (Nat.le_of_ble_eq_true rfl) (mT1 _ (List.mem_of_getElem? (i := 20) rfl)) rfl hname rfl (by decide +kernel) rfl rfl dX7_init_34 (fun H locs hN hS => ?_)
  have hN : bN D cI cS Z 0 K0 [38, 5, 6, 4, 132, 4, 132, 4, 108, 0, 4, 124, 4, 124, 4, 110, 2, 4, 164, 4, 164, 4, 164, 4, 164, 4, 164, 4, 164, 3, 15, 5, 6, 4, 132, 4, 132, 4, 108, 0, 4, 124, 4, 124, 4, 110, 2, 4, 164, 4, 164, 4, 164, 4, 164, 4, 164, 4, 164, 5, 6, 4, 132, 4, 132, 4, 108, 0, 4, 124, 4, 124, 4, 110, 2, 4, 164, 4, 164, 4, 164, 4, 164, 4, 164, 4, 164, 5, 6, 4, 132, 4, 132, 4, 108, 0, 4, 124, 4, 124, 4, 110, 2, 4, 164, 4, 164, 4, 164, 4, 164, 4, 164, 4, 164, 5, 6, 4, 132, 4, 132, 4, 108, 0, 4, 124, 4, 124, 4, 110, 2, 4, 164, 4, 164, 4, 164, 4, 164, 4, 164, 4, 164, 5, 6, 4, 132, 4, 132, 4, 108, 0, 4, 124, 4, 124, 4, 110, 2, 4, 164, 4, 164, 4, 164, 4, 164, 4, 164, 4, 164, 1, 4, 220, 0, 4, 124, 4, 124] s5 H := hN
  refine lv_aload_n hx hb dX7_init_37 rfl (lv_at hl 0 rfl) ?_
  refine mm_new (kd := 27) (ci := 4) (N := 1) hx hb hts hown hG hN hS inlX4 tyX4 tyX4_ok (mT1 _ (List.mem_of_getElem? (i := 21) rfl)) (mT1 _ (List.mem_of_getElem? (i := 22) rfl)) (mT1 _ (List.mem_of_getElem? (i := 23) rfl)) rfl 179 rfl rfl (fun j hj => by rcases (show j = 0 by omega) with rfl <;> rfl) (Nat.le_of_ble_eq_true rfl) (Nat.le_of_ble_eq_true rfl) dX7_init_38 (fun H hN hS => ?_)
  have hN : bN D cI cS Z 0 K0 [38, 5, 6, 4, 132, 4, 132, 4, 108, 0, 4, 124, 4, 124, 4, 110, 2, 4, 164, 4, 164, 4, 164, 4, 164, 4, 164, 4, 164, 3, 15, 5, 6, 4, 132, 4, 132, 4, 108, 0, 4, 124, 4, 124, 4, 110, 2, 4, 164, 4, 164, 4, 164, 4, 164, 4, 164, 4, 164, 5, 6, 4, 132, 4, 132, 4, 108, 0, 4, 124, 4, 124, 4, 110, 2, 4, 164, 4, 164, 4, 164, 4, 164, 4, 164, 4, 164, 5, 6, 4, 132, 4, 132, 4, 108, 0, 4, 124, 4, 124, 4, 110, 2, 4, 164, 4, 164, 4, 164, 4, 164, 4, 164, 4, 164, 5, 6, 4, 132, 4, 132, 4, 108, 0, 4, 124, 4, 124, 4, 110, 2, 4, 164, 4, 164, 4, 164, 4, 164, 4, 164, 4, 164, 5, 6, 4, 132, 4, 132, 4, 108, 0, 4, 124, 4, 124, 4, 110, 2, 4, 164, 4, 164, 4, 164, 4, 164, 4, 164, 4, 164, 1, 4, 220, 0, 4, 124, 4, 124, 27] s5 H := by rw [zx_le hzb (by omega)] at hN; exact hN
  refine lv_dup hx hb dX7_init_41 rfl ?_
  refine lv_bipush (v := 24) hx hb dX7_init_42 (by decide) ?_
  obtain ⟨K1, hK1⟩ := hN
  refine mm_bN hS (mm_runI (As := [.int (nI 24)]) (o := 179) (kd := 27) (mc := 1) (ms := 24) (n := 1) hx hb hml hts hown hG ⟨K1, hK1.1, ly_sub hK1.2.1 179 (by decide +kernel), fun _ _ => rfl⟩ hl.1 (c_X4_init l D cI cS Z K1 179 24 (by decide) s5 (zx_le hzb (by omega))) (mT6 _ (List.mem_of_getElem? (i := 2) rfl)) (mT3 _ (List.mem_of_getElem? (i := 4) rfl)) (mT1 _ (List.mem_of_getElem? (i := 23) rfl)) (mT3 _ (List.mem_of_getElem? (i := 5) rfl)) rfl (by decide +kernel) ⟨(Nat.le_of_ble_eq_true rfl), (Nat.le_of_ble_eq_true rfl)⟩ rfl rfl rfl rfl (Nat.le_of_ble_eq_true rfl) ⟨(Nat.le_of_ble_eq_true rfl), (Nat.le_of_ble_eq_true rfl)⟩ dX7_init_44) (fun σ1 H locs hp hN2 hS => ?_)
  rw [hp] at hN2
  have hN : bN D cI cS Z 0 K0 [38, 5, 6, 4, 132, 4, 132, 4, 108, 0, 4, 124, 4, 124, 4, 110, 2, 4, 164, 4, 164, 4, 164, 4, 164, 4, 164, 4, 164, 3, 15, 5, 6, 4, 132, 4, 132, 4, 108, 0, 4, 124, 4, 124, 4, 110, 2, 4, 164, 4, 164, 4, 164, 4, 164, 4, 164, 4, 164, 5, 6, 4, 132, 4, 132, 4, 108, 0, 4, 124, 4, 124, 4, 110, 2, 4, 164, 4, 164, 4, 164, 4, 164, 4, 164, 4, 164, 5, 6, 4, 132, 4, 132, 4, 108, 0, 4, 124, 4, 124, 4, 110, 2, 4, 164, 4, 164, 4, 164, 4, 164, 4, 164, 4, 164, 5, 6, 4, 132, 4, 132, 4, 108, 0, 4, 124, 4, 124, 4, 110, 2, 4, 164, 4, 164, 4, 164, 4, 164, 4, 164, 4, 164, 5, 6, 4, 132, 4, 132, 4, 108, 0, 4, 124, 4, 124, 4, 110, 2, 4, 164, 4, 164, 4, 164, 4, 164, 4, 164, 4, 164, 1, 4, 220, 0, 4, 124, 4, 124, 4, 124] s5 H := bN.join (A := [38, 5, 6, 4, 132, 4, 132, 4, 108, 0, 4, 124, 4, 124, 4, 110, 2, 4, 164, 4, 164, 4, 164, 4, 164, 4, 164, 4, 164, 3, 15, 5, 6, 4, 132, 4, 132, 4, 108, 0, 4, 124, 4, 124, 4, 110, 2, 4, 164, 4, 164, 4, 164, 4, 164, 4, 164, 4, 164, 5, 6, 4, 132, 4, 132, 4, 108, 0, 4, 124, 4, 124, 4, 110, 2, 4, 164, 4, 164, 4, 164, 4, 164, 4, 164, 4, 164, 5, 6, 4, 132, 4, 132, 4, 108, 0, 4, 124, 4, 124, 4, 110, 2, 4, 164, 4, 164, 4, 164, 4, 164, 4, 164, 4, 164, 5, 6, 4, 132, 4, 132, 4, 108, 0, 4, 124, 4, 124, 4, 110, 2, 4, 164, 4, 164, 4, 164, 4, 164, 4, 164, 4, 164, 5, 6, 4, 132, 4, 132, 4, 108, 0, 4, 124, 4, 124, 4, 110, 2, 4, 164, 4, 164, 4, 164, 4, 164, 4, 164, 4, 164, 1, 4, 220, 0, 4, 124, 4, 124]) ⟨hK1.1, hK1.2.1, hK1.2.2⟩ rfl hN2 rfl
  refine mm_putF (i := 0) (k1 := 38) (k2 := 39) (v := Z + 179) (ty := (.object "DobbyLoom$Numbers")) hx hb hts hown hG hN hS inlX7 tyX7 tyX7_ok nmX7 rfl rfl rfl (by decide) 3 (by decide) rfl rfl (Nat.le_of_ble_eq_true rfl) (mT2 _ (List.mem_of_getElem? (i := 0) rfl)) rfl hname rfl (by decide +kernel) rfl rfl dX7_init_47 (fun H locs hN hS => ?_)
  have hN : bN D cI cS Z 0 K0 [39, 5, 6, 4, 132, 4, 132, 4, 108, 0, 4, 124, 4, 124, 4, 110, 2, 4, 164, 4, 164, 4, 164, 4, 164, 4, 164, 4, 164, 3, 15, 5, 6, 4, 132, 4, 132, 4, 108, 0, 4, 124, 4, 124, 4, 110, 2, 4, 164, 4, 164, 4, 164, 4, 164, 4, 164, 4, 164, 5, 6, 4, 132, 4, 132, 4, 108, 0, 4, 124, 4, 124, 4, 110, 2, 4, 164, 4, 164, 4, 164, 4, 164, 4, 164, 4, 164, 5, 6, 4, 132, 4, 132, 4, 108, 0, 4, 124, 4, 124, 4, 110, 2, 4, 164, 4, 164, 4, 164, 4, 164, 4, 164, 4, 164, 5, 6, 4, 132, 4, 132, 4, 108, 0, 4, 124, 4, 124, 4, 110, 2, 4, 164, 4, 164, 4, 164, 4, 164, 4, 164, 4, 164, 5, 6, 4, 132, 4, 132, 4, 108, 0, 4, 124, 4, 124, 4, 110, 2, 4, 164, 4, 164, 4, 164, 4, 164, 4, 164, 4, 164, 1, 4, 220, 0, 4, 124, 4, 124, 4, 124] s5 H := hN
  refine lv_aload_n hx hb dX7_init_50 rfl (lv_at hl 0 rfl) ?_
  refine mm_new (kd := 27) (ci := 4) (N := 1) hx hb hts hown hG hN hS inlX4 tyX4 tyX4_ok (mT1 _ (List.mem_of_getElem? (i := 21) rfl)) (mT1 _ (List.mem_of_getElem? (i := 22) rfl)) (mT1 _ (List.mem_of_getElem? (i := 23) rfl)) rfl 181 rfl rfl (fun j hj => by rcases (show j = 0 by omega) with rfl <;> rfl) (Nat.le_of_ble_eq_true rfl) (Nat.le_of_ble_eq_true rfl) dX7_init_51 (fun H hN hS => ?_)
  have hN : bN D cI cS Z 0 K0 [39, 5, 6, 4, 132, 4, 132, 4, 108, 0, 4, 124, 4, 124, 4, 110, 2, 4, 164, 4, 164, 4, 164, 4, 164, 4, 164, 4, 164, 3, 15, 5, 6, 4, 132, 4, 132, 4, 108, 0, 4, 124, 4, 124, 4, 110, 2, 4, 164, 4, 164, 4, 164, 4, 164, 4, 164, 4, 164, 5, 6, 4, 132, 4, 132, 4, 108, 0, 4, 124, 4, 124, 4, 110, 2, 4, 164, 4, 164, 4, 164, 4, 164, 4, 164, 4, 164, 5, 6, 4, 132, 4, 132, 4, 108, 0, 4, 124, 4, 124, 4, 110, 2, 4, 164, 4, 164, 4, 164, 4, 164, 4, 164, 4, 164, 5, 6, 4, 132, 4, 132, 4, 108, 0, 4, 124, 4, 124, 4, 110, 2, 4, 164, 4, 164, 4, 164, 4, 164, 4, 164, 4, 164, 5, 6, 4, 132, 4, 132, 4, 108, 0, 4, 124, 4, 124, 4, 110, 2, 4, 164, 4, 164, 4, 164, 4, 164, 4, 164, 4, 164, 1, 4, 220, 0, 4, 124, 4, 124, 4, 124, 27] s5 H := by rw [zx_le hzb (by omega)] at hN; exact hN
  refine lv_dup hx hb dX7_init_54 rfl ?_
  refine lv_bipush (v := 10) hx hb dX7_init_55 (by decide) ?_
  obtain ⟨K1, hK1⟩ := hN
  refine mm_bN hS (mm_runI (As := [.int (nI 10)]) (o := 181) (kd := 27) (mc := 1) (ms := 10) (n := 1) hx hb hml hts hown hG ⟨K1, hK1.1, ly_sub hK1.2.1 181 (by decide +kernel), fun _ _ => rfl⟩ hl.1 (c_X4_init l D cI cS Z K1 181 10 (by decide) s5 (zx_le hzb (by omega))) (mT6 _ (List.mem_of_getElem? (i := 2) rfl)) (mT3 _ (List.mem_of_getElem? (i := 4) rfl)) (mT1 _ (List.mem_of_getElem? (i := 23) rfl)) (mT3 _ (List.mem_of_getElem? (i := 5) rfl)) rfl (by decide +kernel) ⟨(Nat.le_of_ble_eq_true rfl), (Nat.le_of_ble_eq_true rfl)⟩ rfl rfl rfl rfl (Nat.le_of_ble_eq_true rfl) ⟨(Nat.le_of_ble_eq_true rfl), (Nat.le_of_ble_eq_true rfl)⟩ dX7_init_57) (fun σ1 H locs hp hN2 hS => ?_)
  rw [hp] at hN2
  have hN : bN D cI cS Z 0 K0 [39, 5, 6, 4, 132, 4, 132, 4, 108, 0, 4, 124, 4, 124, 4, 110, 2, 4, 164, 4, 164, 4, 164, 4, 164, 4, 164, 4, 164, 3, 15, 5, 6, 4, 132, 4, 132, 4, 108, 0, 4, 124, 4, 124, 4, 110, 2, 4, 164, 4, 164, 4, 164, 4, 164, 4, 164, 4, 164, 5, 6, 4, 132, 4, 132, 4, 108, 0, 4, 124, 4, 124, 4, 110, 2, 4, 164, 4, 164, 4, 164, 4, 164, 4, 164, 4, 164, 5, 6, 4, 132, 4, 132, 4, 108, 0, 4, 124, 4, 124, 4, 110, 2, 4, 164, 4, 164, 4, 164, 4, 164, 4, 164, 4, 164, 5, 6, 4, 132, 4, 132, 4, 108, 0, 4, 124, 4, 124, 4, 110, 2, 4, 164, 4, 164, 4, 164, 4, 164, 4, 164, 4, 164, 5, 6, 4, 132, 4, 132, 4, 108, 0, 4, 124, 4, 124, 4, 110, 2, 4, 164, 4, 164, 4, 164, 4, 164, 4, 164, 4, 164, 1, 4, 220, 0, 4, 124, 4, 124, 4, 124, 4, 110] s5 H := bN.join (A := [39, 5, 6, 4, 132, 4, 132, 4, 108, 0, 4, 124, 4, 124, 4, 110, 2, 4, 164, 4, 164, 4, 164, 4, 164, 4, 164, 4, 164, 3, 15, 5, 6, 4, 132, 4, 132, 4, 108, 0, 4, 124, 4, 124, 4, 110, 2, 4, 164, 4, 164, 4, 164, 4, 164, 4, 164, 4, 164, 5, 6, 4, 132, 4, 132, 4, 108, 0, 4, 124, 4, 124, 4, 110, 2, 4, 164, 4, 164, 4, 164, 4, 164, 4, 164, 4, 164, 5, 6, 4, 132, 4, 132, 4, 108, 0, 4, 124, 4, 124, 4, 110, 2, 4, 164, 4, 164, 4, 164, 4, 164, 4, 164, 4, 164, 5, 6, 4, 132, 4, 132, 4, 108, 0, 4, 124, 4, 124, 4, 110, 2, 4, 164, 4, 164, 4, 164, 4, 164, 4, 164, 4, 164, 5, 6, 4, 132, 4, 132, 4, 108, 0, 4, 124, 4, 124, 4, 110, 2, 4, 164, 4, 164, 4, 164, 4, 164, 4, 164, 4, 164, 1, 4, 220, 0, 4, 124, 4, 124, 4, 124]) ⟨hK1.1, hK1.2.1, hK1.2.2⟩ rfl hN2 rfl
  refine mm_putF (i := 0) (k1 := 39) (k2 := 7) (v := Z + 181) (ty := (.object "DobbyLoom$Numbers")) hx hb hts hown hG hN hS inlX7 tyX7 tyX7_ok nmX7 rfl rfl rfl (by decide) 4 (by decide) rfl rfl (Nat.le_of_ble_eq_true rfl) (mT2 _ (List.mem_of_getElem? (i := 1) rfl)) rfl hname rfl (by decide +kernel) rfl rfl dX7_init_60 (fun H locs hN hS => ?_)
  have hN : bN D cI cS Z 0 K0 [7, 5, 6, 4, 132, 4, 132, 4, 108, 0, 4, 124, 4, 124, 4, 110, 2, 4, 164, 4, 164, 4, 164, 4, 164, 4, 164, 4, 164, 3, 15, 5, 6, 4, 132, 4, 132, 4, 108, 0, 4, 124, 4, 124, 4, 110, 2, 4, 164, 4, 164, 4, 164, 4, 164, 4, 164, 4, 164, 5, 6, 4, 132, 4, 132, 4, 108, 0, 4, 124, 4, 124, 4, 110, 2, 4, 164, 4, 164, 4, 164, 4, 164, 4, 164, 4, 164, 5, 6, 4, 132, 4, 132, 4, 108, 0, 4, 124, 4, 124, 4, 110, 2, 4, 164, 4, 164, 4, 164, 4, 164, 4, 164, 4, 164, 5, 6, 4, 132, 4, 132, 4, 108, 0, 4, 124, 4, 124, 4, 110, 2, 4, 164, 4, 164, 4, 164, 4, 164, 4, 164, 4, 164, 5, 6, 4, 132, 4, 132, 4, 108, 0, 4, 124, 4, 124, 4, 110, 2, 4, 164, 4, 164, 4, 164, 4, 164, 4, 164, 4, 164, 1, 4, 220, 0, 4, 124, 4, 124, 4, 124, 4, 110] s5 H := hN
  exact mm_vretN (post := fun x => x = s5) hx hb hr hlocks rfl hN hS dX7_init_63
