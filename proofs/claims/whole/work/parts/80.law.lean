/-! part 30: the law (written by wip/whole/law.py) -/
/-! THE CLAIM OUT OF ONE WALK OF THE LAW'S BODY. Your part is whole_start (and what it stands on); all else here is the same for every law, but numbers. -/
def R_law : String := "DobbyLoomLaw"
def lw_P (b : Addr) (xs : List Int32) (args : Array Value) (s : State) : Prop := args = #[.ref b] ∧ s.IntsAt b xs ∧ xs.length ≤ 2048 ∧ (Jvm.Cond.and given_1 narrow_1).before args s = true
def lw_Q (_ : Array Value) (s : State) (o : Outcome) (t : State) : Prop := o = .returned (some (.int 1)) ∧ Framed s o t [] 600000 7302250
def lw_Z (below : List Frame) (a : Array Value) (s : State) : State → Prop := fun t => ∃ o, t.status = .running ∧ Ended t below o ∧ lw_Q a s o t
/-- the law's own end, with 1 on the stack, nothing written that was there before, its room as the claim has it -/
theorem lw_ret {p : Program} {l : Launch} {e : Env} {s : State} {m : MethodId} {below : List Frame} {meth : Method} {c : Code} {b : Nat} (hx : p.tables.exec = Jvm.exec) (hb : c.code = code) (hr : meth.sig.returnType = ret) (hlocks : meth.locks = false) {pc : Nat} {H : Heap} {ls : Array Slot} (hdg : decode code pc = .ok (.ireturn, 1)) : W p l e room_1 s m #[Value.ref b] below meth c H [] 600000 7302250 (lw_Z below #[Value.ref b] s) (F0 m pc ls [.int 1]) := by
  intro T hT X
  obtain ⟨fs, hret, hrun, hended, hW, hframe⟩ := X.leave (v := some (.int 1)) (hlocks := hlocks) (fun h => by rw [hr] at h; cases h)
  have hmeth' : T.vm.method? m = some meth := X.method'
  refine ⟨T.setFrames fs, ?_, .returned (some (.int 1)), hrun, hended, rfl, ⟨_, rfl⟩, hW, hframe⟩
  jvm_step X.here [X.here.top, hx, hb, hdg, hmeth', hr, ret, narrow_b1]
  (try refine ⟨rfl, ?_⟩); (try refine ⟨rfl, ?_⟩)
  first | (intro acts; rw [hret _ acts rfl rfl rfl]) | rw [hret _ _ rfl rfl rfl]
  exact Steps.refl _
/-- what holds at the law's entry: the machine, the code, the tables' words (any of lw_tbl by 'hts w (by decide +kernel)'), the script of L ints xs at the cell b, what the Statement gives of the start (any of its parts by flat_of_before) -/
def lw_At (p : Program) (s : State) (m : MethodId) (meth : Method) (c : Code) (b L : Nat) (xs : Nat → Int32) : Prop :=
  p.tables.exec = Jvm.exec ∧ c.code = code ∧ meth.sig.returnType = ret ∧ c.maxLocals = 4 ∧ s.vm.findClass R_law = some m.cls ∧ (∀ w ∈ lw_tbl, w.before #[Value.ref b] s = true) ∧ va_X b L xs s s.heap ∧ b < s.heap.size ∧ meth.locks = false ∧ (Jvm.Cond.and given_1 narrow_1).before #[Value.ref b] s = true

set_option maxRecDepth 20000 in
theorem tT1 : ∀ w ∈ wsL_law_r1, w ∈ lw_tbl := fun w h => (goodIn_p wsL_law_r1 [76, 79] (by decide +kernel) (by decide +kernel) w h).1
set_option maxRecDepth 20000 in
theorem tT2 : ∀ w ∈ wsL_law_r2, w ∈ lw_tbl := fun w h => (goodIn_p wsL_law_r2 [84] (by decide +kernel) (by decide +kernel) w h).1
set_option maxRecDepth 20000 in
theorem tT3 : ∀ w ∈ wsL_law_r3, w ∈ lw_tbl := fun w h => (goodIn_p wsL_law_r3 [90, 96, 100, 132] (by decide +kernel) (by decide +kernel) w h).1
set_option maxRecDepth 20000 in
theorem tT4 : ∀ w ∈ wsL_law_r4, w ∈ lw_tbl := fun w h => (goodIn_p wsL_law_r4 [168, 211, 215] (by decide +kernel) (by decide +kernel) w h).1
set_option maxRecDepth 20000 in
theorem tT5 : ∀ w ∈ wsL_law_r5, w ∈ lw_tbl := fun w h => (goodIn_p wsL_law_r5 [219, 223, 227, 250, 270] (by decide +kernel) (by decide +kernel) w h).1
set_option maxRecDepth 20000 in
theorem tT6 : ∀ w ∈ wsL_law_r6, w ∈ lw_tbl := fun w h => (goodIn_p wsL_law_r6 [723, 728] (by decide +kernel) (by decide +kernel) w h).1
set_option maxRecDepth 20000 in
theorem tT7 : ∀ w ∈ wsL_law_r7, w ∈ lw_tbl := fun w h => (goodIn_p wsL_law_r7 [322, 325, 329, 348, 333, 337] (by decide +kernel) (by decide +kernel) w h).1
set_option maxRecDepth 20000 in
theorem tT8 : ∀ w ∈ wsL_law_r8, w ∈ lw_tbl := fun w h => (goodIn_p wsL_law_r8 [341, 345, 355, 359] (by decide +kernel) (by decide +kernel) w h).1
set_option maxRecDepth 20000 in
theorem tT9 : ∀ w ∈ wsL_law_r9, w ∈ lw_tbl := fun w h => (goodIn_p wsL_law_r9 [365, 772, 775, 779, 372] (by decide +kernel) (by decide +kernel) w h).1
set_option maxRecDepth 20000 in
theorem tT10 : ∀ w ∈ wsL_law_r10, w ∈ lw_tbl := fun w h => (goodIn_p wsL_law_r10 [376, 381, 384, 388, 783] (by decide +kernel) (by decide +kernel) w h).1
set_option maxRecDepth 20000 in
theorem tT11 : ∀ w ∈ wsL_law_r11, w ∈ lw_tbl := fun w h => (goodIn_p wsL_law_r11 [787, 791, 794, 393, 798, 802] (by decide +kernel) (by decide +kernel) w h).1
set_option maxRecDepth 20000 in
theorem tT12 : ∀ w ∈ wsL_law_r12, w ∈ lw_tbl := fun w h => (goodIn_p wsL_law_r12 [397, 401, 405, 409, 806] (by decide +kernel) (by decide +kernel) w h).1
set_option maxRecDepth 20000 in
theorem tT13 : ∀ w ∈ wsL_law_r13, w ∈ lw_tbl := fun w h => (goodIn_p wsL_law_r13 [810, 814, 415, 419, 818, 822] (by decide +kernel) (by decide +kernel) w h).1
set_option maxRecDepth 20000 in
theorem tT14 : ∀ w ∈ wsL_law_r14, w ∈ lw_tbl := fun w h => (goodIn_p wsL_law_r14 [424, 826, 428, 830, 432] (by decide +kernel) (by decide +kernel) w h).1
set_option maxRecDepth 20000 in
theorem tT15 : ∀ w ∈ wsL_law_r15, w ∈ lw_tbl := fun w h => (goodIn_p wsL_law_r15 [834, 436, 440, 444, 838] (by decide +kernel) (by decide +kernel) w h).1
set_option maxRecDepth 20000 in
theorem tT16 : ∀ w ∈ wsL_law_r16, w ∈ lw_tbl := fun w h => (goodIn_p wsL_law_r16 [450, 842, 454, 458] (by decide +kernel) (by decide +kernel) w h).1
set_option maxRecDepth 20000 in
theorem tT17 : ∀ w ∈ wsL_law_r17, w ∈ lw_tbl := fun w h => (goodIn_p wsL_law_r17 [463, 467, 471, 475, 480] (by decide +kernel) (by decide +kernel) w h).1
set_option maxRecDepth 20000 in
theorem tT18 : ∀ w ∈ wsL_law_r18, w ∈ lw_tbl := fun w h => (goodIn_p wsL_law_r18 [484, 489, 493, 498, 502, 507] (by decide +kernel) (by decide +kernel) w h).1
set_option maxRecDepth 20000 in
theorem tT19 : ∀ w ∈ wsL_law_r19, w ∈ lw_tbl := fun w h => (goodIn_p wsL_law_r19 [511, 846, 850, 854, 858] (by decide +kernel) (by decide +kernel) w h).1
set_option maxRecDepth 20000 in
theorem tT20 : ∀ w ∈ wsL_law_r20, w ∈ lw_tbl := fun w h => (goodIn_p wsL_law_r20 [862, 866, 870, 874, 878, 882] (by decide +kernel) (by decide +kernel) w h).1
set_option maxRecDepth 20000 in
theorem tT21 : ∀ w ∈ wsL_law_r21, w ∈ lw_tbl := fun w h => (goodIn_p wsL_law_r21 [518, 522, 527, 531] (by decide +kernel) (by decide +kernel) w h).1
set_option maxRecDepth 20000 in
theorem tT22 : ∀ w ∈ wsL_law_r22, w ∈ lw_tbl := fun w h => (goodIn_p wsL_law_r22 [537, 541, 545, 549, 554] (by decide +kernel) (by decide +kernel) w h).1
set_option maxRecDepth 20000 in
theorem tT23 : ∀ w ∈ wsL_law_r23, w ∈ lw_tbl := fun w h => (goodIn_p wsL_law_r23 [558, 562, 566, 886, 890, 894] (by decide +kernel) (by decide +kernel) w h).1
set_option maxRecDepth 20000 in
theorem tT24 : ∀ w ∈ wsL_law_r24, w ∈ lw_tbl := fun w h => (goodIn_p wsL_law_r24 [898, 902, 906, 910, 913, 917] (by decide +kernel) (by decide +kernel) w h).1
set_option maxRecDepth 20000 in
theorem tT25 : ∀ w ∈ wsL_law_r25, w ∈ lw_tbl := fun w h => (goodIn_p wsL_law_r25 [921, 925, 929, 570, 574, 578] (by decide +kernel) (by decide +kernel) w h).1
set_option maxRecDepth 20000 in
theorem tT26 : ∀ w ∈ wsL_law_r26, w ∈ lw_tbl := fun w h => (goodIn_p wsL_law_r26 [933, 937, 582, 941, 586, 590] (by decide +kernel) (by decide +kernel) w h).1
set_option maxRecDepth 20000 in
theorem tT27 : ∀ w ∈ wsL_law_r27, w ∈ lw_tbl := fun w h => (goodIn_p wsL_law_r27 [945, 594, 598, 602, 605] (by decide +kernel) (by decide +kernel) w h).1
set_option maxRecDepth 20000 in
theorem tT28 : ∀ w ∈ wsL_law_r28, w ∈ lw_tbl := fun w h => (goodIn_p wsL_law_r28 [949, 953, 957, 960, 612, 616] (by decide +kernel) (by decide +kernel) w h).1
set_option maxRecDepth 20000 in
theorem tT29 : ∀ w ∈ wsL_law_r29, w ∈ lw_tbl := fun w h => (goodIn_p wsL_law_r29 [621, 625, 629, 633, 637, 964] (by decide +kernel) (by decide +kernel) w h).1
set_option maxRecDepth 20000 in
theorem tT30 : ∀ w ∈ wsL_law_r30, w ∈ lw_tbl := fun w h => (goodIn_p wsL_law_r30 [968, 972, 976, 980, 984] (by decide +kernel) (by decide +kernel) w h).1
set_option maxRecDepth 20000 in
theorem tT31 : ∀ w ∈ wsL_law_r31, w ∈ lw_tbl := fun w h => (goodIn_p wsL_law_r31 [642, 647, 988, 992, 655] (by decide +kernel) (by decide +kernel) w h).1
set_option maxRecDepth 20000 in
theorem tT32 : ∀ w ∈ wsL_law_r32, w ∈ lw_tbl := fun w h => (goodIn_p wsL_law_r32 [996, 659, 663, 1000] (by decide +kernel) (by decide +kernel) w h).1
set_option maxRecDepth 20000 in
theorem tT33 : ∀ w ∈ wsL_law_r33, w ∈ lw_tbl := fun w h => (goodIn_p wsL_law_r33 [1004, 670, 675, 1008, 680] (by decide +kernel) (by decide +kernel) w h).1
set_option maxRecDepth 20000 in
theorem tT34 : ∀ w ∈ wsL_law_r34, w ∈ lw_tbl := fun w h => (goodIn_p wsL_law_r34 [684, 1012, 688, 692, 696, 1016] (by decide +kernel) (by decide +kernel) w h).1
set_option maxRecDepth 20000 in
theorem tT35 : ∀ w ∈ wsL_law_r35, w ∈ lw_tbl := fun w h => (goodIn_p wsL_law_r35 [1020, 1024, 700, 704, 1028, 708] (by decide +kernel) (by decide +kernel) w h).1
set_option maxRecDepth 20000 in
theorem tT36 : ∀ w ∈ wsL_law_r36, w ∈ lw_tbl := fun w h => (goodIn_p wsL_law_r36 [712, 1032, 718, 1036] (by decide +kernel) (by decide +kernel) w h).1
set_option maxRecDepth 20000 in
theorem tTX7 : ∀ w ∈ wsX70, w ∈ lw_tbl := by decide +kernel
set_option maxRecDepth 20000 in
theorem tTX8 : ∀ w ∈ wsX80, w ∈ lw_tbl := by decide +kernel
set_option maxRecDepth 20000 in
theorem tTX5 : ∀ w ∈ wsX50, w ∈ lw_tbl := by decide +kernel
set_option maxRecDepth 20000 in
theorem tTX3 : ∀ w ∈ wsX30, w ∈ lw_tbl := by decide +kernel
set_option maxRecDepth 20000 in
theorem tTX1 : ∀ w ∈ wsX10, w ∈ lw_tbl := by decide +kernel
set_option maxRecDepth 20000 in
theorem tTX4 : ∀ w ∈ wsX40, w ∈ lw_tbl := by decide +kernel
set_option maxRecDepth 20000 in
theorem tTX6 : ∀ w ∈ wsX60, w ∈ lw_tbl := by decide +kernel
set_option maxRecDepth 20000 in
theorem tTX0 : ∀ w ∈ wsX00, w ∈ lw_tbl := by decide +kernel
set_option maxRecDepth 20000 in
theorem tTX2 : ∀ w ∈ wsX20, w ∈ lw_tbl := by decide +kernel
theorem wsL_law_in : ∀ w ∈ wsL_law, w ∈ lw_tbl := List.forall_mem_append.mpr ⟨List.forall_mem_append.mpr ⟨List.forall_mem_append.mpr ⟨List.forall_mem_append.mpr ⟨List.forall_mem_append.mpr ⟨List.forall_mem_append.mpr ⟨List.forall_mem_append.mpr ⟨List.forall_mem_append.mpr ⟨List.forall_mem_append.mpr ⟨List.forall_mem_append.mpr ⟨List.forall_mem_append.mpr ⟨tT1, List.forall_mem_append.mpr ⟨tT2, List.forall_mem_append.mpr ⟨tT3, List.forall_mem_append.mpr ⟨tT4, List.forall_mem_append.mpr ⟨tT5, List.forall_mem_append.mpr ⟨tT6, List.forall_mem_append.mpr ⟨tT7, List.forall_mem_append.mpr ⟨tT8, List.forall_mem_append.mpr ⟨tT9, List.forall_mem_append.mpr ⟨tT10, List.forall_mem_append.mpr ⟨tT11, List.forall_mem_append.mpr ⟨tT12, List.forall_mem_append.mpr ⟨tT13, List.forall_mem_append.mpr ⟨tT14, List.forall_mem_append.mpr ⟨tT15, List.forall_mem_append.mpr ⟨tT16, List.forall_mem_append.mpr ⟨tT17, List.forall_mem_append.mpr ⟨tT18, List.forall_mem_append.mpr ⟨tT19, List.forall_mem_append.mpr ⟨tT20, List.forall_mem_append.mpr ⟨tT21, List.forall_mem_append.mpr ⟨tT22, List.forall_mem_append.mpr ⟨tT23, List.forall_mem_append.mpr ⟨tT24, List.forall_mem_append.mpr ⟨tT25, List.forall_mem_append.mpr ⟨tT26, List.forall_mem_append.mpr ⟨tT27, List.forall_mem_append.mpr ⟨tT28, List.forall_mem_append.mpr ⟨tT29, List.forall_mem_append.mpr ⟨tT30, List.forall_mem_append.mpr ⟨tT31, List.forall_mem_append.mpr ⟨tT32, List.forall_mem_append.mpr ⟨tT33, List.forall_mem_append.mpr ⟨tT34, List.forall_mem_append.mpr ⟨tT35, tT36⟩⟩⟩⟩⟩⟩⟩⟩⟩⟩⟩⟩⟩⟩⟩⟩⟩⟩⟩⟩⟩⟩⟩⟩⟩⟩⟩⟩⟩⟩⟩⟩⟩⟩⟩, tTX7⟩, tTX8⟩, tTX5⟩, tTX3⟩, tTX1⟩, tTX4⟩, tTX6⟩, tTX0⟩, tTX2⟩, fun _ h => absurd h List.not_mem_nil⟩
theorem nW0 : Cond.methodLinkNest RX5 11 yX6_init RX7 ∈ lw_tbl := by decide +kernel
theorem nW1 : Cond.methodLinkNest RX5 20 yX0_init RX7 ∈ lw_tbl := by decide +kernel
theorem nW2 : Cond.methodLinkNest RX5 36 yX2_init RX7 ∈ lw_tbl := by decide +kernel
theorem nW3 : Cond.methodLinkNest RX7 25 yX1_init RX7 ∈ lw_tbl := by decide +kernel
theorem nW4 : Cond.methodLinkNest RX1 22 yX0_init RX7 ∈ lw_tbl := by decide +kernel
theorem nW5 : Cond.methodLinkNest RX6 44 yX7_isBetween RX7 ∈ lw_tbl := by decide +kernel
theorem nW6 : Cond.methodLinkNest RX0 41 yX7_isBetween RX7 ∈ lw_tbl := by decide +kernel
theorem nW7 : Cond.methodLinkNest RX1 101 yX7_isBetween RX7 ∈ lw_tbl := by decide +kernel
theorem nW8 : Cond.methodLinkNest RX6 52 yX7_bitOf RX7 ∈ lw_tbl := by decide +kernel
theorem nW9 : Cond.methodLinkNest RX5 114 yX7_bitOf RX7 ∈ lw_tbl := by decide +kernel
theorem nW10 : Cond.methodLinkNest RX2 59 yX7_bitOf RX7 ∈ lw_tbl := by decide +kernel
theorem nW11 : Cond.methodLinkNest RX2 43 yX7_isBetween RX7 ∈ lw_tbl := by decide +kernel
theorem nsL_in : ∀ q ∈ nsL, Cond.methodLinkNest q.1 q.2.1 q.2.2.1 q.2.2.2 ∈ lw_tbl := List.forall_mem_cons.mpr ⟨nW0, List.forall_mem_cons.mpr ⟨nW1, List.forall_mem_cons.mpr ⟨nW2, List.forall_mem_cons.mpr ⟨nW3, List.forall_mem_cons.mpr ⟨nW4, List.forall_mem_cons.mpr ⟨nW5, List.forall_mem_cons.mpr ⟨nW6, List.forall_mem_cons.mpr ⟨nW7, List.forall_mem_cons.mpr ⟨nW8, List.forall_mem_cons.mpr ⟨nW9, List.forall_mem_cons.mpr ⟨nW10, List.forall_mem_cons.mpr ⟨nW11, fun _ h => absurd h List.not_mem_nil⟩⟩⟩⟩⟩⟩⟩⟩⟩⟩⟩⟩
theorem aO_in : Cond.arrayOver (.object "DobbyLoom$State") ∈ lw_tbl := by decide +kernel
section RW
variable {p : Program} {l : Launch} {e : Env} {R : Room} {s : State} {m : MethodId} {args : Array Value} {below : List Frame} {meth : Method} {c : Code} {H H0 : Heap} {locs : List Loc} {cells slots : Nat} {Q : State → Prop} {cc : ByteArray} {pc : Nat} {ls : Array Slot} {rest : List Value} {D : va_G} {cI cS : ClassId} {Z : Nat} {K : Nat → Nat} {σ : Nat → Nat → Int32}
theorem kL_13 (hx : p.tables.exec = Jvm.exec) (hb : c.code = cc) {nL : Nat} (hml : c.maxLocals = nL) (hts : ∀ w ∈ wsL_law, w.before args s = true) (hown : s.vm.findClass RL = some m.cls) (hG : gK D cI cS s) (hI : fI D cI cS Z K σ H) (hS : va_S (aZ Z) H0 H locs) (hsz : ls.size = nL) {o : Nat} (hL : ly K o lyLoom) {As : List Value} {r : Int32} {σ' : Nat → Nat → Int32} (hM : Met l yX7_setLoom (wsT yX7_setLoom cX7_setLoom 4 (some .int)) { frames := 6, cells := 0, slots := 0, locals := 146 } (Pm D cI cS Z K (.ref (Z + o) :: As) σ) (Qi D cI cS Z K r σ') 0 0 (aZ Z)) (hR : 7 ≤ R.frames ∧ 169 ≤ R.locals) (hn : As.length = 2) (hcat : (rest.map fun v => v.category).sum ≤ 8) (hf : cells ≤ R.cells ∧ slots ≤ R.slots) (hdg : decode cc pc = .ok (.invokevirtual 13, 3)) (kk : ∀ (H1 : Heap) (locs1 : List Loc), fI D cI cS Z K σ' H1 → va_S (aZ Z) H0 H1 locs1 → W p l e R s m args below meth c H1 locs1 cells slots Q (F0 m (pc + 3) ls (.int r :: rest))) : W p l e R s m args below meth c H locs cells slots Q (F0 m pc ls (As.reverse ++ .ref (Z + o) :: rest)) := mm_bi hS (mm_runV hx hb hml hts hown hG hI hsz hM (ly_at hL 0 rfl) (by decide) rfl rfl (mT6 _ (List.mem_of_getElem? (i := 21) rfl)) (mT6 _ (List.mem_of_getElem? (i := 22) rfl)) (mT6 _ (List.mem_of_getElem? (i := 23) rfl)) (mT1 _ (List.mem_of_getElem? (i := 2) rfl)) (mT7 _ (List.mem_of_getElem? (i := 0) rfl)) (by decide +kernel) hR rfl rfl hn rfl hcat hf hdg) kk
theorem kL_17 (hx : p.tables.exec = Jvm.exec) (hb : c.code = cc) {nL : Nat} (hml : c.maxLocals = nL) (hts : ∀ w ∈ wsL_law, w.before args s = true) (hown : s.vm.findClass RL = some m.cls) (hG : gK D cI cS s) (hI : fI D cI cS Z K σ H) (hS : va_S (aZ Z) H0 H locs) (hsz : ls.size = nL) {o : Nat} (hL : ly K o lyModel) {As : List Value} {r : Int32} {σ' : Nat → Nat → Int32} (hM : Met l yX8_setLoom (wsT yX8_setLoom cX8_setLoom 4 (some .int)) { frames := 1, cells := 0, slots := 0, locals := 23 } (Pm D cI cS Z K (.ref (Z + o) :: As) σ) (Qi D cI cS Z K r σ') 0 0 (aZ Z)) (hR : 2 ≤ R.frames ∧ 46 ≤ R.locals) (hn : As.length = 2) (hcat : (rest.map fun v => v.category).sum ≤ 8) (hf : cells ≤ R.cells ∧ slots ≤ R.slots) (hdg : decode cc pc = .ok (.invokevirtual 17, 3)) (kk : ∀ (H1 : Heap) (locs1 : List Loc), fI D cI cS Z K σ' H1 → va_S (aZ Z) H0 H1 locs1 → W p l e R s m args below meth c H1 locs1 cells slots Q (F0 m (pc + 3) ls (.int r :: rest))) : W p l e R s m args below meth c H locs cells slots Q (F0 m pc ls (As.reverse ++ .ref (Z + o) :: rest)) := mm_bi hS (mm_runV hx hb hml hts hown hG hI hsz hM (ly_at hL 0 rfl) (by decide) rfl rfl (mT9 _ (List.mem_of_getElem? (i := 6) rfl)) (mT9 _ (List.mem_of_getElem? (i := 7) rfl)) (mT9 _ (List.mem_of_getElem? (i := 8) rfl)) (mT1 _ (List.mem_of_getElem? (i := 5) rfl)) (mT9 _ (List.mem_of_getElem? (i := 9) rfl)) (by decide +kernel) hR rfl rfl hn rfl hcat hf hdg) kk
theorem kL_18 (hx : p.tables.exec = Jvm.exec) (hb : c.code = cc) {nL : Nat} (hml : c.maxLocals = nL) (hts : ∀ w ∈ wsL_law, w.before args s = true) (hown : s.vm.findClass RL = some m.cls) (hG : gK D cI cS s) (hI : fI D cI cS Z K σ H) (hS : va_S (aZ Z) H0 H locs) (hsz : ls.size = nL) {o : Nat} (hL : ly K o lyLoom) {As : List Value} {r : Int32} {σ' : Nat → Nat → Int32} (hM : Met l yX7_setEnd (wsT yX7_setEnd cX7_setEnd 6 (some .int)) { frames := 6, cells := 0, slots := 0, locals := 146 } (Pm D cI cS Z K (.ref (Z + o) :: As) σ) (Qi D cI cS Z K r σ') 0 0 (aZ Z)) (hR : 7 ≤ R.frames ∧ 171 ≤ R.locals) (hn : As.length = 3) (hcat : (rest.map fun v => v.category).sum ≤ 8) (hf : cells ≤ R.cells ∧ slots ≤ R.slots) (hdg : decode cc pc = .ok (.invokevirtual 18, 3)) (kk : ∀ (H1 : Heap) (locs1 : List Loc), fI D cI cS Z K σ' H1 → va_S (aZ Z) H0 H1 locs1 → W p l e R s m args below meth c H1 locs1 cells slots Q (F0 m (pc + 3) ls (.int r :: rest))) : W p l e R s m args below meth c H locs cells slots Q (F0 m pc ls (As.reverse ++ .ref (Z + o) :: rest)) := mm_bi hS (mm_runV hx hb hml hts hown hG hI hsz hM (ly_at hL 0 rfl) (by decide) rfl rfl (mT9 _ (List.mem_of_getElem? (i := 18) rfl)) (mT9 _ (List.mem_of_getElem? (i := 19) rfl)) (mT9 _ (List.mem_of_getElem? (i := 20) rfl)) (mT1 _ (List.mem_of_getElem? (i := 2) rfl)) (mT9 _ (List.mem_of_getElem? (i := 21) rfl)) (by decide +kernel) hR rfl rfl hn rfl hcat hf hdg) kk
theorem kL_22 (hx : p.tables.exec = Jvm.exec) (hb : c.code = cc) {nL : Nat} (hml : c.maxLocals = nL) (hts : ∀ w ∈ wsL_law, w.before args s = true) (hown : s.vm.findClass RL = some m.cls) (hG : gK D cI cS s) (hI : fI D cI cS Z K σ H) (hS : va_S (aZ Z) H0 H locs) (hsz : ls.size = nL) {o : Nat} (hL : ly K o lyModel) {As : List Value} {r : Int32} {σ' : Nat → Nat → Int32} (hM : Met l yX8_setEnd (wsT yX8_setEnd cX8_setEnd 5 (some .int)) { frames := 2, cells := 0, slots := 0, locals := 43 } (Pm D cI cS Z K (.ref (Z + o) :: As) σ) (Qi D cI cS Z K r σ') 0 0 (aZ Z)) (hR : 3 ≤ R.frames ∧ 67 ≤ R.locals) (hn : As.length = 3) (hcat : (rest.map fun v => v.category).sum ≤ 8) (hf : cells ≤ R.cells ∧ slots ≤ R.slots) (hdg : decode cc pc = .ok (.invokevirtual 22, 3)) (kk : ∀ (H1 : Heap) (locs1 : List Loc), fI D cI cS Z K σ' H1 → va_S (aZ Z) H0 H1 locs1 → W p l e R s m args below meth c H1 locs1 cells slots Q (F0 m (pc + 3) ls (.int r :: rest))) : W p l e R s m args below meth c H locs cells slots Q (F0 m pc ls (As.reverse ++ .ref (Z + o) :: rest)) := mm_bi hS (mm_runV hx hb hml hts hown hG hI hsz hM (ly_at hL 0 rfl) (by decide) rfl rfl (mT10 _ (List.mem_of_getElem? (i := 17) rfl)) (mT10 _ (List.mem_of_getElem? (i := 18) rfl)) (mT10 _ (List.mem_of_getElem? (i := 19) rfl)) (mT1 _ (List.mem_of_getElem? (i := 5) rfl)) (mT10 _ (List.mem_of_getElem? (i := 20) rfl)) (by decide +kernel) hR rfl rfl hn rfl hcat hf hdg) kk
theorem kL_23 (hx : p.tables.exec = Jvm.exec) (hb : c.code = cc) {nL : Nat} (hml : c.maxLocals = nL) (hts : ∀ w ∈ wsL_law, w.before args s = true) (hown : s.vm.findClass RL = some m.cls) (hG : gK D cI cS s) (hI : fI D cI cS Z K σ H) (hS : va_S (aZ Z) H0 H locs) (hsz : ls.size = nL) {o : Nat} (hL : ly K o lyLoom) {As : List Value} {r : Int32} {σ' : Nat → Nat → Int32} (hM : Met l yX7_setFault (wsT yX7_setFault cX7_setFault 4 (some .int)) { frames := 6, cells := 0, slots := 0, locals := 146 } (Pm D cI cS Z K (.ref (Z + o) :: As) σ) (Qi D cI cS Z K r σ') 0 0 (aZ Z)) (hR : 7 ≤ R.frames ∧ 169 ≤ R.locals) (hn : As.length = 2) (hcat : (rest.map fun v => v.category).sum ≤ 8) (hf : cells ≤ R.cells ∧ slots ≤ R.slots) (hdg : decode cc pc = .ok (.invokevirtual 23, 3)) (kk : ∀ (H1 : Heap) (locs1 : List Loc), fI D cI cS Z K σ' H1 → va_S (aZ Z) H0 H1 locs1 → W p l e R s m args below meth c H1 locs1 cells slots Q (F0 m (pc + 3) ls (.int r :: rest))) : W p l e R s m args below meth c H locs cells slots Q (F0 m pc ls (As.reverse ++ .ref (Z + o) :: rest)) := mm_bi hS (mm_runV hx hb hml hts hown hG hI hsz hM (ly_at hL 0 rfl) (by decide) rfl rfl (mT11 _ (List.mem_of_getElem? (i := 8) rfl)) (mT11 _ (List.mem_of_getElem? (i := 9) rfl)) (mT11 _ (List.mem_of_getElem? (i := 10) rfl)) (mT1 _ (List.mem_of_getElem? (i := 2) rfl)) (mT11 _ (List.mem_of_getElem? (i := 11) rfl)) (by decide +kernel) hR rfl rfl hn rfl hcat hf hdg) kk
theorem kL_26 (hx : p.tables.exec = Jvm.exec) (hb : c.code = cc) {nL : Nat} (hml : c.maxLocals = nL) (hts : ∀ w ∈ wsL_law, w.before args s = true) (hown : s.vm.findClass RL = some m.cls) (hG : gK D cI cS s) (hI : fI D cI cS Z K σ H) (hS : va_S (aZ Z) H0 H locs) (hsz : ls.size = nL) {o : Nat} (hL : ly K o lyModel) {As : List Value} {r : Int32} {σ' : Nat → Nat → Int32} (hM : Met l yX8_setFault (wsT yX8_setFault cX8_setFault 3 (some .int)) { frames := 2, cells := 0, slots := 0, locals := 44 } (Pm D cI cS Z K (.ref (Z + o) :: As) σ) (Qi D cI cS Z K r σ') 0 0 (aZ Z)) (hR : 3 ≤ R.frames ∧ 66 ≤ R.locals) (hn : As.length = 2) (hcat : (rest.map fun v => v.category).sum ≤ 8) (hf : cells ≤ R.cells ∧ slots ≤ R.slots) (hdg : decode cc pc = .ok (.invokevirtual 26, 3)) (kk : ∀ (H1 : Heap) (locs1 : List Loc), fI D cI cS Z K σ' H1 → va_S (aZ Z) H0 H1 locs1 → W p l e R s m args below meth c H1 locs1 cells slots Q (F0 m (pc + 3) ls (.int r :: rest))) : W p l e R s m args below meth c H locs cells slots Q (F0 m pc ls (As.reverse ++ .ref (Z + o) :: rest)) := mm_bi hS (mm_runV hx hb hml hts hown hG hI hsz hM (ly_at hL 0 rfl) (by decide) rfl rfl (mT11 _ (List.mem_of_getElem? (i := 13) rfl)) (mT11 _ (List.mem_of_getElem? (i := 14) rfl)) (mT11 _ (List.mem_of_getElem? (i := 15) rfl)) (mT1 _ (List.mem_of_getElem? (i := 5) rfl)) (mT11 _ (List.mem_of_getElem? (i := 16) rfl)) (by decide +kernel) hR rfl rfl hn rfl hcat hf hdg) kk
theorem kL_27 (hx : p.tables.exec = Jvm.exec) (hb : c.code = cc) {nL : Nat} (hml : c.maxLocals = nL) (hts : ∀ w ∈ wsL_law, w.before args s = true) (hown : s.vm.findClass RL = some m.cls) (hG : gK D cI cS s) (hI : fI D cI cS Z K σ H) (hS : va_S (aZ Z) H0 H locs) (hsz : ls.size = nL) {o : Nat} (hL : ly K o lyLoom) {As : List Value} {r : Int32} {σ' : Nat → Nat → Int32} (hM : Met l yX7_addBar (wsT yX7_addBar cX7_addBar 3 (some .int)) { frames := 6, cells := 0, slots := 0, locals := 146 } (Pm D cI cS Z K (.ref (Z + o) :: As) σ) (Qi D cI cS Z K r σ') 0 0 (aZ Z)) (hR : 7 ≤ R.frames ∧ 168 ≤ R.locals) (hn : As.length = 2) (hcat : (rest.map fun v => v.category).sum ≤ 8) (hf : cells ≤ R.cells ∧ slots ≤ R.slots) (hdg : decode cc pc = .ok (.invokevirtual 27, 3)) (kk : ∀ (H1 : Heap) (locs1 : List Loc), fI D cI cS Z K σ' H1 → va_S (aZ Z) H0 H1 locs1 → W p l e R s m args below meth c H1 locs1 cells slots Q (F0 m (pc + 3) ls (.int r :: rest))) : W p l e R s m args below meth c H locs cells slots Q (F0 m pc ls (As.reverse ++ .ref (Z + o) :: rest)) := mm_bi hS (mm_runV hx hb hml hts hown hG hI hsz hM (ly_at hL 0 rfl) (by decide) rfl rfl (mT11 _ (List.mem_of_getElem? (i := 21) rfl)) (mT11 _ (List.mem_of_getElem? (i := 22) rfl)) (mT11 _ (List.mem_of_getElem? (i := 23) rfl)) (mT1 _ (List.mem_of_getElem? (i := 2) rfl)) (mT12 _ (List.mem_of_getElem? (i := 0) rfl)) (by decide +kernel) hR rfl rfl hn rfl hcat hf hdg) kk
theorem kL_30 (hx : p.tables.exec = Jvm.exec) (hb : c.code = cc) {nL : Nat} (hml : c.maxLocals = nL) (hts : ∀ w ∈ wsL_law, w.before args s = true) (hown : s.vm.findClass RL = some m.cls) (hG : gK D cI cS s) (hI : fI D cI cS Z K σ H) (hS : va_S (aZ Z) H0 H locs) (hsz : ls.size = nL) {o : Nat} (hL : ly K o lyModel) {As : List Value} {r : Int32} {σ' : Nat → Nat → Int32} (hM : Met l yX8_addBar (wsT yX8_addBar cX8_addBar 3 (some .int)) { frames := 2, cells := 0, slots := 0, locals := 43 } (Pm D cI cS Z K (.ref (Z + o) :: As) σ) (Qi D cI cS Z K r σ') 0 0 (aZ Z)) (hR : 3 ≤ R.frames ∧ 65 ≤ R.locals) (hn : As.length = 2) (hcat : (rest.map fun v => v.category).sum ≤ 8) (hf : cells ≤ R.cells ∧ slots ≤ R.slots) (hdg : decode cc pc = .ok (.invokevirtual 30, 3)) (kk : ∀ (H1 : Heap) (locs1 : List Loc), fI D cI cS Z K σ' H1 → va_S (aZ Z) H0 H1 locs1 → W p l e R s m args below meth c H1 locs1 cells slots Q (F0 m (pc + 3) ls (.int r :: rest))) : W p l e R s m args below meth c H locs cells slots Q (F0 m pc ls (As.reverse ++ .ref (Z + o) :: rest)) := mm_bi hS (mm_runV hx hb hml hts hown hG hI hsz hM (ly_at hL 0 rfl) (by decide) rfl rfl (mT12 _ (List.mem_of_getElem? (i := 17) rfl)) (mT12 _ (List.mem_of_getElem? (i := 18) rfl)) (mT12 _ (List.mem_of_getElem? (i := 19) rfl)) (mT1 _ (List.mem_of_getElem? (i := 5) rfl)) (mT12 _ (List.mem_of_getElem? (i := 20) rfl)) (by decide +kernel) hR rfl rfl hn rfl hcat hf hdg) kk
theorem kL_31 (hx : p.tables.exec = Jvm.exec) (hb : c.code = cc) {nL : Nat} (hml : c.maxLocals = nL) (hts : ∀ w ∈ wsL_law, w.before args s = true) (hown : s.vm.findClass RL = some m.cls) (hG : gK D cI cS s) (hI : fI D cI cS Z K σ H) (hS : va_S (aZ Z) H0 H locs) (hsz : ls.size = nL) {o : Nat} (hL : ly K o lyLoom) {As : List Value} {r : Int32} {σ' : Nat → Nat → Int32} (hM : Met l yX7_setBar (wsT yX7_setBar cX7_setBar 6 (some .int)) { frames := 6, cells := 0, slots := 0, locals := 146 } (Pm D cI cS Z K (.ref (Z + o) :: As) σ) (Qi D cI cS Z K r σ') 0 0 (aZ Z)) (hR : 7 ≤ R.frames ∧ 171 ≤ R.locals) (hn : As.length = 3) (hcat : (rest.map fun v => v.category).sum ≤ 8) (hf : cells ≤ R.cells ∧ slots ≤ R.slots) (hdg : decode cc pc = .ok (.invokevirtual 31, 3)) (kk : ∀ (H1 : Heap) (locs1 : List Loc), fI D cI cS Z K σ' H1 → va_S (aZ Z) H0 H1 locs1 → W p l e R s m args below meth c H1 locs1 cells slots Q (F0 m (pc + 3) ls (.int r :: rest))) : W p l e R s m args below meth c H locs cells slots Q (F0 m pc ls (As.reverse ++ .ref (Z + o) :: rest)) := mm_bi hS (mm_runV hx hb hml hts hown hG hI hsz hM (ly_at hL 0 rfl) (by decide) rfl rfl (mT13 _ (List.mem_of_getElem? (i := 5) rfl)) (mT13 _ (List.mem_of_getElem? (i := 6) rfl)) (mT13 _ (List.mem_of_getElem? (i := 7) rfl)) (mT1 _ (List.mem_of_getElem? (i := 2) rfl)) (mT13 _ (List.mem_of_getElem? (i := 8) rfl)) (by decide +kernel) hR rfl rfl hn rfl hcat hf hdg) kk
theorem kL_34 (hx : p.tables.exec = Jvm.exec) (hb : c.code = cc) {nL : Nat} (hml : c.maxLocals = nL) (hts : ∀ w ∈ wsL_law, w.before args s = true) (hown : s.vm.findClass RL = some m.cls) (hG : gK D cI cS s) (hI : fI D cI cS Z K σ H) (hS : va_S (aZ Z) H0 H locs) (hsz : ls.size = nL) {o : Nat} (hL : ly K o lyModel) {As : List Value} {r : Int32} {σ' : Nat → Nat → Int32} (hM : Met l yX8_setBar (wsT yX8_setBar cX8_setBar 5 (some .int)) { frames := 2, cells := 0, slots := 0, locals := 43 } (Pm D cI cS Z K (.ref (Z + o) :: As) σ) (Qi D cI cS Z K r σ') 0 0 (aZ Z)) (hR : 3 ≤ R.frames ∧ 67 ≤ R.locals) (hn : As.length = 3) (hcat : (rest.map fun v => v.category).sum ≤ 8) (hf : cells ≤ R.cells ∧ slots ≤ R.slots) (hdg : decode cc pc = .ok (.invokevirtual 34, 3)) (kk : ∀ (H1 : Heap) (locs1 : List Loc), fI D cI cS Z K σ' H1 → va_S (aZ Z) H0 H1 locs1 → W p l e R s m args below meth c H1 locs1 cells slots Q (F0 m (pc + 3) ls (.int r :: rest))) : W p l e R s m args below meth c H locs cells slots Q (F0 m pc ls (As.reverse ++ .ref (Z + o) :: rest)) := mm_bi hS (mm_runV hx hb hml hts hown hG hI hsz hM (ly_at hL 0 rfl) (by decide) rfl rfl (mT13 _ (List.mem_of_getElem? (i := 15) rfl)) (mT13 _ (List.mem_of_getElem? (i := 16) rfl)) (mT13 _ (List.mem_of_getElem? (i := 17) rfl)) (mT1 _ (List.mem_of_getElem? (i := 5) rfl)) (mT13 _ (List.mem_of_getElem? (i := 18) rfl)) (by decide +kernel) hR rfl rfl hn rfl hcat hf hdg) kk
theorem kL_35 (hx : p.tables.exec = Jvm.exec) (hb : c.code = cc) {nL : Nat} (hml : c.maxLocals = nL) (hts : ∀ w ∈ wsL_law, w.before args s = true) (hown : s.vm.findClass RL = some m.cls) (hG : gK D cI cS s) (hI : fI D cI cS Z K σ H) (hS : va_S (aZ Z) H0 H locs) (hsz : ls.size = nL) {o : Nat} (hL : ly K o lyLoom) {As : List Value} {r : Int32} {σ' : Nat → Nat → Int32} (hM : Met l yX7_setDirection (wsT yX7_setDirection cX7_setDirection 3 (some .int)) { frames := 6, cells := 0, slots := 0, locals := 146 } (Pm D cI cS Z K (.ref (Z + o) :: As) σ) (Qi D cI cS Z K r σ') 0 0 (aZ Z)) (hR : 7 ≤ R.frames ∧ 168 ≤ R.locals) (hn : As.length = 1) (hcat : (rest.map fun v => v.category).sum ≤ 8) (hf : cells ≤ R.cells ∧ slots ≤ R.slots) (hdg : decode cc pc = .ok (.invokevirtual 35, 3)) (kk : ∀ (H1 : Heap) (locs1 : List Loc), fI D cI cS Z K σ' H1 → va_S (aZ Z) H0 H1 locs1 → W p l e R s m args below meth c H1 locs1 cells slots Q (F0 m (pc + 3) ls (.int r :: rest))) : W p l e R s m args below meth c H locs cells slots Q (F0 m pc ls (As.reverse ++ .ref (Z + o) :: rest)) := mm_bi hS (mm_runV hx hb hml hts hown hG hI hsz hM (ly_at hL 0 rfl) (by decide) rfl rfl (mT13 _ (List.mem_of_getElem? (i := 23) rfl)) (mT14 _ (List.mem_of_getElem? (i := 0) rfl)) (mT14 _ (List.mem_of_getElem? (i := 1) rfl)) (mT1 _ (List.mem_of_getElem? (i := 2) rfl)) (mT14 _ (List.mem_of_getElem? (i := 2) rfl)) (by decide +kernel) hR rfl rfl hn rfl hcat hf hdg) kk
theorem kL_39 (hx : p.tables.exec = Jvm.exec) (hb : c.code = cc) {nL : Nat} (hml : c.maxLocals = nL) (hts : ∀ w ∈ wsL_law, w.before args s = true) (hown : s.vm.findClass RL = some m.cls) (hG : gK D cI cS s) (hI : fI D cI cS Z K σ H) (hS : va_S (aZ Z) H0 H locs) (hsz : ls.size = nL) {o : Nat} (hL : ly K o lyModel) {As : List Value} {r : Int32} {σ' : Nat → Nat → Int32} (hM : Met l yX8_setDirection (wsT yX8_setDirection cX8_setDirection 2 (some .int)) { frames := 2, cells := 0, slots := 0, locals := 44 } (Pm D cI cS Z K (.ref (Z + o) :: As) σ) (Qi D cI cS Z K r σ') 0 0 (aZ Z)) (hR : 3 ≤ R.frames ∧ 65 ≤ R.locals) (hn : As.length = 1) (hcat : (rest.map fun v => v.category).sum ≤ 8) (hf : cells ≤ R.cells ∧ slots ≤ R.slots) (hdg : decode cc pc = .ok (.invokevirtual 39, 3)) (kk : ∀ (H1 : Heap) (locs1 : List Loc), fI D cI cS Z K σ' H1 → va_S (aZ Z) H0 H1 locs1 → W p l e R s m args below meth c H1 locs1 cells slots Q (F0 m (pc + 3) ls (.int r :: rest))) : W p l e R s m args below meth c H locs cells slots Q (F0 m pc ls (As.reverse ++ .ref (Z + o) :: rest)) := mm_bi hS (mm_runV hx hb hml hts hown hG hI hsz hM (ly_at hL 0 rfl) (by decide) rfl rfl (mT14 _ (List.mem_of_getElem? (i := 4) rfl)) (mT14 _ (List.mem_of_getElem? (i := 5) rfl)) (mT14 _ (List.mem_of_getElem? (i := 6) rfl)) (mT1 _ (List.mem_of_getElem? (i := 5) rfl)) (mT14 _ (List.mem_of_getElem? (i := 7) rfl)) (by decide +kernel) hR rfl rfl hn rfl hcat hf hdg) kk
theorem kL_40 (hx : p.tables.exec = Jvm.exec) (hb : c.code = cc) {nL : Nat} (hml : c.maxLocals = nL) (hts : ∀ w ∈ wsL_law, w.before args s = true) (hown : s.vm.findClass RL = some m.cls) (hG : gK D cI cS s) (hI : fI D cI cS Z K σ H) (hS : va_S (aZ Z) H0 H locs) (hsz : ls.size = nL) {o : Nat} (hL : ly K o lyLoom) {As : List Value} {r : Int32} {σ' : Nat → Nat → Int32} (hM : Met l yX7_turnTo (wsT yX7_turnTo cX7_turnTo 3 (some .int)) { frames := 6, cells := 0, slots := 0, locals := 146 } (Pm D cI cS Z K (.ref (Z + o) :: As) σ) (Qi D cI cS Z K r σ') 0 0 (aZ Z)) (hR : 7 ≤ R.frames ∧ 168 ≤ R.locals) (hn : As.length = 1) (hcat : (rest.map fun v => v.category).sum ≤ 8) (hf : cells ≤ R.cells ∧ slots ≤ R.slots) (hdg : decode cc pc = .ok (.invokevirtual 40, 3)) (kk : ∀ (H1 : Heap) (locs1 : List Loc), fI D cI cS Z K σ' H1 → va_S (aZ Z) H0 H1 locs1 → W p l e R s m args below meth c H1 locs1 cells slots Q (F0 m (pc + 3) ls (.int r :: rest))) : W p l e R s m args below meth c H locs cells slots Q (F0 m pc ls (As.reverse ++ .ref (Z + o) :: rest)) := mm_bi hS (mm_runV hx hb hml hts hown hG hI hsz hM (ly_at hL 0 rfl) (by decide) rfl rfl (mT14 _ (List.mem_of_getElem? (i := 8) rfl)) (mT14 _ (List.mem_of_getElem? (i := 9) rfl)) (mT14 _ (List.mem_of_getElem? (i := 10) rfl)) (mT1 _ (List.mem_of_getElem? (i := 2) rfl)) (mT14 _ (List.mem_of_getElem? (i := 11) rfl)) (by decide +kernel) hR rfl rfl hn rfl hcat hf hdg) kk
theorem kL_43 (hx : p.tables.exec = Jvm.exec) (hb : c.code = cc) {nL : Nat} (hml : c.maxLocals = nL) (hts : ∀ w ∈ wsL_law, w.before args s = true) (hown : s.vm.findClass RL = some m.cls) (hG : gK D cI cS s) (hI : fI D cI cS Z K σ H) (hS : va_S (aZ Z) H0 H locs) (hsz : ls.size = nL) {o : Nat} (hL : ly K o lyModel) {As : List Value} {r : Int32} {σ' : Nat → Nat → Int32} (hM : Met l yX8_turnTo (wsT yX8_turnTo cX8_turnTo 2 (some .int)) { frames := 2, cells := 0, slots := 0, locals := 44 } (Pm D cI cS Z K (.ref (Z + o) :: As) σ) (Qi D cI cS Z K r σ') 0 0 (aZ Z)) (hR : 3 ≤ R.frames ∧ 65 ≤ R.locals) (hn : As.length = 1) (hcat : (rest.map fun v => v.category).sum ≤ 8) (hf : cells ≤ R.cells ∧ slots ≤ R.slots) (hdg : decode cc pc = .ok (.invokevirtual 43, 3)) (kk : ∀ (H1 : Heap) (locs1 : List Loc), fI D cI cS Z K σ' H1 → va_S (aZ Z) H0 H1 locs1 → W p l e R s m args below meth c H1 locs1 cells slots Q (F0 m (pc + 3) ls (.int r :: rest))) : W p l e R s m args below meth c H locs cells slots Q (F0 m pc ls (As.reverse ++ .ref (Z + o) :: rest)) := mm_bi hS (mm_runV hx hb hml hts hown hG hI hsz hM (ly_at hL 0 rfl) (by decide) rfl rfl (mT14 _ (List.mem_of_getElem? (i := 13) rfl)) (mT14 _ (List.mem_of_getElem? (i := 14) rfl)) (mT14 _ (List.mem_of_getElem? (i := 15) rfl)) (mT1 _ (List.mem_of_getElem? (i := 5) rfl)) (mT14 _ (List.mem_of_getElem? (i := 16) rfl)) (by decide +kernel) hR rfl rfl hn rfl hcat hf hdg) kk
theorem kL_44 (hx : p.tables.exec = Jvm.exec) (hb : c.code = cc) {nL : Nat} (hml : c.maxLocals = nL) (hts : ∀ w ∈ wsL_law, w.before args s = true) (hown : s.vm.findClass RL = some m.cls) (hG : gK D cI cS s) (hI : fI D cI cS Z K σ H) (hS : va_S (aZ Z) H0 H locs) (hsz : ls.size = nL) {o : Nat} (hL : ly K o lyLoom) {As : List Value} {r : Int32} {σ' : Nat → Nat → Int32} (hM : Met l yX7_wind (wsT yX7_wind cX7_wind 4 (some .int)) { frames := 6, cells := 0, slots := 0, locals := 146 } (Pm D cI cS Z K (.ref (Z + o) :: As) σ) (Qi D cI cS Z K r σ') 0 0 (aZ Z)) (hR : 7 ≤ R.frames ∧ 169 ≤ R.locals) (hn : As.length = 2) (hcat : (rest.map fun v => v.category).sum ≤ 8) (hf : cells ≤ R.cells ∧ slots ≤ R.slots) (hdg : decode cc pc = .ok (.invokevirtual 44, 3)) (kk : ∀ (H1 : Heap) (locs1 : List Loc), fI D cI cS Z K σ' H1 → va_S (aZ Z) H0 H1 locs1 → W p l e R s m args below meth c H1 locs1 cells slots Q (F0 m (pc + 3) ls (.int r :: rest))) : W p l e R s m args below meth c H locs cells slots Q (F0 m pc ls (As.reverse ++ .ref (Z + o) :: rest)) := mm_bi hS (mm_runV hx hb hml hts hown hG hI hsz hM (ly_at hL 0 rfl) (by decide) rfl rfl (mT14 _ (List.mem_of_getElem? (i := 17) rfl)) (mT14 _ (List.mem_of_getElem? (i := 18) rfl)) (mT14 _ (List.mem_of_getElem? (i := 19) rfl)) (mT1 _ (List.mem_of_getElem? (i := 2) rfl)) (mT14 _ (List.mem_of_getElem? (i := 20) rfl)) (by decide +kernel) hR rfl rfl hn rfl hcat hf hdg) kk
theorem kL_47 (hx : p.tables.exec = Jvm.exec) (hb : c.code = cc) {nL : Nat} (hml : c.maxLocals = nL) (hts : ∀ w ∈ wsL_law, w.before args s = true) (hown : s.vm.findClass RL = some m.cls) (hG : gK D cI cS s) (hI : fI D cI cS Z K σ H) (hS : va_S (aZ Z) H0 H locs) (hsz : ls.size = nL) {o : Nat} (hL : ly K o lyModel) {As : List Value} {r : Int32} {σ' : Nat → Nat → Int32} (hM : Met l yX8_wind (wsT yX8_wind cX8_wind 3 (some .int)) { frames := 2, cells := 0, slots := 0, locals := 44 } (Pm D cI cS Z K (.ref (Z + o) :: As) σ) (Qi D cI cS Z K r σ') 0 0 (aZ Z)) (hR : 3 ≤ R.frames ∧ 66 ≤ R.locals) (hn : As.length = 2) (hcat : (rest.map fun v => v.category).sum ≤ 8) (hf : cells ≤ R.cells ∧ slots ≤ R.slots) (hdg : decode cc pc = .ok (.invokevirtual 47, 3)) (kk : ∀ (H1 : Heap) (locs1 : List Loc), fI D cI cS Z K σ' H1 → va_S (aZ Z) H0 H1 locs1 → W p l e R s m args below meth c H1 locs1 cells slots Q (F0 m (pc + 3) ls (.int r :: rest))) : W p l e R s m args below meth c H locs cells slots Q (F0 m pc ls (As.reverse ++ .ref (Z + o) :: rest)) := mm_bi hS (mm_runV hx hb hml hts hown hG hI hsz hM (ly_at hL 0 rfl) (by decide) rfl rfl (mT14 _ (List.mem_of_getElem? (i := 22) rfl)) (mT14 _ (List.mem_of_getElem? (i := 23) rfl)) (mT15 _ (List.mem_of_getElem? (i := 0) rfl)) (mT1 _ (List.mem_of_getElem? (i := 5) rfl)) (mT15 _ (List.mem_of_getElem? (i := 1) rfl)) (by decide +kernel) hR rfl rfl hn rfl hcat hf hdg) kk
theorem kL_48 (hx : p.tables.exec = Jvm.exec) (hb : c.code = cc) {nL : Nat} (hml : c.maxLocals = nL) (hts : ∀ w ∈ wsL_law, w.before args s = true) (hown : s.vm.findClass RL = some m.cls) (hG : gK D cI cS s) (hI : fI D cI cS Z K σ H) (hS : va_S (aZ Z) H0 H locs) (hsz : ls.size = nL) {o : Nat} (hL : ly K o lyLoom) {As : List Value} {r : Int32} {σ' : Nat → Nat → Int32} (hM : Met l yX7_append (wsT yX7_append cX7_append 2 (some .int)) { frames := 2, cells := 0, slots := 0, locals := 43 } (Pm D cI cS Z K (.ref (Z + o) :: As) σ) (Qi D cI cS Z K r σ') 0 0 (aZ Z)) (hR : 3 ≤ R.frames ∧ 64 ≤ R.locals) (hn : As.length = 1) (hcat : (rest.map fun v => v.category).sum ≤ 8) (hf : cells ≤ R.cells ∧ slots ≤ R.slots) (hdg : decode cc pc = .ok (.invokevirtual 48, 3)) (kk : ∀ (H1 : Heap) (locs1 : List Loc), fI D cI cS Z K σ' H1 → va_S (aZ Z) H0 H1 locs1 → W p l e R s m args below meth c H1 locs1 cells slots Q (F0 m (pc + 3) ls (.int r :: rest))) : W p l e R s m args below meth c H locs cells slots Q (F0 m pc ls (As.reverse ++ .ref (Z + o) :: rest)) := mm_bi hS (mm_runV hx hb hml hts hown hG hI hsz hM (ly_at hL 0 rfl) (by decide) rfl rfl (mT15 _ (List.mem_of_getElem? (i := 2) rfl)) (mT15 _ (List.mem_of_getElem? (i := 3) rfl)) (mT15 _ (List.mem_of_getElem? (i := 4) rfl)) (mT1 _ (List.mem_of_getElem? (i := 2) rfl)) (mT15 _ (List.mem_of_getElem? (i := 5) rfl)) (by decide +kernel) hR rfl rfl hn rfl hcat hf hdg) kk
theorem kL_51 (hx : p.tables.exec = Jvm.exec) (hb : c.code = cc) {nL : Nat} (hml : c.maxLocals = nL) (hts : ∀ w ∈ wsL_law, w.before args s = true) (hown : s.vm.findClass RL = some m.cls) (hG : gK D cI cS s) (hI : fI D cI cS Z K σ H) (hS : va_S (aZ Z) H0 H locs) (hsz : ls.size = nL) {o : Nat} (hL : ly K o lyModel) {As : List Value} {r : Int32} {σ' : Nat → Nat → Int32} (hM : Met l yX8_append (wsT yX8_append cX8_append 2 (some .int)) { frames := 1, cells := 0, slots := 0, locals := 22 } (Pm D cI cS Z K (.ref (Z + o) :: As) σ) (Qi D cI cS Z K r σ') 0 0 (aZ Z)) (hR : 2 ≤ R.frames ∧ 43 ≤ R.locals) (hn : As.length = 1) (hcat : (rest.map fun v => v.category).sum ≤ 8) (hf : cells ≤ R.cells ∧ slots ≤ R.slots) (hdg : decode cc pc = .ok (.invokevirtual 51, 3)) (kk : ∀ (H1 : Heap) (locs1 : List Loc), fI D cI cS Z K σ' H1 → va_S (aZ Z) H0 H1 locs1 → W p l e R s m args below meth c H1 locs1 cells slots Q (F0 m (pc + 3) ls (.int r :: rest))) : W p l e R s m args below meth c H locs cells slots Q (F0 m pc ls (As.reverse ++ .ref (Z + o) :: rest)) := mm_bi hS (mm_runV hx hb hml hts hown hG hI hsz hM (ly_at hL 0 rfl) (by decide) rfl rfl (mT15 _ (List.mem_of_getElem? (i := 18) rfl)) (mT15 _ (List.mem_of_getElem? (i := 19) rfl)) (mT15 _ (List.mem_of_getElem? (i := 20) rfl)) (mT1 _ (List.mem_of_getElem? (i := 5) rfl)) (mT15 _ (List.mem_of_getElem? (i := 21) rfl)) (by decide +kernel) hR rfl rfl hn rfl hcat hf hdg) kk
theorem kL_52 (hx : p.tables.exec = Jvm.exec) (hb : c.code = cc) {nL : Nat} (hml : c.maxLocals = nL) (hts : ∀ w ∈ wsL_law, w.before args s = true) (hown : s.vm.findClass RL = some m.cls) (hG : gK D cI cS s) (hI : fI D cI cS Z K σ H) (hS : va_S (aZ Z) H0 H locs) (hsz : ls.size = nL) {o : Nat} (hL : ly K o lyLoom) {As : List Value} {r : Int32} {σ' : Nat → Nat → Int32} (hM : Met l yX7_clearText (wsT yX7_clearText cX7_clearText 2 (some .int)) { frames := 0, cells := 0, slots := 0, locals := 0 } (Pm D cI cS Z K (.ref (Z + o) :: As) σ) (Qi D cI cS Z K r σ') 0 0 (aZ Z)) (hR : 1 ≤ R.frames ∧ 21 ≤ R.locals) (hn : As.length = 0) (hcat : (rest.map fun v => v.category).sum ≤ 8) (hf : cells ≤ R.cells ∧ slots ≤ R.slots) (hdg : decode cc pc = .ok (.invokevirtual 52, 3)) (kk : ∀ (H1 : Heap) (locs1 : List Loc), fI D cI cS Z K σ' H1 → va_S (aZ Z) H0 H1 locs1 → W p l e R s m args below meth c H1 locs1 cells slots Q (F0 m (pc + 3) ls (.int r :: rest))) : W p l e R s m args below meth c H locs cells slots Q (F0 m pc ls (As.reverse ++ .ref (Z + o) :: rest)) := mm_bi hS (mm_runV hx hb hml hts hown hG hI hsz hM (ly_at hL 0 rfl) (by decide) rfl rfl (mT15 _ (List.mem_of_getElem? (i := 23) rfl)) (mT16 _ (List.mem_of_getElem? (i := 0) rfl)) (mT16 _ (List.mem_of_getElem? (i := 1) rfl)) (mT1 _ (List.mem_of_getElem? (i := 2) rfl)) (mT16 _ (List.mem_of_getElem? (i := 2) rfl)) (by decide +kernel) hR rfl rfl hn rfl hcat hf hdg) kk
theorem kL_56 (hx : p.tables.exec = Jvm.exec) (hb : c.code = cc) {nL : Nat} (hml : c.maxLocals = nL) (hts : ∀ w ∈ wsL_law, w.before args s = true) (hown : s.vm.findClass RL = some m.cls) (hG : gK D cI cS s) (hI : fI D cI cS Z K σ H) (hS : va_S (aZ Z) H0 H locs) (hsz : ls.size = nL) {o : Nat} (hL : ly K o lyModel) {As : List Value} {r : Int32} {σ' : Nat → Nat → Int32} (hM : Met l yX8_clearText (wsT yX8_clearText cX8_clearText 2 (some .int)) { frames := 0, cells := 0, slots := 0, locals := 0 } (Pm D cI cS Z K (.ref (Z + o) :: As) σ) (Qi D cI cS Z K r σ') 0 0 (aZ Z)) (hR : 1 ≤ R.frames ∧ 21 ≤ R.locals) (hn : As.length = 0) (hcat : (rest.map fun v => v.category).sum ≤ 8) (hf : cells ≤ R.cells ∧ slots ≤ R.slots) (hdg : decode cc pc = .ok (.invokevirtual 56, 3)) (kk : ∀ (H1 : Heap) (locs1 : List Loc), fI D cI cS Z K σ' H1 → va_S (aZ Z) H0 H1 locs1 → W p l e R s m args below meth c H1 locs1 cells slots Q (F0 m (pc + 3) ls (.int r :: rest))) : W p l e R s m args below meth c H locs cells slots Q (F0 m pc ls (As.reverse ++ .ref (Z + o) :: rest)) := mm_bi hS (mm_runV hx hb hml hts hown hG hI hsz hM (ly_at hL 0 rfl) (by decide) rfl rfl (mT16 _ (List.mem_of_getElem? (i := 3) rfl)) (mT16 _ (List.mem_of_getElem? (i := 4) rfl)) (mT16 _ (List.mem_of_getElem? (i := 5) rfl)) (mT1 _ (List.mem_of_getElem? (i := 5) rfl)) (mT16 _ (List.mem_of_getElem? (i := 6) rfl)) (by decide +kernel) hR rfl rfl hn rfl hcat hf hdg) kk
theorem kL_57 (hx : p.tables.exec = Jvm.exec) (hb : c.code = cc) {nL : Nat} (hml : c.maxLocals = nL) (hts : ∀ w ∈ wsL_law, w.before args s = true) (hown : s.vm.findClass RL = some m.cls) (hG : gK D cI cS s) (hI : fI D cI cS Z K σ H) (hS : va_S (aZ Z) H0 H locs) (hsz : ls.size = nL) {o : Nat} (hL : ly K o lyLoom) {As : List Value} {r : Int32} {σ' : Nat → Nat → Int32} (hM : Met l yX7_load (wsT yX7_load cX7_load 1 (some .int)) { frames := 6, cells := 0, slots := 0, locals := 146 } (Pm D cI cS Z K (.ref (Z + o) :: As) σ) (Qi D cI cS Z K r σ') 0 0 (aZ Z)) (hR : 7 ≤ R.frames ∧ 166 ≤ R.locals) (hn : As.length = 0) (hcat : (rest.map fun v => v.category).sum ≤ 8) (hf : cells ≤ R.cells ∧ slots ≤ R.slots) (hdg : decode cc pc = .ok (.invokevirtual 57, 3)) (kk : ∀ (H1 : Heap) (locs1 : List Loc), fI D cI cS Z K σ' H1 → va_S (aZ Z) H0 H1 locs1 → W p l e R s m args below meth c H1 locs1 cells slots Q (F0 m (pc + 3) ls (.int r :: rest))) : W p l e R s m args below meth c H locs cells slots Q (F0 m pc ls (As.reverse ++ .ref (Z + o) :: rest)) := mm_bi hS (mm_runV hx hb hml hts hown hG hI hsz hM (ly_at hL 0 rfl) (by decide) rfl rfl (mT16 _ (List.mem_of_getElem? (i := 7) rfl)) (mT16 _ (List.mem_of_getElem? (i := 8) rfl)) (mT16 _ (List.mem_of_getElem? (i := 9) rfl)) (mT1 _ (List.mem_of_getElem? (i := 2) rfl)) (mT16 _ (List.mem_of_getElem? (i := 10) rfl)) (by decide +kernel) hR rfl rfl hn rfl hcat hf hdg) kk
theorem kL_60 (hx : p.tables.exec = Jvm.exec) (hb : c.code = cc) {nL : Nat} (hml : c.maxLocals = nL) (hts : ∀ w ∈ wsL_law, w.before args s = true) (hown : s.vm.findClass RL = some m.cls) (hG : gK D cI cS s) (hI : fI D cI cS Z K σ H) (hS : va_S (aZ Z) H0 H locs) (hsz : ls.size = nL) {o : Nat} (hL : ly K o lyModel) {As : List Value} {r : Int32} {σ' : Nat → Nat → Int32} (hM : Met l yX8_load (wsT yX8_load cX8_load 3 (some .int)) { frames := 7, cells := 0, slots := 0, locals := 153 } (Pm D cI cS Z K (.ref (Z + o) :: As) σ) (Qi D cI cS Z K r σ') 0 0 (aZ Z)) (hR : 8 ≤ R.frames ∧ 175 ≤ R.locals) (hn : As.length = 0) (hcat : (rest.map fun v => v.category).sum ≤ 8) (hf : cells ≤ R.cells ∧ slots ≤ R.slots) (hdg : decode cc pc = .ok (.invokevirtual 60, 3)) (kk : ∀ (H1 : Heap) (locs1 : List Loc), fI D cI cS Z K σ' H1 → va_S (aZ Z) H0 H1 locs1 → W p l e R s m args below meth c H1 locs1 cells slots Q (F0 m (pc + 3) ls (.int r :: rest))) : W p l e R s m args below meth c H locs cells slots Q (F0 m pc ls (As.reverse ++ .ref (Z + o) :: rest)) := mm_bi hS (mm_runV hx hb hml hts hown hG hI hsz hM (ly_at hL 0 rfl) (by decide) rfl rfl (mT19 _ (List.mem_of_getElem? (i := 6) rfl)) (mT19 _ (List.mem_of_getElem? (i := 7) rfl)) (mT19 _ (List.mem_of_getElem? (i := 8) rfl)) (mT1 _ (List.mem_of_getElem? (i := 5) rfl)) (mT19 _ (List.mem_of_getElem? (i := 9) rfl)) (by decide +kernel) hR rfl rfl hn rfl hcat hf hdg) kk
theorem kL_61 (hx : p.tables.exec = Jvm.exec) (hb : c.code = cc) {nL : Nat} (hml : c.maxLocals = nL) (hts : ∀ w ∈ wsL_law, w.before args s = true) (hown : s.vm.findClass RL = some m.cls) (hG : gK D cI cS s) (hI : fI D cI cS Z K σ H) (hS : va_S (aZ Z) H0 H locs) (hsz : ls.size = nL) {o : Nat} (hL : ly K o lyLoom) {As : List Value} {r : Int32} {σ' : Nat → Nat → Int32} (hM : Met l yX7_weave (wsT yX7_weave cX7_weave 3 (some .int)) { frames := 6, cells := 0, slots := 0, locals := 146 } (Pm D cI cS Z K (.ref (Z + o) :: As) σ) (Qi D cI cS Z K r σ') 0 0 (aZ Z)) (hR : 7 ≤ R.frames ∧ 168 ≤ R.locals) (hn : As.length = 1) (hcat : (rest.map fun v => v.category).sum ≤ 8) (hf : cells ≤ R.cells ∧ slots ≤ R.slots) (hdg : decode cc pc = .ok (.invokevirtual 61, 3)) (kk : ∀ (H1 : Heap) (locs1 : List Loc), fI D cI cS Z K σ' H1 → va_S (aZ Z) H0 H1 locs1 → W p l e R s m args below meth c H1 locs1 cells slots Q (F0 m (pc + 3) ls (.int r :: rest))) : W p l e R s m args below meth c H locs cells slots Q (F0 m pc ls (As.reverse ++ .ref (Z + o) :: rest)) := mm_bi hS (mm_runV hx hb hml hts hown hG hI hsz hM (ly_at hL 0 rfl) (by decide) rfl rfl (mT21 _ (List.mem_of_getElem? (i := 0) rfl)) (mT21 _ (List.mem_of_getElem? (i := 1) rfl)) (mT21 _ (List.mem_of_getElem? (i := 2) rfl)) (mT1 _ (List.mem_of_getElem? (i := 2) rfl)) (mT21 _ (List.mem_of_getElem? (i := 3) rfl)) (by decide +kernel) hR rfl rfl hn rfl hcat hf hdg) kk
theorem kL_64 (hx : p.tables.exec = Jvm.exec) (hb : c.code = cc) {nL : Nat} (hml : c.maxLocals = nL) (hts : ∀ w ∈ wsL_law, w.before args s = true) (hown : s.vm.findClass RL = some m.cls) (hG : gK D cI cS s) (hI : fI D cI cS Z K σ H) (hS : va_S (aZ Z) H0 H locs) (hsz : ls.size = nL) {o : Nat} (hL : ly K o lyModel) {As : List Value} {r : Int32} {σ' : Nat → Nat → Int32} (hM : Met l yX8_weave (wsT yX8_weave cX8_weave 3 (some .int)) { frames := 3, cells := 0, slots := 0, locals := 73 } (Pm D cI cS Z K (.ref (Z + o) :: As) σ) (Qi D cI cS Z K r σ') 0 0 (aZ Z)) (hR : 4 ≤ R.frames ∧ 95 ≤ R.locals) (hn : As.length = 1) (hcat : (rest.map fun v => v.category).sum ≤ 8) (hf : cells ≤ R.cells ∧ slots ≤ R.slots) (hdg : decode cc pc = .ok (.invokevirtual 64, 3)) (kk : ∀ (H1 : Heap) (locs1 : List Loc), fI D cI cS Z K σ' H1 → va_S (aZ Z) H0 H1 locs1 → W p l e R s m args below meth c H1 locs1 cells slots Q (F0 m (pc + 3) ls (.int r :: rest))) : W p l e R s m args below meth c H locs cells slots Q (F0 m pc ls (As.reverse ++ .ref (Z + o) :: rest)) := mm_bi hS (mm_runV hx hb hml hts hown hG hI hsz hM (ly_at hL 0 rfl) (by decide) rfl rfl (mT23 _ (List.mem_of_getElem? (i := 12) rfl)) (mT23 _ (List.mem_of_getElem? (i := 13) rfl)) (mT23 _ (List.mem_of_getElem? (i := 14) rfl)) (mT1 _ (List.mem_of_getElem? (i := 5) rfl)) (mT23 _ (List.mem_of_getElem? (i := 15) rfl)) (by decide +kernel) hR rfl rfl hn rfl hcat hf hdg) kk
theorem kL_65 (hx : p.tables.exec = Jvm.exec) (hb : c.code = cc) {nL : Nat} (hml : c.maxLocals = nL) (hts : ∀ w ∈ wsL_law, w.before args s = true) (hown : s.vm.findClass RL = some m.cls) (hG : gK D cI cS s) (hI : fI D cI cS Z K σ H) (hS : va_S (aZ Z) H0 H locs) (hsz : ls.size = nL) {o : Nat} (hL : ly K o lyLoom) {As : List Value} {r : Int32} {σ' : Nat → Nat → Int32} (hM : Met l yX7_takeOut (wsT yX7_takeOut cX7_takeOut 3 (some .int)) { frames := 6, cells := 0, slots := 0, locals := 146 } (Pm D cI cS Z K (.ref (Z + o) :: As) σ) (Qi D cI cS Z K r σ') 0 0 (aZ Z)) (hR : 7 ≤ R.frames ∧ 168 ≤ R.locals) (hn : As.length = 1) (hcat : (rest.map fun v => v.category).sum ≤ 8) (hf : cells ≤ R.cells ∧ slots ≤ R.slots) (hdg : decode cc pc = .ok (.invokevirtual 65, 3)) (kk : ∀ (H1 : Heap) (locs1 : List Loc), fI D cI cS Z K σ' H1 → va_S (aZ Z) H0 H1 locs1 → W p l e R s m args below meth c H1 locs1 cells slots Q (F0 m (pc + 3) ls (.int r :: rest))) : W p l e R s m args below meth c H locs cells slots Q (F0 m pc ls (As.reverse ++ .ref (Z + o) :: rest)) := mm_bi hS (mm_runV hx hb hml hts hown hG hI hsz hM (ly_at hL 0 rfl) (by decide) rfl rfl (mT25 _ (List.mem_of_getElem? (i := 11) rfl)) (mT25 _ (List.mem_of_getElem? (i := 12) rfl)) (mT25 _ (List.mem_of_getElem? (i := 13) rfl)) (mT1 _ (List.mem_of_getElem? (i := 2) rfl)) (mT25 _ (List.mem_of_getElem? (i := 14) rfl)) (by decide +kernel) hR rfl rfl hn rfl hcat hf hdg) kk
theorem kL_68 (hx : p.tables.exec = Jvm.exec) (hb : c.code = cc) {nL : Nat} (hml : c.maxLocals = nL) (hts : ∀ w ∈ wsL_law, w.before args s = true) (hown : s.vm.findClass RL = some m.cls) (hG : gK D cI cS s) (hI : fI D cI cS Z K σ H) (hS : va_S (aZ Z) H0 H locs) (hsz : ls.size = nL) {o : Nat} (hL : ly K o lyModel) {As : List Value} {r : Int32} {σ' : Nat → Nat → Int32} (hM : Met l yX8_takeOut (wsT yX8_takeOut cX8_takeOut 4 (some .int)) { frames := 3, cells := 0, slots := 0, locals := 68 } (Pm D cI cS Z K (.ref (Z + o) :: As) σ) (Qi D cI cS Z K r σ') 0 0 (aZ Z)) (hR : 4 ≤ R.frames ∧ 91 ≤ R.locals) (hn : As.length = 1) (hcat : (rest.map fun v => v.category).sum ≤ 8) (hf : cells ≤ R.cells ∧ slots ≤ R.slots) (hdg : decode cc pc = .ok (.invokevirtual 68, 3)) (kk : ∀ (H1 : Heap) (locs1 : List Loc), fI D cI cS Z K σ' H1 → va_S (aZ Z) H0 H1 locs1 → W p l e R s m args below meth c H1 locs1 cells slots Q (F0 m (pc + 3) ls (.int r :: rest))) : W p l e R s m args below meth c H locs cells slots Q (F0 m pc ls (As.reverse ++ .ref (Z + o) :: rest)) := mm_bi hS (mm_runV hx hb hml hts hown hG hI hsz hM (ly_at hL 0 rfl) (by decide) rfl rfl (mT25 _ (List.mem_of_getElem? (i := 23) rfl)) (mT26 _ (List.mem_of_getElem? (i := 0) rfl)) (mT26 _ (List.mem_of_getElem? (i := 1) rfl)) (mT1 _ (List.mem_of_getElem? (i := 5) rfl)) (mT26 _ (List.mem_of_getElem? (i := 2) rfl)) (by decide +kernel) hR rfl rfl hn rfl hcat hf hdg) kk
theorem kL_69 (hx : p.tables.exec = Jvm.exec) (hb : c.code = cc) {nL : Nat} (hml : c.maxLocals = nL) (hts : ∀ w ∈ wsL_law, w.before args s = true) (hown : s.vm.findClass RL = some m.cls) (hG : gK D cI cS s) (hI : fI D cI cS Z K σ H) (hS : va_S (aZ Z) H0 H locs) (hsz : ls.size = nL) {o : Nat} (hL : ly K o lyLoom) {As : List Value} {r : Int32} {σ' : Nat → Nat → Int32} (hM : Met l yX7_cutOff (wsT yX7_cutOff cX7_cutOff 2 (some .int)) { frames := 6, cells := 0, slots := 0, locals := 146 } (Pm D cI cS Z K (.ref (Z + o) :: As) σ) (Qi D cI cS Z K r σ') 0 0 (aZ Z)) (hR : 7 ≤ R.frames ∧ 167 ≤ R.locals) (hn : As.length = 0) (hcat : (rest.map fun v => v.category).sum ≤ 8) (hf : cells ≤ R.cells ∧ slots ≤ R.slots) (hdg : decode cc pc = .ok (.invokevirtual 69, 3)) (kk : ∀ (H1 : Heap) (locs1 : List Loc), fI D cI cS Z K σ' H1 → va_S (aZ Z) H0 H1 locs1 → W p l e R s m args below meth c H1 locs1 cells slots Q (F0 m (pc + 3) ls (.int r :: rest))) : W p l e R s m args below meth c H locs cells slots Q (F0 m pc ls (As.reverse ++ .ref (Z + o) :: rest)) := mm_bi hS (mm_runV hx hb hml hts hown hG hI hsz hM (ly_at hL 0 rfl) (by decide) rfl rfl (mT26 _ (List.mem_of_getElem? (i := 7) rfl)) (mT26 _ (List.mem_of_getElem? (i := 8) rfl)) (mT26 _ (List.mem_of_getElem? (i := 9) rfl)) (mT1 _ (List.mem_of_getElem? (i := 2) rfl)) (mT26 _ (List.mem_of_getElem? (i := 10) rfl)) (by decide +kernel) hR rfl rfl hn rfl hcat hf hdg) kk
theorem kL_72 (hx : p.tables.exec = Jvm.exec) (hb : c.code = cc) {nL : Nat} (hml : c.maxLocals = nL) (hts : ∀ w ∈ wsL_law, w.before args s = true) (hown : s.vm.findClass RL = some m.cls) (hG : gK D cI cS s) (hI : fI D cI cS Z K σ H) (hS : va_S (aZ Z) H0 H locs) (hsz : ls.size = nL) {o : Nat} (hL : ly K o lyModel) {As : List Value} {r : Int32} {σ' : Nat → Nat → Int32} (hM : Met l yX8_cutOff (wsT yX8_cutOff cX8_cutOff 1 (some .int)) { frames := 2, cells := 0, slots := 0, locals := 44 } (Pm D cI cS Z K (.ref (Z + o) :: As) σ) (Qi D cI cS Z K r σ') 0 0 (aZ Z)) (hR : 3 ≤ R.frames ∧ 64 ≤ R.locals) (hn : As.length = 0) (hcat : (rest.map fun v => v.category).sum ≤ 8) (hf : cells ≤ R.cells ∧ slots ≤ R.slots) (hdg : decode cc pc = .ok (.invokevirtual 72, 3)) (kk : ∀ (H1 : Heap) (locs1 : List Loc), fI D cI cS Z K σ' H1 → va_S (aZ Z) H0 H1 locs1 → W p l e R s m args below meth c H1 locs1 cells slots Q (F0 m (pc + 3) ls (.int r :: rest))) : W p l e R s m args below meth c H locs cells slots Q (F0 m pc ls (As.reverse ++ .ref (Z + o) :: rest)) := mm_bi hS (mm_runV hx hb hml hts hown hG hI hsz hM (ly_at hL 0 rfl) (by decide) rfl rfl (mT26 _ (List.mem_of_getElem? (i := 11) rfl)) (mT26 _ (List.mem_of_getElem? (i := 12) rfl)) (mT26 _ (List.mem_of_getElem? (i := 13) rfl)) (mT1 _ (List.mem_of_getElem? (i := 5) rfl)) (mT26 _ (List.mem_of_getElem? (i := 14) rfl)) (by decide +kernel) hR rfl rfl hn rfl hcat hf hdg) kk
theorem kL_73 (hx : p.tables.exec = Jvm.exec) (hb : c.code = cc) {nL : Nat} (hml : c.maxLocals = nL) (hts : ∀ w ∈ wsL_law, w.before args s = true) (hown : s.vm.findClass RL = some m.cls) (hG : gK D cI cS s) (hI : fI D cI cS Z K σ H) (hS : va_S (aZ Z) H0 H locs) (hsz : ls.size = nL) {o : Nat} (hL : ly K o lyLoom) {As : List Value} {r : Int32} {σ' : Nat → Nat → Int32} (hM : Met l yX7_undo (wsT yX7_undo cX7_undo 1 (some .int)) { frames := 6, cells := 0, slots := 0, locals := 147 } (Pm D cI cS Z K (.ref (Z + o) :: As) σ) (Qi D cI cS Z K r σ') 0 0 (aZ Z)) (hR : 7 ≤ R.frames ∧ 167 ≤ R.locals) (hn : As.length = 0) (hcat : (rest.map fun v => v.category).sum ≤ 8) (hf : cells ≤ R.cells ∧ slots ≤ R.slots) (hdg : decode cc pc = .ok (.invokevirtual 73, 3)) (kk : ∀ (H1 : Heap) (locs1 : List Loc), fI D cI cS Z K σ' H1 → va_S (aZ Z) H0 H1 locs1 → W p l e R s m args below meth c H1 locs1 cells slots Q (F0 m (pc + 3) ls (.int r :: rest))) : W p l e R s m args below meth c H locs cells slots Q (F0 m pc ls (As.reverse ++ .ref (Z + o) :: rest)) := mm_bi hS (mm_runV hx hb hml hts hown hG hI hsz hM (ly_at hL 0 rfl) (by decide) rfl rfl (mT26 _ (List.mem_of_getElem? (i := 15) rfl)) (mT26 _ (List.mem_of_getElem? (i := 16) rfl)) (mT26 _ (List.mem_of_getElem? (i := 17) rfl)) (mT1 _ (List.mem_of_getElem? (i := 2) rfl)) (mT26 _ (List.mem_of_getElem? (i := 18) rfl)) (by decide +kernel) hR rfl rfl hn rfl hcat hf hdg) kk
theorem kL_76 (hx : p.tables.exec = Jvm.exec) (hb : c.code = cc) {nL : Nat} (hml : c.maxLocals = nL) (hts : ∀ w ∈ wsL_law, w.before args s = true) (hown : s.vm.findClass RL = some m.cls) (hG : gK D cI cS s) (hI : fI D cI cS Z K σ H) (hS : va_S (aZ Z) H0 H locs) (hsz : ls.size = nL) {o : Nat} (hL : ly K o lyModel) {As : List Value} {r : Int32} {σ' : Nat → Nat → Int32} (hM : Met l yX8_undo (wsT yX8_undo cX8_undo 2 (some .int)) { frames := 0, cells := 0, slots := 0, locals := 0 } (Pm D cI cS Z K (.ref (Z + o) :: As) σ) (Qi D cI cS Z K r σ') 0 0 (aZ Z)) (hR : 1 ≤ R.frames ∧ 21 ≤ R.locals) (hn : As.length = 0) (hcat : (rest.map fun v => v.category).sum ≤ 8) (hf : cells ≤ R.cells ∧ slots ≤ R.slots) (hdg : decode cc pc = .ok (.invokevirtual 76, 3)) (kk : ∀ (H1 : Heap) (locs1 : List Loc), fI D cI cS Z K σ' H1 → va_S (aZ Z) H0 H1 locs1 → W p l e R s m args below meth c H1 locs1 cells slots Q (F0 m (pc + 3) ls (.int r :: rest))) : W p l e R s m args below meth c H locs cells slots Q (F0 m pc ls (As.reverse ++ .ref (Z + o) :: rest)) := mm_bi hS (mm_runV hx hb hml hts hown hG hI hsz hM (ly_at hL 0 rfl) (by decide) rfl rfl (mT27 _ (List.mem_of_getElem? (i := 0) rfl)) (mT27 _ (List.mem_of_getElem? (i := 1) rfl)) (mT27 _ (List.mem_of_getElem? (i := 2) rfl)) (mT1 _ (List.mem_of_getElem? (i := 5) rfl)) (mT27 _ (List.mem_of_getElem? (i := 3) rfl)) (by decide +kernel) hR rfl rfl hn rfl hcat hf hdg) kk
theorem kL_77 (hx : p.tables.exec = Jvm.exec) (hb : c.code = cc) {nL : Nat} (hml : c.maxLocals = nL) (hts : ∀ w ∈ wsL_law, w.before args s = true) (hown : s.vm.findClass RL = some m.cls) (hG : gK D cI cS s) (hI : fI D cI cS Z K σ H) (hS : va_S (aZ Z) H0 H locs) (hsz : ls.size = nL) {o : Nat} (hL : ly K o lyLoom) {As : List Value} {r : Int32} {σ' : Nat → Nat → Int32} (hM : Met l yX7_count (wsT yX7_count cX7_count 2 (some .int)) { frames := 3, cells := 0, slots := 0, locals := 64 } (Pm D cI cS Z K (.ref (Z + o) :: As) σ) (Qi D cI cS Z K r σ') 0 0 (aZ Z)) (hR : 4 ≤ R.frames ∧ 85 ≤ R.locals) (hn : As.length = 1) (hcat : (rest.map fun v => v.category).sum ≤ 8) (hf : cells ≤ R.cells ∧ slots ≤ R.slots) (hdg : decode cc pc = .ok (.invokevirtual 77, 3)) (kk : ∀ (H1 : Heap) (locs1 : List Loc), fI D cI cS Z K σ' H1 → va_S (aZ Z) H0 H1 locs1 → W p l e R s m args below meth c H1 locs1 cells slots Q (F0 m (pc + 3) ls (.int r :: rest))) : W p l e R s m args below meth c H locs cells slots Q (F0 m pc ls (As.reverse ++ .ref (Z + o) :: rest)) := mm_bi hS (mm_runV hx hb hml hts hown hG hI hsz hM (ly_at hL 0 rfl) (by decide) rfl rfl (mT27 _ (List.mem_of_getElem? (i := 4) rfl)) (mT27 _ (List.mem_of_getElem? (i := 5) rfl)) (mT27 _ (List.mem_of_getElem? (i := 6) rfl)) (mT1 _ (List.mem_of_getElem? (i := 2) rfl)) (mT27 _ (List.mem_of_getElem? (i := 7) rfl)) (by decide +kernel) hR rfl rfl hn rfl hcat hf hdg) kk
theorem kL_80 (hx : p.tables.exec = Jvm.exec) (hb : c.code = cc) {nL : Nat} (hml : c.maxLocals = nL) (hts : ∀ w ∈ wsL_law, w.before args s = true) (hown : s.vm.findClass RL = some m.cls) (hG : gK D cI cS s) (hI : fI D cI cS Z K σ H) (hS : va_S (aZ Z) H0 H locs) (hsz : ls.size = nL) {o : Nat} (hL : ly K o lyModel) {As : List Value} {r : Int32} {σ' : Nat → Nat → Int32} (hM : Met l yX8_count (wsT yX8_count cX8_count 2 (some .int)) { frames := 3, cells := 0, slots := 0, locals := 65 } (Pm D cI cS Z K (.ref (Z + o) :: As) σ) (Qi D cI cS Z K r σ') 0 0 (aZ Z)) (hR : 4 ≤ R.frames ∧ 86 ≤ R.locals) (hn : As.length = 1) (hcat : (rest.map fun v => v.category).sum ≤ 8) (hf : cells ≤ R.cells ∧ slots ≤ R.slots) (hdg : decode cc pc = .ok (.invokevirtual 80, 3)) (kk : ∀ (H1 : Heap) (locs1 : List Loc), fI D cI cS Z K σ' H1 → va_S (aZ Z) H0 H1 locs1 → W p l e R s m args below meth c H1 locs1 cells slots Q (F0 m (pc + 3) ls (.int r :: rest))) : W p l e R s m args below meth c H locs cells slots Q (F0 m pc ls (As.reverse ++ .ref (Z + o) :: rest)) := mm_bi hS (mm_runV hx hb hml hts hown hG hI hsz hM (ly_at hL 0 rfl) (by decide) rfl rfl (mT28 _ (List.mem_of_getElem? (i := 0) rfl)) (mT28 _ (List.mem_of_getElem? (i := 1) rfl)) (mT28 _ (List.mem_of_getElem? (i := 2) rfl)) (mT1 _ (List.mem_of_getElem? (i := 5) rfl)) (mT28 _ (List.mem_of_getElem? (i := 3) rfl)) (by decide +kernel) hR rfl rfl hn rfl hcat hf hdg) kk
theorem kL_81 (hx : p.tables.exec = Jvm.exec) (hb : c.code = cc) {nL : Nat} (hml : c.maxLocals = nL) (hts : ∀ w ∈ wsL_law, w.before args s = true) (hown : s.vm.findClass RL = some m.cls) (hG : gK D cI cS s) (hI : fI D cI cS Z K σ H) (hS : va_S (aZ Z) H0 H locs) (hsz : ls.size = nL) {o : Nat} (hL : ly K o lyLoom) {As : List Value} {r : Int32} {σ' : Nat → Nat → Int32} (hM : Met l yX7_end (wsT yX7_end cX7_end 3 (some .int)) { frames := 4, cells := 0, slots := 0, locals := 94 } (Pm D cI cS Z K (.ref (Z + o) :: As) σ) (Qi D cI cS Z K r σ') 0 0 (aZ Z)) (hR : 5 ≤ R.frames ∧ 116 ≤ R.locals) (hn : As.length = 2) (hcat : (rest.map fun v => v.category).sum ≤ 8) (hf : cells ≤ R.cells ∧ slots ≤ R.slots) (hdg : decode cc pc = .ok (.invokevirtual 81, 3)) (kk : ∀ (H1 : Heap) (locs1 : List Loc), fI D cI cS Z K σ' H1 → va_S (aZ Z) H0 H1 locs1 → W p l e R s m args below meth c H1 locs1 cells slots Q (F0 m (pc + 3) ls (.int r :: rest))) : W p l e R s m args below meth c H locs cells slots Q (F0 m pc ls (As.reverse ++ .ref (Z + o) :: rest)) := mm_bi hS (mm_runV hx hb hml hts hown hG hI hsz hM (ly_at hL 0 rfl) (by decide) rfl rfl (mT28 _ (List.mem_of_getElem? (i := 15) rfl)) (mT28 _ (List.mem_of_getElem? (i := 16) rfl)) (mT28 _ (List.mem_of_getElem? (i := 17) rfl)) (mT1 _ (List.mem_of_getElem? (i := 2) rfl)) (mT28 _ (List.mem_of_getElem? (i := 18) rfl)) (by decide +kernel) hR rfl rfl hn rfl hcat hf hdg) kk
theorem kL_84 (hx : p.tables.exec = Jvm.exec) (hb : c.code = cc) {nL : Nat} (hml : c.maxLocals = nL) (hts : ∀ w ∈ wsL_law, w.before args s = true) (hown : s.vm.findClass RL = some m.cls) (hG : gK D cI cS s) (hI : fI D cI cS Z K σ H) (hS : va_S (aZ Z) H0 H locs) (hsz : ls.size = nL) {o : Nat} (hL : ly K o lyModel) {As : List Value} {r : Int32} {σ' : Nat → Nat → Int32} (hM : Met l yX8_end (wsT yX8_end cX8_end 3 (some .int)) { frames := 4, cells := 0, slots := 0, locals := 94 } (Pm D cI cS Z K (.ref (Z + o) :: As) σ) (Qi D cI cS Z K r σ') 0 0 (aZ Z)) (hR : 5 ≤ R.frames ∧ 116 ≤ R.locals) (hn : As.length = 2) (hcat : (rest.map fun v => v.category).sum ≤ 8) (hf : cells ≤ R.cells ∧ slots ≤ R.slots) (hdg : decode cc pc = .ok (.invokevirtual 84, 3)) (kk : ∀ (H1 : Heap) (locs1 : List Loc), fI D cI cS Z K σ' H1 → va_S (aZ Z) H0 H1 locs1 → W p l e R s m args below meth c H1 locs1 cells slots Q (F0 m (pc + 3) ls (.int r :: rest))) : W p l e R s m args below meth c H locs cells slots Q (F0 m pc ls (As.reverse ++ .ref (Z + o) :: rest)) := mm_bi hS (mm_runV hx hb hml hts hown hG hI hsz hM (ly_at hL 0 rfl) (by decide) rfl rfl (mT29 _ (List.mem_of_getElem? (i := 20) rfl)) (mT29 _ (List.mem_of_getElem? (i := 21) rfl)) (mT29 _ (List.mem_of_getElem? (i := 22) rfl)) (mT1 _ (List.mem_of_getElem? (i := 5) rfl)) (mT29 _ (List.mem_of_getElem? (i := 23) rfl)) (by decide +kernel) hR rfl rfl hn rfl hcat hf hdg) kk
theorem kL_85 (hx : p.tables.exec = Jvm.exec) (hb : c.code = cc) {nL : Nat} (hml : c.maxLocals = nL) (hts : ∀ w ∈ wsL_law, w.before args s = true) (hown : s.vm.findClass RL = some m.cls) (hG : gK D cI cS s) (hI : fI D cI cS Z K σ H) (hS : va_S (aZ Z) H0 H locs) (hsz : ls.size = nL) {o : Nat} (hL : ly K o lyLoom) {As : List Value} {r : Int32} {σ' : Nat → Nat → Int32} (hM : Met l yX7_bar (wsT yX7_bar cX7_bar 4 (some .int)) { frames := 3, cells := 0, slots := 0, locals := 68 } (Pm D cI cS Z K (.ref (Z + o) :: As) σ) (Qi D cI cS Z K r σ') 0 0 (aZ Z)) (hR : 4 ≤ R.frames ∧ 91 ≤ R.locals) (hn : As.length = 2) (hcat : (rest.map fun v => v.category).sum ≤ 8) (hf : cells ≤ R.cells ∧ slots ≤ R.slots) (hdg : decode cc pc = .ok (.invokevirtual 85, 3)) (kk : ∀ (H1 : Heap) (locs1 : List Loc), fI D cI cS Z K σ' H1 → va_S (aZ Z) H0 H1 locs1 → W p l e R s m args below meth c H1 locs1 cells slots Q (F0 m (pc + 3) ls (.int r :: rest))) : W p l e R s m args below meth c H locs cells slots Q (F0 m pc ls (As.reverse ++ .ref (Z + o) :: rest)) := mm_bi hS (mm_runV hx hb hml hts hown hG hI hsz hM (ly_at hL 0 rfl) (by decide) rfl rfl (mT30 _ (List.mem_of_getElem? (i := 22) rfl)) (mT30 _ (List.mem_of_getElem? (i := 23) rfl)) (mT31 _ (List.mem_of_getElem? (i := 0) rfl)) (mT1 _ (List.mem_of_getElem? (i := 2) rfl)) (mT31 _ (List.mem_of_getElem? (i := 1) rfl)) (by decide +kernel) hR rfl rfl hn rfl hcat hf hdg) kk
theorem kL_88 (hx : p.tables.exec = Jvm.exec) (hb : c.code = cc) {nL : Nat} (hml : c.maxLocals = nL) (hts : ∀ w ∈ wsL_law, w.before args s = true) (hown : s.vm.findClass RL = some m.cls) (hG : gK D cI cS s) (hI : fI D cI cS Z K σ H) (hS : va_S (aZ Z) H0 H locs) (hsz : ls.size = nL) {o : Nat} (hL : ly K o lyModel) {As : List Value} {r : Int32} {σ' : Nat → Nat → Int32} (hM : Met l yX8_bar (wsT yX8_bar cX8_bar 3 (some .int)) { frames := 3, cells := 0, slots := 0, locals := 69 } (Pm D cI cS Z K (.ref (Z + o) :: As) σ) (Qi D cI cS Z K r σ') 0 0 (aZ Z)) (hR : 4 ≤ R.frames ∧ 91 ≤ R.locals) (hn : As.length = 2) (hcat : (rest.map fun v => v.category).sum ≤ 8) (hf : cells ≤ R.cells ∧ slots ≤ R.slots) (hdg : decode cc pc = .ok (.invokevirtual 88, 3)) (kk : ∀ (H1 : Heap) (locs1 : List Loc), fI D cI cS Z K σ' H1 → va_S (aZ Z) H0 H1 locs1 → W p l e R s m args below meth c H1 locs1 cells slots Q (F0 m (pc + 3) ls (.int r :: rest))) : W p l e R s m args below meth c H locs cells slots Q (F0 m pc ls (As.reverse ++ .ref (Z + o) :: rest)) := mm_bi hS (mm_runV hx hb hml hts hown hG hI hsz hM (ly_at hL 0 rfl) (by decide) rfl rfl (mT31 _ (List.mem_of_getElem? (i := 11) rfl)) (mT31 _ (List.mem_of_getElem? (i := 12) rfl)) (mT31 _ (List.mem_of_getElem? (i := 13) rfl)) (mT1 _ (List.mem_of_getElem? (i := 5) rfl)) (mT31 _ (List.mem_of_getElem? (i := 14) rfl)) (by decide +kernel) hR rfl rfl hn rfl hcat hf hdg) kk
theorem kL_89 (hx : p.tables.exec = Jvm.exec) (hb : c.code = cc) {nL : Nat} (hml : c.maxLocals = nL) (hts : ∀ w ∈ wsL_law, w.before args s = true) (hown : s.vm.findClass RL = some m.cls) (hG : gK D cI cS s) (hI : fI D cI cS Z K σ H) (hS : va_S (aZ Z) H0 H locs) (hsz : ls.size = nL) {o : Nat} (hL : ly K o lyLoom) {As : List Value} {r : Int32} {σ' : Nat → Nat → Int32} (hM : Met l yX7_yarn (wsT yX7_yarn cX7_yarn 2 (some .int)) { frames := 2, cells := 0, slots := 0, locals := 42 } (Pm D cI cS Z K (.ref (Z + o) :: As) σ) (Qi D cI cS Z K r σ') 0 0 (aZ Z)) (hR : 3 ≤ R.frames ∧ 63 ≤ R.locals) (hn : As.length = 1) (hcat : (rest.map fun v => v.category).sum ≤ 8) (hf : cells ≤ R.cells ∧ slots ≤ R.slots) (hdg : decode cc pc = .ok (.invokevirtual 89, 3)) (kk : ∀ (H1 : Heap) (locs1 : List Loc), fI D cI cS Z K σ' H1 → va_S (aZ Z) H0 H1 locs1 → W p l e R s m args below meth c H1 locs1 cells slots Q (F0 m (pc + 3) ls (.int r :: rest))) : W p l e R s m args below meth c H locs cells slots Q (F0 m pc ls (As.reverse ++ .ref (Z + o) :: rest)) := mm_bi hS (mm_runV hx hb hml hts hown hG hI hsz hM (ly_at hL 0 rfl) (by decide) rfl rfl (mT31 _ (List.mem_of_getElem? (i := 19) rfl)) (mT31 _ (List.mem_of_getElem? (i := 20) rfl)) (mT31 _ (List.mem_of_getElem? (i := 21) rfl)) (mT1 _ (List.mem_of_getElem? (i := 2) rfl)) (mT31 _ (List.mem_of_getElem? (i := 22) rfl)) (by decide +kernel) hR rfl rfl hn rfl hcat hf hdg) kk
theorem kL_92 (hx : p.tables.exec = Jvm.exec) (hb : c.code = cc) {nL : Nat} (hml : c.maxLocals = nL) (hts : ∀ w ∈ wsL_law, w.before args s = true) (hown : s.vm.findClass RL = some m.cls) (hG : gK D cI cS s) (hI : fI D cI cS Z K σ H) (hS : va_S (aZ Z) H0 H locs) (hsz : ls.size = nL) {o : Nat} (hL : ly K o lyModel) {As : List Value} {r : Int32} {σ' : Nat → Nat → Int32} (hM : Met l yX8_yarn (wsT yX8_yarn cX8_yarn 2 (some .int)) { frames := 2, cells := 0, slots := 0, locals := 42 } (Pm D cI cS Z K (.ref (Z + o) :: As) σ) (Qi D cI cS Z K r σ') 0 0 (aZ Z)) (hR : 3 ≤ R.frames ∧ 63 ≤ R.locals) (hn : As.length = 1) (hcat : (rest.map fun v => v.category).sum ≤ 8) (hf : cells ≤ R.cells ∧ slots ≤ R.slots) (hdg : decode cc pc = .ok (.invokevirtual 92, 3)) (kk : ∀ (H1 : Heap) (locs1 : List Loc), fI D cI cS Z K σ' H1 → va_S (aZ Z) H0 H1 locs1 → W p l e R s m args below meth c H1 locs1 cells slots Q (F0 m (pc + 3) ls (.int r :: rest))) : W p l e R s m args below meth c H locs cells slots Q (F0 m pc ls (As.reverse ++ .ref (Z + o) :: rest)) := mm_bi hS (mm_runV hx hb hml hts hown hG hI hsz hM (ly_at hL 0 rfl) (by decide) rfl rfl (mT31 _ (List.mem_of_getElem? (i := 23) rfl)) (mT32 _ (List.mem_of_getElem? (i := 0) rfl)) (mT32 _ (List.mem_of_getElem? (i := 1) rfl)) (mT1 _ (List.mem_of_getElem? (i := 5) rfl)) (mT32 _ (List.mem_of_getElem? (i := 2) rfl)) (by decide +kernel) hR rfl rfl hn rfl hcat hf hdg) kk
theorem kL_93 (hx : p.tables.exec = Jvm.exec) (hb : c.code = cc) {nL : Nat} (hml : c.maxLocals = nL) (hts : ∀ w ∈ wsL_law, w.before args s = true) (hown : s.vm.findClass RL = some m.cls) (hG : gK D cI cS s) (hI : fI D cI cS Z K σ H) (hS : va_S (aZ Z) H0 H locs) (hsz : ls.size = nL) {o : Nat} (hL : ly K o lyLoom) {As : List Value} {r : Int32} {σ' : Nat → Nat → Int32} (hM : Met l yX7_row (wsT yX7_row cX7_row 4 (some .int)) { frames := 4, cells := 0, slots := 0, locals := 94 } (Pm D cI cS Z K (.ref (Z + o) :: As) σ) (Qi D cI cS Z K r σ') 0 0 (aZ Z)) (hR : 5 ≤ R.frames ∧ 117 ≤ R.locals) (hn : As.length = 2) (hcat : (rest.map fun v => v.category).sum ≤ 8) (hf : cells ≤ R.cells ∧ slots ≤ R.slots) (hdg : decode cc pc = .ok (.invokevirtual 93, 3)) (kk : ∀ (H1 : Heap) (locs1 : List Loc), fI D cI cS Z K σ' H1 → va_S (aZ Z) H0 H1 locs1 → W p l e R s m args below meth c H1 locs1 cells slots Q (F0 m (pc + 3) ls (.int r :: rest))) : W p l e R s m args below meth c H locs cells slots Q (F0 m pc ls (As.reverse ++ .ref (Z + o) :: rest)) := mm_bi hS (mm_runV hx hb hml hts hown hG hI hsz hM (ly_at hL 0 rfl) (by decide) rfl rfl (mT32 _ (List.mem_of_getElem? (i := 3) rfl)) (mT32 _ (List.mem_of_getElem? (i := 4) rfl)) (mT32 _ (List.mem_of_getElem? (i := 5) rfl)) (mT1 _ (List.mem_of_getElem? (i := 2) rfl)) (mT32 _ (List.mem_of_getElem? (i := 6) rfl)) (by decide +kernel) hR rfl rfl hn rfl hcat hf hdg) kk
theorem kL_96 (hx : p.tables.exec = Jvm.exec) (hb : c.code = cc) {nL : Nat} (hml : c.maxLocals = nL) (hts : ∀ w ∈ wsL_law, w.before args s = true) (hown : s.vm.findClass RL = some m.cls) (hG : gK D cI cS s) (hI : fI D cI cS Z K σ H) (hS : va_S (aZ Z) H0 H locs) (hsz : ls.size = nL) {o : Nat} (hL : ly K o lyModel) {As : List Value} {r : Int32} {σ' : Nat → Nat → Int32} (hM : Met l yX8_row (wsT yX8_row cX8_row 3 (some .int)) { frames := 4, cells := 0, slots := 0, locals := 94 } (Pm D cI cS Z K (.ref (Z + o) :: As) σ) (Qi D cI cS Z K r σ') 0 0 (aZ Z)) (hR : 5 ≤ R.frames ∧ 116 ≤ R.locals) (hn : As.length = 2) (hcat : (rest.map fun v => v.category).sum ≤ 8) (hf : cells ≤ R.cells ∧ slots ≤ R.slots) (hdg : decode cc pc = .ok (.invokevirtual 96, 3)) (kk : ∀ (H1 : Heap) (locs1 : List Loc), fI D cI cS Z K σ' H1 → va_S (aZ Z) H0 H1 locs1 → W p l e R s m args below meth c H1 locs1 cells slots Q (F0 m (pc + 3) ls (.int r :: rest))) : W p l e R s m args below meth c H locs cells slots Q (F0 m pc ls (As.reverse ++ .ref (Z + o) :: rest)) := mm_bi hS (mm_runV hx hb hml hts hown hG hI hsz hM (ly_at hL 0 rfl) (by decide) rfl rfl (mT32 _ (List.mem_of_getElem? (i := 18) rfl)) (mT32 _ (List.mem_of_getElem? (i := 19) rfl)) (mT32 _ (List.mem_of_getElem? (i := 20) rfl)) (mT1 _ (List.mem_of_getElem? (i := 5) rfl)) (mT32 _ (List.mem_of_getElem? (i := 21) rfl)) (by decide +kernel) hR rfl rfl hn rfl hcat hf hdg) kk
theorem kL_97 (hx : p.tables.exec = Jvm.exec) (hb : c.code = cc) {nL : Nat} (hml : c.maxLocals = nL) (hts : ∀ w ∈ wsL_law, w.before args s = true) (hown : s.vm.findClass RL = some m.cls) (hG : gK D cI cS s) (hI : fI D cI cS Z K σ H) (hS : va_S (aZ Z) H0 H locs) (hsz : ls.size = nL) {o : Nat} (hL : ly K o lyLoom) {As : List Value} {r : Int32} {σ' : Nat → Nat → Int32} (hM : Met l yX7_cell (wsT yX7_cell cX7_cell 5 (some .int)) { frames := 2, cells := 0, slots := 0, locals := 44 } (Pm D cI cS Z K (.ref (Z + o) :: As) σ) (Qi D cI cS Z K r σ') 0 0 (aZ Z)) (hR : 3 ≤ R.frames ∧ 68 ≤ R.locals) (hn : As.length = 3) (hcat : (rest.map fun v => v.category).sum ≤ 8) (hf : cells ≤ R.cells ∧ slots ≤ R.slots) (hdg : decode cc pc = .ok (.invokevirtual 97, 3)) (kk : ∀ (H1 : Heap) (locs1 : List Loc), fI D cI cS Z K σ' H1 → va_S (aZ Z) H0 H1 locs1 → W p l e R s m args below meth c H1 locs1 cells slots Q (F0 m (pc + 3) ls (.int r :: rest))) : W p l e R s m args below meth c H locs cells slots Q (F0 m pc ls (As.reverse ++ .ref (Z + o) :: rest)) := mm_bi hS (mm_runV hx hb hml hts hown hG hI hsz hM (ly_at hL 0 rfl) (by decide) rfl rfl (mT33 _ (List.mem_of_getElem? (i := 2) rfl)) (mT33 _ (List.mem_of_getElem? (i := 3) rfl)) (mT33 _ (List.mem_of_getElem? (i := 4) rfl)) (mT1 _ (List.mem_of_getElem? (i := 2) rfl)) (mT33 _ (List.mem_of_getElem? (i := 5) rfl)) (by decide +kernel) hR rfl rfl hn rfl hcat hf hdg) kk
theorem kL_100 (hx : p.tables.exec = Jvm.exec) (hb : c.code = cc) {nL : Nat} (hml : c.maxLocals = nL) (hts : ∀ w ∈ wsL_law, w.before args s = true) (hown : s.vm.findClass RL = some m.cls) (hG : gK D cI cS s) (hI : fI D cI cS Z K σ H) (hS : va_S (aZ Z) H0 H locs) (hsz : ls.size = nL) {o : Nat} (hL : ly K o lyModel) {As : List Value} {r : Int32} {σ' : Nat → Nat → Int32} (hM : Met l yX8_cell (wsT yX8_cell cX8_cell 5 (some .int)) { frames := 2, cells := 0, slots := 0, locals := 44 } (Pm D cI cS Z K (.ref (Z + o) :: As) σ) (Qi D cI cS Z K r σ') 0 0 (aZ Z)) (hR : 3 ≤ R.frames ∧ 68 ≤ R.locals) (hn : As.length = 3) (hcat : (rest.map fun v => v.category).sum ≤ 8) (hf : cells ≤ R.cells ∧ slots ≤ R.slots) (hdg : decode cc pc = .ok (.invokevirtual 100, 3)) (kk : ∀ (H1 : Heap) (locs1 : List Loc), fI D cI cS Z K σ' H1 → va_S (aZ Z) H0 H1 locs1 → W p l e R s m args below meth c H1 locs1 cells slots Q (F0 m (pc + 3) ls (.int r :: rest))) : W p l e R s m args below meth c H locs cells slots Q (F0 m pc ls (As.reverse ++ .ref (Z + o) :: rest)) := mm_bi hS (mm_runV hx hb hml hts hown hG hI hsz hM (ly_at hL 0 rfl) (by decide) rfl rfl (mT33 _ (List.mem_of_getElem? (i := 13) rfl)) (mT33 _ (List.mem_of_getElem? (i := 14) rfl)) (mT33 _ (List.mem_of_getElem? (i := 15) rfl)) (mT1 _ (List.mem_of_getElem? (i := 5) rfl)) (mT33 _ (List.mem_of_getElem? (i := 16) rfl)) (by decide +kernel) hR rfl rfl hn rfl hcat hf hdg) kk
theorem kL_101 (hx : p.tables.exec = Jvm.exec) (hb : c.code = cc) {nL : Nat} (hml : c.maxLocals = nL) (hts : ∀ w ∈ wsL_law, w.before args s = true) (hown : s.vm.findClass RL = some m.cls) (hG : gK D cI cS s) (hI : fI D cI cS Z K σ H) (hS : va_S (aZ Z) H0 H locs) (hsz : ls.size = nL) {o : Nat} (hL : ly K o lyLoom) {As : List Value} {r : Int32} {σ' : Nat → Nat → Int32} (hM : Met l yX7_floats (wsT yX7_floats cX7_floats 7 (some .int)) { frames := 4, cells := 0, slots := 0, locals := 95 } (Pm D cI cS Z K (.ref (Z + o) :: As) σ) (Qi D cI cS Z K r σ') 0 0 (aZ Z)) (hR : 5 ≤ R.frames ∧ 121 ≤ R.locals) (hn : As.length = 2) (hcat : (rest.map fun v => v.category).sum ≤ 8) (hf : cells ≤ R.cells ∧ slots ≤ R.slots) (hdg : decode cc pc = .ok (.invokevirtual 101, 3)) (kk : ∀ (H1 : Heap) (locs1 : List Loc), fI D cI cS Z K σ' H1 → va_S (aZ Z) H0 H1 locs1 → W p l e R s m args below meth c H1 locs1 cells slots Q (F0 m (pc + 3) ls (.int r :: rest))) : W p l e R s m args below meth c H locs cells slots Q (F0 m pc ls (As.reverse ++ .ref (Z + o) :: rest)) := mm_bi hS (mm_runV hx hb hml hts hown hG hI hsz hM (ly_at hL 0 rfl) (by decide) rfl rfl (mT33 _ (List.mem_of_getElem? (i := 17) rfl)) (mT33 _ (List.mem_of_getElem? (i := 18) rfl)) (mT33 _ (List.mem_of_getElem? (i := 19) rfl)) (mT1 _ (List.mem_of_getElem? (i := 2) rfl)) (mT33 _ (List.mem_of_getElem? (i := 20) rfl)) (by decide +kernel) hR rfl rfl hn rfl hcat hf hdg) kk
theorem kL_104 (hx : p.tables.exec = Jvm.exec) (hb : c.code = cc) {nL : Nat} (hml : c.maxLocals = nL) (hts : ∀ w ∈ wsL_law, w.before args s = true) (hown : s.vm.findClass RL = some m.cls) (hG : gK D cI cS s) (hI : fI D cI cS Z K σ H) (hS : va_S (aZ Z) H0 H locs) (hsz : ls.size = nL) {o : Nat} (hL : ly K o lyModel) {As : List Value} {r : Int32} {σ' : Nat → Nat → Int32} (hM : Met l yX8_floats (wsT yX8_floats cX8_floats 4 (some .int)) { frames := 3, cells := 0, slots := 0, locals := 72 } (Pm D cI cS Z K (.ref (Z + o) :: As) σ) (Qi D cI cS Z K r σ') 0 0 (aZ Z)) (hR : 4 ≤ R.frames ∧ 95 ≤ R.locals) (hn : As.length = 2) (hcat : (rest.map fun v => v.category).sum ≤ 8) (hf : cells ≤ R.cells ∧ slots ≤ R.slots) (hdg : decode cc pc = .ok (.invokevirtual 104, 3)) (kk : ∀ (H1 : Heap) (locs1 : List Loc), fI D cI cS Z K σ' H1 → va_S (aZ Z) H0 H1 locs1 → W p l e R s m args below meth c H1 locs1 cells slots Q (F0 m (pc + 3) ls (.int r :: rest))) : W p l e R s m args below meth c H locs cells slots Q (F0 m pc ls (As.reverse ++ .ref (Z + o) :: rest)) := mm_bi hS (mm_runV hx hb hml hts hown hG hI hsz hM (ly_at hL 0 rfl) (by decide) rfl rfl (mT34 _ (List.mem_of_getElem? (i := 1) rfl)) (mT34 _ (List.mem_of_getElem? (i := 2) rfl)) (mT34 _ (List.mem_of_getElem? (i := 3) rfl)) (mT1 _ (List.mem_of_getElem? (i := 5) rfl)) (mT34 _ (List.mem_of_getElem? (i := 4) rfl)) (by decide +kernel) hR rfl rfl hn rfl hcat hf hdg) kk
theorem kL_105 (hx : p.tables.exec = Jvm.exec) (hb : c.code = cc) {nL : Nat} (hml : c.maxLocals = nL) (hts : ∀ w ∈ wsL_law, w.before args s = true) (hown : s.vm.findClass RL = some m.cls) (hG : gK D cI cS s) (hI : fI D cI cS Z K σ H) (hS : va_S (aZ Z) H0 H locs) (hsz : ls.size = nL) {o : Nat} (hL : ly K o lyLoom) {As : List Value} {r : Int32} {σ' : Nat → Nat → Int32} (hM : Met l yX7_repeat (wsT yX7_repeat cX7_repeat 3 (some .int)) { frames := 3, cells := 0, slots := 0, locals := 65 } (Pm D cI cS Z K (.ref (Z + o) :: As) σ) (Qi D cI cS Z K r σ') 0 0 (aZ Z)) (hR : 4 ≤ R.frames ∧ 87 ≤ R.locals) (hn : As.length = 0) (hcat : (rest.map fun v => v.category).sum ≤ 8) (hf : cells ≤ R.cells ∧ slots ≤ R.slots) (hdg : decode cc pc = .ok (.invokevirtual 105, 3)) (kk : ∀ (H1 : Heap) (locs1 : List Loc), fI D cI cS Z K σ' H1 → va_S (aZ Z) H0 H1 locs1 → W p l e R s m args below meth c H1 locs1 cells slots Q (F0 m (pc + 3) ls (.int r :: rest))) : W p l e R s m args below meth c H locs cells slots Q (F0 m pc ls (As.reverse ++ .ref (Z + o) :: rest)) := mm_bi hS (mm_runV hx hb hml hts hown hG hI hsz hM (ly_at hL 0 rfl) (by decide) rfl rfl (mT34 _ (List.mem_of_getElem? (i := 5) rfl)) (mT34 _ (List.mem_of_getElem? (i := 6) rfl)) (mT34 _ (List.mem_of_getElem? (i := 7) rfl)) (mT1 _ (List.mem_of_getElem? (i := 2) rfl)) (mT34 _ (List.mem_of_getElem? (i := 8) rfl)) (by decide +kernel) hR rfl rfl hn rfl hcat hf hdg) kk
theorem kL_108 (hx : p.tables.exec = Jvm.exec) (hb : c.code = cc) {nL : Nat} (hml : c.maxLocals = nL) (hts : ∀ w ∈ wsL_law, w.before args s = true) (hown : s.vm.findClass RL = some m.cls) (hG : gK D cI cS s) (hI : fI D cI cS Z K σ H) (hS : va_S (aZ Z) H0 H locs) (hsz : ls.size = nL) {o : Nat} (hL : ly K o lyModel) {As : List Value} {r : Int32} {σ' : Nat → Nat → Int32} (hM : Met l yX8_repeat (wsT yX8_repeat cX8_repeat 2 (some .int)) { frames := 3, cells := 0, slots := 0, locals := 66 } (Pm D cI cS Z K (.ref (Z + o) :: As) σ) (Qi D cI cS Z K r σ') 0 0 (aZ Z)) (hR : 4 ≤ R.frames ∧ 87 ≤ R.locals) (hn : As.length = 0) (hcat : (rest.map fun v => v.category).sum ≤ 8) (hf : cells ≤ R.cells ∧ slots ≤ R.slots) (hdg : decode cc pc = .ok (.invokevirtual 108, 3)) (kk : ∀ (H1 : Heap) (locs1 : List Loc), fI D cI cS Z K σ' H1 → va_S (aZ Z) H0 H1 locs1 → W p l e R s m args below meth c H1 locs1 cells slots Q (F0 m (pc + 3) ls (.int r :: rest))) : W p l e R s m args below meth c H locs cells slots Q (F0 m pc ls (As.reverse ++ .ref (Z + o) :: rest)) := mm_bi hS (mm_runV hx hb hml hts hown hG hI hsz hM (ly_at hL 0 rfl) (by decide) rfl rfl (mT34 _ (List.mem_of_getElem? (i := 17) rfl)) (mT34 _ (List.mem_of_getElem? (i := 18) rfl)) (mT34 _ (List.mem_of_getElem? (i := 19) rfl)) (mT1 _ (List.mem_of_getElem? (i := 5) rfl)) (mT34 _ (List.mem_of_getElem? (i := 20) rfl)) (by decide +kernel) hR rfl rfl hn rfl hcat hf hdg) kk
theorem kL_109 (hx : p.tables.exec = Jvm.exec) (hb : c.code = cc) {nL : Nat} (hml : c.maxLocals = nL) (hts : ∀ w ∈ wsL_law, w.before args s = true) (hown : s.vm.findClass RL = some m.cls) (hG : gK D cI cS s) (hI : fI D cI cS Z K σ H) (hS : va_S (aZ Z) H0 H locs) (hsz : ls.size = nL) {o : Nat} (hL : ly K o lyLoom) {As : List Value} {r : Int32} {σ' : Nat → Nat → Int32} (hM : Met l yX7_differentRows (wsT yX7_differentRows cX7_differentRows 3 (some .int)) { frames := 3, cells := 0, slots := 0, locals := 65 } (Pm D cI cS Z K (.ref (Z + o) :: As) σ) (Qi D cI cS Z K r σ') 0 0 (aZ Z)) (hR : 4 ≤ R.frames ∧ 87 ≤ R.locals) (hn : As.length = 0) (hcat : (rest.map fun v => v.category).sum ≤ 8) (hf : cells ≤ R.cells ∧ slots ≤ R.slots) (hdg : decode cc pc = .ok (.invokevirtual 109, 3)) (kk : ∀ (H1 : Heap) (locs1 : List Loc), fI D cI cS Z K σ' H1 → va_S (aZ Z) H0 H1 locs1 → W p l e R s m args below meth c H1 locs1 cells slots Q (F0 m (pc + 3) ls (.int r :: rest))) : W p l e R s m args below meth c H locs cells slots Q (F0 m pc ls (As.reverse ++ .ref (Z + o) :: rest)) := mm_bi hS (mm_runV hx hb hml hts hown hG hI hsz hM (ly_at hL 0 rfl) (by decide) rfl rfl (mT35 _ (List.mem_of_getElem? (i := 5) rfl)) (mT35 _ (List.mem_of_getElem? (i := 6) rfl)) (mT35 _ (List.mem_of_getElem? (i := 7) rfl)) (mT1 _ (List.mem_of_getElem? (i := 2) rfl)) (mT35 _ (List.mem_of_getElem? (i := 8) rfl)) (by decide +kernel) hR rfl rfl hn rfl hcat hf hdg) kk
theorem kL_112 (hx : p.tables.exec = Jvm.exec) (hb : c.code = cc) {nL : Nat} (hml : c.maxLocals = nL) (hts : ∀ w ∈ wsL_law, w.before args s = true) (hown : s.vm.findClass RL = some m.cls) (hG : gK D cI cS s) (hI : fI D cI cS Z K σ H) (hS : va_S (aZ Z) H0 H locs) (hsz : ls.size = nL) {o : Nat} (hL : ly K o lyModel) {As : List Value} {r : Int32} {σ' : Nat → Nat → Int32} (hM : Met l yX8_differentRows (wsT yX8_differentRows cX8_differentRows 5 (some .int)) { frames := 2, cells := 0, slots := 0, locals := 44 } (Pm D cI cS Z K (.ref (Z + o) :: As) σ) (Qi D cI cS Z K r σ') 0 0 (aZ Z)) (hR : 3 ≤ R.frames ∧ 68 ≤ R.locals) (hn : As.length = 0) (hcat : (rest.map fun v => v.category).sum ≤ 8) (hf : cells ≤ R.cells ∧ slots ≤ R.slots) (hdg : decode cc pc = .ok (.invokevirtual 112, 3)) (kk : ∀ (H1 : Heap) (locs1 : List Loc), fI D cI cS Z K σ' H1 → va_S (aZ Z) H0 H1 locs1 → W p l e R s m args below meth c H1 locs1 cells slots Q (F0 m (pc + 3) ls (.int r :: rest))) : W p l e R s m args below meth c H locs cells slots Q (F0 m pc ls (As.reverse ++ .ref (Z + o) :: rest)) := mm_bi hS (mm_runV hx hb hml hts hown hG hI hsz hM (ly_at hL 0 rfl) (by decide) rfl rfl (mT35 _ (List.mem_of_getElem? (i := 13) rfl)) (mT35 _ (List.mem_of_getElem? (i := 14) rfl)) (mT35 _ (List.mem_of_getElem? (i := 15) rfl)) (mT1 _ (List.mem_of_getElem? (i := 5) rfl)) (mT35 _ (List.mem_of_getElem? (i := 16) rfl)) (by decide +kernel) hR rfl rfl hn rfl hcat hf hdg) kk
theorem kL_113 (hx : p.tables.exec = Jvm.exec) (hb : c.code = cc) {nL : Nat} (hml : c.maxLocals = nL) (hts : ∀ w ∈ wsL_law, w.before args s = true) (hown : s.vm.findClass RL = some m.cls) (hG : gK D cI cS s) (hI : fI D cI cS Z K σ H) (hS : va_S (aZ Z) H0 H locs) (hsz : ls.size = nL) {o : Nat} (hL : ly K o lyLoom) {As : List Value} {r : Int32} {σ' : Nat → Nat → Int32} (hM : Met l yX7_picksLeft (wsT yX7_picksLeft cX7_picksLeft 5 (some .int)) { frames := 4, cells := 0, slots := 0, locals := 89 } (Pm D cI cS Z K (.ref (Z + o) :: As) σ) (Qi D cI cS Z K r σ') 0 0 (aZ Z)) (hR : 5 ≤ R.frames ∧ 113 ≤ R.locals) (hn : As.length = 0) (hcat : (rest.map fun v => v.category).sum ≤ 8) (hf : cells ≤ R.cells ∧ slots ≤ R.slots) (hdg : decode cc pc = .ok (.invokevirtual 113, 3)) (kk : ∀ (H1 : Heap) (locs1 : List Loc), fI D cI cS Z K σ' H1 → va_S (aZ Z) H0 H1 locs1 → W p l e R s m args below meth c H1 locs1 cells slots Q (F0 m (pc + 3) ls (.int r :: rest))) : W p l e R s m args below meth c H locs cells slots Q (F0 m pc ls (As.reverse ++ .ref (Z + o) :: rest)) := mm_bi hS (mm_runV hx hb hml hts hown hG hI hsz hM (ly_at hL 0 rfl) (by decide) rfl rfl (mT35 _ (List.mem_of_getElem? (i := 17) rfl)) (mT35 _ (List.mem_of_getElem? (i := 18) rfl)) (mT35 _ (List.mem_of_getElem? (i := 19) rfl)) (mT1 _ (List.mem_of_getElem? (i := 2) rfl)) (mT35 _ (List.mem_of_getElem? (i := 20) rfl)) (by decide +kernel) hR rfl rfl hn rfl hcat hf hdg) kk
theorem kL_116 (hx : p.tables.exec = Jvm.exec) (hb : c.code = cc) {nL : Nat} (hml : c.maxLocals = nL) (hts : ∀ w ∈ wsL_law, w.before args s = true) (hown : s.vm.findClass RL = some m.cls) (hG : gK D cI cS s) (hI : fI D cI cS Z K σ H) (hS : va_S (aZ Z) H0 H locs) (hsz : ls.size = nL) {o : Nat} (hL : ly K o lyModel) {As : List Value} {r : Int32} {σ' : Nat → Nat → Int32} (hM : Met l yX8_picksLeft (wsT yX8_picksLeft cX8_picksLeft 3 (some .int)) { frames := 3, cells := 0, slots := 0, locals := 69 } (Pm D cI cS Z K (.ref (Z + o) :: As) σ) (Qi D cI cS Z K r σ') 0 0 (aZ Z)) (hR : 4 ≤ R.frames ∧ 91 ≤ R.locals) (hn : As.length = 0) (hcat : (rest.map fun v => v.category).sum ≤ 8) (hf : cells ≤ R.cells ∧ slots ≤ R.slots) (hdg : decode cc pc = .ok (.invokevirtual 116, 3)) (kk : ∀ (H1 : Heap) (locs1 : List Loc), fI D cI cS Z K σ' H1 → va_S (aZ Z) H0 H1 locs1 → W p l e R s m args below meth c H1 locs1 cells slots Q (F0 m (pc + 3) ls (.int r :: rest))) : W p l e R s m args below meth c H locs cells slots Q (F0 m pc ls (As.reverse ++ .ref (Z + o) :: rest)) := mm_bi hS (mm_runV hx hb hml hts hown hG hI hsz hM (ly_at hL 0 rfl) (by decide) rfl rfl (mT36 _ (List.mem_of_getElem? (i := 3) rfl)) (mT36 _ (List.mem_of_getElem? (i := 4) rfl)) (mT36 _ (List.mem_of_getElem? (i := 5) rfl)) (mT1 _ (List.mem_of_getElem? (i := 5) rfl)) (mT36 _ (List.mem_of_getElem? (i := 6) rfl)) (by decide +kernel) hR rfl rfl hn rfl hcat hf hdg) kk
theorem kL_117 (hx : p.tables.exec = Jvm.exec) (hb : c.code = cc) {nL : Nat} (hml : c.maxLocals = nL) (hts : ∀ w ∈ wsL_law, w.before args s = true) (hown : s.vm.findClass RL = some m.cls) (hG : gK D cI cS s) (hI : fI D cI cS Z K σ H) (hS : va_S (aZ Z) H0 H locs) (hsz : ls.size = nL) {o : Nat} (hL : ly K o lyLoom) {As : List Value} {r : Int32} {σ' : Nat → Nat → Int32} (hM : Met l yX7_yarnFor (wsT yX7_yarnFor cX7_yarnFor 6 (some .int)) { frames := 4, cells := 0, slots := 0, locals := 89 } (Pm D cI cS Z K (.ref (Z + o) :: As) σ) (Qi D cI cS Z K r σ') 0 0 (aZ Z)) (hR : 5 ≤ R.frames ∧ 114 ≤ R.locals) (hn : As.length = 2) (hcat : (rest.map fun v => v.category).sum ≤ 8) (hf : cells ≤ R.cells ∧ slots ≤ R.slots) (hdg : decode cc pc = .ok (.invokevirtual 117, 3)) (kk : ∀ (H1 : Heap) (locs1 : List Loc), fI D cI cS Z K σ' H1 → va_S (aZ Z) H0 H1 locs1 → W p l e R s m args below meth c H1 locs1 cells slots Q (F0 m (pc + 3) ls (.int r :: rest))) : W p l e R s m args below meth c H locs cells slots Q (F0 m pc ls (As.reverse ++ .ref (Z + o) :: rest)) := mm_bi hS (mm_runV hx hb hml hts hown hG hI hsz hM (ly_at hL 0 rfl) (by decide) rfl rfl (mT36 _ (List.mem_of_getElem? (i := 7) rfl)) (mT36 _ (List.mem_of_getElem? (i := 8) rfl)) (mT36 _ (List.mem_of_getElem? (i := 9) rfl)) (mT1 _ (List.mem_of_getElem? (i := 2) rfl)) (mT36 _ (List.mem_of_getElem? (i := 10) rfl)) (by decide +kernel) hR rfl rfl hn rfl hcat hf hdg) kk
theorem kL_120 (hx : p.tables.exec = Jvm.exec) (hb : c.code = cc) {nL : Nat} (hml : c.maxLocals = nL) (hts : ∀ w ∈ wsL_law, w.before args s = true) (hown : s.vm.findClass RL = some m.cls) (hG : gK D cI cS s) (hI : fI D cI cS Z K σ H) (hS : va_S (aZ Z) H0 H locs) (hsz : ls.size = nL) {o : Nat} (hL : ly K o lyModel) {As : List Value} {r : Int32} {σ' : Nat → Nat → Int32} (hM : Met l yX8_yarnFor (wsT yX8_yarnFor cX8_yarnFor 6 (some .int)) { frames := 3, cells := 0, slots := 0, locals := 69 } (Pm D cI cS Z K (.ref (Z + o) :: As) σ) (Qi D cI cS Z K r σ') 0 0 (aZ Z)) (hR : 4 ≤ R.frames ∧ 94 ≤ R.locals) (hn : As.length = 2) (hcat : (rest.map fun v => v.category).sum ≤ 8) (hf : cells ≤ R.cells ∧ slots ≤ R.slots) (hdg : decode cc pc = .ok (.invokevirtual 120, 3)) (kk : ∀ (H1 : Heap) (locs1 : List Loc), fI D cI cS Z K σ' H1 → va_S (aZ Z) H0 H1 locs1 → W p l e R s m args below meth c H1 locs1 cells slots Q (F0 m (pc + 3) ls (.int r :: rest))) : W p l e R s m args below meth c H locs cells slots Q (F0 m pc ls (As.reverse ++ .ref (Z + o) :: rest)) := mm_bi hS (mm_runV hx hb hml hts hown hG hI hsz hM (ly_at hL 0 rfl) (by decide) rfl rfl (mT36 _ (List.mem_of_getElem? (i := 11) rfl)) (mT36 _ (List.mem_of_getElem? (i := 12) rfl)) (mT36 _ (List.mem_of_getElem? (i := 13) rfl)) (mT1 _ (List.mem_of_getElem? (i := 5) rfl)) (mT36 _ (List.mem_of_getElem? (i := 14) rfl)) (by decide +kernel) hR rfl rfl hn rfl hcat hf hdg) kk
end RW
theorem h_in {x : Int32} {k L j : Nat} (hx : x = nI (4 * k)) (hk : 4 * k + 4 ≤ L) (hL : L ≤ 2048) (hj : j < 4) : vp_in (x + nI j) L := by rw [hx, nI_add]; exact vp_in_nI (by omega) (by omega)
theorem h_in0 {x : Int32} {k L : Nat} (hx : x = nI (4 * k)) (hk : 4 * k + 4 ≤ L) (hL : L ≤ 2048) : vp_in x L := by rw [hx]; exact vp_in_nI (by omega) (by omega)
theorem law_go {k L : Nat} (hL : L ≤ 2048) (hk : 4 * k ≤ L) (h : ¬ Int32.ofNat L - 4 < nI (4 * k)) : 4 * k + 4 ≤ L := by
  have e : (Int32.ofNat L - 4).toInt = (L : Int) - 4 := by
    have e1 : (Int32.ofNat L).toInt = (L : Int) := nI_toInt (by omega)
    have e2 : (4 : Int32).toInt = 4 := rfl
    have := Int32.toInt_sub (Int32.ofNat L) 4
    rw [this, e1, e2]
    exact Int.bmod_eq_of_le (by omega) (by omega)
  have h2 := Int32.not_lt.mp h
  have h3 := Int32.le_iff_toInt_le.mp h2
  rw [e, nI_toInt (by omega)] at h3
  omega
set_option maxHeartbeats 8000000 in
set_option maxRecDepth 100000 in
theorem law_loop {p : Program} {l : Launch} {e : Env} {s : State} {m : MethodId} {below : List Frame} {meth : Method} {c : Code} {D : va_G} {cI cS : ClassId} {K : Nat → Nat} {b L : Nat} {xs : Nat → Int32} (hL : L ≤ 2048) (C0 : lw_At p s m meth c b L xs) (hG : gK D cI cS s) (hL7 : ly K 0 lyLoom) (hL8 : ly K 183 lyModel) :
    ∀ (nn k : Nat) (x3 : Int32), 4 * k ≤ L → L + 1 ≤ k + nn → x3 = nI (4 * k) → ∀ (σ : Nat → Nat → Int32) (H : Heap) (locs : List Loc) (ls : Array Slot), Rel k σ → fI D cI cS s.heap.size K σ H → va_S (aZ s.heap.size) s.heap H locs → lv_has ls 4 [(0, .ref b), (1, .ref (s.heap.size + 0)), (2, .ref (s.heap.size + 183)), (3, .int x3)] → W p l e room_1 s m #[Value.ref b] below meth c H locs 600000 7302250 (lw_Z below #[Value.ref b] s) (F0 m 18 ls []) := by
  obtain ⟨hx, hb, hr, hml, hown, hts0, hX, hbl, hlocks, hgv⟩ := C0
  have hb : c.code = cL_law := hb
  have hown : s.vm.findClass RL = some m.cls := hown
  have hts : ∀ w ∈ wsL_law, w.before #[Value.ref b] s = true := fun w h => hts0 w (wsL_law_in w h)
  have hbA : ¬ aZ s.heap.size b := Nat.not_le.mpr hbl
  intro nn
  induction nn with
  | zero =>
    intro k x3 h1 h2
    exact absurd h2 (by omega)
  | succ nn ih =>
    intro k x3 hk hin ex3 σ H locs ls hR hI hS hl
    refine lv_iload_n hx hb dL_law_18 rfl (lv_at hl 3 rfl) ?_
    refine lv_aload_n hx hb dL_law_19 rfl (lv_at hl 0 rfl) ?_
    refine va_slen hx hb hX hbl hbA hS dL_law_20 ?_
    refine lv_iconst (v := 4) hx hb dL_law_21 (by decide) ?_
    refine lv_isub hx hb dL_law_22 ?_
    refine lv_icmp_gt (tgt := 836) hx hb dL_law_23 (by decide) (fun c_1 => ?_) (fun c_1 => ?_)
    · refine lv_iconst (v := 1) hx hb dL_law_836 (by decide) ?_
      refine va_forget (fun q hq => hS.2.2 q hq) ?_
      exact lw_ret hx hb hr hlocks dL_law_837
    · have hk4 : 4 * k + 4 ≤ L := law_go hL hk (by rw [← ex3]; exact c_1)
      have hi0 := h_in0 ex3 hk4 hL
      have hi1 : vp_in (x3 + 1) L := h_in (j := 1) ex3 hk4 hL (by decide)
      have hi2 : vp_in (x3 + 2) L := h_in (j := 2) ex3 hk4 hL (by decide)
      have hi3 : vp_in (x3 + 3) L := h_in (j := 3) ex3 hk4 hL (by decide)
      have hgo : ∀ (σ : Nat → Nat → Int32) (H : Heap) (locs : List Loc) (ls : Array Slot), Rel (k + 1) σ → fI D cI cS s.heap.size K σ H → va_S (aZ s.heap.size) s.heap H locs → lv_has ls 4 [(0, .ref b), (1, .ref (s.heap.size + 0)), (2, .ref (s.heap.size + 183)), (3, .int x3)] → W p l e room_1 s m #[Value.ref b] below meth c H locs 600000 7302250 (lw_Z below #[Value.ref b] s) (F0 m 830 ls []) := by
        intro σ H locs ls hR hI hS hl
        refine lv_iinc (v := x3 + 4) (lv' := [(3, .int (x3 + 4)), (0, .ref b), (1, .ref (s.heap.size + 0)), (2, .ref (s.heap.size + 183))]) hx hb dL_law_830 hl (k := 3) rfl rfl (by decide) rfl (fun ls hl => ?_)
        refine lv_goto (tgt := 18) hx hb dL_law_833 (by decide) ?_
        exact ih (k + 1) (x3 + 4) (by omega) (by omega) (by rw [ex3]; show nI (4 * k) + nI 4 = _; rw [nI_add]; congr 1) σ H locs ls hR hI hS (lv_sub hl [1, 2, 3, 0] rfl)
      clear ih
      refine lv_aload_n hx hb dL_law_26 rfl (lv_at hl 0 rfl) ?_
      refine lv_iload_n hx hb dL_law_27 rfl (lv_at hl 3 rfl) ?_
      refine va_sld hx hb hX hbl hbA hS hi0 dL_law_28 ?_
      refine lv_bipush (v := 31) hx hb dL_law_29 (by decide) ?_
      refine lv_iand hx hb dL_law_31 ?_
      generalize ((xs x3.toNatClampNeg) &&& 31) = z
      by_cases cz : z = 0
      · refine lv_tableIn (off := 120) (tgt := 152) hx hb dL_law_32 (by rw [cz]; decide) (by rw [cz]; decide) (by rw [cz]; rfl) (by decide) ?_
        obtain ⟨r, σ1, σ2, hf7, hf8, hR2⟩ := op_0 k σ (xs (x3 + 1).toNatClampNeg) (xs (x3 + 2).toNatClampNeg) hR (by omega)
        refine lv_aload_n hx hb dL_law_152 rfl (lv_at hl 1 rfl) ?_
        refine lv_aload_n hx hb dL_law_153 rfl (lv_at hl 0 rfl) ?_
        refine lv_iload_n hx hb dL_law_154 rfl (lv_at hl 3 rfl) ?_
        refine lv_iconst (v := 1) hx hb dL_law_155 (by decide) ?_
        refine lv_iadd hx hb dL_law_156 ?_
        refine va_sld hx hb hX hbl hbA hS hi1 dL_law_157 ?_
        refine lv_aload_n hx hb dL_law_158 rfl (lv_at hl 0 rfl) ?_
        refine lv_iload_n hx hb dL_law_159 rfl (lv_at hl 3 rfl) ?_
        refine lv_iconst (v := 2) hx hb dL_law_160 (by decide) ?_
        refine lv_iadd hx hb dL_law_161 ?_
        refine va_sld hx hb hX hbl hbA hS hi2 dL_law_162 ?_
        refine kL_13 hx hb hml hts hown hG hI hS hl.1 hL7 (As := [.int (xs (x3 + 1).toNatClampNeg), .int (xs (x3 + 2).toNatClampNeg)]) (c_X7_setLoom l D cI cS s.heap.size K hL7 (xs (x3 + 1).toNatClampNeg) (xs (x3 + 2).toNatClampNeg) σ _ _ hf7) ⟨(Nat.le_of_ble_eq_true rfl), (Nat.le_of_ble_eq_true rfl)⟩ rfl (Nat.le_of_ble_eq_true rfl) ⟨(Nat.le_of_ble_eq_true rfl), (Nat.le_of_ble_eq_true rfl)⟩ dL_law_163 (fun H locs hI hS => ?_)
        refine lv_aload_n hx hb dL_law_166 rfl (lv_at hl 2 rfl) ?_
        refine lv_aload_n hx hb dL_law_167 rfl (lv_at hl 0 rfl) ?_
        refine lv_iload_n hx hb dL_law_168 rfl (lv_at hl 3 rfl) ?_
        refine lv_iconst (v := 1) hx hb dL_law_169 (by decide) ?_
        refine lv_iadd hx hb dL_law_170 ?_
        refine va_sld hx hb hX hbl hbA hS hi1 dL_law_171 ?_
        refine lv_aload_n hx hb dL_law_172 rfl (lv_at hl 0 rfl) ?_
        refine lv_iload_n hx hb dL_law_173 rfl (lv_at hl 3 rfl) ?_
        refine lv_iconst (v := 2) hx hb dL_law_174 (by decide) ?_
        refine lv_iadd hx hb dL_law_175 ?_
        refine va_sld hx hb hX hbl hbA hS hi2 dL_law_176 ?_
        refine kL_17 hx hb hml hts hown hG hI hS hl.1 hL8 (As := [.int (xs (x3 + 1).toNatClampNeg), .int (xs (x3 + 2).toNatClampNeg)]) (c_X8_setLoom l D cI cS s.heap.size K hL8 (xs (x3 + 1).toNatClampNeg) (xs (x3 + 2).toNatClampNeg) σ1 _ _ hf8) ⟨(Nat.le_of_ble_eq_true rfl), (Nat.le_of_ble_eq_true rfl)⟩ rfl (Nat.le_of_ble_eq_true rfl) ⟨(Nat.le_of_ble_eq_true rfl), (Nat.le_of_ble_eq_true rfl)⟩ dL_law_177 (fun H locs hI hS => ?_)
        refine lv_icmp_eq (tgt := 830) hx hb dL_law_180 (by decide) (fun _ => ?_) (fun c_9 => absurd rfl c_9)
        exact hgo σ2 _ _ _ hR2 hI hS hl
      have c0 := cz
      clear cz
      by_cases cz : z = 1
      · refine lv_tableIn (off := 153) (tgt := 185) hx hb dL_law_32 (by rw [cz]; decide) (by rw [cz]; decide) (by rw [cz]; rfl) (by decide) ?_
        obtain ⟨r, σ1, σ2, hf7, hf8, hR2⟩ := op_1 k σ (xs (x3 + 1).toNatClampNeg) (xs (x3 + 2).toNatClampNeg) (xs (x3 + 3).toNatClampNeg) hR (by omega)
        refine lv_aload_n hx hb dL_law_185 rfl (lv_at hl 1 rfl) ?_
        refine lv_aload_n hx hb dL_law_186 rfl (lv_at hl 0 rfl) ?_
        refine lv_iload_n hx hb dL_law_187 rfl (lv_at hl 3 rfl) ?_
        refine lv_iconst (v := 1) hx hb dL_law_188 (by decide) ?_
        refine lv_iadd hx hb dL_law_189 ?_
        refine va_sld hx hb hX hbl hbA hS hi1 dL_law_190 ?_
        refine lv_aload_n hx hb dL_law_191 rfl (lv_at hl 0 rfl) ?_
        refine lv_iload_n hx hb dL_law_192 rfl (lv_at hl 3 rfl) ?_
        refine lv_iconst (v := 2) hx hb dL_law_193 (by decide) ?_
        refine lv_iadd hx hb dL_law_194 ?_
        refine va_sld hx hb hX hbl hbA hS hi2 dL_law_195 ?_
        refine lv_aload_n hx hb dL_law_196 rfl (lv_at hl 0 rfl) ?_
        refine lv_iload_n hx hb dL_law_197 rfl (lv_at hl 3 rfl) ?_
        refine lv_iconst (v := 3) hx hb dL_law_198 (by decide) ?_
        refine lv_iadd hx hb dL_law_199 ?_
        refine va_sld hx hb hX hbl hbA hS hi3 dL_law_200 ?_
        refine kL_18 hx hb hml hts hown hG hI hS hl.1 hL7 (As := [.int (xs (x3 + 1).toNatClampNeg), .int (xs (x3 + 2).toNatClampNeg), .int (xs (x3 + 3).toNatClampNeg)]) (c_X7_setEnd l D cI cS s.heap.size K hL7 (xs (x3 + 1).toNatClampNeg) (xs (x3 + 2).toNatClampNeg) (xs (x3 + 3).toNatClampNeg) σ _ _ hf7) ⟨(Nat.le_of_ble_eq_true rfl), (Nat.le_of_ble_eq_true rfl)⟩ rfl (Nat.le_of_ble_eq_true rfl) ⟨(Nat.le_of_ble_eq_true rfl), (Nat.le_of_ble_eq_true rfl)⟩ dL_law_201 (fun H locs hI hS => ?_)
        refine lv_aload_n hx hb dL_law_204 rfl (lv_at hl 2 rfl) ?_
        refine lv_aload_n hx hb dL_law_205 rfl (lv_at hl 0 rfl) ?_
        refine lv_iload_n hx hb dL_law_206 rfl (lv_at hl 3 rfl) ?_
        refine lv_iconst (v := 1) hx hb dL_law_207 (by decide) ?_
        refine lv_iadd hx hb dL_law_208 ?_
        refine va_sld hx hb hX hbl hbA hS hi1 dL_law_209 ?_
        refine lv_aload_n hx hb dL_law_210 rfl (lv_at hl 0 rfl) ?_
        refine lv_iload_n hx hb dL_law_211 rfl (lv_at hl 3 rfl) ?_
        refine lv_iconst (v := 2) hx hb dL_law_212 (by decide) ?_
        refine lv_iadd hx hb dL_law_213 ?_
        refine va_sld hx hb hX hbl hbA hS hi2 dL_law_214 ?_
        refine lv_aload_n hx hb dL_law_215 rfl (lv_at hl 0 rfl) ?_
        refine lv_iload_n hx hb dL_law_216 rfl (lv_at hl 3 rfl) ?_
        refine lv_iconst (v := 3) hx hb dL_law_217 (by decide) ?_
        refine lv_iadd hx hb dL_law_218 ?_
        refine va_sld hx hb hX hbl hbA hS hi3 dL_law_219 ?_
        refine kL_22 hx hb hml hts hown hG hI hS hl.1 hL8 (As := [.int (xs (x3 + 1).toNatClampNeg), .int (xs (x3 + 2).toNatClampNeg), .int (xs (x3 + 3).toNatClampNeg)]) (c_X8_setEnd l D cI cS s.heap.size K hL8 (xs (x3 + 1).toNatClampNeg) (xs (x3 + 2).toNatClampNeg) (xs (x3 + 3).toNatClampNeg) σ1 _ _ hf8) ⟨(Nat.le_of_ble_eq_true rfl), (Nat.le_of_ble_eq_true rfl)⟩ rfl (Nat.le_of_ble_eq_true rfl) ⟨(Nat.le_of_ble_eq_true rfl), (Nat.le_of_ble_eq_true rfl)⟩ dL_law_220 (fun H locs hI hS => ?_)
        refine lv_icmp_eq (tgt := 830) hx hb dL_law_223 (by decide) (fun _ => ?_) (fun c_9 => absurd rfl c_9)
        exact hgo σ2 _ _ _ hR2 hI hS hl
      have c1 := cz
      clear cz
      by_cases cz : z = 2
      · refine lv_tableIn (off := 196) (tgt := 228) hx hb dL_law_32 (by rw [cz]; decide) (by rw [cz]; decide) (by rw [cz]; rfl) (by decide) ?_
        obtain ⟨r, σ1, σ2, hf7, hf8, hR2⟩ := op_2 k σ (xs (x3 + 1).toNatClampNeg) (xs (x3 + 2).toNatClampNeg) hR (by omega)
        refine lv_aload_n hx hb dL_law_228 rfl (lv_at hl 1 rfl) ?_
        refine lv_aload_n hx hb dL_law_229 rfl (lv_at hl 0 rfl) ?_
        refine lv_iload_n hx hb dL_law_230 rfl (lv_at hl 3 rfl) ?_
        refine lv_iconst (v := 1) hx hb dL_law_231 (by decide) ?_
        refine lv_iadd hx hb dL_law_232 ?_
        refine va_sld hx hb hX hbl hbA hS hi1 dL_law_233 ?_
        refine lv_aload_n hx hb dL_law_234 rfl (lv_at hl 0 rfl) ?_
        refine lv_iload_n hx hb dL_law_235 rfl (lv_at hl 3 rfl) ?_
        refine lv_iconst (v := 2) hx hb dL_law_236 (by decide) ?_
        refine lv_iadd hx hb dL_law_237 ?_
        refine va_sld hx hb hX hbl hbA hS hi2 dL_law_238 ?_
        refine kL_23 hx hb hml hts hown hG hI hS hl.1 hL7 (As := [.int (xs (x3 + 1).toNatClampNeg), .int (xs (x3 + 2).toNatClampNeg)]) (c_X7_setFault l D cI cS s.heap.size K hL7 (xs (x3 + 1).toNatClampNeg) (xs (x3 + 2).toNatClampNeg) σ _ _ hf7) ⟨(Nat.le_of_ble_eq_true rfl), (Nat.le_of_ble_eq_true rfl)⟩ rfl (Nat.le_of_ble_eq_true rfl) ⟨(Nat.le_of_ble_eq_true rfl), (Nat.le_of_ble_eq_true rfl)⟩ dL_law_239 (fun H locs hI hS => ?_)
        refine lv_aload_n hx hb dL_law_242 rfl (lv_at hl 2 rfl) ?_
        refine lv_aload_n hx hb dL_law_243 rfl (lv_at hl 0 rfl) ?_
        refine lv_iload_n hx hb dL_law_244 rfl (lv_at hl 3 rfl) ?_
        refine lv_iconst (v := 1) hx hb dL_law_245 (by decide) ?_
        refine lv_iadd hx hb dL_law_246 ?_
        refine va_sld hx hb hX hbl hbA hS hi1 dL_law_247 ?_
        refine lv_aload_n hx hb dL_law_248 rfl (lv_at hl 0 rfl) ?_
        refine lv_iload_n hx hb dL_law_249 rfl (lv_at hl 3 rfl) ?_
        refine lv_iconst (v := 2) hx hb dL_law_250 (by decide) ?_
        refine lv_iadd hx hb dL_law_251 ?_
        refine va_sld hx hb hX hbl hbA hS hi2 dL_law_252 ?_
        refine kL_26 hx hb hml hts hown hG hI hS hl.1 hL8 (As := [.int (xs (x3 + 1).toNatClampNeg), .int (xs (x3 + 2).toNatClampNeg)]) (c_X8_setFault l D cI cS s.heap.size K hL8 (xs (x3 + 1).toNatClampNeg) (xs (x3 + 2).toNatClampNeg) σ1 _ _ hf8) ⟨(Nat.le_of_ble_eq_true rfl), (Nat.le_of_ble_eq_true rfl)⟩ rfl (Nat.le_of_ble_eq_true rfl) ⟨(Nat.le_of_ble_eq_true rfl), (Nat.le_of_ble_eq_true rfl)⟩ dL_law_253 (fun H locs hI hS => ?_)
        refine lv_icmp_eq (tgt := 830) hx hb dL_law_256 (by decide) (fun _ => ?_) (fun c_9 => absurd rfl c_9)
        exact hgo σ2 _ _ _ hR2 hI hS hl
      have c2 := cz
      clear cz
      by_cases cz : z = 3
      · refine lv_tableIn (off := 229) (tgt := 261) hx hb dL_law_32 (by rw [cz]; decide) (by rw [cz]; decide) (by rw [cz]; rfl) (by decide) ?_
        obtain ⟨r, σ1, σ2, hf7, hf8, hR2⟩ := op_3 k σ (xs (x3 + 1).toNatClampNeg) (xs (x3 + 2).toNatClampNeg) hR (by omega)
        refine lv_aload_n hx hb dL_law_261 rfl (lv_at hl 1 rfl) ?_
        refine lv_aload_n hx hb dL_law_262 rfl (lv_at hl 0 rfl) ?_
        refine lv_iload_n hx hb dL_law_263 rfl (lv_at hl 3 rfl) ?_
        refine lv_iconst (v := 1) hx hb dL_law_264 (by decide) ?_
        refine lv_iadd hx hb dL_law_265 ?_
        refine va_sld hx hb hX hbl hbA hS hi1 dL_law_266 ?_
        refine lv_aload_n hx hb dL_law_267 rfl (lv_at hl 0 rfl) ?_
        refine lv_iload_n hx hb dL_law_268 rfl (lv_at hl 3 rfl) ?_
        refine lv_iconst (v := 2) hx hb dL_law_269 (by decide) ?_
        refine lv_iadd hx hb dL_law_270 ?_
        refine va_sld hx hb hX hbl hbA hS hi2 dL_law_271 ?_
        refine kL_27 hx hb hml hts hown hG hI hS hl.1 hL7 (As := [.int (xs (x3 + 1).toNatClampNeg), .int (xs (x3 + 2).toNatClampNeg)]) (c_X7_addBar l D cI cS s.heap.size K hL7 (xs (x3 + 1).toNatClampNeg) (xs (x3 + 2).toNatClampNeg) σ _ _ hf7) ⟨(Nat.le_of_ble_eq_true rfl), (Nat.le_of_ble_eq_true rfl)⟩ rfl (Nat.le_of_ble_eq_true rfl) ⟨(Nat.le_of_ble_eq_true rfl), (Nat.le_of_ble_eq_true rfl)⟩ dL_law_272 (fun H locs hI hS => ?_)
        refine lv_aload_n hx hb dL_law_275 rfl (lv_at hl 2 rfl) ?_
        refine lv_aload_n hx hb dL_law_276 rfl (lv_at hl 0 rfl) ?_
        refine lv_iload_n hx hb dL_law_277 rfl (lv_at hl 3 rfl) ?_
        refine lv_iconst (v := 1) hx hb dL_law_278 (by decide) ?_
        refine lv_iadd hx hb dL_law_279 ?_
        refine va_sld hx hb hX hbl hbA hS hi1 dL_law_280 ?_
        refine lv_aload_n hx hb dL_law_281 rfl (lv_at hl 0 rfl) ?_
        refine lv_iload_n hx hb dL_law_282 rfl (lv_at hl 3 rfl) ?_
        refine lv_iconst (v := 2) hx hb dL_law_283 (by decide) ?_
        refine lv_iadd hx hb dL_law_284 ?_
        refine va_sld hx hb hX hbl hbA hS hi2 dL_law_285 ?_
        refine kL_30 hx hb hml hts hown hG hI hS hl.1 hL8 (As := [.int (xs (x3 + 1).toNatClampNeg), .int (xs (x3 + 2).toNatClampNeg)]) (c_X8_addBar l D cI cS s.heap.size K hL8 (xs (x3 + 1).toNatClampNeg) (xs (x3 + 2).toNatClampNeg) σ1 _ _ hf8) ⟨(Nat.le_of_ble_eq_true rfl), (Nat.le_of_ble_eq_true rfl)⟩ rfl (Nat.le_of_ble_eq_true rfl) ⟨(Nat.le_of_ble_eq_true rfl), (Nat.le_of_ble_eq_true rfl)⟩ dL_law_286 (fun H locs hI hS => ?_)
        refine lv_icmp_eq (tgt := 830) hx hb dL_law_289 (by decide) (fun _ => ?_) (fun c_9 => absurd rfl c_9)
        exact hgo σ2 _ _ _ hR2 hI hS hl
      have c3 := cz
      clear cz
      by_cases cz : z = 4
      · refine lv_tableIn (off := 262) (tgt := 294) hx hb dL_law_32 (by rw [cz]; decide) (by rw [cz]; decide) (by rw [cz]; rfl) (by decide) ?_
        obtain ⟨r, σ1, σ2, hf7, hf8, hR2⟩ := op_4 k σ (xs (x3 + 1).toNatClampNeg) (xs (x3 + 2).toNatClampNeg) (xs (x3 + 3).toNatClampNeg) hR (by omega)
        refine lv_aload_n hx hb dL_law_294 rfl (lv_at hl 1 rfl) ?_
        refine lv_aload_n hx hb dL_law_295 rfl (lv_at hl 0 rfl) ?_
        refine lv_iload_n hx hb dL_law_296 rfl (lv_at hl 3 rfl) ?_
        refine lv_iconst (v := 1) hx hb dL_law_297 (by decide) ?_
        refine lv_iadd hx hb dL_law_298 ?_
        refine va_sld hx hb hX hbl hbA hS hi1 dL_law_299 ?_
        refine lv_aload_n hx hb dL_law_300 rfl (lv_at hl 0 rfl) ?_
        refine lv_iload_n hx hb dL_law_301 rfl (lv_at hl 3 rfl) ?_
        refine lv_iconst (v := 2) hx hb dL_law_302 (by decide) ?_
        refine lv_iadd hx hb dL_law_303 ?_
        refine va_sld hx hb hX hbl hbA hS hi2 dL_law_304 ?_
        refine lv_aload_n hx hb dL_law_305 rfl (lv_at hl 0 rfl) ?_
        refine lv_iload_n hx hb dL_law_306 rfl (lv_at hl 3 rfl) ?_
        refine lv_iconst (v := 3) hx hb dL_law_307 (by decide) ?_
        refine lv_iadd hx hb dL_law_308 ?_
        refine va_sld hx hb hX hbl hbA hS hi3 dL_law_309 ?_
        refine kL_31 hx hb hml hts hown hG hI hS hl.1 hL7 (As := [.int (xs (x3 + 1).toNatClampNeg), .int (xs (x3 + 2).toNatClampNeg), .int (xs (x3 + 3).toNatClampNeg)]) (c_X7_setBar l D cI cS s.heap.size K hL7 (xs (x3 + 1).toNatClampNeg) (xs (x3 + 2).toNatClampNeg) (xs (x3 + 3).toNatClampNeg) σ _ _ hf7) ⟨(Nat.le_of_ble_eq_true rfl), (Nat.le_of_ble_eq_true rfl)⟩ rfl (Nat.le_of_ble_eq_true rfl) ⟨(Nat.le_of_ble_eq_true rfl), (Nat.le_of_ble_eq_true rfl)⟩ dL_law_310 (fun H locs hI hS => ?_)
        refine lv_aload_n hx hb dL_law_313 rfl (lv_at hl 2 rfl) ?_
        refine lv_aload_n hx hb dL_law_314 rfl (lv_at hl 0 rfl) ?_
        refine lv_iload_n hx hb dL_law_315 rfl (lv_at hl 3 rfl) ?_
        refine lv_iconst (v := 1) hx hb dL_law_316 (by decide) ?_
        refine lv_iadd hx hb dL_law_317 ?_
        refine va_sld hx hb hX hbl hbA hS hi1 dL_law_318 ?_
        refine lv_aload_n hx hb dL_law_319 rfl (lv_at hl 0 rfl) ?_
        refine lv_iload_n hx hb dL_law_320 rfl (lv_at hl 3 rfl) ?_
        refine lv_iconst (v := 2) hx hb dL_law_321 (by decide) ?_
        refine lv_iadd hx hb dL_law_322 ?_
        refine va_sld hx hb hX hbl hbA hS hi2 dL_law_323 ?_
        refine lv_aload_n hx hb dL_law_324 rfl (lv_at hl 0 rfl) ?_
        refine lv_iload_n hx hb dL_law_325 rfl (lv_at hl 3 rfl) ?_
        refine lv_iconst (v := 3) hx hb dL_law_326 (by decide) ?_
        refine lv_iadd hx hb dL_law_327 ?_
        refine va_sld hx hb hX hbl hbA hS hi3 dL_law_328 ?_
        refine kL_34 hx hb hml hts hown hG hI hS hl.1 hL8 (As := [.int (xs (x3 + 1).toNatClampNeg), .int (xs (x3 + 2).toNatClampNeg), .int (xs (x3 + 3).toNatClampNeg)]) (c_X8_setBar l D cI cS s.heap.size K hL8 (xs (x3 + 1).toNatClampNeg) (xs (x3 + 2).toNatClampNeg) (xs (x3 + 3).toNatClampNeg) σ1 _ _ hf8) ⟨(Nat.le_of_ble_eq_true rfl), (Nat.le_of_ble_eq_true rfl)⟩ rfl (Nat.le_of_ble_eq_true rfl) ⟨(Nat.le_of_ble_eq_true rfl), (Nat.le_of_ble_eq_true rfl)⟩ dL_law_329 (fun H locs hI hS => ?_)
        refine lv_icmp_eq (tgt := 830) hx hb dL_law_332 (by decide) (fun _ => ?_) (fun c_9 => absurd rfl c_9)
        exact hgo σ2 _ _ _ hR2 hI hS hl
      have c4 := cz
      clear cz
      by_cases cz : z = 5
      · refine lv_tableIn (off := 305) (tgt := 337) hx hb dL_law_32 (by rw [cz]; decide) (by rw [cz]; decide) (by rw [cz]; rfl) (by decide) ?_
        obtain ⟨r, σ1, σ2, hf7, hf8, hR2⟩ := op_5 k σ (xs (x3 + 1).toNatClampNeg) hR (by omega)
        refine lv_aload_n hx hb dL_law_337 rfl (lv_at hl 1 rfl) ?_
        refine lv_aload_n hx hb dL_law_338 rfl (lv_at hl 0 rfl) ?_
        refine lv_iload_n hx hb dL_law_339 rfl (lv_at hl 3 rfl) ?_
        refine lv_iconst (v := 1) hx hb dL_law_340 (by decide) ?_
        refine lv_iadd hx hb dL_law_341 ?_
        refine va_sld hx hb hX hbl hbA hS hi1 dL_law_342 ?_
        refine kL_35 hx hb hml hts hown hG hI hS hl.1 hL7 (As := [.int (xs (x3 + 1).toNatClampNeg)]) (c_X7_setDirection l D cI cS s.heap.size K hL7 (xs (x3 + 1).toNatClampNeg) σ _ _ hf7) ⟨(Nat.le_of_ble_eq_true rfl), (Nat.le_of_ble_eq_true rfl)⟩ rfl (Nat.le_of_ble_eq_true rfl) ⟨(Nat.le_of_ble_eq_true rfl), (Nat.le_of_ble_eq_true rfl)⟩ dL_law_343 (fun H locs hI hS => ?_)
        refine lv_aload_n hx hb dL_law_346 rfl (lv_at hl 2 rfl) ?_
        refine lv_aload_n hx hb dL_law_347 rfl (lv_at hl 0 rfl) ?_
        refine lv_iload_n hx hb dL_law_348 rfl (lv_at hl 3 rfl) ?_
        refine lv_iconst (v := 1) hx hb dL_law_349 (by decide) ?_
        refine lv_iadd hx hb dL_law_350 ?_
        refine va_sld hx hb hX hbl hbA hS hi1 dL_law_351 ?_
        refine kL_39 hx hb hml hts hown hG hI hS hl.1 hL8 (As := [.int (xs (x3 + 1).toNatClampNeg)]) (c_X8_setDirection l D cI cS s.heap.size K hL8 (xs (x3 + 1).toNatClampNeg) σ1 _ _ hf8) ⟨(Nat.le_of_ble_eq_true rfl), (Nat.le_of_ble_eq_true rfl)⟩ rfl (Nat.le_of_ble_eq_true rfl) ⟨(Nat.le_of_ble_eq_true rfl), (Nat.le_of_ble_eq_true rfl)⟩ dL_law_352 (fun H locs hI hS => ?_)
        refine lv_icmp_eq (tgt := 830) hx hb dL_law_355 (by decide) (fun _ => ?_) (fun c_9 => absurd rfl c_9)
        exact hgo σ2 _ _ _ hR2 hI hS hl
      have c5 := cz
      clear cz
      by_cases cz : z = 6
      · refine lv_tableIn (off := 328) (tgt := 360) hx hb dL_law_32 (by rw [cz]; decide) (by rw [cz]; decide) (by rw [cz]; rfl) (by decide) ?_
        obtain ⟨r, σ1, σ2, hf7, hf8, hR2⟩ := op_6 k σ (xs (x3 + 1).toNatClampNeg) hR (by omega)
        refine lv_aload_n hx hb dL_law_360 rfl (lv_at hl 1 rfl) ?_
        refine lv_aload_n hx hb dL_law_361 rfl (lv_at hl 0 rfl) ?_
        refine lv_iload_n hx hb dL_law_362 rfl (lv_at hl 3 rfl) ?_
        refine lv_iconst (v := 1) hx hb dL_law_363 (by decide) ?_
        refine lv_iadd hx hb dL_law_364 ?_
        refine va_sld hx hb hX hbl hbA hS hi1 dL_law_365 ?_
        refine kL_40 hx hb hml hts hown hG hI hS hl.1 hL7 (As := [.int (xs (x3 + 1).toNatClampNeg)]) (c_X7_turnTo l D cI cS s.heap.size K hL7 (xs (x3 + 1).toNatClampNeg) σ _ _ hf7) ⟨(Nat.le_of_ble_eq_true rfl), (Nat.le_of_ble_eq_true rfl)⟩ rfl (Nat.le_of_ble_eq_true rfl) ⟨(Nat.le_of_ble_eq_true rfl), (Nat.le_of_ble_eq_true rfl)⟩ dL_law_366 (fun H locs hI hS => ?_)
        refine lv_aload_n hx hb dL_law_369 rfl (lv_at hl 2 rfl) ?_
        refine lv_aload_n hx hb dL_law_370 rfl (lv_at hl 0 rfl) ?_
        refine lv_iload_n hx hb dL_law_371 rfl (lv_at hl 3 rfl) ?_
        refine lv_iconst (v := 1) hx hb dL_law_372 (by decide) ?_
        refine lv_iadd hx hb dL_law_373 ?_
        refine va_sld hx hb hX hbl hbA hS hi1 dL_law_374 ?_
        refine kL_43 hx hb hml hts hown hG hI hS hl.1 hL8 (As := [.int (xs (x3 + 1).toNatClampNeg)]) (c_X8_turnTo l D cI cS s.heap.size K hL8 (xs (x3 + 1).toNatClampNeg) σ1 _ _ hf8) ⟨(Nat.le_of_ble_eq_true rfl), (Nat.le_of_ble_eq_true rfl)⟩ rfl (Nat.le_of_ble_eq_true rfl) ⟨(Nat.le_of_ble_eq_true rfl), (Nat.le_of_ble_eq_true rfl)⟩ dL_law_375 (fun H locs hI hS => ?_)
        refine lv_icmp_eq (tgt := 830) hx hb dL_law_378 (by decide) (fun _ => ?_) (fun c_9 => absurd rfl c_9)
        exact hgo σ2 _ _ _ hR2 hI hS hl
      have c6 := cz
      clear cz
      by_cases cz : z = 7
      · refine lv_tableIn (off := 351) (tgt := 383) hx hb dL_law_32 (by rw [cz]; decide) (by rw [cz]; decide) (by rw [cz]; rfl) (by decide) ?_
        obtain ⟨r, σ1, σ2, hf7, hf8, hR2⟩ := op_7 k σ (xs (x3 + 1).toNatClampNeg) (xs (x3 + 2).toNatClampNeg) hR (by omega)
        refine lv_aload_n hx hb dL_law_383 rfl (lv_at hl 1 rfl) ?_
        refine lv_aload_n hx hb dL_law_384 rfl (lv_at hl 0 rfl) ?_
        refine lv_iload_n hx hb dL_law_385 rfl (lv_at hl 3 rfl) ?_
        refine lv_iconst (v := 1) hx hb dL_law_386 (by decide) ?_
        refine lv_iadd hx hb dL_law_387 ?_
        refine va_sld hx hb hX hbl hbA hS hi1 dL_law_388 ?_
        refine lv_aload_n hx hb dL_law_389 rfl (lv_at hl 0 rfl) ?_
        refine lv_iload_n hx hb dL_law_390 rfl (lv_at hl 3 rfl) ?_
        refine lv_iconst (v := 2) hx hb dL_law_391 (by decide) ?_
        refine lv_iadd hx hb dL_law_392 ?_
        refine va_sld hx hb hX hbl hbA hS hi2 dL_law_393 ?_
        refine kL_44 hx hb hml hts hown hG hI hS hl.1 hL7 (As := [.int (xs (x3 + 1).toNatClampNeg), .int (xs (x3 + 2).toNatClampNeg)]) (c_X7_wind l D cI cS s.heap.size K hL7 (xs (x3 + 1).toNatClampNeg) (xs (x3 + 2).toNatClampNeg) σ _ _ hf7) ⟨(Nat.le_of_ble_eq_true rfl), (Nat.le_of_ble_eq_true rfl)⟩ rfl (Nat.le_of_ble_eq_true rfl) ⟨(Nat.le_of_ble_eq_true rfl), (Nat.le_of_ble_eq_true rfl)⟩ dL_law_394 (fun H locs hI hS => ?_)
        refine lv_aload_n hx hb dL_law_397 rfl (lv_at hl 2 rfl) ?_
        refine lv_aload_n hx hb dL_law_398 rfl (lv_at hl 0 rfl) ?_
        refine lv_iload_n hx hb dL_law_399 rfl (lv_at hl 3 rfl) ?_
        refine lv_iconst (v := 1) hx hb dL_law_400 (by decide) ?_
        refine lv_iadd hx hb dL_law_401 ?_
        refine va_sld hx hb hX hbl hbA hS hi1 dL_law_402 ?_
        refine lv_aload_n hx hb dL_law_403 rfl (lv_at hl 0 rfl) ?_
        refine lv_iload_n hx hb dL_law_404 rfl (lv_at hl 3 rfl) ?_
        refine lv_iconst (v := 2) hx hb dL_law_405 (by decide) ?_
        refine lv_iadd hx hb dL_law_406 ?_
        refine va_sld hx hb hX hbl hbA hS hi2 dL_law_407 ?_
        refine kL_47 hx hb hml hts hown hG hI hS hl.1 hL8 (As := [.int (xs (x3 + 1).toNatClampNeg), .int (xs (x3 + 2).toNatClampNeg)]) (c_X8_wind l D cI cS s.heap.size K hL8 (xs (x3 + 1).toNatClampNeg) (xs (x3 + 2).toNatClampNeg) σ1 _ _ hf8) ⟨(Nat.le_of_ble_eq_true rfl), (Nat.le_of_ble_eq_true rfl)⟩ rfl (Nat.le_of_ble_eq_true rfl) ⟨(Nat.le_of_ble_eq_true rfl), (Nat.le_of_ble_eq_true rfl)⟩ dL_law_408 (fun H locs hI hS => ?_)
        refine lv_icmp_eq (tgt := 830) hx hb dL_law_411 (by decide) (fun _ => ?_) (fun c_9 => absurd rfl c_9)
        exact hgo σ2 _ _ _ hR2 hI hS hl
      have c7 := cz
      clear cz
      by_cases cz : z = 8
      · refine lv_tableIn (off := 384) (tgt := 416) hx hb dL_law_32 (by rw [cz]; decide) (by rw [cz]; decide) (by rw [cz]; rfl) (by decide) ?_
        obtain ⟨r, σ1, σ2, hf7, hf8, hR2⟩ := op_8 k σ (xs (x3 + 1).toNatClampNeg) hR (by omega)
        refine lv_aload_n hx hb dL_law_416 rfl (lv_at hl 1 rfl) ?_
        refine lv_aload_n hx hb dL_law_417 rfl (lv_at hl 0 rfl) ?_
        refine lv_iload_n hx hb dL_law_418 rfl (lv_at hl 3 rfl) ?_
        refine lv_iconst (v := 1) hx hb dL_law_419 (by decide) ?_
        refine lv_iadd hx hb dL_law_420 ?_
        refine va_sld hx hb hX hbl hbA hS hi1 dL_law_421 ?_
        refine kL_48 hx hb hml hts hown hG hI hS hl.1 hL7 (As := [.int (xs (x3 + 1).toNatClampNeg)]) (c_X7_append l D cI cS s.heap.size K hL7 (xs (x3 + 1).toNatClampNeg) σ _ _ hf7) ⟨(Nat.le_of_ble_eq_true rfl), (Nat.le_of_ble_eq_true rfl)⟩ rfl (Nat.le_of_ble_eq_true rfl) ⟨(Nat.le_of_ble_eq_true rfl), (Nat.le_of_ble_eq_true rfl)⟩ dL_law_422 (fun H locs hI hS => ?_)
        refine lv_aload_n hx hb dL_law_425 rfl (lv_at hl 2 rfl) ?_
        refine lv_aload_n hx hb dL_law_426 rfl (lv_at hl 0 rfl) ?_
        refine lv_iload_n hx hb dL_law_427 rfl (lv_at hl 3 rfl) ?_
        refine lv_iconst (v := 1) hx hb dL_law_428 (by decide) ?_
        refine lv_iadd hx hb dL_law_429 ?_
        refine va_sld hx hb hX hbl hbA hS hi1 dL_law_430 ?_
        refine kL_51 hx hb hml hts hown hG hI hS hl.1 hL8 (As := [.int (xs (x3 + 1).toNatClampNeg)]) (c_X8_append l D cI cS s.heap.size K hL8 (xs (x3 + 1).toNatClampNeg) σ1 _ _ hf8) ⟨(Nat.le_of_ble_eq_true rfl), (Nat.le_of_ble_eq_true rfl)⟩ rfl (Nat.le_of_ble_eq_true rfl) ⟨(Nat.le_of_ble_eq_true rfl), (Nat.le_of_ble_eq_true rfl)⟩ dL_law_431 (fun H locs hI hS => ?_)
        refine lv_icmp_eq (tgt := 830) hx hb dL_law_434 (by decide) (fun _ => ?_) (fun c_9 => absurd rfl c_9)
        exact hgo σ2 _ _ _ hR2 hI hS hl
      have c8 := cz
      clear cz
      by_cases cz : z = 9
      · refine lv_tableIn (off := 407) (tgt := 439) hx hb dL_law_32 (by rw [cz]; decide) (by rw [cz]; decide) (by rw [cz]; rfl) (by decide) ?_
        obtain ⟨r, σ1, σ2, hf7, hf8, hR2⟩ := op_9 k σ  hR (by omega)
        refine lv_aload_n hx hb dL_law_439 rfl (lv_at hl 1 rfl) ?_
        refine kL_52 hx hb hml hts hown hG hI hS hl.1 hL7 (As := []) (c_X7_clearText l D cI cS s.heap.size K hL7  σ _ _ hf7) ⟨(Nat.le_of_ble_eq_true rfl), (Nat.le_of_ble_eq_true rfl)⟩ rfl (Nat.le_of_ble_eq_true rfl) ⟨(Nat.le_of_ble_eq_true rfl), (Nat.le_of_ble_eq_true rfl)⟩ dL_law_440 (fun H locs hI hS => ?_)
        refine lv_aload_n hx hb dL_law_443 rfl (lv_at hl 2 rfl) ?_
        refine kL_56 hx hb hml hts hown hG hI hS hl.1 hL8 (As := []) (c_X8_clearText l D cI cS s.heap.size K hL8  σ1 _ _ hf8) ⟨(Nat.le_of_ble_eq_true rfl), (Nat.le_of_ble_eq_true rfl)⟩ rfl (Nat.le_of_ble_eq_true rfl) ⟨(Nat.le_of_ble_eq_true rfl), (Nat.le_of_ble_eq_true rfl)⟩ dL_law_444 (fun H locs hI hS => ?_)
        refine lv_icmp_eq (tgt := 830) hx hb dL_law_447 (by decide) (fun _ => ?_) (fun c_9 => absurd rfl c_9)
        exact hgo σ2 _ _ _ hR2 hI hS hl
      have c9 := cz
      clear cz
      by_cases cz : z = 10
      · refine lv_tableIn (off := 420) (tgt := 452) hx hb dL_law_32 (by rw [cz]; decide) (by rw [cz]; decide) (by rw [cz]; rfl) (by decide) ?_
        obtain ⟨r, σ1, σ2, hf7, hf8, hR2⟩ := op_10 k σ  hR (by omega)
        refine lv_aload_n hx hb dL_law_452 rfl (lv_at hl 1 rfl) ?_
        refine kL_57 hx hb hml hts hown hG hI hS hl.1 hL7 (As := []) (c_X7_load l D cI cS s.heap.size K hL7  σ _ _ hf7) ⟨(Nat.le_of_ble_eq_true rfl), (Nat.le_of_ble_eq_true rfl)⟩ rfl (Nat.le_of_ble_eq_true rfl) ⟨(Nat.le_of_ble_eq_true rfl), (Nat.le_of_ble_eq_true rfl)⟩ dL_law_453 (fun H locs hI hS => ?_)
        refine lv_aload_n hx hb dL_law_456 rfl (lv_at hl 2 rfl) ?_
        refine kL_60 hx hb hml hts hown hG hI hS hl.1 hL8 (As := []) (c_X8_load l D cI cS s.heap.size K hL8  σ1 _ _ hf8) ⟨(Nat.le_of_ble_eq_true rfl), (Nat.le_of_ble_eq_true rfl)⟩ rfl (Nat.le_of_ble_eq_true rfl) ⟨(Nat.le_of_ble_eq_true rfl), (Nat.le_of_ble_eq_true rfl)⟩ dL_law_457 (fun H locs hI hS => ?_)
        refine lv_icmp_eq (tgt := 830) hx hb dL_law_460 (by decide) (fun _ => ?_) (fun c_9 => absurd rfl c_9)
        exact hgo σ2 _ _ _ hR2 hI hS hl
      have c10 := cz
      clear cz
      by_cases cz : z = 11
      · refine lv_tableIn (off := 433) (tgt := 465) hx hb dL_law_32 (by rw [cz]; decide) (by rw [cz]; decide) (by rw [cz]; rfl) (by decide) ?_
        obtain ⟨r, σ1, σ2, hf7, hf8, hR2⟩ := op_11 k σ (xs (x3 + 1).toNatClampNeg) hR (by omega)
        refine lv_aload_n hx hb dL_law_465 rfl (lv_at hl 1 rfl) ?_
        refine lv_aload_n hx hb dL_law_466 rfl (lv_at hl 0 rfl) ?_
        refine lv_iload_n hx hb dL_law_467 rfl (lv_at hl 3 rfl) ?_
        refine lv_iconst (v := 1) hx hb dL_law_468 (by decide) ?_
        refine lv_iadd hx hb dL_law_469 ?_
        refine va_sld hx hb hX hbl hbA hS hi1 dL_law_470 ?_
        refine kL_61 hx hb hml hts hown hG hI hS hl.1 hL7 (As := [.int (xs (x3 + 1).toNatClampNeg)]) (c_X7_weave l D cI cS s.heap.size K hL7 (xs (x3 + 1).toNatClampNeg) σ _ _ hf7) ⟨(Nat.le_of_ble_eq_true rfl), (Nat.le_of_ble_eq_true rfl)⟩ rfl (Nat.le_of_ble_eq_true rfl) ⟨(Nat.le_of_ble_eq_true rfl), (Nat.le_of_ble_eq_true rfl)⟩ dL_law_471 (fun H locs hI hS => ?_)
        refine lv_aload_n hx hb dL_law_474 rfl (lv_at hl 2 rfl) ?_
        refine lv_aload_n hx hb dL_law_475 rfl (lv_at hl 0 rfl) ?_
        refine lv_iload_n hx hb dL_law_476 rfl (lv_at hl 3 rfl) ?_
        refine lv_iconst (v := 1) hx hb dL_law_477 (by decide) ?_
        refine lv_iadd hx hb dL_law_478 ?_
        refine va_sld hx hb hX hbl hbA hS hi1 dL_law_479 ?_
        refine kL_64 hx hb hml hts hown hG hI hS hl.1 hL8 (As := [.int (xs (x3 + 1).toNatClampNeg)]) (c_X8_weave l D cI cS s.heap.size K hL8 (xs (x3 + 1).toNatClampNeg) σ1 _ _ hf8) ⟨(Nat.le_of_ble_eq_true rfl), (Nat.le_of_ble_eq_true rfl)⟩ rfl (Nat.le_of_ble_eq_true rfl) ⟨(Nat.le_of_ble_eq_true rfl), (Nat.le_of_ble_eq_true rfl)⟩ dL_law_480 (fun H locs hI hS => ?_)
        refine lv_icmp_eq (tgt := 830) hx hb dL_law_483 (by decide) (fun _ => ?_) (fun c_9 => absurd rfl c_9)
        exact hgo σ2 _ _ _ hR2 hI hS hl
      have c11 := cz
      clear cz
      by_cases cz : z = 12
      · refine lv_tableIn (off := 456) (tgt := 488) hx hb dL_law_32 (by rw [cz]; decide) (by rw [cz]; decide) (by rw [cz]; rfl) (by decide) ?_
        obtain ⟨r, σ1, σ2, hf7, hf8, hR2⟩ := op_12 k σ (xs (x3 + 1).toNatClampNeg) hR (by omega)
        refine lv_aload_n hx hb dL_law_488 rfl (lv_at hl 1 rfl) ?_
        refine lv_aload_n hx hb dL_law_489 rfl (lv_at hl 0 rfl) ?_
        refine lv_iload_n hx hb dL_law_490 rfl (lv_at hl 3 rfl) ?_
        refine lv_iconst (v := 1) hx hb dL_law_491 (by decide) ?_
        refine lv_iadd hx hb dL_law_492 ?_
        refine va_sld hx hb hX hbl hbA hS hi1 dL_law_493 ?_
        refine kL_65 hx hb hml hts hown hG hI hS hl.1 hL7 (As := [.int (xs (x3 + 1).toNatClampNeg)]) (c_X7_takeOut l D cI cS s.heap.size K hL7 (xs (x3 + 1).toNatClampNeg) σ _ _ hf7) ⟨(Nat.le_of_ble_eq_true rfl), (Nat.le_of_ble_eq_true rfl)⟩ rfl (Nat.le_of_ble_eq_true rfl) ⟨(Nat.le_of_ble_eq_true rfl), (Nat.le_of_ble_eq_true rfl)⟩ dL_law_494 (fun H locs hI hS => ?_)
        refine lv_aload_n hx hb dL_law_497 rfl (lv_at hl 2 rfl) ?_
        refine lv_aload_n hx hb dL_law_498 rfl (lv_at hl 0 rfl) ?_
        refine lv_iload_n hx hb dL_law_499 rfl (lv_at hl 3 rfl) ?_
        refine lv_iconst (v := 1) hx hb dL_law_500 (by decide) ?_
        refine lv_iadd hx hb dL_law_501 ?_
        refine va_sld hx hb hX hbl hbA hS hi1 dL_law_502 ?_
        refine kL_68 hx hb hml hts hown hG hI hS hl.1 hL8 (As := [.int (xs (x3 + 1).toNatClampNeg)]) (c_X8_takeOut l D cI cS s.heap.size K hL8 (xs (x3 + 1).toNatClampNeg) σ1 _ _ hf8) ⟨(Nat.le_of_ble_eq_true rfl), (Nat.le_of_ble_eq_true rfl)⟩ rfl (Nat.le_of_ble_eq_true rfl) ⟨(Nat.le_of_ble_eq_true rfl), (Nat.le_of_ble_eq_true rfl)⟩ dL_law_503 (fun H locs hI hS => ?_)
        refine lv_icmp_eq (tgt := 830) hx hb dL_law_506 (by decide) (fun _ => ?_) (fun c_9 => absurd rfl c_9)
        exact hgo σ2 _ _ _ hR2 hI hS hl
      have c12 := cz
      clear cz
      by_cases cz : z = 13
      · refine lv_tableIn (off := 479) (tgt := 511) hx hb dL_law_32 (by rw [cz]; decide) (by rw [cz]; decide) (by rw [cz]; rfl) (by decide) ?_
        obtain ⟨r, σ1, σ2, hf7, hf8, hR2⟩ := op_13 k σ  hR (by omega)
        refine lv_aload_n hx hb dL_law_511 rfl (lv_at hl 1 rfl) ?_
        refine kL_69 hx hb hml hts hown hG hI hS hl.1 hL7 (As := []) (c_X7_cutOff l D cI cS s.heap.size K hL7  σ _ _ hf7) ⟨(Nat.le_of_ble_eq_true rfl), (Nat.le_of_ble_eq_true rfl)⟩ rfl (Nat.le_of_ble_eq_true rfl) ⟨(Nat.le_of_ble_eq_true rfl), (Nat.le_of_ble_eq_true rfl)⟩ dL_law_512 (fun H locs hI hS => ?_)
        refine lv_aload_n hx hb dL_law_515 rfl (lv_at hl 2 rfl) ?_
        refine kL_72 hx hb hml hts hown hG hI hS hl.1 hL8 (As := []) (c_X8_cutOff l D cI cS s.heap.size K hL8  σ1 _ _ hf8) ⟨(Nat.le_of_ble_eq_true rfl), (Nat.le_of_ble_eq_true rfl)⟩ rfl (Nat.le_of_ble_eq_true rfl) ⟨(Nat.le_of_ble_eq_true rfl), (Nat.le_of_ble_eq_true rfl)⟩ dL_law_516 (fun H locs hI hS => ?_)
        refine lv_icmp_eq (tgt := 830) hx hb dL_law_519 (by decide) (fun _ => ?_) (fun c_9 => absurd rfl c_9)
        exact hgo σ2 _ _ _ hR2 hI hS hl
      have c13 := cz
      clear cz
      by_cases cz : z = 14
      · refine lv_tableIn (off := 492) (tgt := 524) hx hb dL_law_32 (by rw [cz]; decide) (by rw [cz]; decide) (by rw [cz]; rfl) (by decide) ?_
        obtain ⟨r, σ1, σ2, hf7, hf8, hR2⟩ := op_14 k σ  hR (by omega)
        refine lv_aload_n hx hb dL_law_524 rfl (lv_at hl 1 rfl) ?_
        refine kL_73 hx hb hml hts hown hG hI hS hl.1 hL7 (As := []) (c_X7_undo l D cI cS s.heap.size K hL7  σ _ _ hf7) ⟨(Nat.le_of_ble_eq_true rfl), (Nat.le_of_ble_eq_true rfl)⟩ rfl (Nat.le_of_ble_eq_true rfl) ⟨(Nat.le_of_ble_eq_true rfl), (Nat.le_of_ble_eq_true rfl)⟩ dL_law_525 (fun H locs hI hS => ?_)
        refine lv_aload_n hx hb dL_law_528 rfl (lv_at hl 2 rfl) ?_
        refine kL_76 hx hb hml hts hown hG hI hS hl.1 hL8 (As := []) (c_X8_undo l D cI cS s.heap.size K hL8  σ1 _ _ hf8) ⟨(Nat.le_of_ble_eq_true rfl), (Nat.le_of_ble_eq_true rfl)⟩ rfl (Nat.le_of_ble_eq_true rfl) ⟨(Nat.le_of_ble_eq_true rfl), (Nat.le_of_ble_eq_true rfl)⟩ dL_law_529 (fun H locs hI hS => ?_)
        refine lv_icmp_eq (tgt := 830) hx hb dL_law_532 (by decide) (fun _ => ?_) (fun c_9 => absurd rfl c_9)
        exact hgo σ2 _ _ _ hR2 hI hS hl
      have c14 := cz
      clear cz
      by_cases cz : z = 15
      · refine lv_tableIn (off := 505) (tgt := 537) hx hb dL_law_32 (by rw [cz]; decide) (by rw [cz]; decide) (by rw [cz]; rfl) (by decide) ?_
        obtain ⟨r, σ2, hf7, hf8, hR2⟩ := op_15 k σ (xs (x3 + 1).toNatClampNeg) hR (by omega)
        refine lv_aload_n hx hb dL_law_537 rfl (lv_at hl 1 rfl) ?_
        refine lv_aload_n hx hb dL_law_538 rfl (lv_at hl 0 rfl) ?_
        refine lv_iload_n hx hb dL_law_539 rfl (lv_at hl 3 rfl) ?_
        refine lv_iconst (v := 1) hx hb dL_law_540 (by decide) ?_
        refine lv_iadd hx hb dL_law_541 ?_
        refine va_sld hx hb hX hbl hbA hS hi1 dL_law_542 ?_
        refine kL_77 hx hb hml hts hown hG hI hS hl.1 hL7 (As := [.int (xs (x3 + 1).toNatClampNeg)]) (c_X7_count l D cI cS s.heap.size K hL7 (xs (x3 + 1).toNatClampNeg) σ _ hf7) ⟨(Nat.le_of_ble_eq_true rfl), (Nat.le_of_ble_eq_true rfl)⟩ rfl (Nat.le_of_ble_eq_true rfl) ⟨(Nat.le_of_ble_eq_true rfl), (Nat.le_of_ble_eq_true rfl)⟩ dL_law_543 (fun H locs hI hS => ?_)
        refine lv_aload_n hx hb dL_law_546 rfl (lv_at hl 2 rfl) ?_
        refine lv_aload_n hx hb dL_law_547 rfl (lv_at hl 0 rfl) ?_
        refine lv_iload_n hx hb dL_law_548 rfl (lv_at hl 3 rfl) ?_
        refine lv_iconst (v := 1) hx hb dL_law_549 (by decide) ?_
        refine lv_iadd hx hb dL_law_550 ?_
        refine va_sld hx hb hX hbl hbA hS hi1 dL_law_551 ?_
        refine kL_80 hx hb hml hts hown hG hI hS hl.1 hL8 (As := [.int (xs (x3 + 1).toNatClampNeg)]) (c_X8_count l D cI cS s.heap.size K hL8 (xs (x3 + 1).toNatClampNeg) σ _ _ hf8) ⟨(Nat.le_of_ble_eq_true rfl), (Nat.le_of_ble_eq_true rfl)⟩ rfl (Nat.le_of_ble_eq_true rfl) ⟨(Nat.le_of_ble_eq_true rfl), (Nat.le_of_ble_eq_true rfl)⟩ dL_law_552 (fun H locs hI hS => ?_)
        refine lv_icmp_eq (tgt := 830) hx hb dL_law_555 (by decide) (fun _ => ?_) (fun c_9 => absurd rfl c_9)
        exact hgo σ2 _ _ _ hR2 hI hS hl
      have c15 := cz
      clear cz
      by_cases cz : z = 16
      · refine lv_tableIn (off := 528) (tgt := 560) hx hb dL_law_32 (by rw [cz]; decide) (by rw [cz]; decide) (by rw [cz]; rfl) (by decide) ?_
        obtain ⟨r, σ2, hf7, hf8, hR2⟩ := op_16 k σ (xs (x3 + 1).toNatClampNeg) (xs (x3 + 2).toNatClampNeg) hR (by omega)
        refine lv_aload_n hx hb dL_law_560 rfl (lv_at hl 1 rfl) ?_
        refine lv_aload_n hx hb dL_law_561 rfl (lv_at hl 0 rfl) ?_
        refine lv_iload_n hx hb dL_law_562 rfl (lv_at hl 3 rfl) ?_
        refine lv_iconst (v := 1) hx hb dL_law_563 (by decide) ?_
        refine lv_iadd hx hb dL_law_564 ?_
        refine va_sld hx hb hX hbl hbA hS hi1 dL_law_565 ?_
        refine lv_aload_n hx hb dL_law_566 rfl (lv_at hl 0 rfl) ?_
        refine lv_iload_n hx hb dL_law_567 rfl (lv_at hl 3 rfl) ?_
        refine lv_iconst (v := 2) hx hb dL_law_568 (by decide) ?_
        refine lv_iadd hx hb dL_law_569 ?_
        refine va_sld hx hb hX hbl hbA hS hi2 dL_law_570 ?_
        refine kL_81 hx hb hml hts hown hG hI hS hl.1 hL7 (As := [.int (xs (x3 + 1).toNatClampNeg), .int (xs (x3 + 2).toNatClampNeg)]) (c_X7_end l D cI cS s.heap.size K hL7 (xs (x3 + 1).toNatClampNeg) (xs (x3 + 2).toNatClampNeg) σ _ hf7) ⟨(Nat.le_of_ble_eq_true rfl), (Nat.le_of_ble_eq_true rfl)⟩ rfl (Nat.le_of_ble_eq_true rfl) ⟨(Nat.le_of_ble_eq_true rfl), (Nat.le_of_ble_eq_true rfl)⟩ dL_law_571 (fun H locs hI hS => ?_)
        refine lv_aload_n hx hb dL_law_574 rfl (lv_at hl 2 rfl) ?_
        refine lv_aload_n hx hb dL_law_575 rfl (lv_at hl 0 rfl) ?_
        refine lv_iload_n hx hb dL_law_576 rfl (lv_at hl 3 rfl) ?_
        refine lv_iconst (v := 1) hx hb dL_law_577 (by decide) ?_
        refine lv_iadd hx hb dL_law_578 ?_
        refine va_sld hx hb hX hbl hbA hS hi1 dL_law_579 ?_
        refine lv_aload_n hx hb dL_law_580 rfl (lv_at hl 0 rfl) ?_
        refine lv_iload_n hx hb dL_law_581 rfl (lv_at hl 3 rfl) ?_
        refine lv_iconst (v := 2) hx hb dL_law_582 (by decide) ?_
        refine lv_iadd hx hb dL_law_583 ?_
        refine va_sld hx hb hX hbl hbA hS hi2 dL_law_584 ?_
        refine kL_84 hx hb hml hts hown hG hI hS hl.1 hL8 (As := [.int (xs (x3 + 1).toNatClampNeg), .int (xs (x3 + 2).toNatClampNeg)]) (c_X8_end l D cI cS s.heap.size K hL8 (xs (x3 + 1).toNatClampNeg) (xs (x3 + 2).toNatClampNeg) σ _ _ hf8) ⟨(Nat.le_of_ble_eq_true rfl), (Nat.le_of_ble_eq_true rfl)⟩ rfl (Nat.le_of_ble_eq_true rfl) ⟨(Nat.le_of_ble_eq_true rfl), (Nat.le_of_ble_eq_true rfl)⟩ dL_law_585 (fun H locs hI hS => ?_)
        refine lv_icmp_eq (tgt := 830) hx hb dL_law_588 (by decide) (fun _ => ?_) (fun c_9 => absurd rfl c_9)
        exact hgo σ2 _ _ _ hR2 hI hS hl
      have c16 := cz
      clear cz
      by_cases cz : z = 17
      · refine lv_tableIn (off := 561) (tgt := 593) hx hb dL_law_32 (by rw [cz]; decide) (by rw [cz]; decide) (by rw [cz]; rfl) (by decide) ?_
        obtain ⟨r, σ2, hf7, hf8, hR2⟩ := op_17 k σ (xs (x3 + 1).toNatClampNeg) (xs (x3 + 2).toNatClampNeg) hR (by omega)
        refine lv_aload_n hx hb dL_law_593 rfl (lv_at hl 1 rfl) ?_
        refine lv_aload_n hx hb dL_law_594 rfl (lv_at hl 0 rfl) ?_
        refine lv_iload_n hx hb dL_law_595 rfl (lv_at hl 3 rfl) ?_
        refine lv_iconst (v := 1) hx hb dL_law_596 (by decide) ?_
        refine lv_iadd hx hb dL_law_597 ?_
        refine va_sld hx hb hX hbl hbA hS hi1 dL_law_598 ?_
        refine lv_aload_n hx hb dL_law_599 rfl (lv_at hl 0 rfl) ?_
        refine lv_iload_n hx hb dL_law_600 rfl (lv_at hl 3 rfl) ?_
        refine lv_iconst (v := 2) hx hb dL_law_601 (by decide) ?_
        refine lv_iadd hx hb dL_law_602 ?_
        refine va_sld hx hb hX hbl hbA hS hi2 dL_law_603 ?_
        refine kL_85 hx hb hml hts hown hG hI hS hl.1 hL7 (As := [.int (xs (x3 + 1).toNatClampNeg), .int (xs (x3 + 2).toNatClampNeg)]) (c_X7_bar l D cI cS s.heap.size K hL7 (xs (x3 + 1).toNatClampNeg) (xs (x3 + 2).toNatClampNeg) σ _ hf7) ⟨(Nat.le_of_ble_eq_true rfl), (Nat.le_of_ble_eq_true rfl)⟩ rfl (Nat.le_of_ble_eq_true rfl) ⟨(Nat.le_of_ble_eq_true rfl), (Nat.le_of_ble_eq_true rfl)⟩ dL_law_604 (fun H locs hI hS => ?_)
        refine lv_aload_n hx hb dL_law_607 rfl (lv_at hl 2 rfl) ?_
        refine lv_aload_n hx hb dL_law_608 rfl (lv_at hl 0 rfl) ?_
        refine lv_iload_n hx hb dL_law_609 rfl (lv_at hl 3 rfl) ?_
        refine lv_iconst (v := 1) hx hb dL_law_610 (by decide) ?_
        refine lv_iadd hx hb dL_law_611 ?_
        refine va_sld hx hb hX hbl hbA hS hi1 dL_law_612 ?_
        refine lv_aload_n hx hb dL_law_613 rfl (lv_at hl 0 rfl) ?_
        refine lv_iload_n hx hb dL_law_614 rfl (lv_at hl 3 rfl) ?_
        refine lv_iconst (v := 2) hx hb dL_law_615 (by decide) ?_
        refine lv_iadd hx hb dL_law_616 ?_
        refine va_sld hx hb hX hbl hbA hS hi2 dL_law_617 ?_
        refine kL_88 hx hb hml hts hown hG hI hS hl.1 hL8 (As := [.int (xs (x3 + 1).toNatClampNeg), .int (xs (x3 + 2).toNatClampNeg)]) (c_X8_bar l D cI cS s.heap.size K hL8 (xs (x3 + 1).toNatClampNeg) (xs (x3 + 2).toNatClampNeg) σ _ _ hf8) ⟨(Nat.le_of_ble_eq_true rfl), (Nat.le_of_ble_eq_true rfl)⟩ rfl (Nat.le_of_ble_eq_true rfl) ⟨(Nat.le_of_ble_eq_true rfl), (Nat.le_of_ble_eq_true rfl)⟩ dL_law_618 (fun H locs hI hS => ?_)
        refine lv_icmp_eq (tgt := 830) hx hb dL_law_621 (by decide) (fun _ => ?_) (fun c_9 => absurd rfl c_9)
        exact hgo σ2 _ _ _ hR2 hI hS hl
      have c17 := cz
      clear cz
      by_cases cz : z = 18
      · refine lv_tableIn (off := 594) (tgt := 626) hx hb dL_law_32 (by rw [cz]; decide) (by rw [cz]; decide) (by rw [cz]; rfl) (by decide) ?_
        obtain ⟨r, σ2, hf7, hf8, hR2⟩ := op_18 k σ (xs (x3 + 1).toNatClampNeg) hR (by omega)
        refine lv_aload_n hx hb dL_law_626 rfl (lv_at hl 1 rfl) ?_
        refine lv_aload_n hx hb dL_law_627 rfl (lv_at hl 0 rfl) ?_
        refine lv_iload_n hx hb dL_law_628 rfl (lv_at hl 3 rfl) ?_
        refine lv_iconst (v := 1) hx hb dL_law_629 (by decide) ?_
        refine lv_iadd hx hb dL_law_630 ?_
        refine va_sld hx hb hX hbl hbA hS hi1 dL_law_631 ?_
        refine kL_89 hx hb hml hts hown hG hI hS hl.1 hL7 (As := [.int (xs (x3 + 1).toNatClampNeg)]) (c_X7_yarn l D cI cS s.heap.size K hL7 (xs (x3 + 1).toNatClampNeg) σ _ hf7) ⟨(Nat.le_of_ble_eq_true rfl), (Nat.le_of_ble_eq_true rfl)⟩ rfl (Nat.le_of_ble_eq_true rfl) ⟨(Nat.le_of_ble_eq_true rfl), (Nat.le_of_ble_eq_true rfl)⟩ dL_law_632 (fun H locs hI hS => ?_)
        refine lv_aload_n hx hb dL_law_635 rfl (lv_at hl 2 rfl) ?_
        refine lv_aload_n hx hb dL_law_636 rfl (lv_at hl 0 rfl) ?_
        refine lv_iload_n hx hb dL_law_637 rfl (lv_at hl 3 rfl) ?_
        refine lv_iconst (v := 1) hx hb dL_law_638 (by decide) ?_
        refine lv_iadd hx hb dL_law_639 ?_
        refine va_sld hx hb hX hbl hbA hS hi1 dL_law_640 ?_
        refine kL_92 hx hb hml hts hown hG hI hS hl.1 hL8 (As := [.int (xs (x3 + 1).toNatClampNeg)]) (c_X8_yarn l D cI cS s.heap.size K hL8 (xs (x3 + 1).toNatClampNeg) σ _ _ hf8) ⟨(Nat.le_of_ble_eq_true rfl), (Nat.le_of_ble_eq_true rfl)⟩ rfl (Nat.le_of_ble_eq_true rfl) ⟨(Nat.le_of_ble_eq_true rfl), (Nat.le_of_ble_eq_true rfl)⟩ dL_law_641 (fun H locs hI hS => ?_)
        refine lv_icmp_eq (tgt := 830) hx hb dL_law_644 (by decide) (fun _ => ?_) (fun c_9 => absurd rfl c_9)
        exact hgo σ2 _ _ _ hR2 hI hS hl
      have c18 := cz
      clear cz
      by_cases cz : z = 19
      · refine lv_tableIn (off := 617) (tgt := 649) hx hb dL_law_32 (by rw [cz]; decide) (by rw [cz]; decide) (by rw [cz]; rfl) (by decide) ?_
        obtain ⟨r, σ2, hf7, hf8, hR2⟩ := op_19 k σ (xs (x3 + 1).toNatClampNeg) (xs (x3 + 2).toNatClampNeg) hR (by omega)
        refine lv_aload_n hx hb dL_law_649 rfl (lv_at hl 1 rfl) ?_
        refine lv_aload_n hx hb dL_law_650 rfl (lv_at hl 0 rfl) ?_
        refine lv_iload_n hx hb dL_law_651 rfl (lv_at hl 3 rfl) ?_
        refine lv_iconst (v := 1) hx hb dL_law_652 (by decide) ?_
        refine lv_iadd hx hb dL_law_653 ?_
        refine va_sld hx hb hX hbl hbA hS hi1 dL_law_654 ?_
        refine lv_aload_n hx hb dL_law_655 rfl (lv_at hl 0 rfl) ?_
        refine lv_iload_n hx hb dL_law_656 rfl (lv_at hl 3 rfl) ?_
        refine lv_iconst (v := 2) hx hb dL_law_657 (by decide) ?_
        refine lv_iadd hx hb dL_law_658 ?_
        refine va_sld hx hb hX hbl hbA hS hi2 dL_law_659 ?_
        refine kL_93 hx hb hml hts hown hG hI hS hl.1 hL7 (As := [.int (xs (x3 + 1).toNatClampNeg), .int (xs (x3 + 2).toNatClampNeg)]) (c_X7_row l D cI cS s.heap.size K hL7 (xs (x3 + 1).toNatClampNeg) (xs (x3 + 2).toNatClampNeg) σ _ hf7) ⟨(Nat.le_of_ble_eq_true rfl), (Nat.le_of_ble_eq_true rfl)⟩ rfl (Nat.le_of_ble_eq_true rfl) ⟨(Nat.le_of_ble_eq_true rfl), (Nat.le_of_ble_eq_true rfl)⟩ dL_law_660 (fun H locs hI hS => ?_)
        refine lv_aload_n hx hb dL_law_663 rfl (lv_at hl 2 rfl) ?_
        refine lv_aload_n hx hb dL_law_664 rfl (lv_at hl 0 rfl) ?_
        refine lv_iload_n hx hb dL_law_665 rfl (lv_at hl 3 rfl) ?_
        refine lv_iconst (v := 1) hx hb dL_law_666 (by decide) ?_
        refine lv_iadd hx hb dL_law_667 ?_
        refine va_sld hx hb hX hbl hbA hS hi1 dL_law_668 ?_
        refine lv_aload_n hx hb dL_law_669 rfl (lv_at hl 0 rfl) ?_
        refine lv_iload_n hx hb dL_law_670 rfl (lv_at hl 3 rfl) ?_
        refine lv_iconst (v := 2) hx hb dL_law_671 (by decide) ?_
        refine lv_iadd hx hb dL_law_672 ?_
        refine va_sld hx hb hX hbl hbA hS hi2 dL_law_673 ?_
        refine kL_96 hx hb hml hts hown hG hI hS hl.1 hL8 (As := [.int (xs (x3 + 1).toNatClampNeg), .int (xs (x3 + 2).toNatClampNeg)]) (c_X8_row l D cI cS s.heap.size K hL8 (xs (x3 + 1).toNatClampNeg) (xs (x3 + 2).toNatClampNeg) σ _ _ hf8) ⟨(Nat.le_of_ble_eq_true rfl), (Nat.le_of_ble_eq_true rfl)⟩ rfl (Nat.le_of_ble_eq_true rfl) ⟨(Nat.le_of_ble_eq_true rfl), (Nat.le_of_ble_eq_true rfl)⟩ dL_law_674 (fun H locs hI hS => ?_)
        refine lv_icmp_eq (tgt := 830) hx hb dL_law_677 (by decide) (fun _ => ?_) (fun c_9 => absurd rfl c_9)
        exact hgo σ2 _ _ _ hR2 hI hS hl
      have c19 := cz
      clear cz
      by_cases cz : z = 20
      · refine lv_tableIn (off := 650) (tgt := 682) hx hb dL_law_32 (by rw [cz]; decide) (by rw [cz]; decide) (by rw [cz]; rfl) (by decide) ?_
        obtain ⟨r, σ2, hf7, hf8, hR2⟩ := op_20 k σ (xs (x3 + 1).toNatClampNeg) (xs (x3 + 2).toNatClampNeg) (xs (x3 + 3).toNatClampNeg) hR (by omega)
        refine lv_aload_n hx hb dL_law_682 rfl (lv_at hl 1 rfl) ?_
        refine lv_aload_n hx hb dL_law_683 rfl (lv_at hl 0 rfl) ?_
        refine lv_iload_n hx hb dL_law_684 rfl (lv_at hl 3 rfl) ?_
        refine lv_iconst (v := 1) hx hb dL_law_685 (by decide) ?_
        refine lv_iadd hx hb dL_law_686 ?_
        refine va_sld hx hb hX hbl hbA hS hi1 dL_law_687 ?_
        refine lv_aload_n hx hb dL_law_688 rfl (lv_at hl 0 rfl) ?_
        refine lv_iload_n hx hb dL_law_689 rfl (lv_at hl 3 rfl) ?_
        refine lv_iconst (v := 2) hx hb dL_law_690 (by decide) ?_
        refine lv_iadd hx hb dL_law_691 ?_
        refine va_sld hx hb hX hbl hbA hS hi2 dL_law_692 ?_
        refine lv_aload_n hx hb dL_law_693 rfl (lv_at hl 0 rfl) ?_
        refine lv_iload_n hx hb dL_law_694 rfl (lv_at hl 3 rfl) ?_
        refine lv_iconst (v := 3) hx hb dL_law_695 (by decide) ?_
        refine lv_iadd hx hb dL_law_696 ?_
        refine va_sld hx hb hX hbl hbA hS hi3 dL_law_697 ?_
        refine kL_97 hx hb hml hts hown hG hI hS hl.1 hL7 (As := [.int (xs (x3 + 1).toNatClampNeg), .int (xs (x3 + 2).toNatClampNeg), .int (xs (x3 + 3).toNatClampNeg)]) (c_X7_cell l D cI cS s.heap.size K hL7 (xs (x3 + 1).toNatClampNeg) (xs (x3 + 2).toNatClampNeg) (xs (x3 + 3).toNatClampNeg) σ _ hf7) ⟨(Nat.le_of_ble_eq_true rfl), (Nat.le_of_ble_eq_true rfl)⟩ rfl (Nat.le_of_ble_eq_true rfl) ⟨(Nat.le_of_ble_eq_true rfl), (Nat.le_of_ble_eq_true rfl)⟩ dL_law_698 (fun H locs hI hS => ?_)
        refine lv_aload_n hx hb dL_law_701 rfl (lv_at hl 2 rfl) ?_
        refine lv_aload_n hx hb dL_law_702 rfl (lv_at hl 0 rfl) ?_
        refine lv_iload_n hx hb dL_law_703 rfl (lv_at hl 3 rfl) ?_
        refine lv_iconst (v := 1) hx hb dL_law_704 (by decide) ?_
        refine lv_iadd hx hb dL_law_705 ?_
        refine va_sld hx hb hX hbl hbA hS hi1 dL_law_706 ?_
        refine lv_aload_n hx hb dL_law_707 rfl (lv_at hl 0 rfl) ?_
        refine lv_iload_n hx hb dL_law_708 rfl (lv_at hl 3 rfl) ?_
        refine lv_iconst (v := 2) hx hb dL_law_709 (by decide) ?_
        refine lv_iadd hx hb dL_law_710 ?_
        refine va_sld hx hb hX hbl hbA hS hi2 dL_law_711 ?_
        refine lv_aload_n hx hb dL_law_712 rfl (lv_at hl 0 rfl) ?_
        refine lv_iload_n hx hb dL_law_713 rfl (lv_at hl 3 rfl) ?_
        refine lv_iconst (v := 3) hx hb dL_law_714 (by decide) ?_
        refine lv_iadd hx hb dL_law_715 ?_
        refine va_sld hx hb hX hbl hbA hS hi3 dL_law_716 ?_
        refine kL_100 hx hb hml hts hown hG hI hS hl.1 hL8 (As := [.int (xs (x3 + 1).toNatClampNeg), .int (xs (x3 + 2).toNatClampNeg), .int (xs (x3 + 3).toNatClampNeg)]) (c_X8_cell l D cI cS s.heap.size K hL8 (xs (x3 + 1).toNatClampNeg) (xs (x3 + 2).toNatClampNeg) (xs (x3 + 3).toNatClampNeg) σ _ _ hf8) ⟨(Nat.le_of_ble_eq_true rfl), (Nat.le_of_ble_eq_true rfl)⟩ rfl (Nat.le_of_ble_eq_true rfl) ⟨(Nat.le_of_ble_eq_true rfl), (Nat.le_of_ble_eq_true rfl)⟩ dL_law_717 (fun H locs hI hS => ?_)
        refine lv_icmp_eq (tgt := 830) hx hb dL_law_720 (by decide) (fun _ => ?_) (fun c_9 => absurd rfl c_9)
        exact hgo σ2 _ _ _ hR2 hI hS hl
      have c20 := cz
      clear cz
      by_cases cz : z = 21
      · refine lv_tableIn (off := 693) (tgt := 725) hx hb dL_law_32 (by rw [cz]; decide) (by rw [cz]; decide) (by rw [cz]; rfl) (by decide) ?_
        obtain ⟨r, σ2, hf7, hf8, hR2⟩ := op_21 k σ (xs (x3 + 1).toNatClampNeg) (xs (x3 + 2).toNatClampNeg) hR (by omega)
        refine lv_aload_n hx hb dL_law_725 rfl (lv_at hl 1 rfl) ?_
        refine lv_aload_n hx hb dL_law_726 rfl (lv_at hl 0 rfl) ?_
        refine lv_iload_n hx hb dL_law_727 rfl (lv_at hl 3 rfl) ?_
        refine lv_iconst (v := 1) hx hb dL_law_728 (by decide) ?_
        refine lv_iadd hx hb dL_law_729 ?_
        refine va_sld hx hb hX hbl hbA hS hi1 dL_law_730 ?_
        refine lv_aload_n hx hb dL_law_731 rfl (lv_at hl 0 rfl) ?_
        refine lv_iload_n hx hb dL_law_732 rfl (lv_at hl 3 rfl) ?_
        refine lv_iconst (v := 2) hx hb dL_law_733 (by decide) ?_
        refine lv_iadd hx hb dL_law_734 ?_
        refine va_sld hx hb hX hbl hbA hS hi2 dL_law_735 ?_
        refine kL_101 hx hb hml hts hown hG hI hS hl.1 hL7 (As := [.int (xs (x3 + 1).toNatClampNeg), .int (xs (x3 + 2).toNatClampNeg)]) (c_X7_floats l D cI cS s.heap.size K hL7 (xs (x3 + 1).toNatClampNeg) (xs (x3 + 2).toNatClampNeg) σ _ hf7) ⟨(Nat.le_of_ble_eq_true rfl), (Nat.le_of_ble_eq_true rfl)⟩ rfl (Nat.le_of_ble_eq_true rfl) ⟨(Nat.le_of_ble_eq_true rfl), (Nat.le_of_ble_eq_true rfl)⟩ dL_law_736 (fun H locs hI hS => ?_)
        refine lv_aload_n hx hb dL_law_739 rfl (lv_at hl 2 rfl) ?_
        refine lv_aload_n hx hb dL_law_740 rfl (lv_at hl 0 rfl) ?_
        refine lv_iload_n hx hb dL_law_741 rfl (lv_at hl 3 rfl) ?_
        refine lv_iconst (v := 1) hx hb dL_law_742 (by decide) ?_
        refine lv_iadd hx hb dL_law_743 ?_
        refine va_sld hx hb hX hbl hbA hS hi1 dL_law_744 ?_
        refine lv_aload_n hx hb dL_law_745 rfl (lv_at hl 0 rfl) ?_
        refine lv_iload_n hx hb dL_law_746 rfl (lv_at hl 3 rfl) ?_
        refine lv_iconst (v := 2) hx hb dL_law_747 (by decide) ?_
        refine lv_iadd hx hb dL_law_748 ?_
        refine va_sld hx hb hX hbl hbA hS hi2 dL_law_749 ?_
        refine kL_104 hx hb hml hts hown hG hI hS hl.1 hL8 (As := [.int (xs (x3 + 1).toNatClampNeg), .int (xs (x3 + 2).toNatClampNeg)]) (c_X8_floats l D cI cS s.heap.size K hL8 (xs (x3 + 1).toNatClampNeg) (xs (x3 + 2).toNatClampNeg) σ _ _ hf8) ⟨(Nat.le_of_ble_eq_true rfl), (Nat.le_of_ble_eq_true rfl)⟩ rfl (Nat.le_of_ble_eq_true rfl) ⟨(Nat.le_of_ble_eq_true rfl), (Nat.le_of_ble_eq_true rfl)⟩ dL_law_750 (fun H locs hI hS => ?_)
        refine lv_icmp_eq (tgt := 830) hx hb dL_law_753 (by decide) (fun _ => ?_) (fun c_9 => absurd rfl c_9)
        exact hgo σ2 _ _ _ hR2 hI hS hl
      have c21 := cz
      clear cz
      by_cases cz : z = 22
      · refine lv_tableIn (off := 726) (tgt := 758) hx hb dL_law_32 (by rw [cz]; decide) (by rw [cz]; decide) (by rw [cz]; rfl) (by decide) ?_
        obtain ⟨r, σ2, hf7, hf8, hR2⟩ := op_22 k σ  hR (by omega)
        refine lv_aload_n hx hb dL_law_758 rfl (lv_at hl 1 rfl) ?_
        refine kL_105 hx hb hml hts hown hG hI hS hl.1 hL7 (As := []) (c_X7_repeat l D cI cS s.heap.size K hL7  σ _ hf7) ⟨(Nat.le_of_ble_eq_true rfl), (Nat.le_of_ble_eq_true rfl)⟩ rfl (Nat.le_of_ble_eq_true rfl) ⟨(Nat.le_of_ble_eq_true rfl), (Nat.le_of_ble_eq_true rfl)⟩ dL_law_759 (fun H locs hI hS => ?_)
        refine lv_aload_n hx hb dL_law_762 rfl (lv_at hl 2 rfl) ?_
        refine kL_108 hx hb hml hts hown hG hI hS hl.1 hL8 (As := []) (c_X8_repeat l D cI cS s.heap.size K hL8  σ _ _ hf8) ⟨(Nat.le_of_ble_eq_true rfl), (Nat.le_of_ble_eq_true rfl)⟩ rfl (Nat.le_of_ble_eq_true rfl) ⟨(Nat.le_of_ble_eq_true rfl), (Nat.le_of_ble_eq_true rfl)⟩ dL_law_763 (fun H locs hI hS => ?_)
        refine lv_icmp_eq (tgt := 830) hx hb dL_law_766 (by decide) (fun _ => ?_) (fun c_9 => absurd rfl c_9)
        exact hgo σ2 _ _ _ hR2 hI hS hl
      have c22 := cz
      clear cz
      by_cases cz : z = 23
      · refine lv_tableIn (off := 739) (tgt := 771) hx hb dL_law_32 (by rw [cz]; decide) (by rw [cz]; decide) (by rw [cz]; rfl) (by decide) ?_
        obtain ⟨r, σ2, hf7, hf8, hR2⟩ := op_23 k σ  hR (by omega)
        refine lv_aload_n hx hb dL_law_771 rfl (lv_at hl 1 rfl) ?_
        refine kL_109 hx hb hml hts hown hG hI hS hl.1 hL7 (As := []) (c_X7_differentRows l D cI cS s.heap.size K hL7  σ _ hf7) ⟨(Nat.le_of_ble_eq_true rfl), (Nat.le_of_ble_eq_true rfl)⟩ rfl (Nat.le_of_ble_eq_true rfl) ⟨(Nat.le_of_ble_eq_true rfl), (Nat.le_of_ble_eq_true rfl)⟩ dL_law_772 (fun H locs hI hS => ?_)
        refine lv_aload_n hx hb dL_law_775 rfl (lv_at hl 2 rfl) ?_
        refine kL_112 hx hb hml hts hown hG hI hS hl.1 hL8 (As := []) (c_X8_differentRows l D cI cS s.heap.size K hL8  σ _ _ hf8) ⟨(Nat.le_of_ble_eq_true rfl), (Nat.le_of_ble_eq_true rfl)⟩ rfl (Nat.le_of_ble_eq_true rfl) ⟨(Nat.le_of_ble_eq_true rfl), (Nat.le_of_ble_eq_true rfl)⟩ dL_law_776 (fun H locs hI hS => ?_)
        refine lv_icmp_eq (tgt := 830) hx hb dL_law_779 (by decide) (fun _ => ?_) (fun c_9 => absurd rfl c_9)
        exact hgo σ2 _ _ _ hR2 hI hS hl
      have c23 := cz
      clear cz
      by_cases cz : z = 24
      · refine lv_tableIn (off := 752) (tgt := 784) hx hb dL_law_32 (by rw [cz]; decide) (by rw [cz]; decide) (by rw [cz]; rfl) (by decide) ?_
        obtain ⟨r, σ1, σ2, hf7, hf8, hR2⟩ := op_24 k σ  hR (by omega)
        refine lv_aload_n hx hb dL_law_784 rfl (lv_at hl 1 rfl) ?_
        refine kL_113 hx hb hml hts hown hG hI hS hl.1 hL7 (As := []) (c_X7_picksLeft l D cI cS s.heap.size K hL7  σ _ _ hf7) ⟨(Nat.le_of_ble_eq_true rfl), (Nat.le_of_ble_eq_true rfl)⟩ rfl (Nat.le_of_ble_eq_true rfl) ⟨(Nat.le_of_ble_eq_true rfl), (Nat.le_of_ble_eq_true rfl)⟩ dL_law_785 (fun H locs hI hS => ?_)
        refine lv_aload_n hx hb dL_law_788 rfl (lv_at hl 2 rfl) ?_
        refine kL_116 hx hb hml hts hown hG hI hS hl.1 hL8 (As := []) (c_X8_picksLeft l D cI cS s.heap.size K hL8  σ1 _ _ hf8) ⟨(Nat.le_of_ble_eq_true rfl), (Nat.le_of_ble_eq_true rfl)⟩ rfl (Nat.le_of_ble_eq_true rfl) ⟨(Nat.le_of_ble_eq_true rfl), (Nat.le_of_ble_eq_true rfl)⟩ dL_law_789 (fun H locs hI hS => ?_)
        refine lv_icmp_eq (tgt := 830) hx hb dL_law_792 (by decide) (fun _ => ?_) (fun c_9 => absurd rfl c_9)
        exact hgo σ2 _ _ _ hR2 hI hS hl
      have c24 := cz
      clear cz
      by_cases cz : z = 25
      · refine lv_tableIn (off := 765) (tgt := 797) hx hb dL_law_32 (by rw [cz]; decide) (by rw [cz]; decide) (by rw [cz]; rfl) (by decide) ?_
        obtain ⟨r, σ1, σ2, hf7, hf8, hR2⟩ := op_25 k σ (xs (x3 + 1).toNatClampNeg) (xs (x3 + 2).toNatClampNeg) hR (by omega)
        refine lv_aload_n hx hb dL_law_797 rfl (lv_at hl 1 rfl) ?_
        refine lv_aload_n hx hb dL_law_798 rfl (lv_at hl 0 rfl) ?_
        refine lv_iload_n hx hb dL_law_799 rfl (lv_at hl 3 rfl) ?_
        refine lv_iconst (v := 1) hx hb dL_law_800 (by decide) ?_
        refine lv_iadd hx hb dL_law_801 ?_
        refine va_sld hx hb hX hbl hbA hS hi1 dL_law_802 ?_
        refine lv_aload_n hx hb dL_law_803 rfl (lv_at hl 0 rfl) ?_
        refine lv_iload_n hx hb dL_law_804 rfl (lv_at hl 3 rfl) ?_
        refine lv_iconst (v := 2) hx hb dL_law_805 (by decide) ?_
        refine lv_iadd hx hb dL_law_806 ?_
        refine va_sld hx hb hX hbl hbA hS hi2 dL_law_807 ?_
        refine kL_117 hx hb hml hts hown hG hI hS hl.1 hL7 (As := [.int (xs (x3 + 1).toNatClampNeg), .int (xs (x3 + 2).toNatClampNeg)]) (c_X7_yarnFor l D cI cS s.heap.size K hL7 (xs (x3 + 1).toNatClampNeg) (xs (x3 + 2).toNatClampNeg) σ _ _ hf7) ⟨(Nat.le_of_ble_eq_true rfl), (Nat.le_of_ble_eq_true rfl)⟩ rfl (Nat.le_of_ble_eq_true rfl) ⟨(Nat.le_of_ble_eq_true rfl), (Nat.le_of_ble_eq_true rfl)⟩ dL_law_808 (fun H locs hI hS => ?_)
        refine lv_aload_n hx hb dL_law_811 rfl (lv_at hl 2 rfl) ?_
        refine lv_aload_n hx hb dL_law_812 rfl (lv_at hl 0 rfl) ?_
        refine lv_iload_n hx hb dL_law_813 rfl (lv_at hl 3 rfl) ?_
        refine lv_iconst (v := 1) hx hb dL_law_814 (by decide) ?_
        refine lv_iadd hx hb dL_law_815 ?_
        refine va_sld hx hb hX hbl hbA hS hi1 dL_law_816 ?_
        refine lv_aload_n hx hb dL_law_817 rfl (lv_at hl 0 rfl) ?_
        refine lv_iload_n hx hb dL_law_818 rfl (lv_at hl 3 rfl) ?_
        refine lv_iconst (v := 2) hx hb dL_law_819 (by decide) ?_
        refine lv_iadd hx hb dL_law_820 ?_
        refine va_sld hx hb hX hbl hbA hS hi2 dL_law_821 ?_
        refine kL_120 hx hb hml hts hown hG hI hS hl.1 hL8 (As := [.int (xs (x3 + 1).toNatClampNeg), .int (xs (x3 + 2).toNatClampNeg)]) (c_X8_yarnFor l D cI cS s.heap.size K hL8 (xs (x3 + 1).toNatClampNeg) (xs (x3 + 2).toNatClampNeg) σ1 _ _ hf8) ⟨(Nat.le_of_ble_eq_true rfl), (Nat.le_of_ble_eq_true rfl)⟩ rfl (Nat.le_of_ble_eq_true rfl) ⟨(Nat.le_of_ble_eq_true rfl), (Nat.le_of_ble_eq_true rfl)⟩ dL_law_822 (fun H locs hI hS => ?_)
        refine lv_icmp_eq (tgt := 830) hx hb dL_law_825 (by decide) (fun _ => ?_) (fun c_9 => absurd rfl c_9)
        exact hgo σ2 _ _ _ hR2 hI hS hl
      have c25 := cz
      clear cz
      refine lv_tableOut (tgt := 830) hx hb dL_law_32 (sw_out25 c0 c1 c2 c3 c4 c5 c6 c7 c8 c9 c10 c11 c12 c13 c14 c15 c16 c17 c18 c19 c20 c21 c22 c23 c24 c25) (by decide) ?_
      exact hgo σ _ _ _ (Rel_step hR) hI hS hl
set_option maxHeartbeats 8000000 in
set_option maxRecDepth 100000 in
theorem whole_start {p : Program} {e : Env} {s : State} {m : MethodId} {below : List Frame} {meth : Method} {c : Code} (l : Launch) (hflags : l.flags = flags0) {b L : Nat} {xs : Nat → Int32} (hL : L ≤ 2048) (C0 : lw_At p s m meth c b L xs) : W p l e room_1 s m #[Value.ref b] below meth c s.heap [] 0 0 (lw_Z below #[Value.ref b] s) (entryFrame m ([Value.ref b] : List Value).toArray 4) := by
  obtain ⟨hx, hb, hr, hml, hown, hts0, hX, hbl, hlocks, hgv⟩ := id C0
  have hb : c.code = cL_law := hb
  have hown : s.vm.findClass RL = some m.cls := hown
  have hts : ∀ w ∈ wsL_law, w.before #[Value.ref b] s = true := fun w h => hts0 w (wsL_law_in w h)
  obtain ⟨c0, iS0, hKn0⟩ := u_known (C := RX0) (T := TX0) (N := 5) (n := 5) hts inlX0 (hts (Cond.instantiable RX0 5) (mT2 _ (List.mem_of_getElem? (i := 14) rfl)))
  obtain ⟨c1, iS1, hKn1⟩ := u_known (C := RX1) (T := TX1) (N := 7) (n := 7) hts inlX1 (hts (Cond.instantiable RX1 7) (mT1 _ (List.mem_of_getElem? (i := 21) rfl)))
  obtain ⟨c2, iS2, hKn2⟩ := u_known (C := RX2) (T := TX2) (N := 7) (n := 7) hts inlX2 (hts (Cond.instantiable RX2 7) (mT2 _ (List.mem_of_getElem? (i := 20) rfl)))
  obtain ⟨c3, iS3, hKn3⟩ := u_known (C := RX3) (T := TX3) (N := 3) (n := 3) hts inlX3 (hts (Cond.instantiable RX3 3) (mT1 _ (List.mem_of_getElem? (i := 17) rfl)))
  obtain ⟨c4, iS4, hKn4⟩ := u_known (C := RX4) (T := TX4) (N := 1) (n := 1) hts inlX4 (hts (Cond.instantiable RX4 1) (mT2 _ (List.mem_of_getElem? (i := 1) rfl)))
  obtain ⟨c5, iS5, hKn5⟩ := u_known (C := RX5) (T := TX5) (N := 4) (n := 4) hts inlX5 (hts (Cond.instantiable RX5 4) (mT1 _ (List.mem_of_getElem? (i := 13) rfl)))
  obtain ⟨c6, iS6, hKn6⟩ := u_known (C := RX6) (T := TX6) (N := 5) (n := 5) hts inlX6 (hts (Cond.instantiable RX6 5) (mT2 _ (List.mem_of_getElem? (i := 10) rfl)))
  obtain ⟨c7, iS7, hKn7⟩ := u_known (C := RX7) (T := TX7) (N := 5) (n := 5) hts inlX7 (hts (Cond.instantiable RX7 5) (mT1 _ (List.mem_of_getElem? (i := 1) rfl)))
  obtain ⟨c8, iS8, hKn8⟩ := u_known (C := RX8) (T := TX8) (N := 13) (n := 13) hts inlX8 (hts (Cond.instantiable RX8 13) (mT1 _ (List.mem_of_getElem? (i := 4) rfl)))
  obtain ⟨dC, dI, hKc⟩ : ∃ (dC : Nat → ClassId) (dI : Nat → Nat → Nat), ∀ (k : Nat) (q : vw_C), vwCl[k]? = some q → u_Kn s q.1 q.2.1 q.2.2 (dC k) (dI k) := by
    refine ⟨fun k => match k with | 0 => c0 | 1 => c1 | 2 => c2 | 3 => c3 | 4 => c4 | 5 => c5 | 6 => c6 | 7 => c7 | _ => c8, fun k => match k with | 0 => iS0 | 1 => iS1 | 2 => iS2 | 3 => iS3 | 4 => iS4 | 5 => iS5 | 6 => iS6 | 7 => iS7 | _ => iS8, ?_⟩
    intro k q hq
    match k, hq with
    | 0, hq => cases hq; exact hKn0
    | 1, hq => cases hq; exact hKn1
    | 2, hq => cases hq; exact hKn2
    | 3, hq => cases hq; exact hKn3
    | 4, hq => cases hq; exact hKn4
    | 5, hq => cases hq; exact hKn5
    | 6, hq => cases hq; exact hKn6
    | 7, hq => cases hq; exact hKn7
    | 8, hq => cases hq; exact hKn8
    | k + 9, hq => simp [vwCl] at hq
  obtain ⟨cI, kI, compI, hI1, hI2, hI3⟩ := Cond.arrayClass_spec (hts (Cond.arrayClass .int) (mT3 _ (List.mem_of_getElem? (i := 14) rfl)))
  obtain ⟨compS, cS, kS, hS1, hS2, hS3, hS4, hS5⟩ := Cond.arrayOver_spec (hts0 _ aO_in)
  have hG : gK (dC, dI) cI cS s := by
    refine ⟨⟨hKc, fun k q hq => ?_⟩, fun q hq => va_Nw.of rfl (hts0 _ (nsL_in q hq)), hts0 _ aO_in⟩
    match k, hq with
    | 0, hq => cases hq; exact ⟨fun n z => ⟨(fun k h => by cases h), kI, hI2, compI, hI3⟩, hI1⟩
    | 1, hq => cases hq; exact ⟨fun n z => ⟨(fun k h => by cases h), kS, hS3, compS, hS4⟩, kS, compS, hS3, hS4, hS1, hS5⟩
    | k + 2, hq => simp at hq
  obtain ⟨s0, s1, s2, s3, s4, s5, m0, hr0, hz0, hr1, hz1, hr2, hz2, hr3, hz3, hr4, hz4, hr5, hz5, hr8, hRel⟩ := init_Rel
  have hz : zx (fun _ _ => (0 : Int32)) 0 = fun _ _ => 0 := by funext a; exact if_neg (by omega)
  have hN : bN (dC, dI) cI cS s.heap.size 0 (fun _ => 99) [] (fun _ _ => 0) s.heap := ⟨fun _ => 99, ⟨rfl, fun _ _ => rfl, fun o h => absurd rfl h⟩, fun i k h => by simp at h, fun _ _ => rfl⟩
  have hS : va_S (aZ s.heap.size) s.heap s.heap [] := va_S.rf
  have hl := lv_entry ([.ref b]) (n := 4) (Nat.le_of_ble_eq_true rfl)
  rw [lg_entry_eq]
  generalize (lg_sl ([.ref b]) ++ List.replicate (4 - (lg_sl ([.ref b])).length) Slot.unset).toArray = ls at hl ⊢
  have hl : lv_has ls 4 [(0, .ref b)] := hl
  refine mm_new (kd := 35) (ci := 7) (N := 5) hx hb hts hown hG hN hS inlX7 tyX7 tyX7_ok (mT1 _ (List.mem_of_getElem? (i := 0) rfl)) (mT1 _ (List.mem_of_getElem? (i := 1) rfl)) (mT1 _ (List.mem_of_getElem? (i := 2) rfl)) rfl 0 rfl rfl (fun j hj => by rcases (show j = 0 ∨ j = 1 ∨ j = 2 ∨ j = 3 ∨ j = 4 by omega) with rfl | rfl | rfl | rfl | rfl <;> rfl) (Nat.le_of_ble_eq_true rfl) (Nat.le_of_ble_eq_true rfl) dL_law_0 (fun H hN hS => ?_)
  have hN : bN (dC, dI) cI cS s.heap.size 0 (fun _ => 99) [35] (fun _ _ => 0) H := by rw [hz] at hN; exact hN
  refine lv_dup hx hb dL_law_3 rfl ?_
  obtain ⟨K1, hK1⟩ := hN
  refine mm_bN hS (mm_runI (As := []) (o := 0) (kd := 35) (mc := 182) (ms := 3509) (n := 0) hx hb hml hts hown hG ⟨K1, hK1.1, ly_sub hK1.2.1 0 (by decide +kernel), fun _ _ => rfl⟩ hl.1 (c_X7_init l (dC, dI) cI cS s.heap.size K1 (fun _ _ => 0) s0 s1 s2 s3 s4 s5 hz hr0 hz0 hr1 hz1 hr2 hz2 hr3 hz3 hr4 hz4 hr5 hz5 (zx_le hz5 (by omega))) (mT1 _ (List.mem_of_getElem? (i := 6) rfl)) (mT1 _ (List.mem_of_getElem? (i := 7) rfl)) (mT1 _ (List.mem_of_getElem? (i := 2) rfl)) (mT1 _ (List.mem_of_getElem? (i := 8) rfl)) rfl (by decide +kernel) ⟨(Nat.le_of_ble_eq_true rfl), (Nat.le_of_ble_eq_true rfl)⟩ rfl rfl rfl rfl (Nat.le_of_ble_eq_true rfl) ⟨(Nat.le_of_ble_eq_true rfl), (Nat.le_of_ble_eq_true rfl)⟩ dL_law_4) (fun σ1 H locs hp hN2 hS => ?_)
  rw [hp] at hN2
  have hN : bN (dC, dI) cI cS s.heap.size 0 (fun _ => 99) lyLoom s5 H := bN.join (A := []) ⟨hK1.1, hK1.2.1, hK1.2.2⟩ rfl hN2 rfl
  refine lv_astore_n (lv' := [(1, .ref (s.heap.size + 0)), (0, .ref b)]) hx hb dL_law_7 rfl hl (by decide) rfl (fun ls hl => ?_)
  refine mm_new (kd := 40) (ci := 8) (N := 13) hx hb hts hown hG hN hS inlX8 tyX8 tyX8_ok (mT1 _ (List.mem_of_getElem? (i := 3) rfl)) (mT1 _ (List.mem_of_getElem? (i := 4) rfl)) (mT1 _ (List.mem_of_getElem? (i := 5) rfl)) rfl 183 rfl rfl (fun j hj => by rcases (show j = 0 ∨ j = 1 ∨ j = 2 ∨ j = 3 ∨ j = 4 ∨ j = 5 ∨ j = 6 ∨ j = 7 ∨ j = 8 ∨ j = 9 ∨ j = 10 ∨ j = 11 ∨ j = 12 by omega) with rfl | rfl | rfl | rfl | rfl | rfl | rfl | rfl | rfl | rfl | rfl | rfl | rfl <;> rfl) (Nat.le_of_ble_eq_true rfl) (Nat.le_of_ble_eq_true rfl) dL_law_8 (fun H hN hS => ?_)
  have hz183 : zx s5 183 = s5 := zx_le hz5 (by omega)
  have hN : bN (dC, dI) cI cS s.heap.size 0 (fun _ => 99) (lyLoom ++ [40]) s5 H := by rw [hz183] at hN; exact hN
  refine lv_dup hx hb dL_law_11 rfl ?_
  obtain ⟨K1, hK1⟩ := hN
  refine mm_bN hS (mm_runI (As := []) (o := 183) (kd := 40) (mc := 6) (ms := 2914) (n := 0) hx hb hml hts hown hG ⟨K1, hK1.1, ly_sub hK1.2.1 183 (by decide +kernel), fun _ _ => rfl⟩ hl.1 (c_X8_init l (dC, dI) cI cS s.heap.size K1 s5 hz183 m0 hr8) (mT6 _ (List.mem_of_getElem? (i := 6) rfl)) (mT6 _ (List.mem_of_getElem? (i := 7) rfl)) (mT1 _ (List.mem_of_getElem? (i := 5) rfl)) (mT6 _ (List.mem_of_getElem? (i := 8) rfl)) rfl (by decide +kernel) ⟨(Nat.le_of_ble_eq_true rfl), (Nat.le_of_ble_eq_true rfl)⟩ rfl rfl rfl rfl (Nat.le_of_ble_eq_true rfl) ⟨(Nat.le_of_ble_eq_true rfl), (Nat.le_of_ble_eq_true rfl)⟩ dL_law_12) (fun σ1 H locs hp hN2 hS => ?_)
  rw [hp] at hN2
  have hN : bN (dC, dI) cI cS s.heap.size 0 (fun _ => 99) (lyLoom ++ lyModel) m0 H := bN.join (A := lyLoom) ⟨hK1.1, hK1.2.1, hK1.2.2⟩ rfl hN2 rfl
  obtain ⟨K, ⟨hKs, hK9, hI⟩, hLy, hKo⟩ := hN
  have hL7 : ly K 0 lyLoom := ly_sub hLy 0 (by decide +kernel)
  have hL8 : ly K 183 lyModel := ly_sub hLy 183 (by decide +kernel)
  refine lv_astore_n (lv' := [(2, .ref (s.heap.size + 183)), (1, .ref (s.heap.size + 0)), (0, .ref b)]) hx hb dL_law_15 rfl hl (by decide) rfl (fun ls hl => ?_)
  refine lv_iconst (v := 0) hx hb dL_law_16 (by decide) ?_
  refine lv_istore_n (lv' := [(3, .int 0), (2, .ref (s.heap.size + 183)), (1, .ref (s.heap.size + 0)), (0, .ref b)]) hx hb dL_law_17 rfl hl (by decide) rfl (fun ls hl => ?_)
  refine W.widen (k := 600000) (n := 7302250) (Nat.le_of_ble_eq_true rfl) (Nat.le_of_ble_eq_true rfl) ?_
  exact law_loop hL C0 hG hL7 hL8 (L + 1) 0 0 (Nat.zero_le _) (by omega) nI_0.symm m0 _ _ _ hRel hI hS (lv_sub hl [3, 2, 1, 0] rfl)
