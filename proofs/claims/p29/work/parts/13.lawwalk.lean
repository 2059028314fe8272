/-! part 16: the mirrored law (written by wip/p29/law.py) -/
/-- the script's reading -/
def f_L_cell (xs : Nat → Int32) (L : Nat) (a1 : Int32) : Option Int32 := if Int32.ofNat L ≤ a1 then some (7919 * (a1 + 3) * (a1 + 11)) else ix a1 L <| some (xs a1.toNatClampNeg)
def b_L_law_72 (xs : Nat → Int32) (L : Nat) : Int32 × (Nat → Nat → Int32) → Option ((Int32 × (Nat → Nat → Int32)) ⊕ ((Nat → Nat → Int32)))
  | (y_13, σ_14) => if 16 ≤ y_13 then (some (.inr σ_14)) else (bi (f_L_cell xs L (3 + y_13)) fun r_118 => bi (f_L_digest σ_14) fun q_119 => bi (f_L_yarn σ_14) fun r_120 => b2 (f_L_act r_118 σ_14) fun r_121 σ_122 => jn (fun k_126 => if 0 ≤ r_121 then (k_126) else (bi (f_L_digest σ_122) fun q_210 => if (lg_cmp q_210 q_119) = 0 then (k_126) else (none))) (bi (f_L_isRight σ_122) fun r_128 => if r_128 = 0 then (none) else (jn (fun k_139 => jn (fun k_202 => if 11 < (r_118 &&& 15) then (k_202) else (if (r_118 &&& 15) = 9 then (k_202) else (if (r_118 &&& 15) = 10 then (k_202) else (k_139)))) (bi (f_L_yarn σ_122) fun r_204 => if r_204 = r_120 then (k_139) else (none))) (jn (α := (Nat → Nat → Int32) → _) (fun k_155 => if r_121 < 0 then (k_155 σ_122) else (if (y_13 &&& 3) = 1 then (bi (f_L_digest σ_122) fun q_186 => b2 (f_X7_undo σ_122) fun r_187 σ_188 => if r_187 < 0 then (none) else (bi (f_L_digest σ_188) fun q_189 => if (lg_cmp q_189 q_119) = 0 then (b2 (f_L_act r_118 σ_188) fun r_190 σ_191 => if r_190 = r_121 then (bi (f_L_digest σ_191) fun q_192 => if (lg_cmp q_192 q_186) = 0 then (k_155 σ_191) else (none)) else (none)) else (none))) else (k_155 σ_122))) (fun σ_154 => nz 4 <| if (y_13 - y_13 / 4 * 4) = 2 then (bi (f_X7_count 6 σ_154) fun r_158 => if r_158 = 0 then (bi (f_X7_count 2 σ_154) fun r_160 => if r_160 ≤ 0 then (vl (y_13 + 1) fun x_161 => some (.inl (x_161, σ_154))) else (bi (f_X7_count 5 σ_154) fun r_162 => if 50 ≤ r_162 then (vl (y_13 + 1) fun x_163 => some (.inl (x_163, σ_154))) else (bi (f_L_digest σ_154) fun q_164 => bi (f_X7_count 5 σ_154) fun r_165 => bi (f_L_low (r_118 >>> (6 &&& 31)) 8 σ_154) fun r_166 => b2 (f_X7_weave (1 + r_166) σ_154) fun r_167 σ_168 => bi (f_L_digest σ_168) fun q_169 => if r_167 < 1 then (none) else (b2 (f_X7_takeOut r_167 σ_168) fun r_170 σ_171 => if r_170 = r_165 then (bi (f_L_digest σ_171) fun q_172 => if (lg_cmp q_172 q_164) = 0 then (b2 (f_X7_weave r_167 σ_171) fun r_173 σ_174 => if r_173 = r_167 then (bi (f_L_digest σ_174) fun q_175 => if (lg_cmp q_175 q_169) = 0 then (vl (y_13 + 1) fun x_176 => some (.inl (x_176, σ_174))) else (none)) else (none)) else (none)) else (none))))) else (vl (y_13 + 1) fun x_159 => some (.inl (x_159, σ_154)))) else (vl (y_13 + 1) fun x_157 => some (.inl (x_157, σ_154))))))))
def f_L_law (xs : Nat → Int32) (L : Nat) (σ : Nat → Nat → Int32) : Option Unit := bi (f_L_cell xs L 0) fun r_1 => bi (f_L_low r_1 15 σ) fun r_2 => b2 (f_X7_addBar (1 + r_2) 0 σ) fun r_3 σ_4 => if r_3 = 0 then (bi (f_L_cell xs L 1) fun r_5 => bi (f_L_low r_5 16 σ_4) fun r_6 => b2 (f_X7_addBar r_6 1 σ_4) fun r_7 σ_8 => if r_7 = 1 then (bi (f_L_cell xs L 2) fun r_9 => bi (f_L_low r_9 80 σ_8) fun r_10 => b2 (f_X7_wind 1 r_10 σ_8) fun r_11 σ_12 => if r_11 = 300 then (bi (lp (b_L_law_72 xs L) FU (0, σ_12)) fun σ_15 => bi (f_L_digest σ_15) fun q_215 => b2 (f_X7_setLoom 1 8 σ_15) fun r_216 σ_217 => if r_216 = (-1) then (b2 (f_X7_weave 0 σ_217) fun r_218 σ_219 => if r_218 = (-1) then (b2 (f_X7_takeOut 65 σ_219) fun r_220 σ_221 => if r_220 = (-1) then (bi (f_X7_bar 24 0 σ_221) fun r_222 => if r_222 = (-1) then (b2 (f_X7_setDirection 2 σ_221) fun r_223 σ_224 => if r_223 = (-1) then (bi (f_L_digest σ_224) fun q_225 => if (lg_cmp q_225 q_215) = 0 then (b2 (f_X7_load σ_224) fun r_226 σ_227 => if r_226 = (-10) then (bi (f_L_digest σ_227) fun q_228 => if (lg_cmp q_228 q_215) = 0 then (bi (f_X7_count 10 σ_227) fun r_229 => if r_229 = (-1) then (b2 (f_X7_append 0 σ_227) fun r_230 σ_231 => if r_230 = (-1) then (some ()) else (none)) else (none)) else (none)) else (none)) else (none)) else (none)) else (none)) else (none)) else (none)) else (none)) else (none)) else (none)) else (none)
/-! part 80: the law (written by wip/p29/law.py) -/
/-! THE CLAIM OUT OF ONE WALK OF THE LAW'S BODY. Your part is whole_start (and what it stands on); all else here is the same for every law, but numbers. -/
def R_law : String := "DobbyLoomLaw"
def lw_P (b : Addr) (xs : List Int32) (args : Array Value) (s : State) : Prop := args = #[.ref b] ∧ s.IntsAt b xs ∧ xs.length ≤ 260 ∧ (Jvm.Cond.and given_1 narrow_1).before args s = true
def lw_Q (_ : Array Value) (s : State) (o : Outcome) (t : State) : Prop := o = .returned (some (.int 1)) ∧ Framed s o t [] 600000 7302250
def lw_Z (below : List Frame) (a : Array Value) (s : State) : State → Prop := fun t => ∃ o, t.status = .running ∧ Ended t below o ∧ lw_Q a s o t
/-- the law's own end, with 1 on the stack, nothing written that was there before, its room as the claim has it -/
theorem lw_ret {p : Program} {l : Launch} {e : Env} {s : State} {m : MethodId} {below : List Frame} {meth : Method} {c : Code} {b : Nat} (hx : p.tables.exec = Jvm.exec) (hb : c.code = code) (hr : meth.sig.returnType = ret) (hlocks : meth.locks = false) {pc : Nat} {H : Heap} {ls : Array Slot} (hdg : decode code pc = .ok (.ireturn, 1)) : W p l e room_1 s m #[Value.ref b] below meth c H [] 600000 7302250 (lw_Z below #[Value.ref b] s) (F0 m pc ls [.int 1]) := by
  intro T hT X
  obtain ⟨fs, hret, hrun, hended, hW, hframe⟩ := X.leave (v := some (.int 1)) (hlocks := hlocks) (fun h => by rw [hr] at h; cases h)
  have hmeth' : T.vm.method? m = some meth := X.method'
  refine ⟨T.setFrames fs, ?_, .returned (some (.int 1)), hrun, hended, rfl, ⟨_, rfl⟩, hW, hframe⟩
  jvm_step X.here [X.here.top, hx, hb, hdg, hmeth', hr, ret, narrow_b1]
  (try refine ⟨rfl, ?_⟩); (try refine ⟨rfl, ?_⟩)
  first | (intro acts; rw [hret _ acts rfl rfl rfl]) | rw [hret _ _ rfl rfl rfl]
  exact Steps.refl _
/-- what holds at the law's entry: the machine, the code, the tables' words (any of lw_tbl by 'hts w (by decide +kernel)'), the script of L ints xs at the cell b, what the Statement gives of the start (any of its parts by flat_of_before) -/
def lw_At (p : Program) (s : State) (m : MethodId) (meth : Method) (c : Code) (b L : Nat) (xs : Nat → Int32) : Prop :=
  p.tables.exec = Jvm.exec ∧ c.code = code ∧ meth.sig.returnType = ret ∧ c.maxLocals = 14 ∧ s.vm.findClass R_law = some m.cls ∧ (∀ w ∈ lw_tbl, w.before #[Value.ref b] s = true) ∧ va_X b L xs s s.heap ∧ b < s.heap.size ∧ meth.locks = false ∧ (Jvm.Cond.and given_1 narrow_1).before #[Value.ref b] s = true

set_option maxRecDepth 20000 in
theorem tT1 : ∀ w ∈ wsL_law_r1, w ∈ lw_tbl := fun w h => (goodIn_p wsL_law_r1 [35, 38] (by decide +kernel) (by decide +kernel) w h).1
set_option maxRecDepth 20000 in
theorem tT2 : ∀ w ∈ wsL_law_r2, w ∈ lw_tbl := fun w h => (goodIn_p wsL_law_r2 [43, 49] (by decide +kernel) (by decide +kernel) w h).1
set_option maxRecDepth 20000 in
theorem tT3 : ∀ w ∈ wsL_law_r3, w ∈ lw_tbl := fun w h => (goodIn_p wsL_law_r3 [55, 59, 91, 127] (by decide +kernel) (by decide +kernel) w h).1
set_option maxRecDepth 20000 in
theorem tT4 : ∀ w ∈ wsL_law_r4, w ∈ lw_tbl := fun w h => (goodIn_p wsL_law_r4 [170, 174, 178] (by decide +kernel) (by decide +kernel) w h).1
set_option maxRecDepth 20000 in
theorem tT5 : ∀ w ∈ wsL_law_r5, w ∈ lw_tbl := fun w h => (goodIn_p wsL_law_r5 [182, 186, 209, 229] (by decide +kernel) (by decide +kernel) w h).1
set_option maxRecDepth 20000 in
theorem tT6 : ∀ w ∈ wsL_law_r6, w ∈ lw_tbl := fun w h => (goodIn_p wsL_law_r6 [551, 554, 331, 335, 284] (by decide +kernel) (by decide +kernel) w h).1
set_option maxRecDepth 20000 in
theorem tT7 : ∀ w ∈ wsL_law_r7, w ∈ lw_tbl := fun w h => (goodIn_p wsL_law_r7 [339, 343, 288, 307, 292] (by decide +kernel) (by decide +kernel) w h).1
set_option maxRecDepth 20000 in
theorem tT8 : ∀ w ∈ wsL_law_r8, w ∈ lw_tbl := fun w h => (goodIn_p wsL_law_r8 [296, 300, 304, 314, 318] (by decide +kernel) (by decide +kernel) w h).1
set_option maxRecDepth 20000 in
theorem tT9 : ∀ w ∈ wsL_law_r9, w ∈ lw_tbl := fun w h => (goodIn_p wsL_law_r9 [324, 347, 357, 361] (by decide +kernel) (by decide +kernel) w h).1
set_option maxRecDepth 20000 in
theorem tT10 : ∀ w ∈ wsL_law_r10, w ∈ lw_tbl := fun w h => (goodIn_p wsL_law_r10 [558, 516, 448] (by decide +kernel) (by decide +kernel) w h).1
set_option maxRecDepth 20000 in
theorem tT11 : ∀ w ∈ wsL_law_r11, w ∈ lw_tbl := fun w h => (goodIn_p wsL_law_r11 [520, 524, 527, 564, 568] (by decide +kernel) (by decide +kernel) w h).1
set_option maxRecDepth 20000 in
theorem tT12 : ∀ w ∈ wsL_law_r12, w ∈ lw_tbl := fun w h => (goodIn_p wsL_law_r12 [572, 467, 577, 581, 585, 589] (by decide +kernel) (by decide +kernel) w h).1
set_option maxRecDepth 20000 in
theorem tT13 : ∀ w ∈ wsL_law_r13, w ∈ lw_tbl := fun w h => (goodIn_p wsL_law_r13 [593, 534, 538, 471, 544] (by decide +kernel) (by decide +kernel) w h).1
set_option maxRecDepth 20000 in
theorem tT14 : ∀ w ∈ wsL_law_r14, w ∈ lw_tbl := fun w h => (goodIn_p wsL_law_r14 [463, 480, 598, 602, 606] (by decide +kernel) (by decide +kernel) w h).1
set_option maxRecDepth 20000 in
theorem tT15 : ∀ w ∈ wsL_law_r15, w ∈ lw_tbl := fun w h => (goodIn_p wsL_law_r15 [613, 617, 621, 681, 624, 628] (by decide +kernel) (by decide +kernel) w h).1
set_option maxRecDepth 20000 in
theorem tT16 : ∀ w ∈ wsL_law_r16, w ∈ lw_tbl := fun w h => (goodIn_p wsL_law_r16 [632, 636, 640, 353, 644, 496] (by decide +kernel) (by decide +kernel) w h).1
set_option maxRecDepth 20000 in
theorem tT17 : ∀ w ∈ wsL_law_r17, w ∈ lw_tbl := fun w h => (goodIn_p wsL_law_r17 [500, 504, 492, 488] (by decide +kernel) (by decide +kernel) w h).1
set_option maxRecDepth 20000 in
theorem tT18 : ∀ w ∈ wsL_law_r18, w ∈ lw_tbl := fun w h => (goodIn_p wsL_law_r18 [648, 281, 444, 453, 457] (by decide +kernel) (by decide +kernel) w h).1
set_option maxRecDepth 20000 in
theorem tT19 : ∀ w ∈ wsL_law_r19, w ∈ lw_tbl := fun w h => (goodIn_p wsL_law_r19 [475, 484, 651, 655] (by decide +kernel) (by decide +kernel) w h).1
set_option maxRecDepth 20000 in
theorem tT20 : ∀ w ∈ wsL_law_r20, w ∈ lw_tbl := fun w h => (goodIn_p wsL_law_r20 [660, 666, 670, 674, 678, 508] (by decide +kernel) (by decide +kernel) w h).1
set_option maxRecDepth 20000 in
theorem tT21 : ∀ w ∈ wsL_law_r21, w ∈ lw_tbl := fun w h => (goodIn_p wsL_law_r21 [512, 380, 384, 389] (by decide +kernel) (by decide +kernel) w h).1
set_option maxRecDepth 20000 in
theorem tT22 : ∀ w ∈ wsL_law_r22, w ∈ lw_tbl := fun w h => (goodIn_p wsL_law_r22 [393, 397, 401, 406, 410] (by decide +kernel) (by decide +kernel) w h).1
set_option maxRecDepth 20000 in
theorem tT23 : ∀ w ∈ wsL_law_r23, w ∈ lw_tbl := fun w h => (goodIn_p wsL_law_r23 [415, 419, 424, 428, 433, 437] (by decide +kernel) (by decide +kernel) w h).1
set_option maxRecDepth 20000 in
theorem tT24 : ∀ w ∈ wsL_law_r24, w ∈ lw_tbl := fun w h => (goodIn_p wsL_law_r24 [366, 370, 374] (by decide +kernel) (by decide +kernel) w h).1
set_option maxRecDepth 20000 in
theorem tTX7 : ∀ w ∈ wsX70, w ∈ lw_tbl := by decide +kernel
set_option maxRecDepth 20000 in
theorem tTX5 : ∀ w ∈ wsX50, w ∈ lw_tbl := by decide +kernel
set_option maxRecDepth 20000 in
theorem tTX3 : ∀ w ∈ wsX30, w ∈ lw_tbl := by decide +kernel
set_option maxRecDepth 20000 in
theorem tTX1 : ∀ w ∈ wsX10, w ∈ lw_tbl := by decide +kernel
set_option maxRecDepth 20000 in
theorem tTX4 : ∀ w ∈ wsX40, w ∈ lw_tbl := by decide +kernel
set_option maxRecDepth 20000 in
theorem tTX6 : ∀ w ∈ wsX60, w ∈ lw_tbl := by decide +kernel
set_option maxRecDepth 20000 in
theorem tTX0 : ∀ w ∈ wsX00, w ∈ lw_tbl := by decide +kernel
set_option maxRecDepth 20000 in
theorem tTX2 : ∀ w ∈ wsX20, w ∈ lw_tbl := by decide +kernel
theorem wsL_law_in : ∀ w ∈ wsL_law, w ∈ lw_tbl := List.forall_mem_append.mpr ⟨List.forall_mem_append.mpr ⟨List.forall_mem_append.mpr ⟨List.forall_mem_append.mpr ⟨List.forall_mem_append.mpr ⟨List.forall_mem_append.mpr ⟨List.forall_mem_append.mpr ⟨List.forall_mem_append.mpr ⟨List.forall_mem_append.mpr ⟨List.forall_mem_append.mpr ⟨tT1, List.forall_mem_append.mpr ⟨tT2, List.forall_mem_append.mpr ⟨tT3, List.forall_mem_append.mpr ⟨tT4, List.forall_mem_append.mpr ⟨tT5, List.forall_mem_append.mpr ⟨tT6, List.forall_mem_append.mpr ⟨tT7, List.forall_mem_append.mpr ⟨tT8, List.forall_mem_append.mpr ⟨tT9, List.forall_mem_append.mpr ⟨tT10, List.forall_mem_append.mpr ⟨tT11, List.forall_mem_append.mpr ⟨tT12, List.forall_mem_append.mpr ⟨tT13, List.forall_mem_append.mpr ⟨tT14, List.forall_mem_append.mpr ⟨tT15, List.forall_mem_append.mpr ⟨tT16, List.forall_mem_append.mpr ⟨tT17, List.forall_mem_append.mpr ⟨tT18, List.forall_mem_append.mpr ⟨tT19, List.forall_mem_append.mpr ⟨tT20, List.forall_mem_append.mpr ⟨tT21, List.forall_mem_append.mpr ⟨tT22, List.forall_mem_append.mpr ⟨tT23, tT24⟩⟩⟩⟩⟩⟩⟩⟩⟩⟩⟩⟩⟩⟩⟩⟩⟩⟩⟩⟩⟩⟩⟩, tTX7⟩, tTX5⟩, tTX3⟩, tTX1⟩, tTX4⟩, tTX6⟩, tTX0⟩, tTX2⟩, fun _ h => absurd h List.not_mem_nil⟩
theorem nW0 : Cond.methodLinkNest RX5 11 yX6_init RX7 ∈ lw_tbl := by decide +kernel
theorem nW1 : Cond.methodLinkNest RX5 20 yX0_init RX7 ∈ lw_tbl := by decide +kernel
theorem nW2 : Cond.methodLinkNest RX5 36 yX2_init RX7 ∈ lw_tbl := by decide +kernel
theorem nW3 : Cond.methodLinkNest RX7 25 yX1_init RX7 ∈ lw_tbl := by decide +kernel
theorem nW4 : Cond.methodLinkNest RX1 22 yX0_init RX7 ∈ lw_tbl := by decide +kernel
theorem nW5 : Cond.methodLinkNest RX6 44 yX7_isBetween RX7 ∈ lw_tbl := by decide +kernel
theorem nW6 : Cond.methodLinkNest RX1 101 yX7_isBetween RX7 ∈ lw_tbl := by decide +kernel
theorem nW7 : Cond.methodLinkNest RX6 52 yX7_bitOf RX7 ∈ lw_tbl := by decide +kernel
theorem nW8 : Cond.methodLinkNest RX5 114 yX7_bitOf RX7 ∈ lw_tbl := by decide +kernel
theorem nW9 : Cond.methodLinkNest RX0 41 yX7_isBetween RX7 ∈ lw_tbl := by decide +kernel
theorem nW10 : Cond.methodLinkNest RX2 59 yX7_bitOf RX7 ∈ lw_tbl := by decide +kernel
theorem nW11 : Cond.methodLinkNest RX2 43 yX7_isBetween RX7 ∈ lw_tbl := by decide +kernel
theorem nsL_in : ∀ q ∈ nsL, Cond.methodLinkNest q.1 q.2.1 q.2.2.1 q.2.2.2 ∈ lw_tbl := List.forall_mem_cons.mpr ⟨nW0, List.forall_mem_cons.mpr ⟨nW1, List.forall_mem_cons.mpr ⟨nW2, List.forall_mem_cons.mpr ⟨nW3, List.forall_mem_cons.mpr ⟨nW4, List.forall_mem_cons.mpr ⟨nW5, List.forall_mem_cons.mpr ⟨nW6, List.forall_mem_cons.mpr ⟨nW7, List.forall_mem_cons.mpr ⟨nW8, List.forall_mem_cons.mpr ⟨nW9, List.forall_mem_cons.mpr ⟨nW10, List.forall_mem_cons.mpr ⟨nW11, fun _ h => absurd h List.not_mem_nil⟩⟩⟩⟩⟩⟩⟩⟩⟩⟩⟩⟩
theorem aO_in : Cond.arrayOver (.object "DobbyLoom$State") ∈ lw_tbl := by decide +kernel
section RW
variable {p : Program} {l : Launch} {e : Env} {R : Room} {s : State} {m : MethodId} {args : Array Value} {below : List Frame} {meth : Method} {c : Code} {H H0 : Heap} {locs : List Loc} {cells slots : Nat} {Q : State → Prop} {cc : ByteArray} {pc : Nat} {ls : Array Slot} {rest : List Value} {D : va_G} {cI cS : ClassId} {Z : Nat} {K : Nat → Nat} {σ : Nat → Nat → Int32}
theorem kL_88 (hx : p.tables.exec = Jvm.exec) (hb : c.code = cc) {nL : Nat} (hml : c.maxLocals = nL) (hts : ∀ w ∈ wsL_law, w.before args s = true) (hown : s.vm.findClass RL = some m.cls) (hG : gK D cI cS s) (hI : fI D cI cS Z K σ H) (hS : va_S (aZ Z) H0 H locs) (hsz : ls.size = nL) {As : List Value} {r : Int64} {σ' : Nat → Nat → Int32} (hM : Met l yL_digest (wsT yL_digest cL_digest 5 (some .long)) { frames := 5, cells := 0, slots := 0, locals := 117 } (Pm D cI cS Z K As σ) (Ql D cI cS Z K r σ') 0 0 (aZ Z)) (hR : 6 ≤ R.frames ∧ 141 ≤ R.locals) (hn : As.length = 1) (hcat : (rest.map fun v => v.category).sum ≤ 8) (hf : cells ≤ R.cells ∧ slots ≤ R.slots) (hdg : decode cc pc = .ok (.invokestatic 88, 3)) (kk : ∀ (H1 : Heap) (locs1 : List Loc), fI D cI cS Z K σ' H1 → va_S (aZ Z) H0 H1 locs1 → W p l e R s m args below meth c H1 locs1 cells slots Q (F0 m (pc + 3) ls (.long r :: rest))) : W p l e R s m args below meth c H locs cells slots Q (F0 m pc ls (As.reverse ++ rest)) := mm_bl hS (mm_runS hx hb hml hts hown hG hI hsz hM (mT9 _ (List.mem_of_getElem? (i := 23) rfl)) (mT10 _ (List.mem_of_getElem? (i := 0) rfl)) (mT6 _ (List.mem_of_getElem? (i := 5) rfl)) (mT10 _ (List.mem_of_getElem? (i := 1) rfl)) (by decide +kernel) hR rfl rfl hn rfl hcat hf hdg) kk
theorem kL_92 (hx : p.tables.exec = Jvm.exec) (hb : c.code = cc) {nL : Nat} (hml : c.maxLocals = nL) (hts : ∀ w ∈ wsL_law, w.before args s = true) (hown : s.vm.findClass RL = some m.cls) (hG : gK D cI cS s) (hI : fI D cI cS Z K σ H) (hS : va_S (aZ Z) H0 H locs) (hsz : ls.size = nL) {As : List Value} {r : Int32} {σ' : Nat → Nat → Int32} (hM : Met l yL_yarn (wsT yL_yarn cL_yarn 3 (some .int)) { frames := 5, cells := 0, slots := 0, locals := 117 } (Pm D cI cS Z K As σ) (Qi D cI cS Z K r σ') 0 0 (aZ Z)) (hR : 6 ≤ R.frames ∧ 139 ≤ R.locals) (hn : As.length = 1) (hcat : (rest.map fun v => v.category).sum ≤ 8) (hf : cells ≤ R.cells ∧ slots ≤ R.slots) (hdg : decode cc pc = .ok (.invokestatic 92, 3)) (kk : ∀ (H1 : Heap) (locs1 : List Loc), fI D cI cS Z K σ' H1 → va_S (aZ Z) H0 H1 locs1 → W p l e R s m args below meth c H1 locs1 cells slots Q (F0 m (pc + 3) ls (.int r :: rest))) : W p l e R s m args below meth c H locs cells slots Q (F0 m pc ls (As.reverse ++ rest)) := mm_bi hS (mm_runS hx hb hml hts hown hG hI hsz hM (mT15 _ (List.mem_of_getElem? (i := 13) rfl)) (mT15 _ (List.mem_of_getElem? (i := 14) rfl)) (mT6 _ (List.mem_of_getElem? (i := 5) rfl)) (mT15 _ (List.mem_of_getElem? (i := 15) rfl)) (by decide +kernel) hR rfl rfl hn rfl hcat hf hdg) kk
theorem kL_95 (hx : p.tables.exec = Jvm.exec) (hb : c.code = cc) {nL : Nat} (hml : c.maxLocals = nL) (hts : ∀ w ∈ wsL_law, w.before args s = true) (hown : s.vm.findClass RL = some m.cls) (hG : gK D cI cS s) (hI : fI D cI cS Z K σ H) (hS : va_S (aZ Z) H0 H locs) (hsz : ls.size = nL) {As : List Value} {r : Int32} {σ' : Nat → Nat → Int32} (hM : Met l yL_act (wsT yL_act cL_act 3 (some .int)) { frames := 7, cells := 0, slots := 0, locals := 171 } (Pm D cI cS Z K As σ) (Qi D cI cS Z K r σ') 0 0 (aZ Z)) (hR : 8 ≤ R.frames ∧ 193 ≤ R.locals) (hn : As.length = 2) (hcat : (rest.map fun v => v.category).sum ≤ 8) (hf : cells ≤ R.cells ∧ slots ≤ R.slots) (hdg : decode cc pc = .ok (.invokestatic 95, 3)) (kk : ∀ (H1 : Heap) (locs1 : List Loc), fI D cI cS Z K σ' H1 → va_S (aZ Z) H0 H1 locs1 → W p l e R s m args below meth c H1 locs1 cells slots Q (F0 m (pc + 3) ls (.int r :: rest))) : W p l e R s m args below meth c H locs cells slots Q (F0 m pc ls (As.reverse ++ rest)) := mm_bi hS (mm_runS hx hb hml hts hown hG hI hsz hM (mT15 _ (List.mem_of_getElem? (i := 16) rfl)) (mT15 _ (List.mem_of_getElem? (i := 17) rfl)) (mT6 _ (List.mem_of_getElem? (i := 5) rfl)) (mT15 _ (List.mem_of_getElem? (i := 18) rfl)) (by decide +kernel) hR rfl rfl hn rfl hcat hf hdg) kk
theorem kL_99 (hx : p.tables.exec = Jvm.exec) (hb : c.code = cc) {nL : Nat} (hml : c.maxLocals = nL) (hts : ∀ w ∈ wsL_law, w.before args s = true) (hown : s.vm.findClass RL = some m.cls) (hG : gK D cI cS s) (hI : fI D cI cS Z K σ H) (hS : va_S (aZ Z) H0 H locs) (hsz : ls.size = nL) {As : List Value} {r : Int32} {σ' : Nat → Nat → Int32} (hM : Met l yL_isRight (wsT yL_isRight cL_isRight 8 (some .boolean)) { frames := 5, cells := 0, slots := 0, locals := 121 } (Pm D cI cS Z K As σ) (Qz D cI cS Z K r σ') 0 0 (aZ Z)) (hR : 6 ≤ R.frames ∧ 148 ≤ R.locals) (hn : As.length = 1) (hcat : (rest.map fun v => v.category).sum ≤ 8) (hf : cells ≤ R.cells ∧ slots ≤ R.slots) (hdg : decode cc pc = .ok (.invokestatic 99, 3)) (kk : (r = 0 ∨ r = 1) → ∀ (H1 : Heap) (locs1 : List Loc), fI D cI cS Z K σ' H1 → va_S (aZ Z) H0 H1 locs1 → W p l e R s m args below meth c H1 locs1 cells slots Q (F0 m (pc + 3) ls (.int r :: rest))) : W p l e R s m args below meth c H locs cells slots Q (F0 m pc ls (As.reverse ++ rest)) := mm_bz hS (mm_runS hx hb hml hts hown hG hI hsz hM (mT19 _ (List.mem_of_getElem? (i := 12) rfl)) (mT19 _ (List.mem_of_getElem? (i := 13) rfl)) (mT6 _ (List.mem_of_getElem? (i := 5) rfl)) (mT19 _ (List.mem_of_getElem? (i := 14) rfl)) (by decide +kernel) hR rfl rfl hn rfl hcat hf hdg) kk
theorem kL_103 (hx : p.tables.exec = Jvm.exec) (hb : c.code = cc) {nL : Nat} (hml : c.maxLocals = nL) (hts : ∀ w ∈ wsL_law, w.before args s = true) (hown : s.vm.findClass RL = some m.cls) (hG : gK D cI cS s) (hI : fI D cI cS Z K σ H) (hS : va_S (aZ Z) H0 H locs) (hsz : ls.size = nL) {o : Nat} (hL : ly K o lyLoom) {As : List Value} {r : Int32} {σ' : Nat → Nat → Int32} (hM : Met l yX7_undo (wsT yX7_undo cX7_undo 1 (some .int)) { frames := 6, cells := 0, slots := 0, locals := 147 } (Pm D cI cS Z K (.ref (Z + o) :: As) σ) (Qi D cI cS Z K r σ') 0 0 (aZ Z)) (hR : 7 ≤ R.frames ∧ 167 ≤ R.locals) (hn : As.length = 0) (hcat : (rest.map fun v => v.category).sum ≤ 8) (hf : cells ≤ R.cells ∧ slots ≤ R.slots) (hdg : decode cc pc = .ok (.invokevirtual 103, 3)) (kk : ∀ (H1 : Heap) (locs1 : List Loc), fI D cI cS Z K σ' H1 → va_S (aZ Z) H0 H1 locs1 → W p l e R s m args below meth c H1 locs1 cells slots Q (F0 m (pc + 3) ls (.int r :: rest))) : W p l e R s m args below meth c H locs cells slots Q (F0 m pc ls (As.reverse ++ .ref (Z + o) :: rest)) := mm_bi hS (mm_runV hx hb hml hts hown hG hI hsz hM (ly_at hL 0 rfl) (by decide) rfl rfl (mT20 _ (List.mem_of_getElem? (i := 19) rfl)) (mT20 _ (List.mem_of_getElem? (i := 20) rfl)) (mT20 _ (List.mem_of_getElem? (i := 21) rfl)) (mT1 _ (List.mem_of_getElem? (i := 2) rfl)) (mT20 _ (List.mem_of_getElem? (i := 22) rfl)) (by decide +kernel) hR rfl rfl hn rfl hcat hf hdg) kk
theorem kL_106 (hx : p.tables.exec = Jvm.exec) (hb : c.code = cc) {nL : Nat} (hml : c.maxLocals = nL) (hts : ∀ w ∈ wsL_law, w.before args s = true) (hown : s.vm.findClass RL = some m.cls) (hG : gK D cI cS s) (hI : fI D cI cS Z K σ H) (hS : va_S (aZ Z) H0 H locs) (hsz : ls.size = nL) {o : Nat} (hL : ly K o lyLoom) {As : List Value} {r : Int32} {σ' : Nat → Nat → Int32} (hM : Met l yX7_load (wsT yX7_load cX7_load 1 (some .int)) { frames := 6, cells := 0, slots := 0, locals := 146 } (Pm D cI cS Z K (.ref (Z + o) :: As) σ) (Qi D cI cS Z K r σ') 0 0 (aZ Z)) (hR : 7 ≤ R.frames ∧ 166 ≤ R.locals) (hn : As.length = 0) (hcat : (rest.map fun v => v.category).sum ≤ 8) (hf : cells ≤ R.cells ∧ slots ≤ R.slots) (hdg : decode cc pc = .ok (.invokevirtual 106, 3)) (kk : ∀ (H1 : Heap) (locs1 : List Loc), fI D cI cS Z K σ' H1 → va_S (aZ Z) H0 H1 locs1 → W p l e R s m args below meth c H1 locs1 cells slots Q (F0 m (pc + 3) ls (.int r :: rest))) : W p l e R s m args below meth c H locs cells slots Q (F0 m pc ls (As.reverse ++ .ref (Z + o) :: rest)) := mm_bi hS (mm_runV hx hb hml hts hown hG hI hsz hM (ly_at hL 0 rfl) (by decide) rfl rfl (mT21 _ (List.mem_of_getElem? (i := 3) rfl)) (mT21 _ (List.mem_of_getElem? (i := 4) rfl)) (mT21 _ (List.mem_of_getElem? (i := 5) rfl)) (mT1 _ (List.mem_of_getElem? (i := 2) rfl)) (mT21 _ (List.mem_of_getElem? (i := 6) rfl)) (by decide +kernel) hR rfl rfl hn rfl hcat hf hdg) kk
theorem kL_109 (hx : p.tables.exec = Jvm.exec) (hb : c.code = cc) {nL : Nat} (hml : c.maxLocals = nL) (hts : ∀ w ∈ wsL_law, w.before args s = true) (hown : s.vm.findClass RL = some m.cls) (hG : gK D cI cS s) (hI : fI D cI cS Z K σ H) (hS : va_S (aZ Z) H0 H locs) (hsz : ls.size = nL) {o : Nat} (hL : ly K o lyLoom) {As : List Value} {r : Int32} {σ' : Nat → Nat → Int32} (hM : Met l yX7_append (wsT yX7_append cX7_append 2 (some .int)) { frames := 2, cells := 0, slots := 0, locals := 43 } (Pm D cI cS Z K (.ref (Z + o) :: As) σ) (Qi D cI cS Z K r σ') 0 0 (aZ Z)) (hR : 3 ≤ R.frames ∧ 64 ≤ R.locals) (hn : As.length = 1) (hcat : (rest.map fun v => v.category).sum ≤ 8) (hf : cells ≤ R.cells ∧ slots ≤ R.slots) (hdg : decode cc pc = .ok (.invokevirtual 109, 3)) (kk : ∀ (H1 : Heap) (locs1 : List Loc), fI D cI cS Z K σ' H1 → va_S (aZ Z) H0 H1 locs1 → W p l e R s m args below meth c H1 locs1 cells slots Q (F0 m (pc + 3) ls (.int r :: rest))) : W p l e R s m args below meth c H locs cells slots Q (F0 m pc ls (As.reverse ++ .ref (Z + o) :: rest)) := mm_bi hS (mm_runV hx hb hml hts hown hG hI hsz hM (ly_at hL 0 rfl) (by decide) rfl rfl (mT24 _ (List.mem_of_getElem? (i := 2) rfl)) (mT24 _ (List.mem_of_getElem? (i := 3) rfl)) (mT24 _ (List.mem_of_getElem? (i := 4) rfl)) (mT1 _ (List.mem_of_getElem? (i := 2) rfl)) (mT24 _ (List.mem_of_getElem? (i := 5) rfl)) (by decide +kernel) hR rfl rfl hn rfl hcat hf hdg) kk
end RW
def PmX (D : va_G) (cI cS : ClassId) (Z : Nat) (K : Nat → Nat) (b L : Nat) (xs : Nat → Int32) (av : List Value) (σ : Nat → Nat → Int32) : Array Value → State → Prop := va_Pc av (fun U => (fI D cI cS Z K σ U.heap ∧ gK D cI cS U) ∧ va_X b L xs U U.heap)
theorem PmX.blind {D : va_G} {cI cS : ClassId} {Z : Nat} {K : Nat → Nat} {b L : Nat} {xs : Nat → Int32} {av : List Value} {σ : Nat → Nat → Int32} : FrameBlind (PmX D cI cS Z K b L xs av σ) := fun a U g mk q => ⟨q.1, ⟨q.2.1.1, q.2.1.2.call⟩, va_X.moved (u := U) (U := U.calling g mk a) (Vm.Alike.refl U.vm) q.2.2⟩
set_option maxHeartbeats 4000000 in
set_option maxRecDepth 100000 in
theorem c_L_cell (l : Launch) (D : va_G) (cI cS : ClassId) (Z : Nat) (K : Nat → Nat) (b L : Nat) (xs : Nat → Int32) (hbZ : b < Z) (a1 : Int32) (σ : Nat → Nat → Int32) (r : Int32) (hf : f_L_cell xs L a1 = some r) : Met l yL_cell (wsT yL_cell cL_cell 2 (some .int)) { frames := 0, cells := 0, slots := 0, locals := 0 } (PmX D cI cS Z K b L xs [.ref b, .int a1] σ) (Qi D cI cS Z K r σ) 0 0 (aZ Z) := by
  refine Met.ofW (cc := cL_cell) (maxL := 2) (ret := some .int) (by decide) rfl ?_
  intro p e s m args below meth c s₁ B hml hv
  obtain ⟨rfl, ⟨hI, hG⟩, hX⟩ := hv
  have hts0 := atoms_spec (ws := wsT yL_cell cL_cell 2 (some .int)) B.pre
  have hts : ∀ w ∈ wsL_law, w.before ([.ref b, .int a1] : List Value).toArray s = true := fun w hw => hts0 w (List.mem_cons_of_mem _ hw)
  have hl := lv_entry ([.ref b, .int a1]) (n := 2) (Nat.le_of_ble_eq_true rfl)
  rw [lg_entry_eq]
  generalize (lg_sl ([.ref b, .int a1]) ++ List.replicate (2 - (lg_sl ([.ref b, .int a1])).length) Slot.unset).toArray = ls at hl ⊢
  have hl : lv_has ls 2 [(0, .ref b), (1, .int a1)] := hl
  have hx := B.exec
  have hb : c.code = cL_cell := B.bytes
  have hr := B.returns
  have hlocks := B.notSynchronized
  have hS : va_S (aZ Z) s.heap s.heap [] := va_S.rf
  have hbl : b < s.heap.size := by
    obtain ⟨scr, h1, -⟩ := hX
    exact (Array.getElem?_eq_some_iff.mp h1).1
  have hbA : ¬ aZ Z b := Nat.not_le.mpr hbZ
  rw [f_L_cell] at hf
  refine lv_iload_n hx hb dL_cell_0 rfl (lv_at hl 1 rfl) ?_
  refine lv_aload_n hx hb dL_cell_1 rfl (lv_at hl 0 rfl) ?_
  refine va_slen hx hb hX hbl hbA hS dL_cell_2 ?_
  refine lv_icmp_ge (tgt := 12) hx hb dL_cell_3 (by decide) (fun c_1 => ?_) (fun c_1 => ?_)
  · have hf := pos_e c_1 hf
    refine lv_sipush (v := 7919) hx hb dL_cell_12 (by decide) ?_
    refine lv_iload_n hx hb dL_cell_15 rfl (lv_at hl 1 rfl) ?_
    refine lv_iconst (v := 3) hx hb dL_cell_16 (by decide) ?_
    refine lv_iadd hx hb dL_cell_17 ?_
    refine lv_imul hx hb dL_cell_18 ?_
    refine lv_iload_n hx hb dL_cell_19 rfl (lv_at hl 1 rfl) ?_
    refine lv_bipush (v := 11) hx hb dL_cell_20 (by decide) ?_
    refine lv_iadd hx hb dL_cell_22 ?_
    refine lv_imul hx hb dL_cell_23 ?_
    obtain rfl := so_e hf
    exact mm_ret hx hb hr hlocks rfl hI hS dL_cell_24
  · have hf := neg_e c_1 hf
    obtain ⟨hix, hf⟩ := ix_e hf
    refine lv_aload_n hx hb dL_cell_6 rfl (lv_at hl 0 rfl) ?_
    refine lv_iload_n hx hb dL_cell_7 rfl (lv_at hl 1 rfl) ?_
    refine va_sld hx hb hX hbl hbA hS hix dL_cell_8 ?_
    refine lv_goto (tgt := 24) hx hb dL_cell_9 (by decide) ?_
    obtain rfl := so_e hf
    exact mm_ret hx hb hr hlocks rfl hI hS dL_cell_24
section CELL
variable {p : Program} {l : Launch} {e : Env} {R : Room} {s : State} {m : MethodId} {args : Array Value} {below : List Frame} {meth : Method} {c : Code} {H : Heap} {locs : List Loc} {cells slots : Nat} {Q : State → Prop} {cc : ByteArray} {pc : Nat} {ls : Array Slot} {rest : List Value} {D : va_G} {cI cS : ClassId} {K : Nat → Nat} {σ : Nat → Nat → Int32}
theorem kL_cell (hx : p.tables.exec = Jvm.exec) (hb : c.code = cc) {nL : Nat} (hml : c.maxLocals = nL) (hts : ∀ w ∈ wsL_law, w.before args s = true) (hown : s.vm.findClass RL = some m.cls) (hG : gK D cI cS s) (hI : fI D cI cS s.heap.size K σ H) (hS : va_S (aZ s.heap.size) s.heap H locs) (hsz : ls.size = nL) {b L : Nat} {xs : Nat → Int32} (hX : va_X b L xs s s.heap) (hbl : b < s.heap.size) {a1 r : Int32} (hf : f_L_cell xs L a1 = some r) (hR : 1 ≤ R.frames ∧ 21 ≤ R.locals) (hR2 : (rest.map fun v => v.category).sum ≤ 8 ∧ cells ≤ R.cells ∧ slots ≤ R.slots) (hdg : decode cc pc = .ok (.invokestatic 85, 3))
    (kk : ∀ (H1 : Heap) (locs1 : List Loc), fI D cI cS s.heap.size K σ H1 → va_S (aZ s.heap.size) s.heap H1 locs1 → W p l e R s m args below meth c H1 locs1 cells slots Q (F0 m (pc + 3) ls (.int r :: rest))) : W p l e R s m args below meth c H locs cells slots Q (F0 m pc ls (.int a1 :: .ref b :: rest)) := by
  refine mm_bi (K := K) (Z := s.heap.size) (D := D) (cI := cI) (cS := cS) (r := r) (σ' := σ) (rest := rest) hS (va_runS (As := [.ref b, .int a1]) (rest := rest) ⟨hx, hb, hml, hown, hts⟩ (c_L_cell l D cI cS s.heap.size K b L xs hbl a1 σ r hf) (va_cwS 2 hts (goodIn_T (fun w hw => ?_)) rfl rfl rfl (by decide +kernel) hR) ⟨PmX.blind, fun U hU hW => ⟨rfl, ⟨by rw [hU]; exact hI, hG.warm hW⟩, by rw [hU]; exact (hX.kept (hS.2.1 b hbl (Nat.not_le.mpr hbl))).moved hW.alike⟩⟩ rfl rfl hsz rfl (lv_room (rest := .int a1 :: .ref b :: rest) hR2.1) hdg hR2.2) kk
  unfold va_wsS at hw
  rcases List.mem_append.mp hw with h | h
  · simp only [List.mem_cons, List.not_mem_nil, or_false] at h
    rcases h with h | h | h <;> rw [h]
    · exact (mT6 _ (List.mem_of_getElem? (i := 3) rfl))
    · exact (mT6 _ (List.mem_of_getElem? (i := 4) rfl))
    · exact (mT6 _ (List.mem_of_getElem? (i := 5) rfl))
  · exact in_wsT (mT6 _ (List.mem_of_getElem? (i := 6) rfl)) w h
end CELL
set_option maxHeartbeats 16000000 in
set_option maxRecDepth 100000 in
theorem law_walk {p : Program} {l : Launch} {e : Env} {s : State} {m : MethodId} {below : List Frame} {meth : Method} {c : Code} {D : va_G} {cI cS : ClassId} {K : Nat → Nat} {b L : Nat} {xs : Nat → Int32} (C0 : lw_At p s m meth c b L xs) (hG : gK D cI cS s) (hL : ly K 0 lyLoom) (σ : Nat → Nat → Int32) (hf : f_L_law xs L σ = some ()) (H : Heap) (locs : List Loc) (ls : Array Slot) (hI : fI D cI cS s.heap.size K σ H) (hS : va_S (aZ s.heap.size) s.heap H locs) (hl : lv_has ls 14 [(0, .ref b), (1, .ref (s.heap.size + 0))]) : W p l e room_1 s m #[Value.ref b] below meth c H locs 600000 7302250 (lw_Z below #[Value.ref b] s) (F0 m 8 ls []) := by
  obtain ⟨hx, hb, hr, hml, hown, hts0, hX, hbl, hlocks, hgv⟩ := C0
  have hb : c.code = cL_law := hb
  have hown : s.vm.findClass RL = some m.cls := hown
  have hts : ∀ w ∈ wsL_law, w.before #[Value.ref b] s = true := fun w h => hts0 w (wsL_law_in w h)
  rw [f_L_law] at hf
  refine lv_aload_n hx hb dL_law_8 rfl (lv_at hl 1 rfl) ?_
  refine lv_iconst (v := 1) hx hb dL_law_9 (by decide) ?_
  refine lv_aload_n hx hb dL_law_10 rfl (lv_at hl 0 rfl) ?_
  refine lv_iconst (v := 0) hx hb dL_law_11 (by decide) ?_
  obtain ⟨r_1, hr_1, hf⟩ := bi_e hf
  refine kL_cell hx hb hml hts hown hG hI hS hl.1 hX hbl hr_1 ⟨(Nat.le_of_ble_eq_true rfl), (Nat.le_of_ble_eq_true rfl)⟩ ⟨(Nat.le_of_ble_eq_true rfl), (Nat.le_of_ble_eq_true rfl), (Nat.le_of_ble_eq_true rfl)⟩ dL_law_12 (fun H locs hI hS => ?_)
  refine lv_bipush (v := 15) hx hb dL_law_15 (by decide) ?_
  obtain ⟨r_2, hr_2, hf⟩ := bi_e hf
  refine kL_35 hx hb hml hts hown hG hI hS hl.1 (As := [.int r_1, .int 15]) (c_L_low l D cI cS s.heap.size K r_1 15 σ _ hr_2) ⟨(Nat.le_of_ble_eq_true rfl), (Nat.le_of_ble_eq_true rfl)⟩ rfl (Nat.le_of_ble_eq_true rfl) ⟨(Nat.le_of_ble_eq_true rfl), (Nat.le_of_ble_eq_true rfl)⟩ dL_law_17 (fun H locs hI hS => ?_)
  refine lv_iadd hx hb dL_law_20 ?_
  refine lv_iconst (v := 0) hx hb dL_law_21 (by decide) ?_
  obtain ⟨r_3, σ_4, hr_3, hf⟩ := b2_e hf
  refine kL_47 hx hb hml hts hown hG hI hS hl.1 hL (As := [.int (1 + r_2), .int 0]) (c_X7_addBar l D cI cS s.heap.size K hL (1 + r_2) 0 σ _ _ hr_3) ⟨(Nat.le_of_ble_eq_true rfl), (Nat.le_of_ble_eq_true rfl)⟩ rfl (Nat.le_of_ble_eq_true rfl) ⟨(Nat.le_of_ble_eq_true rfl), (Nat.le_of_ble_eq_true rfl)⟩ dL_law_22 (fun H locs hI hS => ?_)
  refine lv_if_ne (tgt := 68) hx hb dL_law_25 (by decide) (fun c_244 => ?_) (fun c_244 => ?_)
  · have hf := neg_e c_244 hf
    refine lv_iconst (v := 0) hx hb dL_law_68 (by decide) ?_
    cases hf
  · have hf := pos_e c_244 hf
    refine lv_aload_n hx hb dL_law_28 rfl (lv_at hl 1 rfl) ?_
    refine lv_aload_n hx hb dL_law_29 rfl (lv_at hl 0 rfl) ?_
    refine lv_iconst (v := 1) hx hb dL_law_30 (by decide) ?_
    obtain ⟨r_5, hr_5, hf⟩ := bi_e hf
    refine kL_cell hx hb hml hts hown hG hI hS hl.1 hX hbl hr_5 ⟨(Nat.le_of_ble_eq_true rfl), (Nat.le_of_ble_eq_true rfl)⟩ ⟨(Nat.le_of_ble_eq_true rfl), (Nat.le_of_ble_eq_true rfl), (Nat.le_of_ble_eq_true rfl)⟩ dL_law_31 (fun H locs hI hS => ?_)
    refine lv_bipush (v := 16) hx hb dL_law_34 (by decide) ?_
    obtain ⟨r_6, hr_6, hf⟩ := bi_e hf
    refine kL_35 hx hb hml hts hown hG hI hS hl.1 (As := [.int r_5, .int 16]) (c_L_low l D cI cS s.heap.size K r_5 16 σ_4 _ hr_6) ⟨(Nat.le_of_ble_eq_true rfl), (Nat.le_of_ble_eq_true rfl)⟩ rfl (Nat.le_of_ble_eq_true rfl) ⟨(Nat.le_of_ble_eq_true rfl), (Nat.le_of_ble_eq_true rfl)⟩ dL_law_36 (fun H locs hI hS => ?_)
    refine lv_iconst (v := 1) hx hb dL_law_39 (by decide) ?_
    obtain ⟨r_7, σ_8, hr_7, hf⟩ := b2_e hf
    refine kL_47 hx hb hml hts hown hG hI hS hl.1 hL (As := [.int r_6, .int 1]) (c_X7_addBar l D cI cS s.heap.size K hL r_6 1 σ_4 _ _ hr_7) ⟨(Nat.le_of_ble_eq_true rfl), (Nat.le_of_ble_eq_true rfl)⟩ rfl (Nat.le_of_ble_eq_true rfl) ⟨(Nat.le_of_ble_eq_true rfl), (Nat.le_of_ble_eq_true rfl)⟩ dL_law_40 (fun H locs hI hS => ?_)
    refine lv_iconst (v := 1) hx hb dL_law_43 (by decide) ?_
    refine lv_icmp_ne (tgt := 68) hx hb dL_law_44 (by decide) (fun c_243 => ?_) (fun c_243 => ?_)
    · have hf := neg_e c_243 hf
      refine lv_iconst (v := 0) hx hb dL_law_68 (by decide) ?_
      cases hf
    · have hf := pos_e c_243 hf
      refine lv_aload_n hx hb dL_law_47 rfl (lv_at hl 1 rfl) ?_
      refine lv_iconst (v := 1) hx hb dL_law_48 (by decide) ?_
      refine lv_aload_n hx hb dL_law_49 rfl (lv_at hl 0 rfl) ?_
      refine lv_iconst (v := 2) hx hb dL_law_50 (by decide) ?_
      obtain ⟨r_9, hr_9, hf⟩ := bi_e hf
      refine kL_cell hx hb hml hts hown hG hI hS hl.1 hX hbl hr_9 ⟨(Nat.le_of_ble_eq_true rfl), (Nat.le_of_ble_eq_true rfl)⟩ ⟨(Nat.le_of_ble_eq_true rfl), (Nat.le_of_ble_eq_true rfl), (Nat.le_of_ble_eq_true rfl)⟩ dL_law_51 (fun H locs hI hS => ?_)
      refine lv_bipush (v := 80) hx hb dL_law_54 (by decide) ?_
      obtain ⟨r_10, hr_10, hf⟩ := bi_e hf
      refine kL_35 hx hb hml hts hown hG hI hS hl.1 (As := [.int r_9, .int 80]) (c_L_low l D cI cS s.heap.size K r_9 80 σ_8 _ hr_10) ⟨(Nat.le_of_ble_eq_true rfl), (Nat.le_of_ble_eq_true rfl)⟩ rfl (Nat.le_of_ble_eq_true rfl) ⟨(Nat.le_of_ble_eq_true rfl), (Nat.le_of_ble_eq_true rfl)⟩ dL_law_56 (fun H locs hI hS => ?_)
      obtain ⟨r_11, σ_12, hr_11, hf⟩ := b2_e hf
      refine kL_59 hx hb hml hts hown hG hI hS hl.1 hL (As := [.int 1, .int r_10]) (c_X7_wind l D cI cS s.heap.size K hL 1 r_10 σ_8 _ _ hr_11) ⟨(Nat.le_of_ble_eq_true rfl), (Nat.le_of_ble_eq_true rfl)⟩ rfl (Nat.le_of_ble_eq_true rfl) ⟨(Nat.le_of_ble_eq_true rfl), (Nat.le_of_ble_eq_true rfl)⟩ dL_law_59 (fun H locs hI hS => ?_)
      refine lv_sipush (v := 300) hx hb dL_law_62 (by decide) ?_
      refine lv_icmp_eq (tgt := 70) hx hb dL_law_65 (by decide) (fun c_242 => ?_) (fun c_242 => ?_)
      · have hf := pos_e c_242 hf
        refine lv_iconst (v := 0) hx hb dL_law_70 (by decide) ?_
        refine lv_istore_n (lv' := [(2, .int 0), (0, .ref b), (1, .ref (s.heap.size + 0))]) hx hb dL_law_71 rfl hl (by decide) rfl (fun ls hl => ?_)
        have L_17 : ∀ (nn : Nat) (y_13 : Int32) (σ_14 : Nat → Nat → Int32) (σ_15 : Nat → Nat → Int32), lp (b_L_law_72 xs L) nn (y_13, σ_14) = some σ_15 → (∀ (H : Heap) (locs : List Loc) (ls : Array Slot), fI D cI cS s.heap.size K σ_15 H → va_S (aZ s.heap.size) s.heap H locs → lv_has ls 14 [(1, .ref (s.heap.size + 0))] → W p l e room_1 s m #[Value.ref b] below meth c H locs 600000 7302250 (lw_Z below #[Value.ref b] s) (F0 m 350 ls [])) → ∀ (H : Heap) (locs : List Loc) (ls : Array Slot), fI D cI cS s.heap.size K σ_14 H → va_S (aZ s.heap.size) s.heap H locs → lv_has ls 14 [(0, .ref b), (1, .ref (s.heap.size + 0)), (2, .int y_13)] → W p l e room_1 s m #[Value.ref b] below meth c H locs 600000 7302250 (lw_Z below #[Value.ref b] s) (F0 m 72 ls []) := by
          intro nn
          induction nn with
          | zero =>
            intro y_13 σ_14 σ_15 hq
            exact (lp_0 hq).elim
          | succ nn ih_18 =>
            intro y_13 σ_14 σ_15 hq kn_20 H locs ls hI hS hl
            obtain ⟨wb_16, hf, hk_19⟩ := lp_e hq
            rw [b_L_law_72] at hf
            have ih_18 := fun (y_13 : Int32) (σ_14 : Nat → Nat → Int32) q => ih_18 y_13 σ_14 σ_15 q kn_20
            refine lv_iload_n hx hb dL_law_72 rfl (lv_at hl 2 rfl) ?_
            refine lv_bipush (v := 16) hx hb dL_law_73 (by decide) ?_
            refine lv_icmp_ge (tgt := 350) hx hb dL_law_75 (by decide) (fun c_213 => ?_) (fun c_213 => ?_)
            · have hf := pos_e c_213 hf
              obtain rfl := so_e hf
              obtain rfl := lk_r hk_19
              exact kn_20 _ _ _ hI hS (lv_sub hl [1] rfl)
            · have hf := neg_e c_213 hf
              refine lv_aload_n hx hb dL_law_78 rfl (lv_at hl 0 rfl) ?_
              refine lv_iconst (v := 3) hx hb dL_law_79 (by decide) ?_
              refine lv_iload_n hx hb dL_law_80 rfl (lv_at hl 2 rfl) ?_
              refine lv_iadd hx hb dL_law_81 ?_
              obtain ⟨r_118, hr_118, hf⟩ := bi_e hf
              refine kL_cell hx hb hml hts hown hG hI hS hl.1 hX hbl hr_118 ⟨(Nat.le_of_ble_eq_true rfl), (Nat.le_of_ble_eq_true rfl)⟩ ⟨(Nat.le_of_ble_eq_true rfl), (Nat.le_of_ble_eq_true rfl), (Nat.le_of_ble_eq_true rfl)⟩ dL_law_82 (fun H locs hI hS => ?_)
              refine lv_istore_n (lv' := [(3, .int r_118), (0, .ref b), (1, .ref (s.heap.size + 0)), (2, .int y_13)]) hx hb dL_law_85 rfl hl (by decide) rfl (fun ls hl => ?_)
              refine lv_aload_n hx hb dL_law_86 rfl (lv_at hl 2 rfl) ?_
              obtain ⟨q_119, hq_119, hf⟩ := bi_e hf
              refine kL_88 hx hb hml hts hown hG hI hS hl.1 (As := [.ref (s.heap.size + 0)]) (c_L_digest l D cI cS s.heap.size K hL σ_14 _ hq_119) ⟨(Nat.le_of_ble_eq_true rfl), (Nat.le_of_ble_eq_true rfl)⟩ rfl (Nat.le_of_ble_eq_true rfl) ⟨(Nat.le_of_ble_eq_true rfl), (Nat.le_of_ble_eq_true rfl)⟩ dL_law_87 (fun H locs hI hS => ?_)
              refine lv_lstore (lv' := [(4, .long q_119), (3, .int r_118), (0, .ref b), (1, .ref (s.heap.size + 0)), (2, .int y_13)]) hx hb dL_law_90 hl (by decide) rfl (fun ls hl => ?_)
              refine lv_aload_n hx hb dL_law_92 rfl (lv_at hl 3 rfl) ?_
              obtain ⟨r_120, hr_120, hf⟩ := bi_e hf
              refine kL_92 hx hb hml hts hown hG hI hS hl.1 (As := [.ref (s.heap.size + 0)]) (c_L_yarn l D cI cS s.heap.size K hL σ_14 _ hr_120) ⟨(Nat.le_of_ble_eq_true rfl), (Nat.le_of_ble_eq_true rfl)⟩ rfl (Nat.le_of_ble_eq_true rfl) ⟨(Nat.le_of_ble_eq_true rfl), (Nat.le_of_ble_eq_true rfl)⟩ dL_law_93 (fun H locs hI hS => ?_)
              refine lv_istore (lv' := [(6, .int r_120), (4, .long q_119), (3, .int r_118), (0, .ref b), (1, .ref (s.heap.size + 0)), (2, .int y_13)]) hx hb dL_law_96 hl (by decide) rfl (fun ls hl => ?_)
              refine lv_aload_n hx hb dL_law_98 rfl (lv_at hl 4 rfl) ?_
              refine lv_iload_n hx hb dL_law_99 rfl (lv_at hl 2 rfl) ?_
              obtain ⟨r_121, σ_122, hr_121, hf⟩ := b2_e hf
              refine kL_95 hx hb hml hts hown hG hI hS hl.1 (As := [.ref (s.heap.size + 0), .int r_118]) (c_L_act l D cI cS s.heap.size K hL r_118 σ_14 _ _ hr_121) ⟨(Nat.le_of_ble_eq_true rfl), (Nat.le_of_ble_eq_true rfl)⟩ rfl (Nat.le_of_ble_eq_true rfl) ⟨(Nat.le_of_ble_eq_true rfl), (Nat.le_of_ble_eq_true rfl)⟩ dL_law_100 (fun H locs hI hS => ?_)
              refine lv_istore (lv' := [(7, .int r_121), (6, .int r_120), (4, .long q_119), (3, .int r_118), (0, .ref b), (1, .ref (s.heap.size + 0)), (2, .int y_13)]) hx hb dL_law_103 hl (by decide) rfl (fun ls hl => ?_)
              refine lv_iload hx hb dL_law_105 (lv_at hl 0 rfl) ?_
              obtain ⟨k_126, ek_126, hf⟩ := jn_e hf
              have HJ_127 : ∀ (H : Heap) (locs : List Loc) (ls : Array Slot), k_126 = some wb_16 → fI D cI cS s.heap.size K σ_122 H → va_S (aZ s.heap.size) s.heap H locs → lv_has ls 14 [(0, .ref b), (1, .ref (s.heap.size + 0)), (2, .int y_13), (3, .int r_118), (4, .long q_119), (6, .int r_120), (7, .int r_121)] → W p l e room_1 s m #[Value.ref b] below meth c H locs 600000 7302250 (lw_Z below #[Value.ref b] s) (F0 m 120 ls []) := by
                intro  H locs ls hf hI hS hl
                have hf := jb0 ek_126 hf
                refine lv_aload_n hx hb dL_law_120 rfl (lv_at hl 1 rfl) ?_
                obtain ⟨r_128, hr_128, hf⟩ := bi_e hf
                refine kL_99 hx hb hml hts hown hG hI hS hl.1 (As := [.ref (s.heap.size + 0)]) (c_L_isRight l D cI cS s.heap.size K hL σ_122 _ hr_128) ⟨(Nat.le_of_ble_eq_true rfl), (Nat.le_of_ble_eq_true rfl)⟩ rfl (Nat.le_of_ble_eq_true rfl) ⟨(Nat.le_of_ble_eq_true rfl), (Nat.le_of_ble_eq_true rfl)⟩ dL_law_121 (fun hzr_128 H locs hI hS => ?_)
                refine lv_if_ne (tgt := 129) hx hb dL_law_124 (by decide) (fun c_209 => ?_) (fun c_209 => ?_)
                · have hf := neg_e c_209 hf
                  refine lv_iload_n hx hb dL_law_129 rfl (lv_at hl 3 rfl) ?_
                  refine lv_bipush (v := 15) hx hb dL_law_130 (by decide) ?_
                  refine lv_iand hx hb dL_law_132 ?_
                  refine lv_bipush (v := 11) hx hb dL_law_133 (by decide) ?_
                  obtain ⟨k_139, ek_139, hf⟩ := jn_e hf
                  have HJ_140 : ∀ (H : Heap) (locs : List Loc) (ls : Array Slot), k_139 = some wb_16 → fI D cI cS s.heap.size K σ_122 H → va_S (aZ s.heap.size) s.heap H locs → lv_has ls 14 [(0, .ref b), (1, .ref (s.heap.size + 0)), (2, .int y_13), (3, .int r_118), (4, .long q_119), (7, .int r_121)] → W p l e room_1 s m #[Value.ref b] below meth c H locs 600000 7302250 (lw_Z below #[Value.ref b] s) (F0 m 167 ls []) := by
                    intro  H locs ls hf hI hS hl
                    have hf := jb0 ek_139 hf
                    refine lv_iload hx hb dL_law_167 (lv_at hl 5 rfl) ?_
                    obtain ⟨k_155, ek_155, hf⟩ := jn_e hf
                    have HJ_156 : ∀ (σ_154 : Nat → Nat → Int32) (H : Heap) (locs : List Loc) (ls : Array Slot), k_155 σ_154 = some wb_16 → fI D cI cS s.heap.size K σ_154 H → va_S (aZ s.heap.size) s.heap H locs → lv_has ls 14 [(0, .ref b), (1, .ref (s.heap.size + 0)), (2, .int y_13), (3, .int r_118)] → W p l e room_1 s m #[Value.ref b] below meth c H locs 600000 7302250 (lw_Z below #[Value.ref b] s) (F0 m 224 ls []) := by
                      intro σ_154 H locs ls hf hI hS hl
                      have hf := jb1 ek_155 hf
                      refine lv_iload_n hx hb dL_law_224 rfl (lv_at hl 2 rfl) ?_
                      refine lv_iconst (v := 4) hx hb dL_law_225 (by decide) ?_
                      obtain ⟨hnz, hf⟩ := nz_e hf
                      refine lv_irem hx hb dL_law_226 hnz ?_
                      refine lv_iconst (v := 2) hx hb dL_law_227 (by decide) ?_
                      refine lv_icmp_ne (tgt := 344) hx hb dL_law_228 (by decide) (fun c_185 => ?_) (fun c_185 => ?_)
                      · have hf := neg_e c_185 hf
                        obtain ⟨x_157, ex_157, hf⟩ := vl_e hf
                        refine lv_iinc (v := x_157) (lv' := [(2, .int x_157), (0, .ref b), (1, .ref (s.heap.size + 0)), (3, .int r_118)]) hx hb dL_law_344 hl (k := 2) rfl (by rw [ex_157]; rfl) (by decide) rfl (fun ls hl => ?_)
                        refine lv_goto (tgt := 72) hx hb dL_law_347 (by decide) ?_
                        obtain rfl := so_e hf
                        exact ih_18 x_157 σ_154 hk_19 _ _ _ hI hS (lv_sub hl [1, 2, 0] rfl)
                      · have hf := pos_e c_185 hf
                        refine lv_aload_n hx hb dL_law_231 rfl (lv_at hl 1 rfl) ?_
                        refine lv_bipush (v := 6) hx hb dL_law_232 (by decide) ?_
                        obtain ⟨r_158, hr_158, hf⟩ := bi_e hf
                        refine kL_12 hx hb hml hts hown hG hI hS hl.1 hL (As := [.int 6]) (c_X7_count l D cI cS s.heap.size K hL 6 σ_154 _ hr_158) ⟨(Nat.le_of_ble_eq_true rfl), (Nat.le_of_ble_eq_true rfl)⟩ rfl (Nat.le_of_ble_eq_true rfl) ⟨(Nat.le_of_ble_eq_true rfl), (Nat.le_of_ble_eq_true rfl)⟩ dL_law_234 (fun H locs hI hS => ?_)
                        refine lv_if_ne (tgt := 344) hx hb dL_law_237 (by decide) (fun c_184 => ?_) (fun c_184 => ?_)
                        · have hf := neg_e c_184 hf
                          obtain ⟨x_159, ex_159, hf⟩ := vl_e hf
                          refine lv_iinc (v := x_159) (lv' := [(2, .int x_159), (0, .ref b), (1, .ref (s.heap.size + 0)), (3, .int r_118)]) hx hb dL_law_344 hl (k := 2) rfl (by rw [ex_159]; rfl) (by decide) rfl (fun ls hl => ?_)
                          refine lv_goto (tgt := 72) hx hb dL_law_347 (by decide) ?_
                          obtain rfl := so_e hf
                          exact ih_18 x_159 σ_154 hk_19 _ _ _ hI hS (lv_sub hl [1, 2, 0] rfl)
                        · have hf := pos_e c_184 hf
                          refine lv_aload_n hx hb dL_law_240 rfl (lv_at hl 1 rfl) ?_
                          refine lv_iconst (v := 2) hx hb dL_law_241 (by decide) ?_
                          obtain ⟨r_160, hr_160, hf⟩ := bi_e hf
                          refine kL_12 hx hb hml hts hown hG hI hS hl.1 hL (As := [.int 2]) (c_X7_count l D cI cS s.heap.size K hL 2 σ_154 _ hr_160) ⟨(Nat.le_of_ble_eq_true rfl), (Nat.le_of_ble_eq_true rfl)⟩ rfl (Nat.le_of_ble_eq_true rfl) ⟨(Nat.le_of_ble_eq_true rfl), (Nat.le_of_ble_eq_true rfl)⟩ dL_law_242 (fun H locs hI hS => ?_)
                          refine lv_if_le (tgt := 344) hx hb dL_law_245 (by decide) (fun c_183 => ?_) (fun c_183 => ?_)
                          · have hf := pos_e c_183 hf
                            obtain ⟨x_161, ex_161, hf⟩ := vl_e hf
                            refine lv_iinc (v := x_161) (lv' := [(2, .int x_161), (0, .ref b), (1, .ref (s.heap.size + 0)), (3, .int r_118)]) hx hb dL_law_344 hl (k := 2) rfl (by rw [ex_161]; rfl) (by decide) rfl (fun ls hl => ?_)
                            refine lv_goto (tgt := 72) hx hb dL_law_347 (by decide) ?_
                            obtain rfl := so_e hf
                            exact ih_18 x_161 σ_154 hk_19 _ _ _ hI hS (lv_sub hl [1, 2, 0] rfl)
                          · have hf := neg_e c_183 hf
                            refine lv_aload_n hx hb dL_law_248 rfl (lv_at hl 1 rfl) ?_
                            refine lv_iconst (v := 5) hx hb dL_law_249 (by decide) ?_
                            obtain ⟨r_162, hr_162, hf⟩ := bi_e hf
                            refine kL_12 hx hb hml hts hown hG hI hS hl.1 hL (As := [.int 5]) (c_X7_count l D cI cS s.heap.size K hL 5 σ_154 _ hr_162) ⟨(Nat.le_of_ble_eq_true rfl), (Nat.le_of_ble_eq_true rfl)⟩ rfl (Nat.le_of_ble_eq_true rfl) ⟨(Nat.le_of_ble_eq_true rfl), (Nat.le_of_ble_eq_true rfl)⟩ dL_law_250 (fun H locs hI hS => ?_)
                            refine lv_bipush (v := 50) hx hb dL_law_253 (by decide) ?_
                            refine lv_icmp_ge (tgt := 344) hx hb dL_law_255 (by decide) (fun c_182 => ?_) (fun c_182 => ?_)
                            · have hf := pos_e c_182 hf
                              obtain ⟨x_163, ex_163, hf⟩ := vl_e hf
                              refine lv_iinc (v := x_163) (lv' := [(2, .int x_163), (0, .ref b), (1, .ref (s.heap.size + 0)), (3, .int r_118)]) hx hb dL_law_344 hl (k := 2) rfl (by rw [ex_163]; rfl) (by decide) rfl (fun ls hl => ?_)
                              refine lv_goto (tgt := 72) hx hb dL_law_347 (by decide) ?_
                              obtain rfl := so_e hf
                              exact ih_18 x_163 σ_154 hk_19 _ _ _ hI hS (lv_sub hl [1, 2, 0] rfl)
                            · have hf := neg_e c_182 hf
                              refine lv_aload_n hx hb dL_law_258 rfl (lv_at hl 1 rfl) ?_
                              obtain ⟨q_164, hq_164, hf⟩ := bi_e hf
                              refine kL_88 hx hb hml hts hown hG hI hS hl.1 (As := [.ref (s.heap.size + 0)]) (c_L_digest l D cI cS s.heap.size K hL σ_154 _ hq_164) ⟨(Nat.le_of_ble_eq_true rfl), (Nat.le_of_ble_eq_true rfl)⟩ rfl (Nat.le_of_ble_eq_true rfl) ⟨(Nat.le_of_ble_eq_true rfl), (Nat.le_of_ble_eq_true rfl)⟩ dL_law_259 (fun H locs hI hS => ?_)
                              refine lv_lstore (lv' := [(8, .long q_164), (0, .ref b), (1, .ref (s.heap.size + 0)), (2, .int y_13), (3, .int r_118)]) hx hb dL_law_262 hl (by decide) rfl (fun ls hl => ?_)
                              refine lv_aload_n hx hb dL_law_264 rfl (lv_at hl 2 rfl) ?_
                              refine lv_iconst (v := 5) hx hb dL_law_265 (by decide) ?_
                              obtain ⟨r_165, hr_165, hf⟩ := bi_e hf
                              refine kL_12 hx hb hml hts hown hG hI hS hl.1 hL (As := [.int 5]) (c_X7_count l D cI cS s.heap.size K hL 5 σ_154 _ hr_165) ⟨(Nat.le_of_ble_eq_true rfl), (Nat.le_of_ble_eq_true rfl)⟩ rfl (Nat.le_of_ble_eq_true rfl) ⟨(Nat.le_of_ble_eq_true rfl), (Nat.le_of_ble_eq_true rfl)⟩ dL_law_266 (fun H locs hI hS => ?_)
                              refine lv_istore (lv' := [(10, .int r_165), (8, .long q_164), (0, .ref b), (1, .ref (s.heap.size + 0)), (2, .int y_13), (3, .int r_118)]) hx hb dL_law_269 hl (by decide) rfl (fun ls hl => ?_)
                              refine lv_aload_n hx hb dL_law_271 rfl (lv_at hl 3 rfl) ?_
                              refine lv_iconst (v := 1) hx hb dL_law_272 (by decide) ?_
                              refine lv_iload_n hx hb dL_law_273 rfl (lv_at hl 5 rfl) ?_
                              refine lv_bipush (v := 6) hx hb dL_law_274 (by decide) ?_
                              refine lv_ishr hx hb dL_law_276 ?_
                              refine lv_bipush (v := 8) hx hb dL_law_277 (by decide) ?_
                              obtain ⟨r_166, hr_166, hf⟩ := bi_e hf
                              refine kL_35 hx hb hml hts hown hG hI hS hl.1 (As := [.int (r_118 >>> (6 &&& 31)), .int 8]) (c_L_low l D cI cS s.heap.size K (r_118 >>> (6 &&& 31)) 8 σ_154 _ hr_166) ⟨(Nat.le_of_ble_eq_true rfl), (Nat.le_of_ble_eq_true rfl)⟩ rfl (Nat.le_of_ble_eq_true rfl) ⟨(Nat.le_of_ble_eq_true rfl), (Nat.le_of_ble_eq_true rfl)⟩ dL_law_279 (fun H locs hI hS => ?_)
                              refine lv_iadd hx hb dL_law_282 ?_
                              obtain ⟨r_167, σ_168, hr_167, hf⟩ := b2_e hf
                              refine kL_71 hx hb hml hts hown hG hI hS hl.1 hL (As := [.int (1 + r_166)]) (c_X7_weave l D cI cS s.heap.size K hL (1 + r_166) σ_154 _ _ hr_167) ⟨(Nat.le_of_ble_eq_true rfl), (Nat.le_of_ble_eq_true rfl)⟩ rfl (Nat.le_of_ble_eq_true rfl) ⟨(Nat.le_of_ble_eq_true rfl), (Nat.le_of_ble_eq_true rfl)⟩ dL_law_283 (fun H locs hI hS => ?_)
                              refine lv_istore (lv' := [(11, .int r_167), (10, .int r_165), (8, .long q_164), (0, .ref b), (1, .ref (s.heap.size + 0)), (2, .int y_13), (3, .int r_118)]) hx hb dL_law_286 hl (by decide) rfl (fun ls hl => ?_)
                              refine lv_aload_n hx hb dL_law_288 rfl (lv_at hl 4 rfl) ?_
                              obtain ⟨q_169, hq_169, hf⟩ := bi_e hf
                              refine kL_88 hx hb hml hts hown hG hI hS hl.1 (As := [.ref (s.heap.size + 0)]) (c_L_digest l D cI cS s.heap.size K hL σ_168 _ hq_169) ⟨(Nat.le_of_ble_eq_true rfl), (Nat.le_of_ble_eq_true rfl)⟩ rfl (Nat.le_of_ble_eq_true rfl) ⟨(Nat.le_of_ble_eq_true rfl), (Nat.le_of_ble_eq_true rfl)⟩ dL_law_289 (fun H locs hI hS => ?_)
                              refine lv_lstore (lv' := [(12, .long q_169), (11, .int r_167), (10, .int r_165), (8, .long q_164), (0, .ref b), (1, .ref (s.heap.size + 0)), (2, .int y_13), (3, .int r_118)]) hx hb dL_law_292 hl (by decide) rfl (fun ls hl => ?_)
                              refine lv_iload hx hb dL_law_294 (lv_at hl 1 rfl) ?_
                              refine lv_iconst (v := 1) hx hb dL_law_296 (by decide) ?_
                              refine lv_icmp_lt (tgt := 342) hx hb dL_law_297 (by decide) (fun c_181 => ?_) (fun c_181 => ?_)
                              · have hf := pos_e c_181 hf
                                refine lv_iconst (v := 0) hx hb dL_law_342 (by decide) ?_
                                cases hf
                              · have hf := neg_e c_181 hf
                                refine lv_aload_n hx hb dL_law_300 rfl (lv_at hl 5 rfl) ?_
                                refine lv_iload hx hb dL_law_301 (lv_at hl 1 rfl) ?_
                                obtain ⟨r_170, σ_171, hr_170, hf⟩ := b2_e hf
                                refine kL_62 hx hb hml hts hown hG hI hS hl.1 hL (As := [.int r_167]) (c_X7_takeOut l D cI cS s.heap.size K hL r_167 σ_168 _ _ hr_170) ⟨(Nat.le_of_ble_eq_true rfl), (Nat.le_of_ble_eq_true rfl)⟩ rfl (Nat.le_of_ble_eq_true rfl) ⟨(Nat.le_of_ble_eq_true rfl), (Nat.le_of_ble_eq_true rfl)⟩ dL_law_303 (fun H locs hI hS => ?_)
                                refine lv_iload hx hb dL_law_306 (lv_at hl 2 rfl) ?_
                                refine lv_icmp_ne (tgt := 342) hx hb dL_law_308 (by decide) (fun c_180 => ?_) (fun c_180 => ?_)
                                · have hf := neg_e c_180 hf
                                  refine lv_iconst (v := 0) hx hb dL_law_342 (by decide) ?_
                                  cases hf
                                · have hf := pos_e c_180 hf
                                  refine lv_aload_n hx hb dL_law_311 rfl (lv_at hl 5 rfl) ?_
                                  obtain ⟨q_172, hq_172, hf⟩ := bi_e hf
                                  refine kL_88 hx hb hml hts hown hG hI hS hl.1 (As := [.ref (s.heap.size + 0)]) (c_L_digest l D cI cS s.heap.size K hL σ_171 _ hq_172) ⟨(Nat.le_of_ble_eq_true rfl), (Nat.le_of_ble_eq_true rfl)⟩ rfl (Nat.le_of_ble_eq_true rfl) ⟨(Nat.le_of_ble_eq_true rfl), (Nat.le_of_ble_eq_true rfl)⟩ dL_law_312 (fun H locs hI hS => ?_)
                                  refine lv_lload hx hb dL_law_315 (lv_at hl 3 rfl) ?_
                                  refine W.lcmp hx hb dL_law_317 ?_
                                  refine lv_if_ne (tgt := 342) hx hb dL_law_318 (by decide) (fun c_179 => ?_) (fun c_179 => ?_)
                                  · have hf := neg_e c_179 hf
                                    refine lv_iconst (v := 0) hx hb dL_law_342 (by decide) ?_
                                    cases hf
                                  · have hf := pos_e c_179 hf
                                    refine lv_aload_n hx hb dL_law_321 rfl (lv_at hl 5 rfl) ?_
                                    refine lv_iload hx hb dL_law_322 (lv_at hl 1 rfl) ?_
                                    obtain ⟨r_173, σ_174, hr_173, hf⟩ := b2_e hf
                                    refine kL_71 hx hb hml hts hown hG hI hS hl.1 hL (As := [.int r_167]) (c_X7_weave l D cI cS s.heap.size K hL r_167 σ_171 _ _ hr_173) ⟨(Nat.le_of_ble_eq_true rfl), (Nat.le_of_ble_eq_true rfl)⟩ rfl (Nat.le_of_ble_eq_true rfl) ⟨(Nat.le_of_ble_eq_true rfl), (Nat.le_of_ble_eq_true rfl)⟩ dL_law_324 (fun H locs hI hS => ?_)
                                    refine lv_iload hx hb dL_law_327 (lv_at hl 1 rfl) ?_
                                    refine lv_icmp_ne (tgt := 342) hx hb dL_law_329 (by decide) (fun c_178 => ?_) (fun c_178 => ?_)
                                    · have hf := neg_e c_178 hf
                                      refine lv_iconst (v := 0) hx hb dL_law_342 (by decide) ?_
                                      cases hf
                                    · have hf := pos_e c_178 hf
                                      refine lv_aload_n hx hb dL_law_332 rfl (lv_at hl 5 rfl) ?_
                                      obtain ⟨q_175, hq_175, hf⟩ := bi_e hf
                                      refine kL_88 hx hb hml hts hown hG hI hS hl.1 (As := [.ref (s.heap.size + 0)]) (c_L_digest l D cI cS s.heap.size K hL σ_174 _ hq_175) ⟨(Nat.le_of_ble_eq_true rfl), (Nat.le_of_ble_eq_true rfl)⟩ rfl (Nat.le_of_ble_eq_true rfl) ⟨(Nat.le_of_ble_eq_true rfl), (Nat.le_of_ble_eq_true rfl)⟩ dL_law_333 (fun H locs hI hS => ?_)
                                      refine lv_lload hx hb dL_law_336 (lv_at hl 0 rfl) ?_
                                      refine W.lcmp hx hb dL_law_338 ?_
                                      refine lv_if_eq (tgt := 344) hx hb dL_law_339 (by decide) (fun c_177 => ?_) (fun c_177 => ?_)
                                      · have hf := pos_e c_177 hf
                                        obtain ⟨x_176, ex_176, hf⟩ := vl_e hf
                                        refine lv_iinc (v := x_176) (lv' := [(2, .int x_176), (12, .long q_169), (11, .int r_167), (10, .int r_165), (8, .long q_164), (0, .ref b), (1, .ref (s.heap.size + 0)), (3, .int r_118)]) hx hb dL_law_344 hl (k := 6) rfl (by rw [ex_176]; rfl) (by decide) rfl (fun ls hl => ?_)
                                        refine lv_goto (tgt := 72) hx hb dL_law_347 (by decide) ?_
                                        obtain rfl := so_e hf
                                        exact ih_18 x_176 σ_174 hk_19 _ _ _ hI hS (lv_sub hl [5, 6, 0] rfl)
                                      · have hf := neg_e c_177 hf
                                        refine lv_iconst (v := 0) hx hb dL_law_342 (by decide) ?_
                                        cases hf
                    clear ek_155
                    refine lv_if_lt (tgt := 224) hx hb dL_law_169 (by decide) (fun c_198 => ?_) (fun c_198 => ?_)
                    · have hf := pos_e c_198 hf
                      exact HJ_156 σ_122 _ _ _ hf hI hS (lv_sub hl [0, 1, 2, 3] rfl)
                    · have hf := neg_e c_198 hf
                      refine lv_iload_n hx hb dL_law_172 rfl (lv_at hl 2 rfl) ?_
                      refine lv_iconst (v := 3) hx hb dL_law_173 (by decide) ?_
                      refine lv_iand hx hb dL_law_174 ?_
                      refine lv_iconst (v := 1) hx hb dL_law_175 (by decide) ?_
                      refine lv_icmp_ne (tgt := 224) hx hb dL_law_176 (by decide) (fun c_197 => ?_) (fun c_197 => ?_)
                      · have hf := neg_e c_197 hf
                        exact HJ_156 σ_122 _ _ _ hf hI hS (lv_sub hl [0, 1, 2, 3] rfl)
                      · have hf := pos_e c_197 hf
                        refine lv_aload_n hx hb dL_law_179 rfl (lv_at hl 1 rfl) ?_
                        obtain ⟨q_186, hq_186, hf⟩ := bi_e hf
                        refine kL_88 hx hb hml hts hown hG hI hS hl.1 (As := [.ref (s.heap.size + 0)]) (c_L_digest l D cI cS s.heap.size K hL σ_122 _ hq_186) ⟨(Nat.le_of_ble_eq_true rfl), (Nat.le_of_ble_eq_true rfl)⟩ rfl (Nat.le_of_ble_eq_true rfl) ⟨(Nat.le_of_ble_eq_true rfl), (Nat.le_of_ble_eq_true rfl)⟩ dL_law_180 (fun H locs hI hS => ?_)
                        refine lv_lstore (lv' := [(8, .long q_186), (0, .ref b), (1, .ref (s.heap.size + 0)), (2, .int y_13), (3, .int r_118), (4, .long q_119), (7, .int r_121)]) hx hb dL_law_183 hl (by decide) rfl (fun ls hl => ?_)
                        refine lv_aload_n hx hb dL_law_185 rfl (lv_at hl 2 rfl) ?_
                        obtain ⟨r_187, σ_188, hr_187, hf⟩ := b2_e hf
                        refine kL_103 hx hb hml hts hown hG hI hS hl.1 hL (As := []) (c_X7_undo l D cI cS s.heap.size K hL σ_122 _ _ hr_187) ⟨(Nat.le_of_ble_eq_true rfl), (Nat.le_of_ble_eq_true rfl)⟩ rfl (Nat.le_of_ble_eq_true rfl) ⟨(Nat.le_of_ble_eq_true rfl), (Nat.le_of_ble_eq_true rfl)⟩ dL_law_186 (fun H locs hI hS => ?_)
                        refine lv_if_lt (tgt := 222) hx hb dL_law_189 (by decide) (fun c_196 => ?_) (fun c_196 => ?_)
                        · have hf := pos_e c_196 hf
                          refine lv_iconst (v := 0) hx hb dL_law_222 (by decide) ?_
                          cases hf
                        · have hf := neg_e c_196 hf
                          refine lv_aload_n hx hb dL_law_192 rfl (lv_at hl 2 rfl) ?_
                          obtain ⟨q_189, hq_189, hf⟩ := bi_e hf
                          refine kL_88 hx hb hml hts hown hG hI hS hl.1 (As := [.ref (s.heap.size + 0)]) (c_L_digest l D cI cS s.heap.size K hL σ_188 _ hq_189) ⟨(Nat.le_of_ble_eq_true rfl), (Nat.le_of_ble_eq_true rfl)⟩ rfl (Nat.le_of_ble_eq_true rfl) ⟨(Nat.le_of_ble_eq_true rfl), (Nat.le_of_ble_eq_true rfl)⟩ dL_law_193 (fun H locs hI hS => ?_)
                          refine lv_lload hx hb dL_law_196 (lv_at hl 5 rfl) ?_
                          refine W.lcmp hx hb dL_law_198 ?_
                          refine lv_if_ne (tgt := 222) hx hb dL_law_199 (by decide) (fun c_195 => ?_) (fun c_195 => ?_)
                          · have hf := neg_e c_195 hf
                            refine lv_iconst (v := 0) hx hb dL_law_222 (by decide) ?_
                            cases hf
                          · have hf := pos_e c_195 hf
                            refine lv_aload_n hx hb dL_law_202 rfl (lv_at hl 2 rfl) ?_
                            refine lv_iload_n hx hb dL_law_203 rfl (lv_at hl 4 rfl) ?_
                            obtain ⟨r_190, σ_191, hr_190, hf⟩ := b2_e hf
                            refine kL_95 hx hb hml hts hown hG hI hS hl.1 (As := [.ref (s.heap.size + 0), .int r_118]) (c_L_act l D cI cS s.heap.size K hL r_118 σ_188 _ _ hr_190) ⟨(Nat.le_of_ble_eq_true rfl), (Nat.le_of_ble_eq_true rfl)⟩ rfl (Nat.le_of_ble_eq_true rfl) ⟨(Nat.le_of_ble_eq_true rfl), (Nat.le_of_ble_eq_true rfl)⟩ dL_law_204 (fun H locs hI hS => ?_)
                            refine lv_iload hx hb dL_law_207 (lv_at hl 6 rfl) ?_
                            refine lv_icmp_ne (tgt := 222) hx hb dL_law_209 (by decide) (fun c_194 => ?_) (fun c_194 => ?_)
                            · have hf := neg_e c_194 hf
                              refine lv_iconst (v := 0) hx hb dL_law_222 (by decide) ?_
                              cases hf
                            · have hf := pos_e c_194 hf
                              refine lv_aload_n hx hb dL_law_212 rfl (lv_at hl 2 rfl) ?_
                              obtain ⟨q_192, hq_192, hf⟩ := bi_e hf
                              refine kL_88 hx hb hml hts hown hG hI hS hl.1 (As := [.ref (s.heap.size + 0)]) (c_L_digest l D cI cS s.heap.size K hL σ_191 _ hq_192) ⟨(Nat.le_of_ble_eq_true rfl), (Nat.le_of_ble_eq_true rfl)⟩ rfl (Nat.le_of_ble_eq_true rfl) ⟨(Nat.le_of_ble_eq_true rfl), (Nat.le_of_ble_eq_true rfl)⟩ dL_law_213 (fun H locs hI hS => ?_)
                              refine lv_lload hx hb dL_law_216 (lv_at hl 0 rfl) ?_
                              refine W.lcmp hx hb dL_law_218 ?_
                              refine lv_if_eq (tgt := 224) hx hb dL_law_219 (by decide) (fun c_193 => ?_) (fun c_193 => ?_)
                              · have hf := pos_e c_193 hf
                                exact HJ_156 σ_191 _ _ _ hf hI hS (lv_sub hl [1, 2, 3, 4] rfl)
                              · have hf := neg_e c_193 hf
                                refine lv_iconst (v := 0) hx hb dL_law_222 (by decide) ?_
                                cases hf
                  clear ek_139
                  obtain ⟨k_202, ek_202, hf⟩ := jn_e hf
                  have HJ_203 : ∀ (H : Heap) (locs : List Loc) (ls : Array Slot), k_202 = some wb_16 → fI D cI cS s.heap.size K σ_122 H → va_S (aZ s.heap.size) s.heap H locs → lv_has ls 14 [(0, .ref b), (1, .ref (s.heap.size + 0)), (2, .int y_13), (3, .int r_118), (4, .long q_119), (6, .int r_120), (7, .int r_121)] → W p l e room_1 s m #[Value.ref b] below meth c H locs 600000 7302250 (lw_Z below #[Value.ref b] s) (F0 m 156 ls []) := by
                    intro  H locs ls hf hI hS hl
                    have hf := jb0 ek_202 hf
                    refine lv_aload_n hx hb dL_law_156 rfl (lv_at hl 1 rfl) ?_
                    obtain ⟨r_204, hr_204, hf⟩ := bi_e hf
                    refine kL_92 hx hb hml hts hown hG hI hS hl.1 (As := [.ref (s.heap.size + 0)]) (c_L_yarn l D cI cS s.heap.size K hL σ_122 _ hr_204) ⟨(Nat.le_of_ble_eq_true rfl), (Nat.le_of_ble_eq_true rfl)⟩ rfl (Nat.le_of_ble_eq_true rfl) ⟨(Nat.le_of_ble_eq_true rfl), (Nat.le_of_ble_eq_true rfl)⟩ dL_law_157 (fun H locs hI hS => ?_)
                    refine lv_iload hx hb dL_law_160 (lv_at hl 5 rfl) ?_
                    refine lv_icmp_eq (tgt := 167) hx hb dL_law_162 (by decide) (fun c_205 => ?_) (fun c_205 => ?_)
                    · have hf := pos_e c_205 hf
                      exact HJ_140  _ _ _ hf hI hS (lv_sub hl [0, 1, 2, 3, 4, 6] rfl)
                    · have hf := neg_e c_205 hf
                      refine lv_iconst (v := 0) hx hb dL_law_165 (by decide) ?_
                      cases hf
                  clear ek_202
                  refine lv_icmp_gt (tgt := 156) hx hb dL_law_135 (by decide) (fun c_208 => ?_) (fun c_208 => ?_)
                  · have hf := pos_e c_208 hf
                    exact HJ_203  _ _ _ hf hI hS (lv_sub hl [0, 1, 2, 3, 4, 5, 6] rfl)
                  · have hf := neg_e c_208 hf
                    refine lv_iload_n hx hb dL_law_138 rfl (lv_at hl 3 rfl) ?_
                    refine lv_bipush (v := 15) hx hb dL_law_139 (by decide) ?_
                    refine lv_iand hx hb dL_law_141 ?_
                    refine lv_bipush (v := 9) hx hb dL_law_142 (by decide) ?_
                    refine lv_icmp_eq (tgt := 156) hx hb dL_law_144 (by decide) (fun c_207 => ?_) (fun c_207 => ?_)
                    · have hf := pos_e c_207 hf
                      exact HJ_203  _ _ _ hf hI hS (lv_sub hl [0, 1, 2, 3, 4, 5, 6] rfl)
                    · have hf := neg_e c_207 hf
                      refine lv_iload_n hx hb dL_law_147 rfl (lv_at hl 3 rfl) ?_
                      refine lv_bipush (v := 15) hx hb dL_law_148 (by decide) ?_
                      refine lv_iand hx hb dL_law_150 ?_
                      refine lv_bipush (v := 10) hx hb dL_law_151 (by decide) ?_
                      refine lv_icmp_ne (tgt := 167) hx hb dL_law_153 (by decide) (fun c_206 => ?_) (fun c_206 => ?_)
                      · have hf := neg_e c_206 hf
                        exact HJ_140  _ _ _ hf hI hS (lv_sub hl [0, 1, 2, 3, 4, 6] rfl)
                      · have hf := pos_e c_206 hf
                        exact HJ_203  _ _ _ hf hI hS (lv_sub hl [0, 1, 2, 3, 4, 5, 6] rfl)
                · have hf := pos_e c_209 hf
                  refine lv_iconst (v := 0) hx hb dL_law_127 (by decide) ?_
                  cases hf
              clear ek_126
              refine lv_if_ge (tgt := 120) hx hb dL_law_107 (by decide) (fun c_212 => ?_) (fun c_212 => ?_)
              · have hf := pos_e c_212 hf
                exact HJ_127  _ _ _ hf hI hS (lv_sub hl [4, 5, 6, 3, 2, 1, 0] rfl)
              · have hf := neg_e c_212 hf
                refine lv_aload_n hx hb dL_law_110 rfl (lv_at hl 5 rfl) ?_
                obtain ⟨q_210, hq_210, hf⟩ := bi_e hf
                refine kL_88 hx hb hml hts hown hG hI hS hl.1 (As := [.ref (s.heap.size + 0)]) (c_L_digest l D cI cS s.heap.size K hL σ_122 _ hq_210) ⟨(Nat.le_of_ble_eq_true rfl), (Nat.le_of_ble_eq_true rfl)⟩ rfl (Nat.le_of_ble_eq_true rfl) ⟨(Nat.le_of_ble_eq_true rfl), (Nat.le_of_ble_eq_true rfl)⟩ dL_law_111 (fun H locs hI hS => ?_)
                refine lv_lload hx hb dL_law_114 (lv_at hl 2 rfl) ?_
                refine W.lcmp hx hb dL_law_116 ?_
                refine lv_if_ne (tgt := 127) hx hb dL_law_117 (by decide) (fun c_211 => ?_) (fun c_211 => ?_)
                · have hf := neg_e c_211 hf
                  refine lv_iconst (v := 0) hx hb dL_law_127 (by decide) ?_
                  cases hf
                · have hf := pos_e c_211 hf
                  exact HJ_127  _ _ _ hf hI hS (lv_sub hl [4, 5, 6, 3, 2, 1, 0] rfl)
        obtain ⟨σ_15, hy, hf⟩ := bi_e hf
        refine L_17 FU 0 σ_12 _ hy ?_ _ _ _ hI hS (lv_sub hl [1, 2, 0] rfl)
        clear L_17
        intro H locs ls hI hS hl
        refine lv_aload_n hx hb dL_law_350 rfl (lv_at hl 0 rfl) ?_
        obtain ⟨q_215, hq_215, hf⟩ := bi_e hf
        refine kL_88 hx hb hml hts hown hG hI hS hl.1 (As := [.ref (s.heap.size + 0)]) (c_L_digest l D cI cS s.heap.size K hL σ_15 _ hq_215) ⟨(Nat.le_of_ble_eq_true rfl), (Nat.le_of_ble_eq_true rfl)⟩ rfl (Nat.le_of_ble_eq_true rfl) ⟨(Nat.le_of_ble_eq_true rfl), (Nat.le_of_ble_eq_true rfl)⟩ dL_law_351 (fun H locs hI hS => ?_)
        refine lv_lstore_n (lv' := [(2, .long q_215), (1, .ref (s.heap.size + 0))]) hx hb dL_law_354 rfl hl (by decide) rfl (fun ls hl => ?_)
        refine lv_aload_n hx hb dL_law_355 rfl (lv_at hl 1 rfl) ?_
        refine lv_iconst (v := 1) hx hb dL_law_356 (by decide) ?_
        refine lv_bipush (v := 8) hx hb dL_law_357 (by decide) ?_
        obtain ⟨r_216, σ_217, hr_216, hf⟩ := b2_e hf
        refine kL_68 hx hb hml hts hown hG hI hS hl.1 hL (As := [.int 1, .int 8]) (c_X7_setLoom l D cI cS s.heap.size K hL 1 8 σ_15 _ _ hr_216) ⟨(Nat.le_of_ble_eq_true rfl), (Nat.le_of_ble_eq_true rfl)⟩ rfl (Nat.le_of_ble_eq_true rfl) ⟨(Nat.le_of_ble_eq_true rfl), (Nat.le_of_ble_eq_true rfl)⟩ dL_law_359 (fun H locs hI hS => ?_)
        refine lv_iconst (v := (-1)) hx hb dL_law_362 (by decide) ?_
        refine lv_icmp_ne (tgt := 414) hx hb dL_law_363 (by decide) (fun c_241 => ?_) (fun c_241 => ?_)
        · have hf := neg_e c_241 hf
          refine lv_iconst (v := 0) hx hb dL_law_414 (by decide) ?_
          cases hf
        · have hf := pos_e c_241 hf
          refine lv_aload_n hx hb dL_law_366 rfl (lv_at hl 1 rfl) ?_
          refine lv_iconst (v := 0) hx hb dL_law_367 (by decide) ?_
          obtain ⟨r_218, σ_219, hr_218, hf⟩ := b2_e hf
          refine kL_71 hx hb hml hts hown hG hI hS hl.1 hL (As := [.int 0]) (c_X7_weave l D cI cS s.heap.size K hL 0 σ_217 _ _ hr_218) ⟨(Nat.le_of_ble_eq_true rfl), (Nat.le_of_ble_eq_true rfl)⟩ rfl (Nat.le_of_ble_eq_true rfl) ⟨(Nat.le_of_ble_eq_true rfl), (Nat.le_of_ble_eq_true rfl)⟩ dL_law_368 (fun H locs hI hS => ?_)
          refine lv_iconst (v := (-1)) hx hb dL_law_371 (by decide) ?_
          refine lv_icmp_ne (tgt := 414) hx hb dL_law_372 (by decide) (fun c_240 => ?_) (fun c_240 => ?_)
          · have hf := neg_e c_240 hf
            refine lv_iconst (v := 0) hx hb dL_law_414 (by decide) ?_
            cases hf
          · have hf := pos_e c_240 hf
            refine lv_aload_n hx hb dL_law_375 rfl (lv_at hl 1 rfl) ?_
            refine lv_bipush (v := 65) hx hb dL_law_376 (by decide) ?_
            obtain ⟨r_220, σ_221, hr_220, hf⟩ := b2_e hf
            refine kL_62 hx hb hml hts hown hG hI hS hl.1 hL (As := [.int 65]) (c_X7_takeOut l D cI cS s.heap.size K hL 65 σ_219 _ _ hr_220) ⟨(Nat.le_of_ble_eq_true rfl), (Nat.le_of_ble_eq_true rfl)⟩ rfl (Nat.le_of_ble_eq_true rfl) ⟨(Nat.le_of_ble_eq_true rfl), (Nat.le_of_ble_eq_true rfl)⟩ dL_law_378 (fun H locs hI hS => ?_)
            refine lv_iconst (v := (-1)) hx hb dL_law_381 (by decide) ?_
            refine lv_icmp_ne (tgt := 414) hx hb dL_law_382 (by decide) (fun c_239 => ?_) (fun c_239 => ?_)
            · have hf := neg_e c_239 hf
              refine lv_iconst (v := 0) hx hb dL_law_414 (by decide) ?_
              cases hf
            · have hf := pos_e c_239 hf
              refine lv_aload_n hx hb dL_law_385 rfl (lv_at hl 1 rfl) ?_
              refine lv_bipush (v := 24) hx hb dL_law_386 (by decide) ?_
              refine lv_iconst (v := 0) hx hb dL_law_388 (by decide) ?_
              obtain ⟨r_222, hr_222, hf⟩ := bi_e hf
              refine kL_22 hx hb hml hts hown hG hI hS hl.1 hL (As := [.int 24, .int 0]) (c_X7_bar l D cI cS s.heap.size K hL 24 0 σ_221 _ hr_222) ⟨(Nat.le_of_ble_eq_true rfl), (Nat.le_of_ble_eq_true rfl)⟩ rfl (Nat.le_of_ble_eq_true rfl) ⟨(Nat.le_of_ble_eq_true rfl), (Nat.le_of_ble_eq_true rfl)⟩ dL_law_389 (fun H locs hI hS => ?_)
              refine lv_iconst (v := (-1)) hx hb dL_law_392 (by decide) ?_
              refine lv_icmp_ne (tgt := 414) hx hb dL_law_393 (by decide) (fun c_238 => ?_) (fun c_238 => ?_)
              · have hf := neg_e c_238 hf
                refine lv_iconst (v := 0) hx hb dL_law_414 (by decide) ?_
                cases hf
              · have hf := pos_e c_238 hf
                refine lv_aload_n hx hb dL_law_396 rfl (lv_at hl 1 rfl) ?_
                refine lv_iconst (v := 2) hx hb dL_law_397 (by decide) ?_
                obtain ⟨r_223, σ_224, hr_223, hf⟩ := b2_e hf
                refine kL_53 hx hb hml hts hown hG hI hS hl.1 hL (As := [.int 2]) (c_X7_setDirection l D cI cS s.heap.size K hL 2 σ_221 _ _ hr_223) ⟨(Nat.le_of_ble_eq_true rfl), (Nat.le_of_ble_eq_true rfl)⟩ rfl (Nat.le_of_ble_eq_true rfl) ⟨(Nat.le_of_ble_eq_true rfl), (Nat.le_of_ble_eq_true rfl)⟩ dL_law_398 (fun H locs hI hS => ?_)
                refine lv_iconst (v := (-1)) hx hb dL_law_401 (by decide) ?_
                refine lv_icmp_ne (tgt := 414) hx hb dL_law_402 (by decide) (fun c_237 => ?_) (fun c_237 => ?_)
                · have hf := neg_e c_237 hf
                  refine lv_iconst (v := 0) hx hb dL_law_414 (by decide) ?_
                  cases hf
                · have hf := pos_e c_237 hf
                  refine lv_aload_n hx hb dL_law_405 rfl (lv_at hl 1 rfl) ?_
                  obtain ⟨q_225, hq_225, hf⟩ := bi_e hf
                  refine kL_88 hx hb hml hts hown hG hI hS hl.1 (As := [.ref (s.heap.size + 0)]) (c_L_digest l D cI cS s.heap.size K hL σ_224 _ hq_225) ⟨(Nat.le_of_ble_eq_true rfl), (Nat.le_of_ble_eq_true rfl)⟩ rfl (Nat.le_of_ble_eq_true rfl) ⟨(Nat.le_of_ble_eq_true rfl), (Nat.le_of_ble_eq_true rfl)⟩ dL_law_406 (fun H locs hI hS => ?_)
                  refine lv_lload_n hx hb dL_law_409 rfl (lv_at hl 0 rfl) ?_
                  refine W.lcmp hx hb dL_law_410 ?_
                  refine lv_if_eq (tgt := 416) hx hb dL_law_411 (by decide) (fun c_236 => ?_) (fun c_236 => ?_)
                  · have hf := pos_e c_236 hf
                    refine lv_aload_n hx hb dL_law_416 rfl (lv_at hl 1 rfl) ?_
                    obtain ⟨r_226, σ_227, hr_226, hf⟩ := b2_e hf
                    refine kL_106 hx hb hml hts hown hG hI hS hl.1 hL (As := []) (c_X7_load l D cI cS s.heap.size K hL σ_224 _ _ hr_226) ⟨(Nat.le_of_ble_eq_true rfl), (Nat.le_of_ble_eq_true rfl)⟩ rfl (Nat.le_of_ble_eq_true rfl) ⟨(Nat.le_of_ble_eq_true rfl), (Nat.le_of_ble_eq_true rfl)⟩ dL_law_417 (fun H locs hI hS => ?_)
                    refine lv_bipush (v := (-10)) hx hb dL_law_420 (by decide) ?_
                    refine lv_icmp_ne (tgt := 457) hx hb dL_law_422 (by decide) (fun c_235 => ?_) (fun c_235 => ?_)
                    · have hf := neg_e c_235 hf
                      refine lv_iconst (v := 0) hx hb dL_law_457 (by decide) ?_
                      cases hf
                    · have hf := pos_e c_235 hf
                      refine lv_aload_n hx hb dL_law_425 rfl (lv_at hl 1 rfl) ?_
                      obtain ⟨q_228, hq_228, hf⟩ := bi_e hf
                      refine kL_88 hx hb hml hts hown hG hI hS hl.1 (As := [.ref (s.heap.size + 0)]) (c_L_digest l D cI cS s.heap.size K hL σ_227 _ hq_228) ⟨(Nat.le_of_ble_eq_true rfl), (Nat.le_of_ble_eq_true rfl)⟩ rfl (Nat.le_of_ble_eq_true rfl) ⟨(Nat.le_of_ble_eq_true rfl), (Nat.le_of_ble_eq_true rfl)⟩ dL_law_426 (fun H locs hI hS => ?_)
                      refine lv_lload_n hx hb dL_law_429 rfl (lv_at hl 0 rfl) ?_
                      refine W.lcmp hx hb dL_law_430 ?_
                      refine lv_if_ne (tgt := 457) hx hb dL_law_431 (by decide) (fun c_234 => ?_) (fun c_234 => ?_)
                      · have hf := neg_e c_234 hf
                        refine lv_iconst (v := 0) hx hb dL_law_457 (by decide) ?_
                        cases hf
                      · have hf := pos_e c_234 hf
                        refine lv_aload_n hx hb dL_law_434 rfl (lv_at hl 1 rfl) ?_
                        refine lv_bipush (v := 10) hx hb dL_law_435 (by decide) ?_
                        obtain ⟨r_229, hr_229, hf⟩ := bi_e hf
                        refine kL_12 hx hb hml hts hown hG hI hS hl.1 hL (As := [.int 10]) (c_X7_count l D cI cS s.heap.size K hL 10 σ_227 _ hr_229) ⟨(Nat.le_of_ble_eq_true rfl), (Nat.le_of_ble_eq_true rfl)⟩ rfl (Nat.le_of_ble_eq_true rfl) ⟨(Nat.le_of_ble_eq_true rfl), (Nat.le_of_ble_eq_true rfl)⟩ dL_law_437 (fun H locs hI hS => ?_)
                        refine lv_iconst (v := (-1)) hx hb dL_law_440 (by decide) ?_
                        refine lv_icmp_ne (tgt := 457) hx hb dL_law_441 (by decide) (fun c_233 => ?_) (fun c_233 => ?_)
                        · have hf := neg_e c_233 hf
                          refine lv_iconst (v := 0) hx hb dL_law_457 (by decide) ?_
                          cases hf
                        · have hf := pos_e c_233 hf
                          refine lv_aload_n hx hb dL_law_444 rfl (lv_at hl 1 rfl) ?_
                          refine lv_iconst (v := 0) hx hb dL_law_445 (by decide) ?_
                          obtain ⟨r_230, σ_231, hr_230, hf⟩ := b2_e hf
                          refine kL_109 hx hb hml hts hown hG hI hS hl.1 hL (As := [.int 0]) (c_X7_append l D cI cS s.heap.size K hL 0 σ_227 _ _ hr_230) ⟨(Nat.le_of_ble_eq_true rfl), (Nat.le_of_ble_eq_true rfl)⟩ rfl (Nat.le_of_ble_eq_true rfl) ⟨(Nat.le_of_ble_eq_true rfl), (Nat.le_of_ble_eq_true rfl)⟩ dL_law_446 (fun H locs hI hS => ?_)
                          refine lv_iconst (v := (-1)) hx hb dL_law_449 (by decide) ?_
                          refine lv_icmp_ne (tgt := 457) hx hb dL_law_450 (by decide) (fun c_232 => ?_) (fun c_232 => ?_)
                          · have hf := neg_e c_232 hf
                            refine lv_iconst (v := 0) hx hb dL_law_457 (by decide) ?_
                            cases hf
                          · have hf := pos_e c_232 hf
                            refine lv_iconst (v := 1) hx hb dL_law_453 (by decide) ?_
                            refine lv_goto (tgt := 458) hx hb dL_law_454 (by decide) ?_
                            refine va_forget (fun q hq => hS.2.2 q hq) ?_
                            exact lw_ret hx hb hr hlocks dL_law_458
                  · have hf := neg_e c_236 hf
                    refine lv_iconst (v := 0) hx hb dL_law_414 (by decide) ?_
                    cases hf
      · have hf := neg_e c_242 hf
        refine lv_iconst (v := 0) hx hb dL_law_68 (by decide) ?_
        cases hf
