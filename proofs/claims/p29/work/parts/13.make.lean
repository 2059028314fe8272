/-! part 13: objects being made: the memory grows at its end -/
def zx (σ : Nat → Nat → Int32) (n : Nat) : Nat → Nat → Int32 := fun a => if a < n then σ a else fun _ => 0
theorem zx_zx {σ : Nat → Nat → Int32} {o n : Nat} (h : o ≤ n) : zx (zx σ o) n = zx σ o := by
  funext a
  unfold zx
  by_cases h1 : a < n
  · rw [if_pos h1]
  · rw [if_neg h1, if_neg (by omega)]
def fN (D : va_G) (cI cS : ClassId) (Z n : Nat) (K : Nat → Nat) (σ : Nat → Nat → Int32) (H : Heap) : Prop := H.size = Z + n ∧ (∀ a, n ≤ a → K a = 99) ∧ fI D cI cS Z K σ H
/-- what is made from o on has the kinds of A -/
def bN (D : va_G) (cI cS : ClassId) (Z o : Nat) (K0 : Nat → Nat) (A : List Nat) (σ : Nat → Nat → Int32) (H : Heap) : Prop := ∃ K, fN D cI cS Z (o + A.length) K σ H ∧ ly K o A ∧ ∀ a, a < o → K a = K0 a
theorem ly_app {K : Nat → Nat} {o : Nat} {A B : List Nat} (h1 : ly K o A) (h2 : ly K (o + A.length) B) : ly K o (A ++ B) := by
  intro i k hi
  by_cases h : i < A.length
  · rw [List.getElem?_append_left h] at hi; exact h1 i k hi
  · rw [List.getElem?_append_right (by omega)] at hi
    have := h2 _ _ hi
    rw [← this]; congr 1; omega
theorem ly_cong {K K1 : Nat → Nat} {o : Nat} {A : List Nat} (h : ly K o A) (e : ∀ a, a < o + A.length → K1 a = K a) : ly K1 o A := by
  intro i k hi
  have hl : i < A.length := (List.getElem?_eq_some_iff.mp hi).1
  rw [e _ (by omega)]
  exact h i k hi
/-- a new cell at the end -/
theorem fN.push {D : va_G} {cI cS : ClassId} {Z n kd : Nat} {K : Nat → Nat} {σ : Nat → Nat → Int32} {H H1 : Heap} (h : fN D cI cS Z n K σ H) (z : H1.size = H.size + 1) (oq : ∀ q, q < H.size → H1[q]? = H[q]?) (h1 : va_at D vwCl (Z + n, fE cI cS Z kd n (fun _ => 0)) H1) : fN D cI cS Z (n + 1) (va_up K n kd) (zx σ n) H1 := by
  obtain ⟨e1, e2, e3⟩ := h
  refine ⟨by omega, fun a ha => ?_, fun a ha => ?_⟩
  · rw [show va_up K n kd a = K a from if_neg (by omega)]; exact e2 a (by omega)
  · by_cases e : a = n
    · subst e
      rw [show va_up K a kd a = kd from if_pos rfl, show zx σ a a = fun _ => 0 from if_neg (by omega)]
      exact h1
    · rw [show va_up K n kd a = K a from if_neg e] at ha ⊢
      have hl : a < n := by
        rcases Nat.lt_or_ge a n with q | q
        · exact q
        · exact absurd (e2 a q) ha
      rw [show zx σ n a = σ a from if_pos hl]
      exact (e3 a ha).kept (oq _ (by show Z + a < H.size; omega))
theorem bN.push {D : va_G} {cI cS : ClassId} {Z o kd : Nat} {K0 : Nat → Nat} {A : List Nat} {σ : Nat → Nat → Int32} {H H1 : Heap} (h : bN D cI cS Z o K0 A σ H) (z : H1.size = H.size + 1) (oq : ∀ q, q < H.size → H1[q]? = H[q]?) (h1 : va_at D vwCl (Z + (o + A.length), fE cI cS Z kd (o + A.length) (fun _ => 0)) H1) : bN D cI cS Z o K0 (A ++ [kd]) (zx σ (o + A.length)) H1 := by
  obtain ⟨K, e1, e2, e3⟩ := h
  have hl : (A ++ [kd]).length = A.length + 1 := by simp
  refine ⟨va_up K (o + A.length) kd, by rw [hl, ← Nat.add_assoc]; exact e1.push z oq h1, ly_app (ly_cong e2 (fun a ha => if_neg (by omega))) ?_, fun a ha => ?_⟩
  · intro i k hi
    match i, hi with
    | 0, hi => cases hi; exact if_pos rfl
    | i + 1, hi => simp at hi
  · rw [show va_up K (o + A.length) kd a = K a from if_neg (by omega)]
    exact e3 a ha
/-- a cell's kind changed -/
theorem bN.kind {D : va_G} {cI cS : ClassId} {Z o i k2 : Nat} {K0 : Nat → Nat} {A A' : List Nat} {σ : Nat → Nat → Int32} {H H1 : Heap} (h : bN D cI cS Z o K0 A σ H) (hi : i < A.length) (hA : A.set i k2 = A') (z : H1.size = H.size) (oq : ∀ q, q ≠ Z + (o + i) → H1[q]? = H[q]?) (h1 : va_at D vwCl (Z + (o + i), fE cI cS Z k2 (o + i) (σ (o + i))) H1) : bN D cI cS Z o K0 A' σ H1 := by
  subst hA
  obtain ⟨K, ⟨e1, e2, e4⟩, e5, e3⟩ := h
  refine ⟨va_up K (o + i) k2, ⟨by rw [List.length_set]; omega, fun a ha => ?_, fun a ha => ?_⟩, fun j k hj => ?_, fun a ha => ?_⟩
  · rw [List.length_set] at ha
    rw [show va_up K (o + i) k2 a = K a from if_neg (by omega)]; exact e2 a ha
  · by_cases e : a = o + i
    · subst e
      rw [show va_up K (o + i) k2 (o + i) = k2 from if_pos rfl]
      exact h1
    · rw [show va_up K (o + i) k2 a = K a from if_neg e] at ha ⊢
      exact (e4 a ha).kept (oq _ (by show Z + a ≠ _; omega))
  · by_cases e : j = i
    · subst e
      rw [List.getElem?_set_self hi] at hj
      cases hj
      exact if_pos rfl
    · rw [List.getElem?_set_ne (Ne.symm e)] at hj
      rw [show va_up K (o + i) k2 (o + j) = K (o + j) from if_neg (by omega)]
      exact e5 j k hj
  · rw [show va_up K (o + i) k2 a = K a from if_neg (by omega)]
    exact e3 a ha
/-- behind a constructor's call -/
theorem bN.join {D : va_G} {cI cS : ClassId} {Z o n kd : Nat} {K0 K : Nat → Nat} {A L B : List Nat} {σ σ1 : Nat → Nat → Int32} {H H1 : Heap} (h : fN D cI cS Z (o + A.length + 1) K σ H ∧ ly K o (A ++ [kd]) ∧ ∀ a, a < o → K a = K0 a) (hn : o + A.length = n) (h2 : bN D cI cS Z n K L σ1 H1) (hB : A ++ L = B) : bN D cI cS Z o K0 B σ1 H1 := by
  subst hB; subst hn
  obtain ⟨e1, e2, e3⟩ := h
  obtain ⟨K2, f1, f2, f3⟩ := h2
  refine ⟨K2, by rw [List.length_append, ← Nat.add_assoc]; exact f1, ly_app ?_ f2, fun a ha => (f3 a (by omega)).trans (e3 a ha)⟩
  intro i k hi
  have hl : i < A.length := (List.getElem?_eq_some_iff.mp hi).1
  rw [f3 _ (by omega)]
  exact e2 i k (by rw [List.getElem?_append_left hl]; exact hi)
def PN (D : va_G) (cI cS : ClassId) (Z o : Nat) (K0 : Nat → Nat) (kd : Nat) (av : List Value) (σ : Nat → Nat → Int32) : Array Value → State → Prop := va_Pc av (fun U => bN D cI cS Z o K0 [kd] σ U.heap ∧ gK D cI cS U)
theorem PN.blind {D : va_G} {cI cS : ClassId} {Z o kd : Nat} {K : Nat → Nat} {av : List Value} {σ : Nat → Nat → Int32} : FrameBlind (PN D cI cS Z o K kd av σ) := fun a U g mk q => ⟨q.1, q.2.1, q.2.2.call⟩
def QN (D : va_G) (cI cS : ClassId) (Z o : Nat) (K0 : Nat → Nat) (L : List Nat) (post : (Nat → Nat → Int32) → Prop) : Array Value → State → Outcome → State → Prop := va_Qv post (fun σ t => bN D cI cS Z o K0 L σ t.heap) (aZ Z)
section MK
variable {p : Program} {l : Launch} {e : Env} {R : Room} {s : State} {m : MethodId} {args : Array Value} {below : List Frame} {meth : Method} {c : Code} {H H0 : Heap} {locs : List Loc} {cells slots : Nat} {Q : State → Prop}
variable {cc : ByteArray} {pc : Nat} {ls : Array Slot} {rest : List Value} {D : va_G} {cI cS : ClassId} {Z : Nat} {K0 : Nat → Nat} {σ : Nat → Nat → Int32} {o : Nat} {A A' : List Nat}
theorem mm_metN {y : MethodName} {mL : Nat} {rm : Room} {kd mc ms : Nat} {Qc : Array Value → State → Outcome → State → Prop} {av : List Value} {lv : List (Nat × Value)} (hy : plainName y.cls = true) (hav : (lg_sl av).length ≤ mL) (hlv : lv_args 0 av = lv)
    (body : ∀ (p : Program) (e : Env) (s : State) (m : MethodId) (args : Array Value) (below : List Frame) (meth : Method) (c : Code) (ls : Array Slot), p.tables.exec = Jvm.exec → c.code = cc → meth.sig.returnType = none → c.maxLocals = mL → (∀ w ∈ wsL_law, w.before args s = true) → s.vm.findClass y.cls = some m.cls → meth.locks = false → meth.name = y.name → gK D cI cS s → lv_has ls mL lv → bN D cI cS Z o K0 [kd] σ s.heap → va_S (aZ Z) s.heap s.heap [] →
      W p l e rm s m args below meth c s.heap [] 0 0 (MQ below Qc args s mc ms (aZ Z)) (F0 m 0 ls [])) : Met l y (wsT y cc mL none) rm (PN D cI cS Z o K0 kd av σ) Qc mc ms (aZ Z) := by
  refine Met.ofW (cc := cc) (maxL := mL) (ret := none) hy rfl ?_
  intro p e s m args below meth c s₁ B hml hv
  obtain ⟨rfl, hI, hG⟩ := hv
  have hts0 := atoms_spec (ws := wsT y cc mL none) B.pre
  have hts : ∀ w ∈ wsL_law, w.before av.toArray s = true := fun w hw => hts0 w (List.mem_cons_of_mem _ hw)
  have hown : s.vm.findClass y.cls = some m.cls := findClass_of_methodNamed B.named
  have hl := lv_entry av hav
  rw [lg_entry_eq]
  generalize (lg_sl av ++ List.replicate (mL - (lg_sl av).length) Slot.unset).toArray = ls at hl ⊢
  rw [hlv] at hl
  exact body p e s m _ below meth c ls B.exec B.bytes B.returns hml hts hown B.notSynchronized (name_of_methodNamed B.named B.method).1 hG hl hI va_S.rf
theorem gK.arrI (hG : gK D cI cS s) {cA : ClassId} (h : s.vm.findClass ("[" ++ (FieldType.int).toString) = some cA) : cA = cI := Option.some.inj (h.symm.trans (hG.1.2 0 _ rfl).2)
theorem bN.szA (h : bN D cI cS Z o K0 A σ H) : H.size = Z + (o + A.length) := h.choose_spec.1.1
theorem va_S.grow (hS : va_S (aZ Z) H0 H locs) {H1 : Heap} (z : H1.size = H.size + 1) (oq : ∀ q, q < H.size → H1[q]? = H[q]?) : va_S (aZ Z) H0 H1 locs := ⟨Nat.le_trans hS.1 (by omega), fun q h1 h2 => (oq q (Nat.lt_of_lt_of_le h1 hS.1)).trans (hS.2.1 q h1 h2), hS.2.2⟩
/-- new -/
theorem mm_new (hx : p.tables.exec = Jvm.exec) (hb : c.code = cc) (hts : ∀ w ∈ wsL_law, w.before args s = true) {own C : String} {T : u_T} {N ci index kd : Nat} (hown : s.vm.findClass own = some m.cls) (hG : gK D cI cS s) (hN : bN D cI cS Z o K0 A σ H) (hS : va_S (aZ Z) H0 H locs) (hin : ∀ w ∈ u_ws C T N, w ∈ wsL_law) (ty : Nat → FieldType) (hty : ∀ k, k < N → parseFieldDescriptor (T k).2.2.1 = some (ty k)) (hcl : Cond.classLink own index C ∈ wsL_law) (hinst : Cond.instantiable C N ∈ wsL_law) (hini : Cond.initialized C ∈ wsL_law) (hc : vwCl[ci]? = some (C, T, N)) (n : Nat) (hn : o + A.length = n) {fs : List Value} (hkd : fE cI cS Z kd n (fun _ => 0) = .inr (ci, fs)) (hfs : ∀ j, j < N → defaultValue (ty j) = vp_V fs j) (hcells : cells + 1 ≤ R.cells) (hslots : slots + N ≤ R.slots) (hdg : decode cc pc = .ok (.new index, 3))
    (kk : ∀ (H1 : Heap), bN D cI cS Z o K0 (A ++ [kd]) (zx σ n) H1 → va_S (aZ Z) H0 H1 locs → W p l e R s m args below meth c H1 locs (cells + 1) (slots + N) Q (F0 m (pc + 3) ls (.ref (Z + n) :: rest))) : W p l e R s m args below meth c H locs cells slots Q (F0 m pc ls rest) := by
  subst hn
  have hKn := hG.1.1 ci _ hc
  refine W.newcK hx hb hown (hts _ hcl) (hts _ hinst) (hts _ hini) rfl hdg hcells hslots hKn.2.1 (show H.size = Z + (o + A.length) from hN.szA) fun H1 kC hkC e1 z1 o1 => ?_
  have hsz := hN.szA
  refine kk H1 (hN.push (by omega) (fun q hq => o1 q (by omega)) ?_) (hS.grow (by omega) (fun q hq => o1 q (by omega)))
  rw [hkd]
  exact ⟨_, hc, (u_born ty hts hin hKn hkC e1 hty).to hfs⟩
theorem mm_newa (hx : p.tables.exec = Jvm.exec) (hb : c.code = cc) (hts : ∀ w ∈ wsL_law, w.before args s = true) (hG : gK D cI cS s) (hN : bN D cI cS Z o K0 A σ H) (hS : va_S (aZ Z) H0 H locs) (harr : Cond.arrayClass .int ∈ wsL_law) (n : Nat) (hn : o + A.length = n) {x : Int32} {N : Nat} (hx0 : ¬ x < 0) (hxN : x.toNatClampNeg = N) (hbytes : N * 4 ≤ 536870912) (hcells : cells + 1 ≤ R.cells) (hslots : slots + N ≤ R.slots) (hdg : decode cc pc = .ok (.newarray .int, 2))
    (kk : ∀ (H1 : Heap), bN D cI cS Z o K0 (A ++ [100 + N]) (zx σ n) H1 → va_S (aZ Z) H0 H1 locs → W p l e R s m args below meth c H1 locs (cells + 1) (slots + N) Q (F0 m (pc + 2) ls (.ref (Z + n) :: rest))) : W p l e R s m args below meth c H locs cells slots Q (F0 m pc ls (.int x :: rest)) := by
  subst hn
  have hsz := hN.szA
  refine va_newaK (atype := .int) hx hb (hts _ harr) rfl hdg rfl hx0 hxN hbytes hcells hslots hsz fun H1 cA e1 z1 o1 hAr hNm => ?_
  have hcA := hG.arrI hNm
  subst hcA
  refine kk H1 (hN.push (by omega) (fun q hq => o1 q (by omega)) ?_) (hS.grow (by omega) (fun q hq => o1 q (by omega)))
  rw [fE_a]
  exact e1
/-- a final field of the object that is being made -/
theorem mm_putF (hx : p.tables.exec = Jvm.exec) (hb : c.code = cc) (hts : ∀ w ∈ wsL_law, w.before args s = true) {own C : String} {T : u_T} {N ci index i k1 k2 : Nat} {fs : List Value} {v : Nat} (hown : s.vm.findClass own = some m.cls) (hG : gK D cI cS s) (hN : bN D cI cS Z o K0 A σ H) (hS : va_S (aZ Z) H0 H locs) (hin : ∀ w ∈ u_ws C T N, w ∈ wsL_law) (ty0 : Nat → FieldType) (hty : ∀ k, k < N → parseFieldDescriptor (T k).2.2.1 = some (ty0 k)) (hnm : ∀ a, a < N → ∀ b, b < N → a ≠ b → (T a).2.1 ≠ (T b).2.1) (hc : vwCl[ci]? = some (C, T, N)) (hi : A[i]? = some k1) (hA : A.set i k2 = A') (h9 : k1 ≠ 99) (k : Nat) (hkN : k < N) (hfs : fE cI cS Z k1 (o + i) (σ (o + i)) = .inr (ci, fs)) (hfs' : fE cI cS Z k2 (o + i) (σ (o + i)) = .inr (ci, fs.set k (.ref v))) (hl : k < fs.length) (hlink : Cond.fieldLink own index (T k).1 (T k).2.1 (T k).2.2.1 ∈ wsL_law) (hfin : (T k).2.2.2 = true) (hin2 : meth.name = "<init>") (hdecl : (T k).1 = own) {ty : FieldType} (hd : parseFieldDescriptor (T k).2.2.1 = some ty) (hnar : narrow ty (.ref v) = .ref v) (hfit : fits ty (.ref v) = true) (hdg : decode cc pc = .ok (.putfield index, 3))
    (kk : ∀ (H1 : Heap) (locs1 : List Loc), bN D cI cS Z o K0 A' σ H1 → va_S (aZ Z) H0 H1 locs1 → W p l e R s m args below meth c H1 locs1 cells slots Q (F0 m (pc + 3) ls rest)) : W p l e R s m args below meth c H locs cells slots Q (F0 m pc ls (.ref v :: .ref (Z + (o + i)) :: rest)) := by
  have hP : va_P D vwCl [(Z + (o + i), .inr (ci, fs))] H := by
    obtain ⟨K, ⟨f1, f2, f3⟩, f4, f5⟩ := hN
    exact f3.one (f4 i k1 hi) h9 hfs
  have he : [((Z + (o + i) : Nat), (Sum.inr (ci, fs) : va_E))][0]? = some (Z + (o + i), .inr (ci, fs)) := rfl
  have hap := va_apart (own := own) hts hin ty0 hty hnm hG.1 hc
  obtain ⟨r, h1, cell, q1, q2, q3, q4⟩ := hP 0 _ he
  have hr : r = (C, T, N) := Option.some.inj (h1.symm.trans hc)
  subst hr
  obtain ⟨hSl, hfc, kC, hkC, hkind⟩ := hG.1.1 ci _ hc
  obtain ⟨cf, kf, fi, f, hif, hsl⟩ := hSl k hkN
  have hlay := hts _ (hin _ (u_in_lay hkN))
  unfold u_lay at hlay
  rw [if_pos hfin] at hlay
  have hst := (u_facts hfc hkC (u_lays hts hin hkN) hif).1
  have hcf : m.cls = cf := by
    obtain ⟨_, _, c', _, _, _, -, -, hf', -, -, -, hown2, -⟩ := Cond.laysFinal_spec hlay
    have e1 : c' = cf := by have := hif.symm.trans hf'; simp at this; exact this.1.symm
    rw [hdecl] at hown2
    rw [← e1]; exact Option.some.inj (hown.symm.trans hown2)
  have h6 := u_fits hfc hkC hkind (Or.inr hlay) hif hd hnar hfit
  refine W.putFinK hx hb hown (hts _ hlink) hif hst hcf hin2 (by rw [q2]; exact h6) q1 q3 (by rw [hsl]; exact k2_hasslot (q4 k hkN)) rfl rfl hdg fun H' e1 e2 e3 => ?_
  rw [hsl] at e1 ⊢
  refine kk H' _ (hN.kind (List.getElem?_eq_some_iff.mp hi).1 hA e2 e3 ?_) (hS.put e2 e3 (Nat.le_add_right Z _))
  rw [hfs']
  exact ⟨_, hc, t_OB.to (V := updV (vp_V fs) k (.ref v)) ⟨_, e1, q2, q3, t_set q4 hap hkN _⟩ (fun j _ => vp_updV_set hl _ j)⟩
variable {y : MethodName} {bytes : ByteArray} {mL nL n index kd : Nat} {rm : Room} {own : String} {As st : List Value} {mc ms : Nat}
/-- calls of constructors -/
theorem mm_runI {Qc : Array Value → State → Outcome → State → Prop} {K : Nat → Nat} (hx : p.tables.exec = Jvm.exec) (hb : c.code = cc) (hml : c.maxLocals = nL) (hts : ∀ w ∈ wsL_law, w.before args s = true) (hown : s.vm.findClass own = some m.cls) (hG : gK D cI cS s) (hI : bN D cI cS Z o K [kd] σ H)
    (hsz : ls.size = nL) (hM : Met l y (wsT y bytes mL none) rm (PN D cI cS Z o K kd (.ref (Z + o) :: As) σ) Qc mc ms (aZ Z)) (hw1 : Cond.methodLink own index y ∈ wsL_law) (hw2 : Cond.instanceMethod y ∈ wsL_law) (hw4 : Cond.initialized y.cls ∈ wsL_law) (hw5 : Cond.code y bytes mL none ∈ wsL_law) (hy : y.name = "<init>") (hd : y.cls ≠ "java/lang/invoke/MethodHandle" ∧ y.cls ≠ "java/lang/invoke/VarHandle" ∧ (parseMethodDescriptor y.desc).map (fun d => d.parameters.length) = some n) (hR : rm.frames + 1 ≤ R.frames ∧ 8 + (mL + 11) + rm.locals ≤ R.locals) (hrc : rm.cells = mc) (hrs : rm.slots = ms) (hn : As.length = n) (hst : st = As.reverse ++ .ref (Z + o) :: rest) (hcat : (rest.map fun v => v.category).sum ≤ 8) (hf : cells + mc ≤ R.cells ∧ slots + ms ≤ R.slots) (hdg : decode cc pc = .ok (.invokespecial index, 3)) :
    va_Run p l e R s m args below meth c H locs cells slots mc ms (F0 m pc ls st) rest (Qc (Value.ref (Z + o) :: As).toArray) (aZ Z) :=
  va_runI (As := As) (rest := rest) ⟨hx, hb, hml, hown, hts⟩ hM (cwI n hts (goodIn_T (in_wsT hw5)) rfl hrc hrs (hts _ hw4) (hts _ hw1) (hts _ hw2) hy hd hR) ⟨PN.blind, fun U hU hW => ⟨rfl, by rw [hU]; exact hI, hG.warm hW⟩⟩ rfl hn hsz hst (lv_room (rest := st) hcat) hdg hf
theorem mm_runIN {Qc : Array Value → State → Outcome → State → Prop} {host : String} {K : Nat → Nat} (hx : p.tables.exec = Jvm.exec) (hb : c.code = cc) (hml : c.maxLocals = nL) (hts : ∀ w ∈ wsL_law, w.before args s = true) (hown : s.vm.findClass own = some m.cls) (hG : gK D cI cS s) (hI : bN D cI cS Z o K [kd] σ H)
    (hsz : ls.size = nL) (hM : Met l y (wsT y bytes mL none) rm (PN D cI cS Z o K kd (.ref (Z + o) :: As) σ) Qc mc ms (aZ Z)) (hw1 : (own, index, y, host) ∈ nsL) (hw2 : Cond.instanceMethod y ∈ wsL_law) (hw4 : Cond.initialized y.cls ∈ wsL_law) (hw5 : Cond.code y bytes mL none ∈ wsL_law) (hy : y.name = "<init>") (hd : y.cls ≠ "java/lang/invoke/MethodHandle" ∧ y.cls ≠ "java/lang/invoke/VarHandle" ∧ (parseMethodDescriptor y.desc).map (fun d => d.parameters.length) = some n) (hR : rm.frames + 1 ≤ R.frames ∧ 8 + (mL + 11) + rm.locals ≤ R.locals) (hrc : rm.cells = mc) (hrs : rm.slots = ms) (hn : As.length = n) (hst : st = As.reverse ++ .ref (Z + o) :: rest) (hcat : (rest.map fun v => v.category).sum ≤ 8) (hf : cells + mc ≤ R.cells ∧ slots + ms ≤ R.slots) (hdg : decode cc pc = .ok (.invokespecial index, 3)) :
    va_Run p l e R s m args below meth c H locs cells slots mc ms (F0 m pc ls st) rest (Qc (Value.ref (Z + o) :: As).toArray) (aZ Z) :=
  va_runIN (As := As) (rest := rest) (host := host) ⟨hx, hb, hml, hown, hts⟩ hM ⟨va_cnB n hts (goodIn_T (in_wsT hw5)) rfl hrc hrs (hG.2.1 _ hw1) (hts _ hw4) hd hR, hy, hts _ hw2⟩ ⟨PN.blind, fun U hU hW => ⟨rfl, by rw [hU]; exact hI, hG.warm hW⟩⟩ rfl hn hsz hst (lv_room (rest := st) hcat) hdg hf
/-- behind a constructor's call, in a constructor: K is what stands -/
theorem mm_bN {K : Nat → Nat} {L : List Nat} {post : (Nat → Nat → Int32) → Prop} {a : Array Value} (hS : va_S (aZ Z) H0 H locs) (hr : va_Run p l e R s m args below meth c H locs cells slots mc ms (F0 m pc ls st) rest (QN D cI cS Z o K L post a) (aZ Z))
    (kk : ∀ (σ1 : Nat → Nat → Int32) (H1 : Heap) (locs1 : List Loc), post σ1 → bN D cI cS Z o K L σ1 H1 → va_S (aZ Z) H0 H1 locs1 → W p l e R s m args below meth c H1 locs1 (cells + mc) (slots + ms) Q (F0 m (pc + 3) ls rest)) : W p l e R s m args below meth c H locs cells slots Q (F0 m pc ls st) := by
  refine va_callv hr hS (fun q _ h => h) (fun q h => h) ?_
  intro u t H1 locs1 ht hvm hw hB hz hk hS1
  exact kk u H1 locs1 hw (by rw [← ht]; exact hB) hS1
theorem mm_vretN {L : List Nat} {post : (Nat → Nat → Int32) → Prop} (hx : p.tables.exec = Jvm.exec) (hb : c.code = cc) (hr : meth.sig.returnType = none) (hlocks : meth.locks = false) (hp : post σ) (hI : bN D cI cS Z o K0 L σ H) (hS : va_S (aZ Z) s.heap H locs) (hdg : decode cc pc = .ok (.return_, 1)) : W p l e R s m args below meth c H locs cells slots (MQ below (QN D cI cS Z o K0 L post) args s cells slots (aZ Z)) (F0 m pc ls []) :=
  W.vret hx hb hr (fun t ht hW => ⟨⟨σ, rfl, hp, by show bN D cI cS Z o K0 L σ t.heap; rw [ht]; exact hI⟩, hS.F ht⟩) hS.2.2 hdg hlocks
/-- how many cells there are at most -/
theorem mm_size {g : JFrame} (k : H.size ≤ s.heap.size + cells → W p l e R s m args below meth c H locs cells slots Q g) : W p l e R s m args below meth c H locs cells slots Q g := fun T hT X => k (by rw [← hT]; exact X.heapSize) T hT X
end MK
