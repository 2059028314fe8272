/-! part 02: the flat memory. Everything that the law makes lies in one stretch of cells from Z on; a cell's kind is K of its offset, its numbers are σ offset place. -/
def Sg : Type := Nat → Nat → Int32
/-- a place of the memory written -/
def wr (σ : Nat → Nat → Int32) (o k : Nat) (v : Int32) : Nat → Nat → Int32 := fun a => if a = o then upd (σ o) k v else σ a
theorem wr_eq (σ : Nat → Nat → Int32) (o k : Nat) (v : Int32) : wr σ o k v o = upd (σ o) k v := if_pos rfl
theorem wr_ne {σ : Nat → Nat → Int32} {o k a : Nat} {v : Int32} (h : a ≠ o) : wr σ o k v a = σ a := if_neg h
/-- a row of the memory copied over another's beginning -/
def wc (σ : Nat → Nat → Int32) (o a n : Nat) : Nat → Nat → Int32 := fun b => if b = o then va_cpy (σ a) (σ o) 0 0 n else σ b
/-- an object that is being made, and the ring with its first k - 10 places filled -/
def fR (cS : ClassId) (Z k o : Nat) (g : Nat → Int32) : va_E :=
  if k = 16 then .inr (0, [.int (g 0), .int (g 1), .int (g 2), .null, .null]) else
  if k = 17 then .inr (0, [.int (g 0), .int (g 1), .int (g 2), .ref (Z + (o + 1)), .null]) else
  if k = 18 then .inr (1, [.null, .null, .int (g 2), .int (g 3), .int (g 4), .int (g 5), .int (g 6)]) else
  if k = 19 then .inr (1, [.ref (Z + (o + 1)), .null, .int (g 2), .int (g 3), .int (g 4), .int (g 5), .int (g 6)]) else
  if k = 20 then .inr (2, [.int (g 0), .null, .null, .null, .null, .null, .null]) else
  if k = 21 then .inr (2, [.int (g 0), .ref (Z + (o + 1)), .null, .null, .null, .null, .null]) else
  if k = 22 then .inr (2, [.int (g 0), .ref (Z + (o + 1)), .ref (Z + (o + 3)), .null, .null, .null, .null]) else
  if k = 23 then .inr (2, [.int (g 0), .ref (Z + (o + 1)), .ref (Z + (o + 3)), .ref (Z + (o + 5)), .null, .null, .null]) else
  if k = 24 then .inr (2, [.int (g 0), .ref (Z + (o + 1)), .ref (Z + (o + 3)), .ref (Z + (o + 5)), .ref (Z + (o + 7)), .null, .null]) else
  if k = 25 then .inr (2, [.int (g 0), .ref (Z + (o + 1)), .ref (Z + (o + 3)), .ref (Z + (o + 5)), .ref (Z + (o + 7)), .ref (Z + (o + 9)), .null]) else
  if k = 26 then .inr (3, [.null, .int (g 1), .int (g 2)]) else
  if k = 27 then .inr (4, [.null]) else
  if k = 28 then .inr (5, [.null, .null, .null, .null]) else
  if k = 29 then .inr (5, [.ref (Z + (o + 1)), .null, .null, .null]) else
  if k = 30 then .inr (5, [.ref (Z + (o + 1)), .ref (Z + (o + 8)), .null, .null]) else
  if k = 31 then .inr (5, [.ref (Z + (o + 1)), .ref (Z + (o + 8)), .ref (Z + (o + 13)), .null]) else
  if k = 32 then .inr (6, [.int (g 0), .int (g 1), .null, .null, .null]) else
  if k = 33 then .inr (6, [.int (g 0), .int (g 1), .ref (Z + (o + 1)), .null, .null]) else
  if k = 34 then .inr (6, [.int (g 0), .int (g 1), .ref (Z + (o + 1)), .ref (Z + (o + 3)), .null]) else
  if k = 35 then .inr (7, [.null, .null, .null, .null, .null]) else
  if k = 36 then .inr (7, [.ref (Z + (o + 1)), .null, .null, .null, .null]) else
  if k = 37 then .inr (7, [.ref (Z + (o + 1)), .ref (Z + (o + 29)), .null, .null, .null]) else
  if k = 38 then .inr (7, [.ref (Z + (o + 1)), .ref (Z + (o + 29)), .ref (Z + (o + 171)), .null, .null]) else
  if k = 39 then .inr (7, [.ref (Z + (o + 1)), .ref (Z + (o + 29)), .ref (Z + (o + 171)), .ref (Z + (o + 179)), .null]) else
  if k = 40 then .inr (8, [.int (g 0), .null, .null, .null, .int (g 4), .null, .int (g 6), .null, .null, .int (g 9), .int (g 10), .int (g 11), .int (g 12)]) else
  if k = 41 then .inr (8, [.int (g 0), .ref (Z + (o + 1)), .null, .null, .int (g 4), .null, .int (g 6), .null, .null, .int (g 9), .int (g 10), .int (g 11), .int (g 12)]) else
  if k = 42 then .inr (8, [.int (g 0), .ref (Z + (o + 1)), .ref (Z + (o + 2)), .null, .int (g 4), .null, .int (g 6), .null, .null, .int (g 9), .int (g 10), .int (g 11), .int (g 12)]) else
  if k = 43 then .inr (8, [.int (g 0), .ref (Z + (o + 1)), .ref (Z + (o + 2)), .ref (Z + (o + 3)), .int (g 4), .null, .int (g 6), .null, .null, .int (g 9), .int (g 10), .int (g 11), .int (g 12)]) else
  if k = 44 then .inr (8, [.int (g 0), .ref (Z + (o + 1)), .ref (Z + (o + 2)), .ref (Z + (o + 3)), .int (g 4), .ref (Z + (o + 4)), .int (g 6), .null, .null, .int (g 9), .int (g 10), .int (g 11), .int (g 12)]) else
  if k = 45 then .inr (8, [.int (g 0), .ref (Z + (o + 1)), .ref (Z + (o + 2)), .ref (Z + (o + 3)), .int (g 4), .ref (Z + (o + 4)), .int (g 6), .ref (Z + (o + 5)), .null, .int (g 9), .int (g 10), .int (g 11), .int (g 12)]) else
  .inl (cS, 5, .inr (.inr (.inr (.inr (fun i => if i < k - 10 then some (Z + (o + 1 + 28 * i)) else none)))))
/-- an object's cell by its kind -/
def fO (cS : ClassId) (Z k o : Nat) (g : Nat → Int32) : va_E := match k with
  | 0 => .inr (0, [.int (g 0), .int (g 1), .int (g 2), .ref (Z + (o + 1)), .ref (Z + (o + 3))])
  | 1 => .inr (1, [.ref (Z + (o + 1)), .ref (Z + (o + 3)), .int (g 2), .int (g 3), .int (g 4), .int (g 5), .int (g 6)])
  | 2 => .inr (2, [.int (g 0), .ref (Z + (o + 1)), .ref (Z + (o + 3)), .ref (Z + (o + 5)), .ref (Z + (o + 7)), .ref (Z + (o + 9)), .ref (Z + (o + 11))])
  | 3 => .inr (3, [.ref (Z + (o + 1)), .int (g 1), .int (g 2)])
  | 4 => .inr (4, [.ref (Z + (o + 1))])
  | 5 => .inr (5, [.ref (Z + (o + 1)), .ref (Z + (o + 8)), .ref (Z + (o + 13)), .ref (Z + (o + 15))])
  | 6 => .inr (6, [.int (g 0), .int (g 1), .ref (Z + (o + 1)), .ref (Z + (o + 3)), .ref (Z + (o + 5))])
  | 7 => .inr (7, [.ref (Z + (o + 1)), .ref (Z + (o + 29)), .ref (Z + (o + 171)), .ref (Z + (o + 179)), .ref (Z + (o + 181))])
  | 8 => .inr (8, [.int (g 0), .ref (Z + (o + 1)), .ref (Z + (o + 2)), .ref (Z + (o + 3)), .int (g 4), .ref (Z + (o + 4)), .int (g 6), .ref (Z + (o + 5)), .ref (Z + (o + 6)), .int (g 9), .int (g 10), .int (g 11), .int (g 12)])
  | _ => fR cS Z k o g
def fE (cI cS : ClassId) (Z k o : Nat) (g : Nat → Int32) : va_E := match Nat.ble 100 k with
  | true => .inl (cI, k - 100, .inl g)
  | false => fO cS Z k o g
theorem fE_a (cI cS : ClassId) (Z n o : Nat) (g : Nat → Int32) : fE cI cS Z (100 + n) o g = .inl (cI, n, .inl g) := by
  have h : Nat.ble 100 (100 + n) = true := Nat.ble_eq.mpr (by omega)
  simp [fE, h]
theorem ne99 (n : Nat) : 100 + n ≠ 99 := by omega
def fI (D : va_G) (cI cS : ClassId) (Z : Nat) (K : Nat → Nat) (σ : Nat → Nat → Int32) (H : Heap) : Prop := ∀ o, K o ≠ 99 → va_at D vwCl (Z + o, fE cI cS Z (K o) o (σ o)) H
theorem fI.one {D : va_G} {cI cS : ClassId} {Z : Nat} {K : Nat → Nat} {σ : Nat → Nat → Int32} {H : Heap} (h : fI D cI cS Z K σ H) {o kd : Nat} {x : va_E} (hk : K o = kd) (h9 : kd ≠ 99) (hx : fE cI cS Z kd o (σ o) = x) : va_P D vwCl [(Z + o, x)] H := by
  intro k q hq
  have h1 := h o (by rw [hk]; exact h9)
  rw [hk, hx] at h1
  match k, hq with
  | 0, hq => cases hq; exact h1
  | k + 1, hq => simp at hq
/-- one row of the memory changed: the others stay -/
theorem fI.upd1 {D : va_G} {cI cS : ClassId} {Z : Nat} {K : Nat → Nat} {σ σ' : Nat → Nat → Int32} {H H1 : Heap} (h : fI D cI cS Z K σ H) {o : Nat} (hne : ∀ a, a ≠ o → σ' a = σ a) (h1 : va_at D vwCl (Z + o, fE cI cS Z (K o) o (σ' o)) H1) (oq : ∀ q : Nat, q ≠ Z + o → H1[q]? = H[q]?) : fI D cI cS Z K σ' H1 := by
  intro a ha
  by_cases e : a = o
  · subst e; exact h1
  · rw [hne a e]
    exact (h a ha).kept (oq _ (by show Z + a ≠ Z + o; omega))
/-- the layout: from offset o on the kinds are those of the list -/
def ly (K : Nat → Nat) (o : Nat) (L : List Nat) : Prop := ∀ i k, L[i]? = some k → K (o + i) = k
theorem ly_at {K : Nat → Nat} {o : Nat} {L : List Nat} (h : ly K o L) (i : Nat) {k : Nat} (e : L[i]? = some k) : K (o + i) = k := h i k e
theorem ly_sub {K : Nat → Nat} {o : Nat} {L L' : List Nat} (h : ly K o L) (i : Nat) (e : (L.drop i).take L'.length = L') : ly K (o + i) L' := by
  intro j k hj
  have h1 : L[i + j]? = some k := by
    rw [← e, List.getElem?_take] at hj
    split at hj
    · rw [List.getElem?_drop] at hj; exact hj
    · cases hj
  rw [Nat.add_assoc]
  exact h _ _ h1
abbrev lyNum (n : Nat) : List Nat := [4, 100 + n]
abbrev lyChain : List Nat := [0, 4, 124, 4, 124]
abbrev lyWarp : List Nat := [6, 4, 132, 4, 132, 4, 108]
abbrev lyCloth : List Nat := [2, 4, 164, 4, 164, 4, 164, 4, 164, 4, 164, 4, 164]
abbrev lyState : List Nat := [5, 6, 4, 132, 4, 132, 4, 108, 0, 4, 124, 4, 124, 4, 110, 2, 4, 164, 4, 164, 4, 164, 4, 164, 4, 164, 4, 164]
abbrev lyReader : List Nat := [1, 4, 220, 0, 4, 124, 4, 124]
abbrev lyHist : List Nat := [3, 15] ++ (lyState ++ (lyState ++ (lyState ++ (lyState ++ lyState))))
abbrev lyLoom : List Nat := [7] ++ (lyState ++ (lyHist ++ (lyReader ++ [4, 124, 4, 110])))
abbrev lyModel : List Nat := [8, 556, 110, 2380, 220, 124, 124]
/-- the links to private methods of nest mates: they come with the start, not with the words -/
def nsL : List (String × Nat × MethodName × String) := [(RX5, 11, yX6_init, RX7), (RX5, 20, yX0_init, RX7), (RX5, 36, yX2_init, RX7), (RX7, 25, yX1_init, RX7), (RX1, 22, yX0_init, RX7), (RX6, 44, yX7_isBetween, RX7), (RX1, 101, yX7_isBetween, RX7), (RX6, 52, yX7_bitOf, RX7), (RX5, 114, yX7_bitOf, RX7), (RX0, 41, yX7_isBetween, RX7), (RX2, 59, yX7_bitOf, RX7), (RX2, 43, yX7_isBetween, RX7)]
def gK (D : va_G) (cI cS : ClassId) (U : State) : Prop := va_K D vwCl [(cI, .int), (cS, .object "DobbyLoom$State")] U ∧ (∀ q ∈ nsL, va_Nw (.methodLinkNest q.1 q.2.1 q.2.2.1 q.2.2.2) U) ∧ va_AO "DobbyLoom$State" U
theorem gK.warm {D : va_G} {cI cS : ClassId} {s U : State} (hW : s.WarmedH U.vm) (h : gK D cI cS s) : gK D cI cS U := ⟨va_K.moved hW.alike h.1, fun q hq => va_Nw.warmM hW (h.2.1 q hq), h.2.2.moved hW.alike⟩
theorem gK.call {D : va_G} {cI cS : ClassId} {U : State} {g : JFrame} {mk : MethodId} {a : Array Value} (h : gK D cI cS U) : gK D cI cS (U.calling g mk a) := ⟨va_K.moved (u := U) (U := U.calling g mk a) (Vm.Alike.refl U.vm) h.1, fun q hq => va_Nw.same rfl rfl (h.2.1 q hq), h.2.2.moved (u := U) (U := U.calling g mk a) (Vm.Alike.refl U.vm)⟩
/-- the words of every method: its own code, and all words of the law -/
def wsT (y : MethodName) (cc : ByteArray) (mL : Nat) (ret : Option FieldType) : List Cond := Cond.code y cc mL ret :: wsL_law
theorem goodIn_T {ws : List Cond} (h : ∀ w ∈ ws, w ∈ wsL_law) : GoodIn wsL_law ws := fun w hw => ⟨h w hw, good_of_word (good_T w (h w hw))⟩
theorem in_wsT {y : MethodName} {cc : ByteArray} {mL : Nat} {ret : Option FieldType} (h : Cond.code y cc mL ret ∈ wsL_law) : ∀ w ∈ wsT y cc mL ret, w ∈ wsL_law := by
  intro w hw
  rcases List.mem_cons.mp hw with e | e
  · rw [e]; exact h
  · exact e
/-- a method's start and ends over the memory -/
def Pm (D : va_G) (cI cS : ClassId) (Z : Nat) (K : Nat → Nat) (av : List Value) (σ : Nat → Nat → Int32) : Array Value → State → Prop := va_Pc av (fun U => fI D cI cS Z K σ U.heap ∧ gK D cI cS U)
theorem Pm.blind {D : va_G} {cI cS : ClassId} {Z : Nat} {K : Nat → Nat} {av : List Value} {σ : Nat → Nat → Int32} : FrameBlind (Pm D cI cS Z K av σ) := fun a U g mk q => ⟨q.1, q.2.1, q.2.2.call⟩
def aZ (Z : Nat) : Nat → Prop := fun q => Z ≤ q
def Qi (D : va_G) (cI cS : ClassId) (Z : Nat) (K : Nat → Nat) (r : Int32) (σ : Nat → Nat → Int32) : Array Value → State → Outcome → State → Prop := va_Qi (fun (x : Int32) (_ : Unit) => x = r) (fun _ t => fI D cI cS Z K σ t.heap) (aZ Z)
def Qv (D : va_G) (cI cS : ClassId) (Z : Nat) (K : Nat → Nat) (σ : Nat → Nat → Int32) : Array Value → State → Outcome → State → Prop := va_Qv (fun (_ : Unit) => True) (fun _ t => fI D cI cS Z K σ t.heap) (aZ Z)
/-- an answer that is a truth value -/
def Qz (D : va_G) (cI cS : ClassId) (Z : Nat) (K : Nat → Nat) (r : Int32) (σ : Nat → Nat → Int32) : Array Value → State → Outcome → State → Prop := va_Qi (fun (x : Int32) (_ : Unit) => x = r ∧ (x = 0 ∨ x = 1)) (fun _ t => fI D cI cS Z K σ t.heap) (aZ Z)
/-- an answer that is a long -/
def Ql (D : va_G) (cI cS : ClassId) (Z : Nat) (K : Nat → Nat) (r : Int64) (σ : Nat → Nat → Int32) : Array Value → State → Outcome → State → Prop := va_Ql (fun (x : Int64) (_ : Unit) => x = r) (fun _ t => fI D cI cS Z K σ t.heap) (aZ Z)
section FM
variable {p : Program} {l : Launch} {e : Env} {R : Room} {s : State} {m : MethodId} {args : Array Value} {below : List Frame} {meth : Method} {c : Code} {H H0 : Heap} {locs : List Loc} {cells slots : Nat} {Q : State → Prop}
variable {cc : ByteArray} {pc : Nat} {ls : Array Slot} {rest : List Value} {D : va_G} {cI cS : ClassId} {Z : Nat} {K : Nat → Nat} {σ : Nat → Nat → Int32}
/-- a contract out of a walk of the body -/
theorem mm_met {y : MethodName} {mL : Nat} {ret : Option FieldType} {rm : Room} {Qc : Array Value → State → Outcome → State → Prop} {av : List Value} {lv : List (Nat × Value)} (hy : plainName y.cls = true) (hav : (lg_sl av).length ≤ mL) (hlv : lv_args 0 av = lv)
    (body : ∀ (p : Program) (e : Env) (s : State) (m : MethodId) (args : Array Value) (below : List Frame) (meth : Method) (c : Code) (ls : Array Slot), p.tables.exec = Jvm.exec → c.code = cc → meth.sig.returnType = ret → c.maxLocals = mL → (∀ w ∈ wsL_law, w.before args s = true) → s.vm.findClass y.cls = some m.cls → meth.locks = false → gK D cI cS s → lv_has ls mL lv → fI D cI cS Z K σ s.heap → va_S (aZ Z) s.heap s.heap [] →
      W p l e rm s m args below meth c s.heap [] 0 0 (MQ below Qc args s 0 0 (aZ Z)) (F0 m 0 ls [])) : Met l y (wsT y cc mL ret) rm (Pm D cI cS Z K av σ) Qc 0 0 (aZ Z) := by
  refine Met.ofW (cc := cc) (maxL := mL) (ret := ret) hy rfl ?_
  intro p e s m args below meth c s₁ B hml hv
  obtain ⟨rfl, hI, hG⟩ := hv
  have hts0 := atoms_spec (ws := wsT y cc mL ret) B.pre
  have hts : ∀ w ∈ wsL_law, w.before av.toArray s = true := fun w hw => hts0 w (List.mem_cons_of_mem _ hw)
  have hown : s.vm.findClass y.cls = some m.cls := findClass_of_methodNamed B.named
  have hl := lv_entry av hav
  rw [lg_entry_eq]
  generalize (lg_sl av ++ List.replicate (mL - (lg_sl av).length) Slot.unset).toArray = ls at hl ⊢
  rw [hlv] at hl
  exact body p e s m _ below meth c ls B.exec B.bytes B.returns hml hts hown B.notSynchronized hG hl hI va_S.rf
/-- a name for the number on top -/
theorem mm_name {x v : Int32} (h : x = v) (k : W p l e R s m args below meth c H locs cells slots Q (F0 m pc ls (.int x :: rest))) : W p l e R s m args below meth c H locs cells slots Q (F0 m pc ls (.int v :: rest)) := by subst h; exact k
theorem mm_get (hx : p.tables.exec = Jvm.exec) (hb : c.code = cc) (hts : ∀ w ∈ wsL_law, w.before args s = true) {own C : String} {T : u_T} {N ci index kd o : Nat} {fs : List Value} {v : Value} (hown : s.vm.findClass own = some m.cls) (hG : gK D cI cS s) (hI : fI D cI cS Z K σ H) (hk : K o = kd) (hin : ∀ w ∈ u_ws C T N, w ∈ wsL_law) (h9 : kd ≠ 99) (hfs : fE cI cS Z kd o (σ o) = .inr (ci, fs)) (hc : vwCl[ci]? = some (C, T, N)) (k : Nat) (hkN : k < N) (hlink : Cond.fieldLink own index (T k).1 (T k).2.1 (T k).2.2.1 ∈ wsL_law) (hv : fs[k]? = some v) (hdg : decode cc pc = .ok (.getfield index, 3))
    (kk : W p l e R s m args below meth c H locs cells slots Q (F0 m (pc + 3) ls (v :: rest))) : W p l e R s m args below meth c H locs cells slots Q (F0 m pc ls (.ref (Z + o) :: rest)) :=
  va_get (D := D) (ci := ci) hx hb hts hin hown hG.1 (hI.one hk h9 hfs) 0 rfl hc k hkN (hts _ hlink) (fun _ h => h) hv hdg kk
theorem mm_put (hx : p.tables.exec = Jvm.exec) (hb : c.code = cc) (hts : ∀ w ∈ wsL_law, w.before args s = true) {own C : String} {T : u_T} {N ci index kd o : Nat} {fs : List Value} {v : Int32} (hown : s.vm.findClass own = some m.cls) (hG : gK D cI cS s) (hI : fI D cI cS Z K σ H) (hS : va_S (aZ Z) H0 H locs) (hk : K o = kd) (hin : ∀ w ∈ u_ws C T N, w ∈ wsL_law) (ty0 : Nat → FieldType) (hty : ∀ k, k < N → parseFieldDescriptor (T k).2.2.1 = some (ty0 k)) (hnm : ∀ a, a < N → ∀ b, b < N → a ≠ b → (T a).2.1 ≠ (T b).2.1) (h9 : kd ≠ 99) (hc : vwCl[ci]? = some (C, T, N)) (k : Nat) (hkN : k < N) (hfs : fE cI cS Z kd o (σ o) = .inr (ci, fs)) (hfs' : fE cI cS Z kd o (upd (σ o) k v) = .inr (ci, fs.set k (.int v))) (hl : k < fs.length) (hlink : Cond.fieldLink own index (T k).1 (T k).2.1 (T k).2.2.1 ∈ wsL_law) (hfin : (T k).2.2.2 = false) (hd : parseFieldDescriptor (T k).2.2.1 = some .int) (hdg : decode cc pc = .ok (.putfield index, 3))
    (kk : ∀ (H1 : Heap) (locs1 : List Loc), fI D cI cS Z K (wr σ o k v) H1 → va_S (aZ Z) H0 H1 locs1 → W p l e R s m args below meth c H1 locs1 cells slots Q (F0 m (pc + 3) ls rest)) : W p l e R s m args below meth c H locs cells slots Q (F0 m pc ls (.int v :: .ref (Z + o) :: rest)) := by
  have hP := hI.one hk h9 hfs
  have he : [((Z + o : Nat), (Sum.inr (ci, fs) : va_E))][0]? = some (Z + o, .inr (ci, fs)) := rfl
  have hap := va_apart (own := own) hts hin ty0 hty hnm hG.1 hc
  obtain ⟨r, h1, cell, q1, q2, q3, q4⟩ := hP 0 _ he
  have hr : r = (C, T, N) := Option.some.inj (h1.symm.trans hc)
  subst hr
  obtain ⟨hSl, hfc, kC, hkC, hkind⟩ := hG.1.1 ci _ hc
  obtain ⟨cf, kf, fi, f, hi, hsl⟩ := hSl k hkN
  have hlay := hts _ (hin _ (u_in_lay hkN))
  unfold u_lay at hlay
  rw [if_neg (by rw [hfin]; decide)] at hlay
  have hst := (u_facts hfc hkC (u_lays hts hin hkN) hi).1
  have h6 := u_store hfc hkC hkind hlay hi hd (show narrow .int (.int v) = .int v from rfl) (show fits .int (.int v) = true from rfl)
  refine W.putK hx hb (f := f) ⟨hown, hts _ hlink, ⟨_, _, _, hi⟩, hst⟩ (by rw [q2]; exact h6) q1 q3 (by rw [hsl]; exact k2_hasslot (q4 k hkN)) rfl rfl hdg fun H' e1 e2 e3 => ?_
  rw [hsl] at e1 ⊢
  refine kk H' _ (hI.upd1 (o := o) (fun a ha => wr_ne ha) ?_ e3) (hS.put e2 e3 (Nat.le_add_right Z o))
  rw [wr_eq, hk, hfs']
  exact ⟨_, hc, t_OB.to (V := updV (vp_V fs) k (.int v)) ⟨_, e1, q2, q3, t_set q4 hap hkN _⟩ (fun j _ => vp_updV_set hl _ j)⟩
theorem mm_ald (hx : p.tables.exec = Jvm.exec) (hb : c.code = cc) (hG : gK D cI cS s) (hI : fI D cI cS Z K σ H) {o n k : Nat} (hk : K o = 100 + n) {i : Int32} (hin : ¬ (i < 0 ∨ n ≤ i.toNatClampNeg)) (hik : i.toNatClampNeg = k) (hdg : decode cc pc = .ok (.iaload, 1))
    (kk : W p l e R s m args below meth c H locs cells slots Q (F0 m (pc + 1) ls (.int (σ o k) :: rest))) : W p l e R s m args below meth c H locs cells slots Q (F0 m pc ls (.int i :: .ref (Z + o) :: rest)) :=
  va_iald (D := D) hx hb hG.1 (hI.one hk (ne99 n) (fE_a ..)) 0 0 rfl rfl hin hdg (by rw [hik]; exact kk)
theorem mm_alen (hx : p.tables.exec = Jvm.exec) (hb : c.code = cc) (hG : gK D cI cS s) (hI : fI D cI cS Z K σ H) {o n : Nat} (hk : K o = 100 + n) (hdg : decode cc pc = .ok (.arraylength, 1))
    (kk : W p l e R s m args below meth c H locs cells slots Q (F0 m (pc + 1) ls (.int (nI n) :: rest))) : W p l e R s m args below meth c H locs cells slots Q (F0 m pc ls (.ref (Z + o) :: rest)) :=
  va_alen (D := D) hx hb hG.1 (hI.one hk (ne99 n) (fE_a ..)) 0 0 rfl rfl rfl hdg kk
theorem mm_ast (hx : p.tables.exec = Jvm.exec) (hb : c.code = cc) (hG : gK D cI cS s) (hI : fI D cI cS Z K σ H) (hS : va_S (aZ Z) H0 H locs) {o n k : Nat} (hk : K o = 100 + n) {i x : Int32} (hin : ¬ (i < 0 ∨ n ≤ i.toNatClampNeg)) (hik : i.toNatClampNeg = k) (hdg : decode cc pc = .ok (.iastore, 1))
    (kk : ∀ (H1 : Heap) (locs1 : List Loc), fI D cI cS Z K (wr σ o k x) H1 → va_S (aZ Z) H0 H1 locs1 → W p l e R s m args below meth c H1 locs1 cells slots Q (F0 m (pc + 1) ls rest)) : W p l e R s m args below meth c H locs cells slots Q (F0 m pc ls (.int x :: .int i :: .ref (Z + o) :: rest)) := by
  subst hik
  have hP := hI.one hk (ne99 n) (fE_a ..)
  have ha : [((Z + o : Nat), (Sum.inl (cI, n, .inl (σ o)) : va_E))][0]? = some (Z + o, .inl (cI, n, .inl (σ o))) := rfl
  refine W.iast hx hb (hP 0 _ ha) ((hG.1.2 0 _ rfl).1 n (fun j => .int (σ o j))) (fun q => by cases q) (by show ¬ (i < 0 ∨ (arrV _ _ _).slots.size ≤ _); rw [arrV_size]; exact hin) rfl rfl hdg fun H1 e1 z oq => ?_
  refine kk H1 _ (hI.upd1 (o := o) (fun a ha => wr_ne ha) ?_ oq) (hS.put z oq (Nat.le_add_right Z o))
  rw [wr_eq, hk, fE_a]
  show H1[Z + o]? = some (vp_cell _ _)
  rw [e1]
  rw [vp_cell_i, vp_cell_i, arrV_store]
  congr 2
  funext q
  by_cases hq : q = i.toNatClampNeg
  · subst hq
    simp [updV, upd]
  · simp [updV, upd, hq]
/-- a copy of the first n places of one row over another's -/
theorem mm_copy (hx : p.tables.exec = Jvm.exec) (hb : c.code = cc) (hts : ∀ w ∈ wsL_law, w.before args s = true) (hml : c.maxLocals = ls.size) {own : String} {index o a n0 n1 : Nat} (hown : s.vm.findClass own = some m.cls) (hG : gK D cI cS s) (hI : fI D cI cS Z K σ H) (hS : va_S (aZ Z) H0 H locs) (hk : K o = 100 + n1) (hka : K a = 100 + n0) (hoa : o ≠ a) (hlink : Cond.methodLink own index arraycopyName ∈ wsL_law) (hnat : Cond.native arraycopyName ∈ wsL_law) (hstat : Cond.static arraycopyName ∈ wsL_law) (hini : Cond.initialized "java/lang/System" ∈ wsL_law) {n : Int32} {sp dp : Int32} (hsp : sp = 0) (hdp : dp = 0) (h3 : ¬ n < 0) (h4 : n.toNatClampNeg ≤ n0) (h5 : n.toNatClampNeg ≤ n1)
    (hframes : 1 ≤ R.frames) (hlocals : (rest.map fun v => v.category).sum + (nativeFrameWords "java/lang/System" "arraycopy" 5 + 11) ≤ R.locals) (hdg : decode cc pc = .ok (.invokestatic index, 3))
    (kk : ∀ (H1 : Heap) (locs1 : List Loc), fI D cI cS Z K (wc σ o a n.toNatClampNeg) H1 → va_S (aZ Z) H0 H1 locs1 → W p l e R s m args below meth c H1 locs1 cells slots Q (F0 m (pc + 3) ls rest)) : W p l e R s m args below meth c H locs cells slots Q (F0 m pc ls (.int n :: .int dp :: .ref (Z + o) :: .int sp :: .ref (Z + a) :: rest)) := by
  subst hsp; subst hdp
  have hP1 := hI.one hk (ne99 n1) (fE_a ..)
  have hP0 := hI.one hka (ne99 n0) (fE_a ..)
  intro T hT X
  have hc0 : H[Z + a]? = some (vp_cell cI (n0, .inl (σ a))) := hP0 0 _ rfl
  have hc1 : H[Z + o]? = some (vp_cell cI (n1, .inl (σ o))) := hP1 0 _ rfl
  obtain ⟨-, k0, hk0, cm0, hkk0⟩ := (hG.1.2 0 _ rfl).1 n0 (fun j => .int (σ a j))
  obtain ⟨-, k1, hk1, cm1, hkk1⟩ := (hG.1.2 0 _ rfl).1 n1 (fun j => .int (σ o j))
  have nn : ∀ z : Int32, ¬ z < 0 → z.toInt = (z.toNatClampNeg : Int) := by
    intro z hz
    have hz0 : (0 : Int) ≤ z.toInt := by
      have := Int32.not_lt.mp hz
      simpa using Int32.le_iff_toInt_le.mp this
    show z.toInt = ((z.toInt.toNat : Nat) : Int)
    omega
  have z0 : ¬ (0 : Int32) < 0 := by decide
  have zc : (0 : Int32).toNatClampNeg = 0 := by decide
  obtain ⟨vm', X', step⟩ := X.arraycopy hx hown (hts _ hlink) (hts _ hnat) (hts _ hstat) (hts _ hini) (src := Z + a) (dst := Z + o) (cs := vp_cell cI (n0, .inl (σ a))) (cd := vp_cell cI (n1, .inl (σ o))) (srcPos := 0) (destPos := 0) (n := n) (by rw [hT]; exact hc0) (by rw [hT]; exact hc1)
    (fun _ h => by cases h) (fun _ h => by cases h) (fun h => by cases h) (fun h => by cases h) hk0 hk1 hkk0 hkk1 (by simp [refKind]) z0 z0 h3
    (by rw [nn 0 z0, nn n h3]; show ¬ _ > ((arrV cI n0 (fun j => .int (σ a j))).slots.size : Int); rw [arrV_size]; omega)
    (by rw [nn 0 z0, nn n h3]; show ¬ _ > ((arrV cI n1 (fun j => .int (σ o j))).slots.size : Int); rw [arrV_size]; omega)
    (fun vm₁ _ i hi => by
      have e : (vp_cell cI (n0, .inl (σ a))).slots.getD ((0 : Int32).toNatClampNeg + i) .null = .int (σ a ((0 : Int32).toNatClampNeg + i)) := by
        show (arrV cI n0 (fun j => .int (σ a j))).slots.getD _ _ = _
        rw [Array.getD_eq_getD_getElem?, arrV_read _ _ (by omega)]
        rfl
      refine ⟨?_, ?_⟩
      · rw [e]; rfl
      · rw [e]
        exact trivial)
    (g := F0 m pc ls (.int n :: .int 0 :: .ref (Z + o) :: .int 0 :: .ref (Z + a) :: rest)) rfl (by rw [hml]) (rest := rest) rfl (by rw [hb]; exact hdg) hframes (by show 2 * 0 + _ + _ ≤ _; omega)
  have e1 : copied (vp_cell cI (n0, .inl (σ a))) (vp_cell cI (n1, .inl (σ o))) 0 0 n = vp_cell cI (n1, .inl (va_cpy (σ a) (σ o) (0 : Int32).toNatClampNeg (0 : Int32).toNatClampNeg n.toNatClampNeg)) := va_copied (fun z => .int z) cI cI (σ a) (σ o) (by rw [zc]; omega)
  rw [e1] at X' step
  have hl : Z + o < H.size := (Array.getElem?_eq_some_iff.mp hc1).1
  have hheap : ((T.setVm vm').setCell (Z + o) (vp_cell cI (n1, .inl (va_cpy (σ a) (σ o) (0 : Int32).toNatClampNeg (0 : Int32).toNatClampNeg n.toNatClampNeg)))).heap = H.setIfInBounds (Z + o) (vp_cell cI (n1, .inl (va_cpy (σ a) (σ o) (0 : Int32).toNatClampNeg (0 : Int32).toNatClampNeg n.toNatClampNeg))) := by rw [← hT]; rfl
  have oq : ∀ q : Nat, q ≠ Z + o → (H.setIfInBounds (Z + o) (vp_cell cI (n1, .inl (va_cpy (σ a) (σ o) (0 : Int32).toNatClampNeg (0 : Int32).toNatClampNeg n.toNatClampNeg))))[q]? = H[q]? := fun q hq => by simp [Array.getElem?_setIfInBounds, Ne.symm hq]
  obtain ⟨t, a1, b1⟩ := kk _ _ (hI.upd1 (σ' := wc σ o a n.toNatClampNeg) (o := o) (fun b hb => if_neg hb) (by
      rw [hk, fE_a]
      show (H.setIfInBounds (Z + o) _)[Z + o]? = some _
      rw [show wc σ o a n.toNatClampNeg o = va_cpy (σ a) (σ o) 0 0 n.toNatClampNeg from if_pos rfl]
      simp [Array.getElem?_setIfInBounds, hl, zc]) oq) ⟨by simp; exact hS.1, fun q g1 g2 => by
      rw [oq q (fun e => g2 (by rw [e]; exact Nat.le_add_right Z o))]
      exact hS.2.1 q g1 g2, fun q hq => by
      rcases List.mem_append.mp hq with h | h
      · exact hS.2.2 q h
      · obtain ⟨z, -, hz⟩ := List.mem_map.mp h
        rw [← hz]
        exact Nat.le_add_right Z o⟩ _ hheap X'
  exact ⟨t, step t a1, b1⟩
/-- returns -/
theorem mm_ret (hx : p.tables.exec = Jvm.exec) (hb : c.code = cc) {ty : FieldType} {v : Int32} (hr : meth.sig.returnType = some ty) (hlocks : meth.locks = false) (hn : narrow ty (.int v) = .int v) (hI : fI D cI cS Z K σ H) (hS : va_S (aZ Z) s.heap H locs) (hdg : decode cc pc = .ok (.ireturn, 1)) : W p l e R s m args below meth c H locs cells slots (MQ below (Qi D cI cS Z K v σ) args s cells slots (aZ Z)) (F0 m pc ls [.int v]) :=
  W.zret hx hb hr hn (fun t ht hW => ⟨⟨v, (), rfl, rfl, by show fI D cI cS Z K σ t.heap; rw [ht]; exact hI⟩, hS.F ht⟩) hS.2.2 hdg hlocks
theorem mm_zret (hx : p.tables.exec = Jvm.exec) (hb : c.code = cc) {v : Int32} (hr : meth.sig.returnType = some .boolean) (hlocks : meth.locks = false) (hv : v = 0 ∨ v = 1) (hI : fI D cI cS Z K σ H) (hS : va_S (aZ Z) s.heap H locs) (hdg : decode cc pc = .ok (.ireturn, 1)) : W p l e R s m args below meth c H locs cells slots (MQ below (Qz D cI cS Z K v σ) args s cells slots (aZ Z)) (F0 m pc ls [.int v]) :=
  W.zret hx hb hr (by rcases hv with h | h <;> rw [h] <;> rfl) (fun t ht hW => ⟨⟨v, (), rfl, ⟨rfl, hv⟩, by show fI D cI cS Z K σ t.heap; rw [ht]; exact hI⟩, hS.F ht⟩) hS.2.2 hdg hlocks
theorem mm_vret (hx : p.tables.exec = Jvm.exec) (hb : c.code = cc) (hr : meth.sig.returnType = none) (hlocks : meth.locks = false) (hI : fI D cI cS Z K σ H) (hS : va_S (aZ Z) s.heap H locs) (hdg : decode cc pc = .ok (.return_, 1)) : W p l e R s m args below meth c H locs cells slots (MQ below (Qv D cI cS Z K σ) args s cells slots (aZ Z)) (F0 m pc ls []) :=
  W.vret hx hb hr (fun t ht hW => ⟨⟨(), rfl, trivial, by show fI D cI cS Z K σ t.heap; rw [ht]; exact hI⟩, hS.F ht⟩) hS.2.2 hdg hlocks
variable {y : MethodName} {bytes : ByteArray} {mL nL n index kd ci o N : Nat} {ret : Option FieldType} {rm : Room} {own C : String} {T : u_T} {As st : List Value} {r : Int32} {σ' : Nat → Nat → Int32} {fs : List Value} {av : List Value}
theorem mm_pre {U : State} (hW : s.WarmedH U.vm) (hU : U.heap = H) (hG : gK D cI cS s) (hI : fI D cI cS Z K σ H) (hav : av = As) : Pm D cI cS Z K av σ As.toArray U := by
  subst hav
  exact ⟨rfl, by rw [hU]; exact hI, hG.warm hW⟩
/-- calls of an object's own methods -/
theorem mm_runV {Qc : Array Value → State → Outcome → State → Prop} (hx : p.tables.exec = Jvm.exec) (hb : c.code = cc) (hml : c.maxLocals = nL) (hts : ∀ w ∈ wsL_law, w.before args s = true) (hown : s.vm.findClass own = some m.cls) (hG : gK D cI cS s) (hI : fI D cI cS Z K σ H)
    (hsz : ls.size = nL) (hM : Met l y (wsT y bytes mL ret) rm (Pm D cI cS Z K (.ref (Z + o) :: As) σ) Qc 0 0 (aZ Z)) (hk : K o = kd) (h9 : kd ≠ 99) (hfs : fE cI cS Z kd o (σ o) = .inr (ci, fs)) (hc : vwCl[ci]? = some (C, T, N)) (hw1 : Cond.methodLink own index y ∈ wsL_law) (hw2 : Cond.instanceMethod y ∈ wsL_law) (hw3 : Cond.selects C y y ∈ wsL_law) (hw4 : Cond.initialized C ∈ wsL_law) (hw5 : Cond.code y bytes mL ret ∈ wsL_law) (hd : y.cls = C ∧ y.cls ≠ "java/lang/invoke/MethodHandle" ∧ y.cls ≠ "java/lang/invoke/VarHandle" ∧ (parseMethodDescriptor y.desc).map (fun d => d.parameters.length) = some n) (hR : rm.frames + 1 ≤ R.frames ∧ 8 + (mL + 11) + rm.locals ≤ R.locals) (hrc : rm.cells = 0) (hrs : rm.slots = 0) (hn : As.length = n) (hst : st = As.reverse ++ .ref (Z + o) :: rest) (hcat : (rest.map fun v => v.category).sum ≤ 8) (hf : cells ≤ R.cells ∧ slots ≤ R.slots) (hdg : decode cc pc = .ok (.invokevirtual index, 3)) :
    va_Run p l e R s m args below meth c H locs cells slots 0 0 (F0 m pc ls st) rest (Qc (Value.ref (Z + o) :: As).toArray) (aZ Z) := by
  have hP := hI.one hk h9 hfs
  refine va_runV (As := As) (rest := rest) ⟨hx, hb, hml, hown, hts⟩ hM (cwV n hts (goodIn_T (fun w hw => ?_)) rfl hrc hrs hd hR) ⟨Pm.blind, va_recv (ci := ci) hG.1 hP (q0 := 0) hc rfl, fun U hU hW => mm_pre hW hU hG hI rfl⟩ rfl hn hsz hst (lv_room (rest := st) hcat) hdg hf
  unfold wsV at hw
  rcases List.mem_append.mp hw with h | h
  · simp only [List.mem_cons, List.not_mem_nil, or_false] at h
    rcases h with h | h | h | h <;> rw [h] <;> assumption
  · exact in_wsT hw5 w h
theorem mm_runS {Qc : Array Value → State → Outcome → State → Prop} (hx : p.tables.exec = Jvm.exec) (hb : c.code = cc) (hml : c.maxLocals = nL) (hts : ∀ w ∈ wsL_law, w.before args s = true) (hown : s.vm.findClass own = some m.cls) (hG : gK D cI cS s) (hI : fI D cI cS Z K σ H)
    (hsz : ls.size = nL) (hM : Met l y (wsT y bytes mL ret) rm (Pm D cI cS Z K As σ) Qc 0 0 (aZ Z)) (hw1 : Cond.methodLink own index y ∈ wsL_law) (hw2 : Cond.static y ∈ wsL_law) (hw4 : Cond.initialized y.cls ∈ wsL_law) (hw5 : Cond.code y bytes mL ret ∈ wsL_law) (hd : y.cls ≠ "java/lang/invoke/MethodHandle" ∧ y.cls ≠ "java/lang/invoke/VarHandle" ∧ (parseMethodDescriptor y.desc).map (fun d => d.parameters.length) = some n) (hR : rm.frames + 1 ≤ R.frames ∧ 8 + (mL + 11) + rm.locals ≤ R.locals) (hrc : rm.cells = 0) (hrs : rm.slots = 0) (hn : As.length = n) (hst : st = As.reverse ++ rest) (hcat : (rest.map fun v => v.category).sum ≤ 8) (hf : cells ≤ R.cells ∧ slots ≤ R.slots) (hdg : decode cc pc = .ok (.invokestatic index, 3)) :
    va_Run p l e R s m args below meth c H locs cells slots 0 0 (F0 m pc ls st) rest (Qc As.toArray) (aZ Z) := by
  refine va_runS (As := As) (rest := rest) ⟨hx, hb, hml, hown, hts⟩ hM (va_cwS n hts (goodIn_T (fun w hw => ?_)) rfl hrc hrs hd hR) ⟨Pm.blind, fun U hU hW => mm_pre hW hU hG hI rfl⟩ rfl hn hsz hst (lv_room (rest := st) hcat) hdg hf
  unfold va_wsS at hw
  rcases List.mem_append.mp hw with h | h
  · simp only [List.mem_cons, List.not_mem_nil, or_false] at h
    rcases h with h | h | h <;> rw [h] <;> assumption
  · exact in_wsT hw5 w h
/-- calls of a nest mate's private static method -/
theorem mm_runSN {Qc : Array Value → State → Outcome → State → Prop} {host : String} (hx : p.tables.exec = Jvm.exec) (hb : c.code = cc) (hml : c.maxLocals = nL) (hts : ∀ w ∈ wsL_law, w.before args s = true) (hown : s.vm.findClass own = some m.cls) (hG : gK D cI cS s) (hI : fI D cI cS Z K σ H)
    (hsz : ls.size = nL) (hM : Met l y (wsT y bytes mL ret) rm (Pm D cI cS Z K As σ) Qc 0 0 (aZ Z)) (hw1 : (own, index, y, host) ∈ nsL) (hw2 : Cond.static y ∈ wsL_law) (hw4 : Cond.initialized y.cls ∈ wsL_law) (hw5 : Cond.code y bytes mL ret ∈ wsL_law) (hd : y.cls ≠ "java/lang/invoke/MethodHandle" ∧ y.cls ≠ "java/lang/invoke/VarHandle" ∧ (parseMethodDescriptor y.desc).map (fun d => d.parameters.length) = some n) (hR : rm.frames + 1 ≤ R.frames ∧ 8 + (mL + 11) + rm.locals ≤ R.locals) (hrc : rm.cells = 0) (hrs : rm.slots = 0) (hn : As.length = n) (hst : st = As.reverse ++ rest) (hcat : (rest.map fun v => v.category).sum ≤ 8) (hf : cells ≤ R.cells ∧ slots ≤ R.slots) (hdg : decode cc pc = .ok (.invokestatic index, 3)) :
    va_Run p l e R s m args below meth c H locs cells slots 0 0 (F0 m pc ls st) rest (Qc As.toArray) (aZ Z) :=
  va_runSN (As := As) (rest := rest) (host := host) ⟨hx, hb, hml, hown, hts⟩ hM ⟨va_cnB n hts (goodIn_T (in_wsT hw5)) rfl hrc hrs (hG.2.1 _ hw1) (hts _ hw4) hd hR, hts _ hw2, trivial⟩ ⟨Pm.blind, fun U hU hW => mm_pre hW hU hG hI rfl⟩ rfl hn hsz hst (lv_room (rest := st) hcat) hdg hf
theorem mm_bz {a : Array Value} (hS : va_S (aZ Z) H0 H locs) (hr : va_Run p l e R s m args below meth c H locs cells slots 0 0 (F0 m pc ls st) rest (Qz D cI cS Z K r σ' a) (aZ Z))
    (kk : (r = 0 ∨ r = 1) → ∀ (H1 : Heap) (locs1 : List Loc), fI D cI cS Z K σ' H1 → va_S (aZ Z) H0 H1 locs1 → W p l e R s m args below meth c H1 locs1 cells slots Q (F0 m (pc + 3) ls (.int r :: rest))) : W p l e R s m args below meth c H locs cells slots Q (F0 m pc ls st) := by
  refine va_calli hr hS (fun q _ h => h) (fun q h => h) ?_
  intro r' u t H1 locs1 ht hvm hw hB hz hk hS1
  obtain ⟨hw, hw2⟩ := hw
  subst hw
  exact kk hw2 H1 locs1 (by rw [← ht]; exact hB) hS1
/-- behind a call -/
theorem mm_bi {a : Array Value} (hS : va_S (aZ Z) H0 H locs) (hr : va_Run p l e R s m args below meth c H locs cells slots 0 0 (F0 m pc ls st) rest (Qi D cI cS Z K r σ' a) (aZ Z))
    (kk : ∀ (H1 : Heap) (locs1 : List Loc), fI D cI cS Z K σ' H1 → va_S (aZ Z) H0 H1 locs1 → W p l e R s m args below meth c H1 locs1 cells slots Q (F0 m (pc + 3) ls (.int r :: rest))) : W p l e R s m args below meth c H locs cells slots Q (F0 m pc ls st) := by
  refine va_calli hr hS (fun q _ h => h) (fun q h => h) ?_
  intro r' u t H1 locs1 ht hvm hw hB hz hk hS1
  subst hw
  exact kk H1 locs1 (by rw [← ht]; exact hB) hS1
theorem mm_bv {a : Array Value} (hS : va_S (aZ Z) H0 H locs) (hr : va_Run p l e R s m args below meth c H locs cells slots 0 0 (F0 m pc ls st) rest (Qv D cI cS Z K σ' a) (aZ Z))
    (kk : ∀ (H1 : Heap) (locs1 : List Loc), fI D cI cS Z K σ' H1 → va_S (aZ Z) H0 H1 locs1 → W p l e R s m args below meth c H1 locs1 cells slots Q (F0 m (pc + 3) ls rest)) : W p l e R s m args below meth c H locs cells slots Q (F0 m pc ls st) := by
  refine va_callv hr hS (fun q _ h => h) (fun q h => h) ?_
  intro u t H1 locs1 ht hvm hw hB hz hk hS1
  exact kk H1 locs1 (by rw [← ht]; exact hB) hS1
theorem mm_namel {x v : Int64} (h : x = v) (k : W p l e R s m args below meth c H locs cells slots Q (F0 m pc ls (.long x :: rest))) : W p l e R s m args below meth c H locs cells slots Q (F0 m pc ls (.long v :: rest)) := by subst h; exact k
theorem mm_lret (hx : p.tables.exec = Jvm.exec) (hb : c.code = cc) {v : Int64} (hr : meth.sig.returnType = some .long) (hlocks : meth.locks = false) (hI : fI D cI cS Z K σ H) (hS : va_S (aZ Z) s.heap H locs) (hdg : decode cc pc = .ok (.lreturn, 1)) : W p l e R s m args below meth c H locs cells slots (MQ below (Ql D cI cS Z K v σ) args s cells slots (aZ Z)) (F0 m pc ls [.long v]) :=
  W.lret hx hb hr (fun t ht hW => ⟨⟨v, (), rfl, rfl, by show fI D cI cS Z K σ t.heap; rw [ht]; exact hI⟩, hS.F ht⟩) hS.2.2 hdg hlocks
theorem mm_bl {r : Int64} {st : List Value} {σ' : Nat → Nat → Int32} {a : Array Value} (hS : va_S (aZ Z) H0 H locs) (hr : va_Run p l e R s m args below meth c H locs cells slots 0 0 (F0 m pc ls st) rest (Ql D cI cS Z K r σ' a) (aZ Z))
    (kk : ∀ (H1 : Heap) (locs1 : List Loc), fI D cI cS Z K σ' H1 → va_S (aZ Z) H0 H1 locs1 → W p l e R s m args below meth c H1 locs1 cells slots Q (F0 m (pc + 3) ls (.long r :: rest))) : W p l e R s m args below meth c H locs cells slots Q (F0 m pc ls st) := by
  refine va_calll hr hS (fun q _ h => h) (fun q h => h) ?_
  intro r' u t H1 locs1 ht hvm hw hB hz hk hS1
  subst hw
  exact kk H1 locs1 (by rw [← ht]; exact hB) hS1
end FM
