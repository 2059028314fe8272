/-! part 03: the words of the mirrored programs -/
def vl {α β : Sort _} (a : α) (f : α → β) : β := f a
theorem vl_e {α : Sort _} {β : Sort _} {a : α} {f : α → β} {y : β} (h : vl a f = y) : ∃ x, x = a ∧ f x = y := ⟨a, rfl, h⟩
def jn {α β : Sort _} (b : α → β) (k : α) : β := b k
theorem jn_e {α β : Sort _} {b : α → β} {k : α} {y : β} (h : jn b k = y) : ∃ x, x = k ∧ b x = y := ⟨k, rfl, h⟩
def bi {α β : Type _} (a : Option α) (f : α → Option β) : Option β := match a with
  | none => none
  | some x => f x
theorem bi_e {α β : Type _} {a : Option α} {f : α → Option β} {y : β} (h : bi a f = some y) : ∃ x, a = some x ∧ f x = some y := by
  cases a with
  | none => cases h
  | some x => exact ⟨x, rfl, h⟩
def b2 {α1 α2 β : Type _} (a : Option (α1 × α2)) (f : α1 → α2 → Option β) : Option β := bi a (fun x => f x.1 x.2)
theorem b2_e {α1 α2 β : Type _} {a : Option (α1 × α2)} {f : α1 → α2 → Option β} {y : β} (h : b2 a f = some y) : ∃ x1 x2, a = some (x1, x2) ∧ f x1 x2 = some y := by
  obtain ⟨x, h1, h2⟩ := bi_e h
  exact ⟨x.1, x.2, h1, h2⟩
def b3 {α1 α2 α3 β : Type _} (a : Option (α1 × α2 × α3)) (f : α1 → α2 → α3 → Option β) : Option β := bi a (fun x => f x.1 x.2.1 x.2.2)
theorem b3_e {α1 α2 α3 β : Type _} {a : Option (α1 × α2 × α3)} {f : α1 → α2 → α3 → Option β} {y : β} (h : b3 a f = some y) : ∃ x1 x2 x3, a = some (x1, x2, x3) ∧ f x1 x2 x3 = some y := by
  obtain ⟨x, h1, h2⟩ := bi_e h
  exact ⟨x.1, x.2.1, x.2.2, h1, h2⟩
def b4 {α1 α2 α3 α4 β : Type _} (a : Option (α1 × α2 × α3 × α4)) (f : α1 → α2 → α3 → α4 → Option β) : Option β := bi a (fun x => f x.1 x.2.1 x.2.2.1 x.2.2.2)
theorem b4_e {α1 α2 α3 α4 β : Type _} {a : Option (α1 × α2 × α3 × α4)} {f : α1 → α2 → α3 → α4 → Option β} {y : β} (h : b4 a f = some y) : ∃ x1 x2 x3 x4, a = some (x1, x2, x3, x4) ∧ f x1 x2 x3 x4 = some y := by
  obtain ⟨x, h1, h2⟩ := bi_e h
  exact ⟨x.1, x.2.1, x.2.2.1, x.2.2.2, h1, h2⟩
/-- an index that is looked at -/
def ix {β : Type _} (i : Int32) (n : Nat) (k : Option β) : Option β := if i < 0 ∨ n ≤ i.toNatClampNeg then none else k
theorem ix_e {β : Type _} {i : Int32} {n : Nat} {k : Option β} {y : β} (h : ix i n k = some y) : vp_in i n ∧ k = some y := by
  unfold ix at h
  split at h
  · cases h
  · exact ⟨by assumption, h⟩
def nz {β : Type _} (i : Int32) (k : Option β) : Option β := if i = 0 then none else k
theorem nz_e {β : Type _} {i : Int32} {k : Option β} {y : β} (h : nz i k = some y) : ¬ i = 0 ∧ k = some y := by
  unfold nz at h
  split at h
  · cases h
  · exact ⟨by assumption, h⟩
def bz {β : Type _} (i : Int32) (k : Option β) : Option β := if i = 0 ∨ i = 1 then k else none
theorem bz_e {β : Type _} {i : Int32} {k : Option β} {y : β} (h : bz i k = some y) : (i = 0 ∨ i = 1) ∧ k = some y := by
  unfold bz at h
  split at h
  · exact ⟨by assumption, h⟩
  · cases h
def cg {β : Type _} (n : Int32) (a b : Nat) (k : Option β) : Option β := if ¬ n < 0 ∧ n.toNatClampNeg ≤ a ∧ n.toNatClampNeg ≤ b then k else none
theorem cg_e {β : Type _} {n : Int32} {a b : Nat} {k : Option β} {y : β} (h : cg n a b k = some y) : ¬ n < 0 ∧ n.toNatClampNeg ≤ a ∧ n.toNatClampNeg ≤ b ∧ k = some y := by
  unfold cg at h
  split at h
  · next q => exact ⟨q.1, q.2.1, q.2.2, h⟩
  · cases h
theorem pos_e {γ : Sort _} {c : Prop} [Decidable c] {a b y : γ} (h : c) (hf : (if c then a else b) = y) : a = y := by rw [if_pos h] at hf; exact hf
theorem neg_e {γ : Sort _} {c : Prop} [Decidable c] {a b y : γ} (h : ¬ c) (hf : (if c then a else b) = y) : b = y := by rw [if_neg h] at hf; exact hf
/-- a loop: the body goes on (inl) or leaves (inr) -/
def lk {α β : Type _} (g : α → Option β) (z : α ⊕ β) : Option β := match z with
  | .inl x => g x
  | .inr y => some y
def lp {α β : Type _} (f : α → Option (α ⊕ β)) : Nat → α → Option β
  | 0, _ => none
  | n + 1, x => bi (f x) (lk (lp f n))
theorem lp_0 {α β : Type _} {f : α → Option (α ⊕ β)} {x : α} {y : β} (h : lp f 0 x = some y) : False := by cases h
theorem lp_e {α β : Type _} {f : α → Option (α ⊕ β)} {n : Nat} {x : α} {y : β} (h : lp f (n + 1) x = some y) : ∃ z, f x = some z ∧ lk (lp f n) z = some y := bi_e h
theorem lk_r {α β : Type _} {g : α → Option β} {y y2 : β} (h : lk g (.inr y) = some y2) : y2 = y := (Option.some.inj h).symm
def FU : Nat := 4096
def sm {α β γ : Type _} (z : α ⊕ β) (f : α → γ) (g : β → γ) : γ := match z with
  | .inl x => f x
  | .inr y => g y
theorem sm_e {α β γ : Type _} {y : β} {f : α → γ} {g : β → γ} {x : γ} (h : sm (.inr y) f g = x) : g y = x := h
def cur2 {β1 β2 γ : Type _} (g : β1 → β2 → γ) (y : β1 × β2) : γ := g y.1 y.2
theorem smc2_e {α β1 β2 γ : Type _} {y1 : β1} {y2 : β2} {f : α → γ} {g : β1 → β2 → γ} {x : γ} (h : sm (.inr (y1, y2)) f (cur2 g) = x) : g y1 y2 = x := h
def usr (x y : Int32) : Int32 := (x.toUInt32 >>> (y.toUInt32 &&& Int32.toUInt32 31)).toInt32
def imax (x y : Int32) : Int32 := if x < y then y else x
def imin (x y : Int32) : Int32 := if y < x then y else x
theorem sw_ne {x k : Int32} (h : ¬ x = k) : x.toInt ≠ k.toInt := fun e => h (Int32.toInt_inj.mp e)
theorem sw_out3 {x : Int32} (h0 : ¬ x = 0) (h1 : ¬ x = 1) (h2 : ¬ x = 2) (h3 : ¬ x = 3) : x.toInt < 0 ∨ 3 < x.toInt := by
  have e0 := sw_ne h0; rw [show (0 : Int32).toInt = 0 from rfl] at e0
  have e1 := sw_ne h1; rw [show (1 : Int32).toInt = 1 from rfl] at e1
  have e2 := sw_ne h2; rw [show (2 : Int32).toInt = 2 from rfl] at e2
  have e3 := sw_ne h3; rw [show (3 : Int32).toInt = 3 from rfl] at e3
  omega
theorem sw_out4 {x : Int32} (h0 : ¬ x = 0) (h1 : ¬ x = 1) (h2 : ¬ x = 2) (h3 : ¬ x = 3) (h4 : ¬ x = 4) : x.toInt < 0 ∨ 4 < x.toInt := by
  have e0 := sw_ne h0; rw [show (0 : Int32).toInt = 0 from rfl] at e0
  have e1 := sw_ne h1; rw [show (1 : Int32).toInt = 1 from rfl] at e1
  have e2 := sw_ne h2; rw [show (2 : Int32).toInt = 2 from rfl] at e2
  have e3 := sw_ne h3; rw [show (3 : Int32).toInt = 3 from rfl] at e3
  have e4 := sw_ne h4; rw [show (4 : Int32).toInt = 4 from rfl] at e4
  omega
theorem sw_out6 {x : Int32} (h0 : ¬ x = 0) (h1 : ¬ x = 1) (h2 : ¬ x = 2) (h3 : ¬ x = 3) (h4 : ¬ x = 4) (h5 : ¬ x = 5) (h6 : ¬ x = 6) : x.toInt < 0 ∨ 6 < x.toInt := by
  have e0 := sw_ne h0; rw [show (0 : Int32).toInt = 0 from rfl] at e0
  have e1 := sw_ne h1; rw [show (1 : Int32).toInt = 1 from rfl] at e1
  have e2 := sw_ne h2; rw [show (2 : Int32).toInt = 2 from rfl] at e2
  have e3 := sw_ne h3; rw [show (3 : Int32).toInt = 3 from rfl] at e3
  have e4 := sw_ne h4; rw [show (4 : Int32).toInt = 4 from rfl] at e4
  have e5 := sw_ne h5; rw [show (5 : Int32).toInt = 5 from rfl] at e5
  have e6 := sw_ne h6; rw [show (6 : Int32).toInt = 6 from rfl] at e6
  omega
theorem sw_out9 {x : Int32} (h0 : ¬ x = 0) (h1 : ¬ x = 1) (h2 : ¬ x = 2) (h3 : ¬ x = 3) (h4 : ¬ x = 4) (h5 : ¬ x = 5) (h6 : ¬ x = 6) (h7 : ¬ x = 7) (h8 : ¬ x = 8) (h9 : ¬ x = 9) : x.toInt < 0 ∨ 9 < x.toInt := by
  have e0 := sw_ne h0; rw [show (0 : Int32).toInt = 0 from rfl] at e0
  have e1 := sw_ne h1; rw [show (1 : Int32).toInt = 1 from rfl] at e1
  have e2 := sw_ne h2; rw [show (2 : Int32).toInt = 2 from rfl] at e2
  have e3 := sw_ne h3; rw [show (3 : Int32).toInt = 3 from rfl] at e3
  have e4 := sw_ne h4; rw [show (4 : Int32).toInt = 4 from rfl] at e4
  have e5 := sw_ne h5; rw [show (5 : Int32).toInt = 5 from rfl] at e5
  have e6 := sw_ne h6; rw [show (6 : Int32).toInt = 6 from rfl] at e6
  have e7 := sw_ne h7; rw [show (7 : Int32).toInt = 7 from rfl] at e7
  have e8 := sw_ne h8; rw [show (8 : Int32).toInt = 8 from rfl] at e8
  have e9 := sw_ne h9; rw [show (9 : Int32).toInt = 9 from rfl] at e9
  omega
theorem sw_out11 {x : Int32} (h0 : ¬ x = 0) (h1 : ¬ x = 1) (h2 : ¬ x = 2) (h3 : ¬ x = 3) (h4 : ¬ x = 4) (h5 : ¬ x = 5) (h6 : ¬ x = 6) (h7 : ¬ x = 7) (h8 : ¬ x = 8) (h9 : ¬ x = 9) (h10 : ¬ x = 10) (h11 : ¬ x = 11) : x.toInt < 0 ∨ 11 < x.toInt := by
  have e0 := sw_ne h0; rw [show (0 : Int32).toInt = 0 from rfl] at e0
  have e1 := sw_ne h1; rw [show (1 : Int32).toInt = 1 from rfl] at e1
  have e2 := sw_ne h2; rw [show (2 : Int32).toInt = 2 from rfl] at e2
  have e3 := sw_ne h3; rw [show (3 : Int32).toInt = 3 from rfl] at e3
  have e4 := sw_ne h4; rw [show (4 : Int32).toInt = 4 from rfl] at e4
  have e5 := sw_ne h5; rw [show (5 : Int32).toInt = 5 from rfl] at e5
  have e6 := sw_ne h6; rw [show (6 : Int32).toInt = 6 from rfl] at e6
  have e7 := sw_ne h7; rw [show (7 : Int32).toInt = 7 from rfl] at e7
  have e8 := sw_ne h8; rw [show (8 : Int32).toInt = 8 from rfl] at e8
  have e9 := sw_ne h9; rw [show (9 : Int32).toInt = 9 from rfl] at e9
  have e10 := sw_ne h10; rw [show (10 : Int32).toInt = 10 from rfl] at e10
  have e11 := sw_ne h11; rw [show (11 : Int32).toInt = 11 from rfl] at e11
  omega
theorem jb0 {γ : Sort _} {f g : γ} (h : f = g) {y : γ} (hf : f = y) : g = y := h ▸ hf
theorem jb1 {α γ : Sort _} {f g : α → γ} (h : f = g) {a : α} {y : γ} (hf : f a = y) : g a = y := h ▸ hf
theorem jb2 {α β γ : Sort _} {f g : α → β → γ} (h : f = g) {a : α} {b : β} {y : γ} (hf : f a b = y) : g a b = y := h ▸ hf
theorem jb3 {α β δ γ : Sort _} {f g : α → β → δ → γ} (h : f = g) {a : α} {b : β} {d : δ} {y : γ} (hf : f a b d = y) : g a b d = y := h ▸ hf
theorem jb4 {α β δ ε γ : Sort _} {f g : α → β → δ → ε → γ} (h : f = g) {a : α} {b : β} {d : δ} {x : ε} {y : γ} (hf : f a b d x = y) : g a b d x = y := h ▸ hf
theorem so_e {α : Type _} {a b : α} (h : some a = some b) : b = a := (Option.some.inj h).symm
theorem sp_e {α β : Type _} {a c : α} {b d : β} (h : some (a, b) = some (c, d)) : c = a ∧ d = b := ⟨(congrArg Prod.fst (Option.some.inj h)).symm, (congrArg Prod.snd (Option.some.inj h)).symm⟩
theorem q2_e {α β : Type _} {a c : α} {b d : β} (h : (c, d) = (a, b)) : c = a ∧ d = b := ⟨congrArg Prod.fst h, congrArg Prod.snd h⟩
theorem q3_e {α β γ : Type _} {a c : α} {b d : β} {x y : γ} (h : (c, d, y) = (a, b, x)) : c = a ∧ d = b ∧ y = x := ⟨congrArg Prod.fst h, q2_e (congrArg Prod.snd h)⟩
theorem q4_e {α β γ δ : Type _} {a c : α} {b d : β} {x y : γ} {u v : δ} (h : (c, d, y, v) = (a, b, x, u)) : c = a ∧ d = b ∧ y = x ∧ v = u := ⟨congrArg Prod.fst h, q3_e (congrArg Prod.snd h)⟩
