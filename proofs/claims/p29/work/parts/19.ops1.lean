/-! part 19: the simple actions, and the text -/
theorem color_no {a : Int32} (h : a < nI 0 ∨ nI 9 < a) (σ : Nat → Nat → Int32) : f_X7_isColor a σ = some 0 := by
  rw [f_X7_isColor, show f_X7_isBetween a 0 9 σ = some 0 from btw_no h σ, bi_some]
theorem color_yes {a : Int32} (h1 : ¬ a < nI 0) (h2 : ¬ nI 9 < a) (σ : Nat → Nat → Int32) : f_X7_isColor a σ = some 1 := by
  rw [f_X7_isColor, show f_X7_isBetween a 0 9 σ = some 1 from btw_yes h1 h2 σ, bi_some]
/-- a place of a list that is told by its count: o's number at place k, one below it -/
theorem has_no {a : Int32} {N : Nat} (h : a < 0 ∨ nI N - 1 < a) {x : Int32} (hx : x = nI N) (σ : Nat → Nat → Int32) : f_X7_isBetween a 0 (x - 1) σ = some 0 := by rw [hx]; exact btw_no h σ
theorem has_yes {a : Int32} {N : Nat} (h1 : ¬ a < 0) (h2 : ¬ nI N - 1 < a) {x : Int32} (hx : x = nI N) (σ : Nat → Nat → Int32) : f_X7_isBetween a 0 (x - 1) σ = some 1 := by rw [hx]; exact btw_yes h1 h2 σ
theorem lift_no {a : Int32} {S : Nat} (h : a < 0 ∨ ((1 : Int32) <<< (nI S &&& 31)) - 1 < a) {x : Int32} (hx : x = nI S) (σ : Nat → Nat → Int32) : f_X7_isBetween a 0 ((1 <<< (x &&& 31)) - 1) σ = some 0 := by rw [hx]; exact btw_no h σ
theorem lift_yes {a : Int32} {S : Nat} (h1 : ¬ a < 0) (h2 : ¬ ((1 : Int32) <<< (nI S &&& 31)) - 1 < a) {x : Int32} (hx : x = nI S) (σ : Nat → Nat → Int32) : f_X7_isBetween a 0 ((1 <<< (x &&& 31)) - 1) σ = some 1 := by rw [hx]; exact btw_yes h1 h2 σ
theorem n10 : ¬ (1 : Int32) = 0 := by decide
