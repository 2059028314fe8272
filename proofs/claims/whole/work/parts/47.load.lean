/-! part 47: load, where it succeeds -/
def brF (L Y g : Nat → Int32) (i q : Nat) : Int32 := if 78 ≤ q ∧ q < 78 + i then L (q - 78) else if 102 ≤ q ∧ q < 102 + i then Y (q - 102) else g q
theorem bars_run {τ : Nat → Nat → Int32} {n : Nat} {L Y g : Nat → Int32} (hn : n ≤ 24) (h9 : τ 183 9 = nI n) (hL : ∀ i, i < n → τ 188 i = L i ∧ τ 189 i = Y i) : lp b_X8_load_83 FU (0, ur τ 184 g) = some (ur τ 184 (brF L Y g n)) := by
  refine lp_run (fun i => (nI i, ur τ 184 (brF L Y g i))) n (by omega) (fun i hi => ?_) ?_ ?_
  · show b_X8_load_83 (nI i, _) = _
    rw [b_X8_load_83, ur_ne (by decide), h9, if_neg (nI_ge hi (by omega)), ix_nI (by omega) (by decide), ix_nI (by omega) (by decide), nI_clamp (by omega), ur_ne (by decide), ur_ne (by decide), (hL i hi).1, (hL i hi).2, make_spec (by omega), bi_some, vl_eq, nI_1, ur_ur, ur_at]
    refine congrArg (fun f => some (Sum.inl (nI (i + 1), ur τ 184 f))) (funext fun q => ?_)
    unfold upd brF
    by_cases e1 : q = 102 + i
    · subst e1
      rw [if_pos rfl, if_neg (by omega), if_pos (by omega), show 102 + i - 102 = i by omega]
    · rw [if_neg e1]
      by_cases e2 : q = 78 + i
      · subst e2
        rw [if_pos rfl, if_pos (by omega), show 78 + i - 78 = i by omega]
      · rw [if_neg e2]
        by_cases e3 : 78 ≤ q ∧ q < 78 + i
        · rw [if_pos e3, if_pos (by omega)]
        · rw [if_neg e3, if_neg (show ¬ (78 ≤ q ∧ q < 78 + (i + 1)) by omega)]
          by_cases e4 : 102 ≤ q ∧ q < 102 + i
          · rw [if_pos e4, if_pos (by omega)]
          · rw [if_neg e4, if_neg (by omega)]
  · show b_X8_load_83 (nI n, _) = _
    rw [b_X8_load_83, ur_ne (by decide), h9, if_pos (nI_le (Nat.le_refl n) (by omega))]
  · refine congrArg (fun f => (nI 0, ur τ 184 f)) (funext fun q => ?_)
    unfold brF
    rw [if_neg (by omega), if_neg (by omega)]
