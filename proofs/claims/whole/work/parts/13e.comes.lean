/-! a possible placement on the row -/
theorem sp_r {t s : Nat} {g : Nat → Int32} (hs : s < 12) (hS : takesAll s = false → g (49 + 3 * s) = 0) : (∀ k, k < 49 ∨ 85 ≤ k → G_sp t s g k = if k = 4 ∧ s = 10 then nI t else g k) ∧ ∀ x, x < 12 → G_sp t s g (49 + 3 * x) = (if x = s then 0 else g (49 + 3 * x)) ∧ G_sp t s g (50 + 3 * x) = (if x = s then g (50 + 3 * s) + 1 else g (50 + 3 * x)) ∧ G_sp t s g (51 + 3 * x) = (if x = s ∧ g (50 + 3 * s) = 0 then nI t else g (51 + 3 * x)) := by
  obtain ⟨g1, eg⟩ : ∃ g1, upd (if g (50 + 3 * s) = 0 then upd g (51 + 3 * s) (nI t) else g) (50 + 3 * s) (g (50 + 3 * s) + 1) = g1 := ⟨_, rfl⟩
  have gk (k : Nat) (hk : k < 49 ∨ 85 ≤ k) : g1 k = g k := by
    rw [← eg, upd_o (by omega)]
    split
    · exact upd_o (by omega)
    · rfl
  have g49 (x : Nat) (hx : x < 12) : g1 (49 + 3 * x) = g (49 + 3 * x) := by
    rw [← eg, upd_o (by omega)]
    split
    · exact upd_o (by omega)
    · rfl
  have g50 (x : Nat) (hx : x < 12) : g1 (50 + 3 * x) = if x = s then g (50 + 3 * s) + 1 else g (50 + 3 * x) := by
    rw [← eg]
    by_cases c : x = s
    · subst c
      rw [if_pos rfl, upd_s]
    · rw [if_neg c, upd_o (by omega)]
      split
      · exact upd_o (by omega)
      · rfl
  have g51 (x : Nat) (hx : x < 12) : g1 (51 + 3 * x) = if x = s ∧ g (50 + 3 * s) = 0 then nI t else g (51 + 3 * x) := by
    rw [← eg, upd_o (by omega)]
    by_cases c : g (50 + 3 * s) = 0
    · rw [if_pos c]
      by_cases d : x = s
      · subst d
        rw [if_pos ⟨rfl, c⟩, upd_s]
      · rw [if_neg (show ¬ (x = s ∧ g (50 + 3 * s) = 0) from fun w => d w.1), upd_o (by omega)]
    · rw [if_neg c, if_neg (show ¬ (x = s ∧ g (50 + 3 * s) = 0) from fun w => c w.2)]
  have T : G_sp t s g = G_tk t s g1 := by rw [← eg]; rfl
  have tk (k : Nat) : G_tk t s g1 k = if k = 4 ∧ s = 10 then nI t else if k = 49 + 3 * s then 0 else g1 k := by
    unfold G_tk
    by_cases c10 : s = 10
    · rw [if_pos c10]
      by_cases k4 : k = 4
      · subst k4
        rw [upd_s, if_pos ⟨rfl, c10⟩]
      · rw [upd_o k4, if_neg (show ¬ (k = 4 ∧ s = 10) from fun w => k4 w.1)]
        by_cases k49 : k = 49 + 3 * s
        · rw [if_pos k49, k49, g49 s hs, hS (by rw [c10]; decide)]
        · rw [if_neg k49]
    · rw [if_neg c10, if_neg (show ¬ (k = 4 ∧ s = 10) from fun w => c10 w.2)]
      by_cases tt : takesAll s = true
      · rw [if_pos tt]
        by_cases k49 : k = 49 + 3 * s
        · rw [if_pos k49, k49, upd_s]
        · rw [if_neg k49, upd_o k49]
      · rw [if_neg tt]
        by_cases k49 : k = 49 + 3 * s
        · rw [if_pos k49, k49, g49 s hs]
          exact hS (by cases w : takesAll s; rfl; exact absurd w tt)
        · rw [if_neg k49]
  refine ⟨fun k hk => ?_, fun x hx => ⟨?_, ?_, ?_⟩⟩
  · rw [T, tk, gk k hk, if_neg (by omega : ¬ k = 49 + 3 * s)]
  · rw [T, tk, if_neg (by omega)]
    by_cases e : x = s
    · rw [if_pos e, if_pos (by omega)]
    · rw [if_neg e, if_neg (by omega), g49 x hx]
  · rw [T, tk, if_neg (by omega), if_neg (by omega), g50 x hx]
  · rw [T, tk, if_neg (by omega), if_neg (by omega), g51 x hx]
