/-! the search's trial against the model's row -/
def TR (gT g : Nat → Int32) : Prop := (∀ k, k < 4 → gT k = g k) ∧ (∀ p, p < 4 → mp gT p = mp g p) ∧ ∀ s, s < 12 → gT (50 + 3 * s) = g (50 + 3 * s) ∧ ∀ k, g (50 + 3 * s) = nI k → k < plN s → gT (49 + 3 * s) = g (49 + 3 * s)
theorem mown_ext {g g' : Nat → Int32} {b : Int32} : ∀ (d p : Nat) (x : Int32), p + d ≤ 4 → (∀ p, p < 4 → mp g' p = mp g p) → mown g' b d p x = mown g b d p x
  | 0, _, _, _, _ => rfl
  | d + 1, p, x, h, e => by
    show mown g' b d (p + 1) (if bI (P_has (mp g' p) b) = 0 then x else nI p) = mown g b d (p + 1) (if bI (P_has (mp g p) b) = 0 then x else nI p)
    rw [e p (by omega), mown_ext d (p + 1) _ (by omega) e]
theorem why_ext {n t s : Nat} {gT g : Nat → Int32} {c : Int32} (hn : n ≤ 4) (ht : t < 4) (hs : s < 12) (tr : TR gT g) : G_why n t gT s c = G_why n t g s c := by
  obtain ⟨t1, t2, t3⟩ := tr
  have o : G_own n gT c = G_own n g c := mown_ext n 0 (-1) (by omega) t2
  unfold G_why G_over G_can
  rw [t1 2 (by decide), t1 1 (by decide), (t3 s hs).1, t2 t ht, o]
theorem ok_ext {n t k : Nat} {gT g : Nat → Int32} (hn : n ≤ 4) (ht : t < 4) (hk : k < 300) (tr : TR gT g) : G_ok n t gT k = G_ok n t g k := by
  unfold G_ok
  rw [why_ext hn ht (by omega) tr]
theorem okfrom_ext {n t : Nat} {gT g : Nat → Int32} (hn : n ≤ 4) (ht : t < 4) (tr : TR gT g) : ∀ (d k : Nat), k + d ≤ 300 → okfrom n t gT d k = okfrom n t g d k
  | 0, _, _ => rfl
  | d + 1, k, h => by
    show (if G_ok n t gT k = true then k :: okfrom n t gT d (k + 1) else okfrom n t gT d (k + 1)) = (if G_ok n t g k = true then k :: okfrom n t g d (k + 1) else okfrom n t g d (k + 1))
    rw [ok_ext hn ht (by omega) tr, okfrom_ext hn ht tr d (k + 1) (by omega)]
def C_step (t s : Nat) (c : Int32) (gT : Nat → Int32) : Nat → Int32 := ps (upd gT (50 + 3 * s) (gT (50 + 3 * s) + 1)) t (P_act s c (gT (49 + 3 * s)) (mp gT t))
theorem TR_refl (g : Nat → Int32) : TR g g := ⟨fun _ _ => rfl, fun _ _ => rfl, fun _ _ => ⟨rfl, fun _ _ _ => rfl⟩⟩
theorem takes_1 {s : Nat} (h : takesAll s = true) : plN s = 1 := by
  unfold takesAll at h
  by_cases c0 : s = 0
  · subst c0; decide
  by_cases c1 : s = 1
  · subst c1; decide
  by_cases c3 : s = 3
  · subst c3; decide
  by_cases c5 : s = 5
  · subst c5; decide
  rw [if_neg c0, if_neg c1, if_neg c3, if_neg c5] at h
  cases h
theorem TR_step {t s j k : Nat} {gT g : Nat → Int32} (ht : t < 4) (hs : s < 12) (hj : j < 25) (hl : takesAll s = false → g (49 + 3 * s) = 0) (h50 : g (50 + 3 * s) = nI k) (hk : k < plN s) (tr : TR gT g) : TR (C_step t s (nI j) gT) (G_comes t s (nI j) g) := by
  obtain ⟨t1, t2, t3⟩ := tr
  have R := sp_r (t := t) (g := g) hs hl
  have lie : gT (49 + 3 * s) = g (49 + 3 * s) := (t3 s hs).2 k h50 hk
  have cr : Cut (P_act s (nI j) (g (49 + 3 * s)) (mp g t)) := cut_act hj (mp_cut _ _)
  have pl2 := (pl_v hs).2.2
  refine ⟨fun i hi => ?_, fun p hp => ?_, fun x hx => ?_⟩
  · unfold C_step
    rw [comes_lo hi, ps_lo (by omega), upd_o (by omega), t1 i hi]
  · unfold C_step G_comes
    rw [lie, t2 t ht]
    by_cases e : p = t
    · subst e
      rw [mp_ps_s cr, mp_ps_s cr]
    · rw [mp_ps_o e, mp_ps_o e, mp_hi hp (by omega), t2 p hp]
      funext y
      unfold mp
      by_cases c : y < 11
      · rw [if_pos c, if_pos c, R.1 _ (by omega), if_neg (by omega)]
      · rw [if_neg c, if_neg c]
  · have a1 : C_step t s (nI j) gT (50 + 3 * x) = if x = s then g (50 + 3 * s) + 1 else g (50 + 3 * x) := by
      unfold C_step
      rw [ps_hi ht (by omega)]
      by_cases e : x = s
      · subst e
        rw [upd_s, if_pos rfl, (t3 x hx).1]
      · rw [upd_o (by omega), if_neg e, (t3 x hx).1]
    have a2 : G_comes t s (nI j) g (50 + 3 * x) = if x = s then g (50 + 3 * s) + 1 else g (50 + 3 * x) := by
      unfold G_comes
      rw [ps_hi ht (by omega), (R.2 x hx).2.1]
    have a3 : C_step t s (nI j) gT (49 + 3 * x) = gT (49 + 3 * x) := by
      unfold C_step
      rw [ps_hi ht (by omega), upd_o (by omega)]
    have a4 : G_comes t s (nI j) g (49 + 3 * x) = if x = s then 0 else g (49 + 3 * x) := by
      unfold G_comes
      rw [ps_hi ht (by omega), (R.2 x hx).1]
    rw [a1, a2, a3, a4]
    refine ⟨rfl, fun k' e' hk' => ?_⟩
    by_cases e : x = s
    · subst e
      rw [if_pos rfl] at e' ⊢
      rw [h50, nI_1] at e'
      have : k + 1 = k' ∨ ¬ k' < 2147483648 := by
        by_cases b : k' < 2147483648
        · exact Or.inl ((nI_eq (by omega) b).mp e')
        · exact Or.inr b
      cases w : takesAll x with
      | false => rw [lie, hl w]
      | true =>
        have := takes_1 w
        omega
    · rw [if_neg e] at e' ⊢
      exact (t3 x hx).2 k' e' hk'
