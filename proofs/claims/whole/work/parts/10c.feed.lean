/-! a player's end of round, score and rank; what a player's methods leave alone -/
theorem hset_id (h : HH) (q k : Nat) : hset h q k (h q k) = h := by
  rw [hset_row]
  have : upd (h q) k (h q k) = h q := by
    funext j
    unfold upd
    split
    · rename_i e; rw [e]
    · rfl
  rw [this, hrow_self]
theorem hset_hset (h : HH) (q k : Nat) (v w : Int32) : hset (hset h q k v) q k w = hset h q k w := by
  rw [hset_row, hset_row, hrow_s, hrow_hrow, upd_u]
  rfl
theorem P_has_ext {r r' : Nat → Int32} (h : r' 10 = r 10) (b : Int32) : P_has r' b = P_has r b := by
  unfold P_has
  rw [h]
theorem P_worth_v (r : Nat → Int32) : P_worth r = 2 ∨ P_worth r = 4 := by
  unfold P_worth
  split
  · exact Or.inl rfl
  · exact Or.inr rfl
theorem t2 : ((2 : Int32)).toInt = 2 := rfl
theorem t4 : ((4 : Int32)).toInt = 4 := rfl
theorem t0 : ((0 : Int32)).toInt = 0 := rfl
theorem t1 : ((1 : Int32)).toInt = 1 := rfl
theorem t3 : ((3 : Int32)).toInt = 3 := rfl
theorem t5 : ((5 : Int32)).toInt = 5 := rfl
theorem tm1 : ((-1 : Int32)).toInt = -1 := rfl
theorem tm3 : ((-3 : Int32)).toInt = -3 := rfl
theorem i_need {B : Int} {r : Nat → Int32} (hr : PI B r) : (P_need r).toInt = 2 * (r 5).toInt - (r 6).toInt ∧ 2 ≤ (P_need r).toInt ∧ (P_need r).toInt ≤ 10 := by
  obtain ⟨_, h5, h6, _⟩ := hr
  have e1 : (2 * r 5).toInt = 2 * (r 5).toInt := by
    have := ti_mul (x := 2) (y := r 5) (by rw [t2]; omega) (by rw [t2]; omega)
    rw [t2] at this; exact this
  have e2 : (P_need r).toInt = 2 * (r 5).toInt - (r 6).toInt := by
    unfold P_need
    rw [ti_sub (by rw [e1]; omega) (by rw [e1]; omega), e1]
  exact ⟨e2, by omega, by omega⟩
/-- the numbers of a feeding, as integers -/
theorem i_feed {B : Int} {r : Nat → Int32} (hB : B ≤ 100000000) (hr : PI B r) :
    (P_grain r).toInt = (if 0 ≤ (P_need r).toInt - (r 4).toInt then (if (r 2).toInt ≤ (P_need r).toInt - (r 4).toInt then (r 2).toInt else (P_need r).toInt - (r 4).toInt) else 0)
    ∧ (P_need r - r 4 - P_grain r).toInt = (P_need r).toInt - (r 4).toInt - (P_grain r).toInt
    ∧ (P_sheep r).toInt = (if (r 3).toInt ≤ (if 0 < (P_need r).toInt - (r 4).toInt - (P_grain r).toInt then ((P_need r).toInt - (r 4).toInt - (P_grain r).toInt + (P_worth r).toInt - 1) / (P_worth r).toInt else 0) then (r 3).toInt else (if 0 < (P_need r).toInt - (r 4).toInt - (P_grain r).toInt then ((P_need r).toInt - (r 4).toInt - (P_grain r).toInt + (P_worth r).toInt - 1) / (P_worth r).toInt else 0))
    ∧ (P_miss r).toInt = (if 0 ≤ (P_need r).toInt - (r 4).toInt - (P_grain r).toInt - (P_worth r).toInt * (P_sheep r).toInt then (P_need r).toInt - (r 4).toInt - (P_grain r).toInt - (P_worth r).toInt * (P_sheep r).toInt else 0)
    ∧ (P_food r).toInt = (r 4).toInt + (P_grain r).toInt + (P_worth r).toInt * (P_sheep r).toInt + (P_miss r).toInt - (P_need r).toInt := by
  obtain ⟨hn, hn1, hn2⟩ := i_need hr
  have h2 := hr.1 2 (by decide)
  have h3 := hr.1 3 (by decide)
  have h4 := hr.1 4 (by decide)
  have e1 : (P_need r - r 4).toInt = (P_need r).toInt - (r 4).toInt := ti_sub (by omega) (by omega)
  have e2 : (P_grain r).toInt = (if 0 ≤ (P_need r).toInt - (r 4).toInt then (if (r 2).toInt ≤ (P_need r).toInt - (r 4).toInt then (r 2).toInt else (P_need r).toInt - (r 4).toInt) else 0) := by
    unfold P_grain
    simp only [ti_le, e1, t0]
    split
    · split
      · rfl
      · exact e1
    · rfl
  have b2 : 0 ≤ (P_grain r).toInt ∧ (P_grain r).toInt ≤ 10 := by rw [e2]; split <;> (try split) <;> omega
  have e3 : (P_need r - r 4 - P_grain r).toInt = (P_need r).toInt - (r 4).toInt - (P_grain r).toInt := by
    rw [ti_sub (by omega) (by omega), e1]
  have hw : (P_worth r).toInt = 2 ∨ (P_worth r).toInt = 4 := by
    rcases P_worth_v r with e | e <;> rw [e]
    · exact Or.inl rfl
    · exact Or.inr rfl
  have e4 : ((P_need r - r 4 - P_grain r + P_worth r - 1) / P_worth r).toInt = if 0 ≤ (P_need r).toInt - (r 4).toInt - (P_grain r).toInt then ((P_need r).toInt - (r 4).toInt - (P_grain r).toInt + (P_worth r).toInt - 1) / (P_worth r).toInt else ((P_need r - r 4 - P_grain r + P_worth r - 1) / P_worth r).toInt := by
    by_cases c : 0 ≤ (P_need r).toInt - (r 4).toInt - (P_grain r).toInt
    · rw [if_pos c]
      have q1 : (P_need r - r 4 - P_grain r + P_worth r).toInt = (P_need r).toInt - (r 4).toInt - (P_grain r).toInt + (P_worth r).toInt := by
        rw [ti_add (by omega) (by omega), e3]
      have q2 : (P_need r - r 4 - P_grain r + P_worth r - 1).toInt = (P_need r).toInt - (r 4).toInt - (P_grain r).toInt + (P_worth r).toInt - 1 := by
        rw [ti_sub (by rw [t1]; omega) (by rw [t1]; omega), q1, t1]
      rw [ti_div (by omega) (by omega), q2]
    · rw [if_neg c]
  have e5 : (P_sheep r).toInt = (if (r 3).toInt ≤ (if 0 < (P_need r).toInt - (r 4).toInt - (P_grain r).toInt then ((P_need r).toInt - (r 4).toInt - (P_grain r).toInt + (P_worth r).toInt - 1) / (P_worth r).toInt else 0) then (r 3).toInt else (if 0 < (P_need r).toInt - (r 4).toInt - (P_grain r).toInt then ((P_need r).toInt - (r 4).toInt - (P_grain r).toInt + (P_worth r).toInt - 1) / (P_worth r).toInt else 0)) := by
    unfold P_sheep
    simp only [ti_le, ti_lt, e3, t0]
    by_cases c : 0 < (P_need r).toInt - (r 4).toInt - (P_grain r).toInt
    · simp only [if_pos c]
      rw [if_pos (by omega)] at e4
      rw [e4]
      split
      · rfl
      · exact e4
    · simp only [if_neg c, t0]
      split <;> rfl
  have b5 : 0 ≤ (P_sheep r).toInt ∧ (P_sheep r).toInt ≤ 10 := by
    rw [e5]
    rcases hw with w | w <;> rw [w] <;> split <;> (try split) <;> omega
  have e6 : (P_worth r * P_sheep r).toInt = (P_worth r).toInt * (P_sheep r).toInt := by
    rcases hw with w | w <;> exact ti_mul (by rw [w]; omega) (by rw [w]; omega)
  have e7 : (P_need r - r 4 - P_grain r - P_worth r * P_sheep r).toInt = (P_need r).toInt - (r 4).toInt - (P_grain r).toInt - (P_worth r).toInt * (P_sheep r).toInt := by
    rcases hw with w | w <;> rw [ti_sub (by rw [e6, w]; omega) (by rw [e6, w]; omega), e6, e3]
  have e8 : (P_miss r).toInt = (if 0 ≤ (P_need r).toInt - (r 4).toInt - (P_grain r).toInt - (P_worth r).toInt * (P_sheep r).toInt then (P_need r).toInt - (r 4).toInt - (P_grain r).toInt - (P_worth r).toInt * (P_sheep r).toInt else 0) := by
    unfold P_miss
    simp only [ti_le, e7, t0]
    split
    · exact e7
    · rfl
  have b8 : 0 ≤ (P_miss r).toInt ∧ (P_miss r).toInt ≤ 10 := by
    rw [e8]
    rcases hw with w | w <;> rw [w] <;> split <;> omega
  refine ⟨e2, e3, e5, e8, ?_⟩
  unfold P_food
  have g1 : (r 4 + P_grain r).toInt = (r 4).toInt + (P_grain r).toInt := ti_add (by omega) (by omega)
  have g2 : (r 4 + P_grain r + P_worth r * P_sheep r).toInt = (r 4).toInt + (P_grain r).toInt + (P_worth r).toInt * (P_sheep r).toInt := by
    rcases hw with w | w <;> rw [ti_add (by rw [g1, e6, w]; omega) (by rw [g1, e6, w]; omega), g1, e6]
  have g3 : (r 4 + P_grain r + P_worth r * P_sheep r + P_miss r).toInt = (r 4).toInt + (P_grain r).toInt + (P_worth r).toInt * (P_sheep r).toInt + (P_miss r).toInt := by
    rcases hw with w | w <;> rw [ti_add (by rw [g2, w]; omega) (by rw [g2, w]; omega), g2]
  rcases hw with w | w <;> rw [ti_sub (by rw [g3, w]; omega) (by rw [g3, w]; omega), g3]
theorem c_missing {B : Int} (hB : B ≤ 100000000) (a : Nat) (h : HH) (hr : PI B (pv a h)) : fX2_foodMissing a h = P_miss (pv a h) := by
  obtain ⟨e1, e2, e3, e4, _⟩ := i_feed hB hr
  obtain ⟨hn, hn1, hn2⟩ := i_need hr
  have h2 := hr.1 2 (by decide)
  have h3 := hr.1 3 (by decide)
  have h4 := hr.1 4 (by decide)
  have q : fX2_foodMissing a h = jmax 0 (P_need (pv a h) - ((pv a h 4 + pv a h 2) + (pv a h 3 * P_worth (pv a h)))) := by
    show (if bI (fX2_has a 3 h) = 0 then _ else _) = _
    rw [c_has]
    unfold P_worth
    split <;> rfl
  rw [q]
  refine ti_eq ?_
  generalize pv a h = r at *
  have hw : (P_worth r).toInt = 2 ∨ (P_worth r).toInt = 4 := by
    rcases P_worth_v r with e | e <;> rw [e]
    · exact Or.inl rfl
    · exact Or.inr rfl
  have m1 : (r 4 + r 2).toInt = (r 4).toInt + (r 2).toInt := ti_add (by omega) (by omega)
  have m2 : (r 3 * P_worth r).toInt = (r 3).toInt * (P_worth r).toInt := by
    rcases hw with w | w <;> exact ti_mul (by rw [w]; omega) (by rw [w]; omega)
  have m3 : (r 4 + r 2 + r 3 * P_worth r).toInt = (r 4).toInt + (r 2).toInt + (r 3).toInt * (P_worth r).toInt := by
    rcases hw with w | w <;> rw [ti_add (by rw [m1, m2, w]; omega) (by rw [m1, m2, w]; omega), m1, m2]
  have m4 : (P_need r - (r 4 + r 2 + r 3 * P_worth r)).toInt = (P_need r).toInt - ((r 4).toInt + (r 2).toInt + (r 3).toInt * (P_worth r).toInt) := by
    rcases hw with w | w <;> rw [ti_sub (by rw [m3, w]; omega) (by rw [m3, w]; omega), m3]
  rw [ti_jmax, m4, t0, e4]
  generalize (P_grain r).toInt = G at *
  generalize (P_sheep r).toInt = S at *
  by_cases c : 0 < (P_need r).toInt - (r 4).toInt - G
  · simp only [if_pos c] at e3
    rcases hw with w | w <;> rw [w] at e3 m2 m3 m4 ⊢ <;> (split at e1 <;> (try split at e1) <;> split at e3 <;> split <;> split <;> omega)
  · simp only [if_neg c] at e3
    rcases hw with w | w <;> rw [w] at m2 m3 m4 ⊢ <;> (split at e1 <;> (try split at e1) <;> split at e3 <;> split <;> split <;> omega)
/-- the loop that takes sheep -/
theorem c_loop (a : Nat) (w : Int32) (hw : w.toInt = 2 ∨ w.toInt = 4) : ∀ (n : Nat) (d : Int32) (h : HH), -4 ≤ d.toInt → d.toInt ≤ 10 → d.toInt ≤ 2 * (n : Int) → 0 ≤ (h (a + 1) 3).toInt →
    ∃ d' v : Int32, fX2_feed_c70 a (n + 1) d w h = fX2_feed_c101 a d' (hset h (a + 1) 3 v) ∧ sX2_feed_c70 a (n + 1) d w h
      ∧ v.toInt = (h (a + 1) 3).toInt - (if (h (a + 1) 3).toInt ≤ (if 0 < d.toInt then (d.toInt + w.toInt - 1) / w.toInt else 0) then (h (a + 1) 3).toInt else (if 0 < d.toInt then (d.toInt + w.toInt - 1) / w.toInt else 0))
      ∧ d'.toInt = d.toInt - w.toInt * (if (h (a + 1) 3).toInt ≤ (if 0 < d.toInt then (d.toInt + w.toInt - 1) / w.toInt else 0) then (h (a + 1) 3).toInt else (if 0 < d.toInt then (d.toInt + w.toInt - 1) / w.toInt else 0)) := by
  intro n
  induction n with
  | zero =>
    intro d h h1 h2 h3 h4
    have c : d ≤ 0 := ti_le.mpr (by rw [t0]; omega)
    refine ⟨d, h (a + 1) 3, ?_, ⟨fun _ => trivial, fun q => absurd c q⟩, ?_, ?_⟩
    · rw [hset_id]
      exact if_pos c
    · rcases hw with e | e <;> rw [e] <;> split <;> (try split) <;> omega
    · rcases hw with e | e <;> rw [e] <;> split <;> (try split) <;> omega
  | succ n ih =>
    intro d h h1 h2 h3 h4
    by_cases c : d ≤ 0
    · have c' := ti_le.mp c
      rw [t0] at c'
      refine ⟨d, h (a + 1) 3, ?_, ⟨fun _ => trivial, fun q => absurd c q⟩, ?_, ?_⟩
      · rw [hset_id]
        exact if_pos c
      · rcases hw with e | e <;> rw [e] <;> split <;> (try split) <;> omega
      · rcases hw with e | e <;> rw [e] <;> split <;> (try split) <;> omega
    · have c' : ¬ d.toInt ≤ 0 := fun q => c (ti_le.mpr (by rw [t0]; exact q))
      by_cases c2 : h (a + 1) 3 ≤ 0
      · have c2' := ti_le.mp c2
        rw [t0] at c2'
        refine ⟨d, h (a + 1) 3, ?_, ⟨fun q => absurd q c, fun _ => ⟨fun _ => trivial, fun q => absurd c2 q⟩⟩, ?_, ?_⟩
        · rw [hset_id]
          exact (if_neg c).trans (if_pos c2)
        · rcases hw with e | e <;> rw [e] <;> split <;> (try split) <;> omega
        · rcases hw with e | e <;> rw [e] <;> split <;> (try split) <;> omega
      · have c2' : ¬ (h (a + 1) 3).toInt ≤ 0 := fun q => c2 (ti_le.mpr (by rw [t0]; exact q))
        have u1 : (d - w).toInt = d.toInt - w.toInt := by rcases hw with e | e <;> exact ti_sub (by omega) (by omega)
        have u2 : (h (a + 1) 3 - 1).toInt = (h (a + 1) 3).toInt - 1 := by
          have := (h (a + 1) 3).toInt_lt
          rw [ti_sub (by rw [t1]; omega) (by rw [t1]; omega), t1]
        have u3 : hset h (a + 1) 3 (h (a + 1) 3 - 1) (a + 1) 3 = h (a + 1) 3 - 1 := by rw [hset_s, upd_s]
        obtain ⟨d', v, i1, i2, i3, i4⟩ := ih (d - w) (hset h (a + 1) 3 (h (a + 1) 3 - 1)) (by omega) (by omega) (by omega) (by rw [u3]; omega)
        rw [u3, u2, u1] at i3 i4
        refine ⟨d', v, ?_, ⟨fun q => absurd q c, fun _ => ⟨fun q => absurd q c2, fun _ => i2⟩⟩, ?_, ?_⟩
        · rw [hset_hset] at i1
          exact ((if_neg c).trans (if_neg c2)).trans i1
        · rw [i3]
          rcases hw with e | e <;> rw [e] <;> rw [e] at i3 i4 <;> (split <;> (try split) <;> (try split) <;> (try split) <;> omega)
        · rw [i4]
          rcases hw with e | e <;> rw [e] <;> rw [e] at i3 i4 <;> (split <;> (try split) <;> (try split) <;> (try split) <;> omega)

theorem jmin_le {x y : Int32} : (jmin x y).toInt ≤ x.toInt ∧ (jmin x y).toInt ≤ y.toInt ∧ ((jmin x y).toInt = x.toInt ∨ (jmin x y).toInt = y.toInt) := by
  rw [ti_jmin]
  split <;> omega
/-- feeding and breeding -/
theorem c_feed {B : Int} (hB : B ≤ 100000000) (a : Nat) (h : HH) (hr : PI B (pv a h)) : pv a (fX2_breed a (fX2_feed a h)) = P_feed (pv a h) ∧ sX2_feed a h := by
  obtain ⟨e1, e2, e3, e4, e5⟩ := i_feed hB hr
  obtain ⟨hn, hn1, hn2⟩ := i_need hr
  have h2 := hr.1 2 (by decide)
  have h3 := hr.1 3 (by decide)
  have h4 := hr.1 4 (by decide)
  have h9 := hr.2.2.2.2.2.1
  obtain ⟨r, er⟩ : ∃ r, pv a h = r := ⟨_, rfl⟩
  rw [er] at e1 e2 e3 e4 e5 hn hn1 hn2 h2 h3 h4 h9 ⊢
  have hw : (P_worth r).toInt = 2 ∨ (P_worth r).toInt = 4 := by
    rcases P_worth_v r with e | e <;> rw [e]
    · exact Or.inl rfl
    · exact Or.inr rfl
  obtain ⟨m, em⟩ : ∃ m, jmin (P_need r) (r 4) = m := ⟨_, rfl⟩
  obtain ⟨x, ex⟩ : ∃ x, P_need r - m = x := ⟨_, rfl⟩
  obtain ⟨h1, eh1⟩ : ∃ h1, hset h (a + 1) 4 (r 4 - m) = h1 := ⟨_, rfl⟩
  have p1 : pv a h1 = upd r 4 (r 4 - m) := by rw [← eh1, pv_setG (by decide), er]
  obtain ⟨g, eg⟩ : ∃ g, jmin x (r 2) = g := ⟨_, rfl⟩
  obtain ⟨hh2, eh2⟩ : ∃ hh2, hset h1 (a + 1) 2 (r 2 - g) = hh2 := ⟨_, rfl⟩
  have p2 : pv a hh2 = upd (upd r 4 (r 4 - m)) 2 (r 2 - g) := by rw [← eh2, pv_setG (by decide), p1]
  have s3 : hh2 (a + 1) 3 = r 3 := by
    rw [pv_G a hh2 (by decide), p2]
    rfl
  have im := jmin_le (x := P_need r) (y := r 4)
  rw [em] at im
  have ixx : x.toInt = (P_need r).toInt - m.toInt := by rw [← ex]; exact ti_sub (by omega) (by omega)
  have ig := jmin_le (x := x) (y := r 2)
  rw [eg] at ig
  have ixg : (x - g).toInt = (P_need r).toInt - m.toInt - g.toInt := by rw [ti_sub (by omega) (by omega), ixx]
  have hG : g.toInt = (P_grain r).toInt := by
    rw [e1]
    split
    · split <;> omega
    · omega
  obtain ⟨d', v, f1, f2, f3, f4⟩ := c_loop a (P_worth r) hw 11 (x - g) hh2 (by omega) (by omega) (by omega) (by rw [s3]; omega)
  have A : fX2_feed a h = fX2_feed_c101 a d' (hset hh2 (a + 1) 3 v) ∧ sX2_feed a h := by
    have q1 : fX2_feed a h = fX2_feed_c57 a (x - g) 3 hh2 := by
      show fX2_feed_c36 a (fX2_foodNeeded a h - jmin (fX2_foodNeeded a h) (h (a + 1) 4)) 2 (fX2_foodNeeded a h - jmin (fX2_foodNeeded a h) (h (a + 1) 4)) (hset h (a + 1) 4 (h (a + 1) 4 - jmin (fX2_foodNeeded a h) (h (a + 1) 4))) = _
      rw [c_need, pv_G a h (by decide : 4 < 5), er, em, ex, eh1]
      show fX2_feed_c57 a (x - jmin x (h1 (a + 1) 2)) 3 (hset h1 (a + 1) 2 (h1 (a + 1) 2 - jmin x (h1 (a + 1) 2))) = _
      rw [pv_G a h1 (by decide : 2 < 5), p1, upd_o (by decide), eg, eh2]
    have q1s : sX2_feed a h ↔ sX2_feed_c57 a (x - g) 3 hh2 := by
      show (sX2_feed_c36 a (fX2_foodNeeded a h - jmin (fX2_foodNeeded a h) (h (a + 1) 4)) 2 (fX2_foodNeeded a h - jmin (fX2_foodNeeded a h) (h (a + 1) 4)) (hset h (a + 1) 4 (h (a + 1) 4 - jmin (fX2_foodNeeded a h) (h (a + 1) 4)))) ↔ _
      rw [c_need, pv_G a h (by decide : 4 < 5), er, em, ex, eh1]
      show (vp_in 2 5 ∧ sX2_feed_c57 a (x - jmin x (h1 (a + 1) 2)) 3 (hset h1 (a + 1) 2 (h1 (a + 1) 2 - jmin x (h1 (a + 1) 2)))) ↔ _
      rw [pv_G a h1 (by decide : 2 < 5), p1, upd_o (by decide), eg, eh2]
      exact ⟨fun q => q.2, fun q => ⟨vpd (by decide), q⟩⟩
    have q2 : P_has (pv a hh2) 3 = P_has r 3 := P_has_ext (by rw [p2]; rfl) 3
    rw [q1, q1s]
    unfold fX2_feed_c57 sX2_feed_c57
    rw [c_has, q2]
    unfold P_worth at f1 f2
    by_cases c : bI (P_has r 3) = 0
    · rw [if_pos c] at f1 f2
      rw [if_pos c]
      exact ⟨f1, fun _ => f2, fun q => absurd c q⟩
    · rw [if_neg c] at f1 f2
      rw [if_neg c]
      exact ⟨f1, fun q => absurd q c, fun _ => f2⟩
  refine ⟨?_, A.2⟩
  rw [A.1]
  rw [s3, ixg] at f3 f4
  have hS : v.toInt = (r 3).toInt - (P_sheep r).toInt := by
    rw [f3, e3, ← hG]
    generalize g.toInt = G at *
    have : (P_need r).toInt - m.toInt - G = (P_need r).toInt - (r 4).toInt - G ∨ ((P_need r).toInt - m.toInt - G ≤ 0 ∧ (P_need r).toInt - (r 4).toInt - G ≤ 0) := by omega
    rcases this with e | ⟨e, e'⟩
    · rw [e]
    · rw [if_neg (by omega : ¬ 0 < (P_need r).toInt - m.toInt - G), if_neg (by omega : ¬ 0 < (P_need r).toInt - (r 4).toInt - G)]
  have hD : d'.toInt = (P_need r).toInt - m.toInt - g.toInt - (P_worth r).toInt * (P_sheep r).toInt := by
    rw [f3] at hS
    generalize (if (r 3).toInt ≤ (if 0 < (P_need r).toInt - m.toInt - g.toInt then ((P_need r).toInt - m.toInt - g.toInt + (P_worth r).toInt - 1) / (P_worth r).toInt else 0) then (r 3).toInt else (if 0 < (P_need r).toInt - m.toInt - g.toInt then ((P_need r).toInt - m.toInt - g.toInt + (P_worth r).toInt - 1) / (P_worth r).toInt else 0)) = K at *
    have : K = (P_sheep r).toInt := by omega
    rw [f4, this]
  have bS : 0 ≤ (P_sheep r).toInt ∧ (P_sheep r).toInt ≤ (r 3).toInt ∧ (P_sheep r).toInt ≤ 10 ∧ (P_worth r).toInt * (P_sheep r).toInt ≤ 20 := by
    rw [e3]
    by_cases c : 0 < (P_need r).toInt - (r 4).toInt - (P_grain r).toInt
    · rw [if_pos c]
      rcases hw with w | w <;> rw [w] <;> split <;> omega
    · rw [if_neg c]
      rcases hw with w | w <;> rw [w] <;> split <;> omega
  have bG : 0 ≤ (P_grain r).toInt := by omega
  have vS : v = r 3 - P_sheep r := ti_eq (by rw [hS, ti_sub (by omega) (by omega)])
  have vG : g = P_grain r := ti_eq hG
  obtain ⟨h5, eh5⟩ : ∃ h5, hset hh2 (a + 1) 3 v = h5 := ⟨_, rfl⟩
  have p5 : pv a h5 = upd (upd (upd r 4 (r 4 - m)) 2 (r 2 - P_grain r)) 3 (r 3 - P_sheep r) := by rw [← eh5, pv_setG (by decide), p2, vG, vS]
  rw [eh5]
  have p6 : pv a (fX2_feed_c101 a d' h5) = upd (upd (upd (upd r 9 (r 9 + P_miss r)) 2 (r 2 - P_grain r)) 4 (P_food r)) 3 (r 3 - P_sheep r) := by
    unfold fX2_feed_c101
    by_cases c : 0 ≤ d'
    · have c' := ti_le.mp c
      rw [t0] at c'
      rw [if_pos c, pv_setF (by decide), show h5 a 5 = pv a h5 9 from pv_F a h5 4, p5]
      have k1 : d' = P_miss r := ti_eq (by rw [e4]; rcases hw with w | w <;> rw [w] at hD ⊢ <;> split <;> omega)
      have k2 : r 4 - m = P_food r := by
        refine ti_eq ?_
        rw [ti_sub (by omega) (by omega), e5, e4]
        rcases hw with w | w <;> rw [w] at hD bS ⊢ <;> split <;> omega
      rw [k1, k2]
      funext j
      unfold upd
      by_cases j9 : j = 9
      · subst j9; simp
      by_cases j3 : j = 3
      · subst j3; simp
      by_cases j2 : j = 2
      · subst j2; simp
      by_cases j4 : j = 4
      · subst j4; simp
      simp [j9, j3, j2, j4]
    · have c' : ¬ 0 ≤ d'.toInt := fun q => c (ti_le.mpr (by rw [t0]; exact q))
      rw [if_neg c, pv_setG (by decide), pv_G a h5 (by decide : 4 < 5), p5]
      have k1 : P_miss r = 0 := ti_eq (by rw [e4, t0]; rcases hw with w | w <;> rw [w] at hD ⊢ <;> split <;> omega)
      have k2 : r 4 - m - d' = P_food r := by
        refine ti_eq ?_
        have z : (r 4 - m).toInt = (r 4).toInt - m.toInt := ti_sub (by omega) (by omega)
        rw [ti_sub (by rcases hw with w | w <;> rw [w] at hD bS <;> omega) (by rcases hw with w | w <;> rw [w] at hD bS <;> omega), z, e5, k1, t0]
        rcases hw with w | w <;> rw [w] at hD bS ⊢ <;> omega
      rw [show upd (upd (upd r 4 (r 4 - m)) 2 (r 2 - P_grain r)) 3 (r 3 - P_sheep r) 4 = r 4 - m from rfl, k1, k2, show r 9 + 0 = r 9 from Int32.add_zero _]
      funext j
      unfold upd
      by_cases j9 : j = 9
      · subst j9; simp
      by_cases j3 : j = 3
      · subst j3; simp
      by_cases j2 : j = 2
      · subst j2; simp
      by_cases j4 : j = 4
      · subst j4; simp
      simp [j9, j3, j2, j4]
  obtain ⟨h6, eh6⟩ : ∃ h6, fX2_feed_c101 a d' h5 = h6 := ⟨_, rfl⟩
  rw [eh6] at p6 ⊢
  have s6 : h6 (a + 1) 3 = r 3 - P_sheep r := by
    rw [pv_G a h6 (by decide), p6]
    rfl
  show pv a (if h6 (a + 1) 3 < 2 then h6 else hset h6 (a + 1) 3 (h6 (a + 1) 3 + 1)) = _
  rw [s6]
  unfold P_feed P_shp
  have i6 : (r 3 - P_sheep r).toInt = (r 3).toInt - (P_sheep r).toInt := ti_sub (by omega) (by omega)
  by_cases c : r 3 - P_sheep r < 2
  · have c' := ti_lt.mp c
    rw [t2] at c'
    rw [if_pos c, p6, if_pos (ti_le.mpr (by rw [t1]; omega))]
  · have c' : ¬ (r 3 - P_sheep r).toInt < 2 := fun q => c (ti_lt.mpr (by rw [t2]; exact q))
    rw [if_neg c, pv_setG (by decide), p6, if_neg (fun q => by have := ti_le.mp q; rw [t1] at this; omega), upd_u]
theorem c_spoil (a : Nat) (h : HH) : pv a (fX2_endRound_c12 a h) = P_spoil (pv a h) := by
  unfold fX2_endRound_c12 P_spoil
  rw [c_has, pv_G a h (by decide : 2 < 5)]
  split
  · rfl
  · split
    · rw [pv_setG (by decide)]
    · rfl
theorem c_end {B : Int} (hB : B ≤ 100000000) (a : Nat) (f : Bool) (h : HH) (hr : PI B (pv a h)) : pv a (fX2_endRound a (bI f) h) = P_end f (pv a h) ∧ sX2_endRound a (bI f) h := by
  have q := c_feed hB a h hr
  cases f with
  | false => exact ⟨c_spoil a h, fun _ => trivial, fun c => absurd rfl c⟩
  | true =>
    refine ⟨?_, fun c => absurd c (by decide), fun _ => q.2⟩
    show pv a (fX2_endRound_c12 a (fX2_breed a (fX2_feed a h))) = P_spoil (P_feed (pv a h))
    rw [c_spoil, q.1]
