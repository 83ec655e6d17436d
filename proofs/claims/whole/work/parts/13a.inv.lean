/-! what a player's row always is, kept by the rules -/
theorem pi_mono {B B' : Int} {r : Nat → Int32} (h : B ≤ B') (p : PI B r) : PI B' r := by
  obtain ⟨h1, h5, h6, h7, h8, h9, h10⟩ := p
  exact ⟨fun k hk => ⟨(h1 k hk).1, Int.le_trans (h1 k hk).2 h⟩, h5, h6, h7, h8, ⟨h9.1, Int.le_trans h9.2 h⟩, h10⟩
theorem pi_g {B B' : Int} {r : Nat → Int32} {k : Nat} {v : Int32} (hk : k < 5) (h : B ≤ B') (hv : 0 ≤ v.toInt ∧ v.toInt ≤ B') (p : PI B r) : PI B' (upd r k v) := by
  obtain ⟨h1, h5, h6, h7, h8, h9, h10⟩ := pi_mono h p
  refine ⟨fun i hi => ?_, ?_, ?_, ?_, ?_, ?_, ?_⟩
  · by_cases e : i = k
    · subst e
      rw [upd_s]
      exact hv
    · rw [upd_o e]
      exact h1 i hi
  · rw [upd_o (by omega)]; exact h5
  · rw [upd_o (by omega), upd_o (by omega)]; exact h6
  · rw [upd_o (by omega)]; exact h7
  · rw [upd_o (by omega)]; exact h8
  · rw [upd_o (by omega)]; exact h9
  · rw [upd_o (by omega)]; exact h10
theorem pi_7 {B : Int} {r : Nat → Int32} {v : Int32} (hv : 0 ≤ v.toInt ∧ v.toInt ≤ 5) (p : PI B r) : PI B (upd r 7 v) := by
  obtain ⟨h1, h5, h6, h7, h8, h9, h10⟩ := p
  refine ⟨fun i hi => by rw [upd_o (by omega)]; exact h1 i hi, by rw [upd_o (by decide)]; exact h5, by rw [upd_o (by decide), upd_o (by decide)]; exact h6, by rw [upd_s]; exact hv, by rw [upd_o (by decide)]; exact h8, by rw [upd_o (by decide)]; exact h9, by rw [upd_o (by decide)]; exact h10⟩
theorem pi_8 {B : Int} {r : Nat → Int32} {v : Int32} (hv : 2 ≤ v.toInt ∧ v.toInt ≤ 5) (p : PI B r) : PI B (upd r 8 v) := by
  obtain ⟨h1, h5, h6, h7, h8, h9, h10⟩ := p
  refine ⟨fun i hi => by rw [upd_o (by omega)]; exact h1 i hi, by rw [upd_o (by decide)]; exact h5, by rw [upd_o (by decide), upd_o (by decide)]; exact h6, by rw [upd_o (by decide)]; exact h7, by rw [upd_s]; exact hv, by rw [upd_o (by decide)]; exact h9, by rw [upd_o (by decide)]; exact h10⟩
theorem pi_9 {B B' : Int} {r : Nat → Int32} {v : Int32} (h : B ≤ B') (hv : 0 ≤ v.toInt ∧ v.toInt ≤ B') (p : PI B r) : PI B' (upd r 9 v) := by
  obtain ⟨h1, h5, h6, h7, h8, h9, h10⟩ := pi_mono h p
  refine ⟨fun i hi => by rw [upd_o (by omega)]; exact h1 i hi, by rw [upd_o (by decide)]; exact h5, by rw [upd_o (by decide), upd_o (by decide)]; exact h6, by rw [upd_o (by decide)]; exact h7, by rw [upd_o (by decide)]; exact h8, by rw [upd_s]; exact hv, by rw [upd_o (by decide)]; exact h10⟩
theorem pi_10 {B : Int} {r : Nat → Int32} {v : Int32} (hv : 0 ≤ v.toInt ∧ v.toInt ≤ 255) (p : PI B r) : PI B (upd r 10 v) := by
  obtain ⟨h1, h5, h6, h7, h8, h9, h10⟩ := p
  refine ⟨fun i hi => by rw [upd_o (by omega)]; exact h1 i hi, by rw [upd_o (by decide)]; exact h5, by rw [upd_o (by decide), upd_o (by decide)]; exact h6, by rw [upd_o (by decide)]; exact h7, by rw [upd_o (by decide)]; exact h8, by rw [upd_o (by decide)]; exact h9, by rw [upd_s]; exact hv⟩
theorem pi_6 {B : Int} {r : Nat → Int32} {v : Int32} (hv : 0 ≤ v.toInt ∧ v.toInt ≤ (r 5).toInt) (p : PI B r) : PI B (upd r 6 v) := by
  obtain ⟨h1, h5, h6, h7, h8, h9, h10⟩ := p
  refine ⟨fun i hi => by rw [upd_o (by omega)]; exact h1 i hi, by rw [upd_o (by decide)]; exact h5, by rw [upd_s, upd_o (by decide)]; exact hv, by rw [upd_o (by decide)]; exact h7, by rw [upd_o (by decide)]; exact h8, by rw [upd_o (by decide)]; exact h9, by rw [upd_o (by decide)]; exact h10⟩
theorem pi_5 {B : Int} {r : Nat → Int32} {v : Int32} (hv : (r 5).toInt ≤ v.toInt ∧ v.toInt ≤ 5) (p : PI B r) : PI B (upd r 5 v) := by
  obtain ⟨h1, h5, h6, h7, h8, h9, h10⟩ := p
  refine ⟨fun i hi => by rw [upd_o (by omega)]; exact h1 i hi, by rw [upd_s]; omega, by rw [upd_o (by decide), upd_s]; omega, by rw [upd_o (by decide)]; exact h7, by rw [upd_o (by decide)]; exact h8, by rw [upd_o (by decide)]; exact h9, by rw [upd_o (by decide)]; exact h10⟩
theorem pi_start {B : Int} {r : Nat → Int32} (hB : B ≤ 90000000) (p : PI B r) : PI (B + 1) (P_start r) ∧ 0 < (P_start r 7).toInt := by
  have h4 := p.1 4 (by decide)
  have h5 := p.2.1
  have v : 0 ≤ (r 4 + (if bI (P_has r 5) = 0 then 0 else 1)).toInt ∧ (r 4 + (if bI (P_has r 5) = 0 then 0 else 1)).toInt ≤ B + 1 := by
    split
    · rw [ti_add (by rw [t0]; omega) (by rw [t0]; omega), t0]; omega
    · rw [ti_add (by rw [t1]; omega) (by rw [t1]; omega), t1]; omega
  unfold P_start
  refine ⟨pi_7 (by omega) (pi_6 (by rw [t0, upd_o (by decide)]; omega) (pi_g (by decide) (by omega) v p)), ?_⟩
  rw [upd_s]
  omega
theorem pi_feed {B : Int} {r : Nat → Int32} (hB : B ≤ 90000000) (hB3 : 3 ≤ B) (p : PI B r) : PI (B + 10) (P_feed r) := by
  obtain ⟨e1, e2, e3, e4, e5⟩ := i_feed (by omega) p
  obtain ⟨hn, hn1, hn2⟩ := i_need p
  have h2 := p.1 2 (by decide)
  have h3 := p.1 3 (by decide)
  have h4 := p.1 4 (by decide)
  have h9 := p.2.2.2.2.2.1
  have hw : (P_worth r).toInt = 2 ∨ (P_worth r).toInt = 4 := by
    rcases P_worth_v r with e | e <;> rw [e]
    · exact Or.inl rfl
    · exact Or.inr rfl
  obtain ⟨G, eG⟩ : ∃ G, (P_grain r).toInt = G := ⟨_, rfl⟩
  obtain ⟨S, eS⟩ : ∃ S, (P_sheep r).toInt = S := ⟨_, rfl⟩
  obtain ⟨M, eM⟩ : ∃ M, (P_miss r).toInt = M := ⟨_, rfl⟩
  rw [eG] at e1 e2 e3 e4 e5
  rw [eS] at e3 e4 e5
  rw [eM] at e4 e5
  have bG : 0 ≤ G ∧ G ≤ (r 2).toInt ∧ G ≤ 10 := by rw [e1]; split <;> (try split) <;> omega
  have bS : 0 ≤ S ∧ S ≤ (r 3).toInt ∧ S ≤ 10 := by
    rw [e3]
    by_cases c : 0 < (P_need r).toInt - (r 4).toInt - G
    · rw [if_pos c]
      rcases hw with w | w <;> rw [w] <;> split <;> omega
    · rw [if_neg c]
      split <;> omega
  have bM : 0 ≤ M ∧ M ≤ 10 := by
    rw [e4]
    rcases hw with w | w <;> rw [w] <;> split <;> omega
  have bF : 0 ≤ (P_food r).toInt ∧ (P_food r).toInt ≤ B + 4 := by
    rw [e5]
    by_cases c : 0 < (P_need r).toInt - (r 4).toInt - G
    · rw [if_pos c] at e3
      rcases hw with w | w <;> rw [w] at e3 e4 ⊢ <;> (split at e1 <;> (try split at e1) <;> split at e3 <;> split at e4 <;> omega)
    · rw [if_neg c] at e3
      rcases hw with w | w <;> rw [w] at e4 ⊢ <;> (split at e1 <;> (try split at e1) <;> split at e3 <;> split at e4 <;> omega)
  have v9 : 0 ≤ (r 9 + P_miss r).toInt ∧ (r 9 + P_miss r).toInt ≤ B + 10 := by rw [ti_add (by omega) (by omega), eM]; omega
  have v2 : 0 ≤ (r 2 - P_grain r).toInt ∧ (r 2 - P_grain r).toInt ≤ B + 10 := by rw [ti_sub (by omega) (by omega), eG]; omega
  have i3 : (r 3 - P_sheep r).toInt = (r 3).toInt - S := by rw [ti_sub (by omega) (by omega), eS]
  have v3 : 0 ≤ (P_shp r).toInt ∧ (P_shp r).toInt ≤ B + 10 := by
    unfold P_shp
    split
    · omega
    · rw [ti_add (by rw [t1]; omega) (by rw [t1]; omega), i3, t1]; omega
  unfold P_feed
  exact pi_g (by decide) (Int.le_refl _) v3 (pi_g (by decide) (Int.le_refl _) (by omega) (pi_g (by decide) (Int.le_refl _) v2 (pi_9 (by omega) v9 p)))
theorem pi_spoil {B : Int} {r : Nat → Int32} (hB3 : 3 ≤ B) (p : PI B r) : PI B (P_spoil r) := by
  unfold P_spoil
  split
  · exact p
  · split
    · exact pi_g (by decide) (Int.le_refl _) (by rw [t3]; omega) p
    · exact p
theorem pi_end {B : Int} {r : Nat → Int32} {f : Bool} (hB : B ≤ 90000000) (hB3 : 3 ≤ B) (p : PI B r) : PI (B + 10) (P_end f r) := by
  unfold P_end
  split
  · exact pi_spoil (by omega) (pi_feed hB hB3 p)
  · exact pi_spoil (by omega) (pi_mono (by omega) p)
