/-! a move keeps what the row is -/
theorem LI_row {g g' : Nat → Int32} (e : ∀ k, k < 85 → g' k = g k) (h : LI g) : LI g' := fun s hs => by
  rw [e _ (by omega), e 2 (by decide)]
  exact h s hs
theorem SP2_row {g g' : Nat → Int32} (e : ∀ k, k < 85 → g' k = g k) (h : SP2 g) : SP2 g' := fun s hs => by
  rw [e _ (by omega), e _ (by omega)]
  exact h s hs
theorem UO_row {n : Nat} {g g' : Nat → Int32} (hn : n ≤ 4) (e : ∀ k, k < 85 → g' k = g k) (h : UO n g) : UO n g' := fun b hb p q hp hq h1 h2 => by
  rw [mp_row (by omega) e] at h1 h2
  exact h b hb p q hp hq h1 h2
theorem notes_85 {q : Nat} {g : Nat → Int32} {s c : Int32} (hq : q ≤ 30) : ∃ q', q' ≤ 30 ∧ G_notes q g s c 85 = nI q' := by
  unfold G_notes
  by_cases e : q = 30
  · rw [if_pos e]
    exact ⟨30, by decide, put_v.2.2.2.2.1⟩
  · rw [if_neg e]
    exact ⟨q + 1, by omega, put_v.2.2.2.2.1⟩
theorem gi_places {B : Int} {n t q s j : Nat} {g : Nat → Int32} (hB : B ≤ 70000000) (hB3 : 3 ≤ B) (gi : GI B n g) (ht : t < n) (h3 : g 3 = nI t) (h7 : 0 < (mp g t 7).toInt) (hr : (g 2).toInt ≤ (g 1).toInt) (hs : s < 12) (hj : j < 25) (hw : G_why n t g s (nI j) = 0) (hq : q ≤ 30) : GI (B + 51) n (G_places n t q s (nI j) g) := by
  obtain ⟨i1, i2, i3, i4, i5⟩ := comes_inv hB gi ht h3 h7 hr hs hj hw
  obtain ⟨hn0, hn, h0, hrr, _⟩ := gi
  have e := comes_row (t := t) (s := s) (c := nI j) (g := g) (g' := G_notes q g (nI s) (nI j)) (by omega) hs (fun k hk => notes_lo hk)
  unfold G_places G_goesOn
  have c (k : Nat) (hk : k < 4) : G_comes t s (nI j) (G_notes q g (nI s) (nI j)) k = g k := by rw [comes_lo hk, notes_lo (by omega)]
  have r := gi_on (B := B + 40) (n := n) (t := t) (g := G_comes t s (nI j) (G_notes q g (nI s) (nI j))) (by omega) (by omega) hn0 hn (by rw [c 0 (by decide), h0]) (by rw [c 1 (by decide), c 2 (by decide)]; omega) (by rw [e 4 (by decide)]; exact i5) (fun p hp => by rw [mp_row (by omega) e]; exact i1 p hp) (LI_row e i2) (SP2_row e i3) (UO_row hn e i4) (by rw [comes_hi (by omega) hs (by decide)]; exact notes_85 hq) n 1
  rw [show B + 51 = B + 40 + 11 by omega]
  exact r
theorem gi_skips {B : Int} {n t q : Nat} {g : Nat → Int32} (hB : B ≤ 70000000) (hB3 : 3 ≤ B) (gi : GI B n g) (ht : t < n) (hr : (g 2).toInt ≤ (g 1).toInt) (hq : q ≤ 30) : GI (B + 51) n (G_skips n t q g) := by
  obtain ⟨hn0, hn, h0, hrr, ⟨st, hst, est⟩, _, hp, hl, hs2, hu, _⟩ := gi
  have ht4 : t < 4 := by omega
  obtain ⟨g1, eg⟩ : ∃ g1, G_notes q g (-1) 0 = g1 := ⟨_, rfl⟩
  have gl : ∀ k, k < 85 → g1 k = g k := fun k hk => by rw [← eg, notes_lo hk]
  have cu : Cut (upd (mp g1 t) 7 0) := cut_upd (mp_cut _ _) (by decide)
  have lo (k : Nat) (hk : k < 5) : ps g1 t (upd (mp g1 t) 7 0) k = g k := by rw [ps_lo hk, gl k (by omega)]
  have hi (k : Nat) (hk : 49 ≤ k) (hk' : k < 85) : ps g1 t (upd (mp g1 t) 7 0) k = g k := by rw [ps_hi ht4 hk, gl k hk']
  have m (p : Nat) (hp' : p < n) : mp (ps g1 t (upd (mp g1 t) 7 0)) p = if p = t then upd (mp g t) 7 0 else mp g p := by
    by_cases e : p = t
    · subst e
      rw [if_pos rfl, mp_ps_s cu, mp_row ht4 gl]
    · rw [if_neg e, mp_ps_o e, mp_row (by omega) gl]
  have H (b : Nat) (p : Nat) (hp' : p < n) : P_has (mp (ps g1 t (upd (mp g1 t) 7 0)) p) (nI b) = P_has (mp g p) (nI b) := by
    rw [m p hp']
    by_cases e : p = t
    · subst e
      rw [if_pos rfl]
      exact P_has_ext (upd_o (by decide)) _
    · rw [if_neg e]
  unfold G_skips G_goesOn
  rw [eg]
  have r := gi_on (B := B) (n := n) (t := t) (g := ps g1 t (upd (mp g1 t) 7 0)) (by omega) hB3 hn0 hn (by rw [lo 0 (by decide), h0]) (by rw [lo 1 (by decide), lo 2 (by decide)]; omega) ⟨st, hst, by rw [lo 4 (by decide), est]⟩ (fun p hp' => by
      rw [m p hp']
      by_cases e : p = t
      · subst e
        rw [if_pos rfl]
        exact pi_7 (by decide) (hp p hp')
      · rw [if_neg e]
        exact hp p hp') (fun s hs => by rw [hi _ (by omega) (by omega), lo 2 (by decide)]; exact hl s hs) (fun s hs => by rw [hi _ (by omega) (by omega), hi _ (by omega) (by omega)]; exact hs2 s hs) (fun b hb p q hp' hq' h1 h2 => by
      rw [H b p hp'] at h1
      rw [H b q hq'] at h2
      exact hu b hb p q hp' hq' h1 h2) (by rw [ps_hi ht4 (by decide), ← eg]; exact notes_85 hq) n 1
  obtain ⟨a1, a2, a3, a4, a5, a6, a7, a8⟩ := r
  exact ⟨a1, a2, a3, a4, a5, a6, fun p hp' => pi_mono (by omega) (a7 p hp'), a8⟩
theorem gi_ok {B : Int} {n : Nat} {g : Nat → Int32} (gi : GI B n g) : ∃ t, OKg n t g ∧ (bI (G_over g) = 0 → g 3 = nI t ∧ 0 < (mp g t 7).toInt ∧ (g 2).toInt ≤ (g 1).toInt) := by
  obtain ⟨hn0, hn, h0, hrr, _, h3, _, _, hs2, _, _⟩ := gi
  have ov : bI (G_over g) = 0 ↔ (g 2).toInt ≤ (g 1).toInt := by
    unfold G_over
    by_cases c : g 2 ≤ g 1
    · rw [if_pos c]
      exact ⟨fun _ => ti_le.mp c, fun _ => rfl⟩
    · rw [if_neg c]
      exact ⟨fun z => absurd z (by decide), fun z => absurd (ti_le.mpr z) c⟩
  rcases h3 with ⟨r, t, ht, e3, e7⟩ | ⟨r, e3⟩
  · refine ⟨t, ⟨hn, ht, h0, fun _ => e3, ?_, fun s hs => (hs2 s hs).2⟩, fun _ => ⟨e3, e7, r⟩⟩
    rw [e3, if_neg (nI_m1 (by omega))]
    unfold G_over
    rw [if_pos (ti_le.mpr r)]
  · refine ⟨0, ⟨hn, by omega, h0, fun z => absurd (ov.mp z) (by omega), ?_, fun s hs => (hs2 s hs).2⟩, fun z => absurd (ov.mp z) (by omega)⟩
    rw [e3, if_pos rfl]
    unfold G_over
    rw [if_neg (fun z => by have := ti_le.mp z; omega)]
