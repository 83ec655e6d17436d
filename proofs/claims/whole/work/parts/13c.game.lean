/-! what the row always is -/
/-- only one owner of each building -/
def UO (n : Nat) (g : Nat → Int32) : Prop := ∀ b, b < 8 → ∀ p q, p < n → q < n → P_has (mp g p) (nI b) = true → P_has (mp g q) (nI b) = true → p = q
/-- what lies there -/
def LI (g : Nat → Int32) : Prop := ∀ s, s < 12 → (takesAll s = false → g (49 + 3 * s) = 0) ∧ 0 ≤ (g (49 + 3 * s)).toInt ∧ (g (49 + 3 * s)).toInt ≤ 3 * (g 2).toInt
def GI (B : Int) (n : Nat) (g : Nat → Int32) : Prop :=
  2 ≤ n ∧ n ≤ 4 ∧ g 0 = nI n ∧ (1 ≤ (g 2).toInt ∧ (g 2).toInt ≤ (g 1).toInt + 1 ∧ 1 ≤ (g 1).toInt ∧ (g 1).toInt ≤ 12)
  ∧ (∃ st, st < n ∧ g 4 = nI st)
  ∧ (((g 2).toInt ≤ (g 1).toInt ∧ ∃ t, t < n ∧ g 3 = nI t ∧ 0 < (mp g t 7).toInt) ∨ ((g 1).toInt < (g 2).toInt ∧ g 3 = -1))
  ∧ (∀ p, p < n → PI B (mp g p))
  ∧ LI g ∧ (∀ s, s < 12 → (g (50 + 3 * s) = 0 ↔ g (51 + 3 * s) = -1) ∧ ∃ k, k ≤ plN s ∧ g (50 + 3 * s) = nI k)
  ∧ UO n g ∧ ∃ q, q ≤ 30 ∧ g 85 = nI q
theorem start_10 (r : Nat → Int32) : P_start r 10 = r 10 := by
  unfold P_start
  rw [upd_o (by decide), upd_o (by decide), upd_o (by decide)]
theorem end_10 (f : Bool) (r : Nat → Int32) : P_end f r 10 = r 10 := by
  have s (r : Nat → Int32) : P_spoil r 10 = r 10 := by
    unfold P_spoil
    split
    · rfl
    · split
      · exact upd_o (by decide)
      · rfl
  unfold P_end
  split
  · rw [s]
    unfold P_feed
    rw [upd_o (by decide), upd_o (by decide), upd_o (by decide), upd_o (by decide)]
  · exact s r
theorem sup_v {s : Nat} (hs : s < 12) : (takesAll s = false → tSUPPLY s = 0) ∧ 0 ≤ (tSUPPLY s).toInt ∧ (tSUPPLY s).toInt ≤ 3 := by
  have q : s = 0 ∨ s = 1 ∨ s = 2 ∨ s = 3 ∨ s = 4 ∨ s = 5 ∨ s = 6 ∨ s = 7 ∨ s = 8 ∨ s = 9 ∨ s = 10 ∨ s = 11 := by omega
  rcases q with rfl | rfl | rfl | rfl | rfl | rfl | rfl | rfl | rfl | rfl | rfl | rfl <;> exact ⟨by decide, by decide, by decide⟩
theorem gi_start {B : Int} {n : Nat} {g : Nat → Int32} (hB : B ≤ 90000000) (hn0 : 2 ≤ n) (hn : n ≤ 4) (h0 : g 0 = nI n) (hr : 0 ≤ (g 2).toInt ∧ (g 2).toInt + 1 ≤ (g 1).toInt ∧ (g 1).toInt ≤ 12) (h4 : ∃ st, st < n ∧ g 4 = nI st) (hp : ∀ p, p < n → PI B (mp g p)) (hl : LI g) (hu : UO n g) (hq : ∃ q, q ≤ 30 ∧ g 85 = nI q) : GI (B + 1) n (G_start n g) := by
  have d0 : G_start n g 0 = nI n := by rw [gs_hd hn (by decide), if_neg (by decide), if_neg (by decide), h0]
  have d1 : G_start n g 1 = g 1 := by rw [gs_hd hn (by decide), if_neg (by decide), if_neg (by decide)]
  have d2 : G_start n g 2 = g 2 + 1 := by rw [gs_hd hn (by decide), if_pos rfl]
  have d3 : G_start n g 3 = g 4 := by rw [gs_hd hn (by decide), if_neg (by decide), if_pos rfl]
  have d4 : G_start n g 4 = g 4 := by rw [gs_hd hn (by decide), if_neg (by decide), if_neg (by decide)]
  have e2 : (g 2 + 1).toInt = (g 2).toInt + 1 := by rw [ti_add (by rw [t1]; omega) (by rw [t1]; omega), t1]
  have dm (p : Nat) (hp : p < n) : mp (G_start n g) p = P_start (mp g p) := by rw [gs_mp hn (by omega), if_pos hp]
  obtain ⟨st, hst, est⟩ := h4
  refine ⟨hn0, hn, d0, ?_, ⟨st, hst, by rw [d4, est]⟩, Or.inl ⟨?_, st, hst, by rw [d3, est], ?_⟩, fun p hp' => ?_, fun s hs => ?_, fun s hs => ?_, fun b hb p q hp' hq' h1 h2 => ?_, ?_⟩
  · rw [d1, d2, e2]; omega
  · rw [d1, d2, e2]; omega
  · rw [dm st hst]
    exact (pi_start hB (hp st hst)).2
  · rw [dm p hp']
    exact (pi_start hB (hp p hp')).1
  · have w := gs_sp hn (g := g) hs
    have l := hl s hs
    have v := sup_v hs
    rw [w.1, d2, e2]
    refine ⟨fun z => by rw [l.1 z, v.1 z]; rfl, ?_⟩
    rw [ti_add (by omega) (by omega)]
    omega
  · have w := gs_sp hn (g := g) hs
    rw [w.2.1, w.2.2]
    exact ⟨⟨fun _ => rfl, fun _ => rfl⟩, 0, by omega, rfl⟩
  · rw [dm p hp', P_has_ext (start_10 _)] at h1
    rw [dm q hq', P_has_ext (start_10 _)] at h2
    exact hu b hb p q hp' hq' h1 h2
  · obtain ⟨q, hq1, hq2⟩ := hq
    exact ⟨q, hq1, by rw [gs_hi hn (by decide), hq2]⟩
