/-! the component's game against the row: rounds -/
def CG (n a : Nat) (h : HH) (g : Nat → Int32) : Prop := (∀ k, k < 5 → h a k = g k) ∧ (∀ p, p < n → pv (a + 7 + 2 * p) h = mp g p) ∧ (∀ s, s < 12 → h (a + 2) s = g (49 + 3 * s) ∧ h (a + 3) s = g (50 + 3 * s) ∧ h (a + 4) s = g (51 + 3 * s))
theorem gs_hd {n : Nat} (hn : n ≤ 4) {g : Nat → Int32} {k : Nat} (hk : k < 5) : G_start n g k = if k = 2 then g 2 + 1 else if k = 3 then g 4 else g k := by
  unfold G_start
  by_cases k3 : k = 3
  · subst k3
    rw [upd_s, if_neg (by decide), if_pos rfl]
  · rw [upd_o k3, pfrom_out n 0 _ k (by omega) (Or.inl hk), sfrom_v, if_neg (by omega)]
    unfold G_sup
    rw [upd_o (by omega), upd_o (by omega), upd_o (by omega), upd_o (by omega)]
    by_cases k2 : k = 2
    · subst k2
      rw [upd_s, if_pos rfl]
    · rw [upd_o k2, if_neg k2, if_neg k3]
theorem gs_mp {n : Nat} (hn : n ≤ 4) {g : Nat → Int32} {q : Nat} (hq : q < 4) : mp (G_start n g) q = if q < n then P_start (mp g q) else mp g q := by
  unfold G_start
  rw [mp_lo (by decide), pfrom_mp (fun _ _ c => cut_start c)]
  have e : mp (sfrom 0 12 (G_sup g)) q = mp g q := by
    funext j
    unfold mp
    split
    · rw [sfrom_v, if_neg (by omega)]
      unfold G_sup
      rw [upd_o (by omega), upd_o (by omega), upd_o (by omega), upd_o (by omega), upd_o (by omega)]
    · rfl
  rw [e]
  by_cases c : q < n
  · rw [if_pos c, if_pos (by omega)]
  · rw [if_neg c, if_neg (by omega)]
theorem gs_hi {n : Nat} (hn : n ≤ 4) {g : Nat → Int32} {k : Nat} (hk : 85 ≤ k) : G_start n g k = g k := by
  unfold G_start
  rw [upd_o (by omega), pfrom_out n 0 _ k (by omega) (Or.inr (by omega)), sfrom_v, if_neg (by omega)]
  unfold G_sup
  rw [upd_o (by omega), upd_o (by omega), upd_o (by omega), upd_o (by omega), upd_o (by omega)]
theorem gs_sp {n : Nat} (hn : n ≤ 4) {g : Nat → Int32} {s : Nat} (hs : s < 12) : G_start n g (49 + 3 * s) = g (49 + 3 * s) + tSUPPLY s ∧ G_start n g (50 + 3 * s) = 0 ∧ G_start n g (51 + 3 * s) = -1 := by
  unfold G_start
  refine ⟨?_, ?_, ?_⟩
  · rw [upd_o (by omega), pfrom_out n 0 _ _ (by omega) (Or.inr (by omega)), sfrom_v, if_pos (by omega), if_neg (by omega), if_neg (by omega)]
    unfold G_sup
    have q : s = 0 ∨ s = 1 ∨ s = 2 ∨ s = 3 ∨ s = 4 ∨ s = 5 ∨ s = 6 ∨ s = 7 ∨ s = 8 ∨ s = 9 ∨ s = 10 ∨ s = 11 := by omega
    rcases q with rfl | rfl | rfl | rfl | rfl | rfl | rfl | rfl | rfl | rfl | rfl | rfl
    · show g 49 + 3 = _
      rfl
    · show g 52 + 2 = _
      rfl
    · exact (Int32.add_zero (g 55)).symm
    · show g 58 + 1 = _
      rfl
    · exact (Int32.add_zero (g 61)).symm
    · show g 64 + 1 = _
      rfl
    · exact (Int32.add_zero (g 67)).symm
    · exact (Int32.add_zero (g 70)).symm
    · exact (Int32.add_zero (g 73)).symm
    · exact (Int32.add_zero (g 76)).symm
    · exact (Int32.add_zero (g 79)).symm
    · exact (Int32.add_zero (g 82)).symm
  · rw [upd_o (by omega), pfrom_out n 0 _ _ (by omega) (Or.inr (by omega)), sfrom_v, if_pos (by omega), if_pos (by omega)]
  · rw [upd_o (by omega), pfrom_out n 0 _ _ (by omega) (Or.inr (by omega)), sfrom_v, if_pos (by omega), if_neg (by omega), if_pos (by omega)]
theorem nclamp {k : Nat} (h : k < 1000) : (nI k).toNatClampNeg = k := nI_clamp (by omega)
theorem v_of {k n : Nat} (h : k < n) (hn : n < 1000) : vp_in (nI k) n := ti_vp (by rw [ti_nI (by omega)]; omega) (by rw [ti_nI (by omega)]; omega)
theorem c_st_loop {a n : Nat} (hn : n ≤ 4) : ∀ (d p f : Nat) (h : HH), h a 0 = nI n → p + d = n → ∃ h' : HH, fX0_startRound_c44 a (d + f + 1) (nI p) h = hset h' a 3 (h' a 4) ∧ sX0_startRound_c44 a (d + f + 1) (nI p) h ∧ Out (a + 7) (a + 15) h h' ∧ ∀ q, q < 4 → pv (a + 7 + 2 * q) h' = if p ≤ q ∧ q < n then P_start (pv (a + 7 + 2 * q) h) else pv (a + 7 + 2 * q) h := by
  intro d
  induction d with
  | zero =>
    intro p f h h0 e
    have c : h a 0 ≤ nI p := by rw [h0]; exact nI_le (by omega) (by omega)
    rw [show 0 + f + 1 = f + 1 by omega]
    exact ⟨h, if_pos c, ⟨fun _ => trivial, fun q => absurd c q⟩, out_refl, fun q hq => by rw [if_neg (by omega)]⟩
  | succ d ih =>
    intro p f h h0 e
    have c : ¬ h a 0 ≤ nI p := by rw [h0]; exact nI_ge (by omega) (by omega)
    have o1 := o2_start (a + 7 + 2 * p) h
    obtain ⟨h', i1, i2, i3, i4⟩ := ih (p + 1) f (fX2_startRound (a + 7 + 2 * p) h) (by rw [o1 a (by omega), h0]) (by omega)
    rw [show d + 1 + f + 1 = (d + f + 1) + 1 by omega]
    refine ⟨h', ?_, ⟨fun q => absurd q c, fun _ => ⟨v_of (by omega) (by decide), ?_⟩⟩, out_tr (out_mono (by omega) (by omega) o1) i3, fun q hq => ?_⟩
    · show (if h a 0 ≤ nI p then _ else fX0_startRound_c44 a (d + f + 1) (nI p + 1) (fX2_startRound (a + 7 + 2 * (nI p).toNatClampNeg) h)) = _
      rw [if_neg c, nI_1, nclamp (by omega)]
      exact i1
    · rw [nI_1, nclamp (by omega)]
      exact i2
    · rw [i4 q hq]
      by_cases e1 : q = p
      · subst e1
        rw [if_neg (by omega), if_pos (by omega), c_start]
      · rw [pv_out o1 (by omega)]
        by_cases c1 : p + 1 ≤ q ∧ q < n
        · rw [if_pos c1, if_pos (by omega)]
        · rw [if_neg c1, if_neg (by omega)]
theorem c_sp_loop {a n : Nat} (hn : n ≤ 4) : ∀ (d s f : Nat) (h : HH), h a 0 = nI n → s + d = 12 → ∃ h1 : HH, fX0_startRound_c2 a (d + f + 1) (nI s) h = fX0_startRound_c44 a 5 0 h1 ∧ (sX0_startRound_c44 a 5 0 h1 → sX0_startRound_c2 a (d + f + 1) (nI s) h) ∧ Out (a + 2) (a + 5) h h1 ∧ ∀ x, x < 12 → h1 (a + 2) x = (if s ≤ x then h (a + 2) x + tSUPPLY x else h (a + 2) x) ∧ h1 (a + 3) x = (if s ≤ x then 0 else h (a + 3) x) ∧ h1 (a + 4) x = (if s ≤ x then -1 else h (a + 4) x) := by
  intro d
  induction d with
  | zero =>
    intro s f h h0 e
    have c : (12 : Int32) ≤ nI s := nI_le (a := 12) (by omega) (by omega)
    rw [show 0 + f + 1 = f + 1 by omega]
    refine ⟨h, if_pos c, fun w => ⟨fun _ => w, fun q => absurd c q⟩, out_refl, fun x hx => ?_⟩
    rw [if_neg (by omega), if_neg (by omega), if_neg (by omega)]
    exact ⟨rfl, rfl, rfl⟩
  | succ d ih =>
    intro s f h h0 e
    have hs : s < 12 := by omega
    have c : ¬ (12 : Int32) ≤ nI s := nI_ge (b := 12) hs (by decide)
    obtain ⟨h2, e2⟩ : ∃ h2, hset (hset (hset h (a + 2) s (h (a + 2) s + tSUPPLY s)) (a + 3) s 0) (a + 4) s (-1) = h2 := ⟨_, rfl⟩
    have o2 : Out (a + 2) (a + 5) h h2 := by rw [← e2]; exact out_set (by omega) (by omega) (out_set (by omega) (by omega) (out_set (by omega) (by omega) out_refl))
    have r2 : h2 (a + 2) = upd (h (a + 2)) s (h (a + 2) s + tSUPPLY s) := by rw [← e2, hset_o _ _ _ _ (by omega), hset_o _ _ _ _ (by omega), hset_s]
    have r3 : h2 (a + 3) = upd (h (a + 3)) s 0 := by rw [← e2, hset_o _ _ _ _ (by omega), hset_s, hset_o _ _ _ _ (by omega)]
    have r4 : h2 (a + 4) = upd (h (a + 4)) s (-1) := by rw [← e2, hset_s, hset_o _ _ _ _ (by omega), hset_o _ _ _ _ (by omega)]
    obtain ⟨h1, i1, i2, i3, i4⟩ := ih (s + 1) f h2 (by rw [o2 a (by omega), h0]) (by omega)
    rw [show d + 1 + f + 1 = (d + f + 1) + 1 by omega]
    refine ⟨h1, ?_, fun w => ?_, out_tr o2 i3, fun x hx => ?_⟩
    · show (if (12 : Int32) ≤ nI s then _ else fX0_startRound_c2 a (d + f + 1) (nI s + 1) (hset (hset (hset h (a + 2) (nI s).toNatClampNeg (h (a + 2) (nI s).toNatClampNeg + tSUPPLY (nI s).toNatClampNeg)) (a + 3) (nI s).toNatClampNeg 0) (a + 4) (nI s).toNatClampNeg (-1))) = _
      rw [if_neg c, nI_1, nclamp (by omega), e2]
      exact i1
    · have v : vp_in (nI s) 12 := v_of hs (by decide)
      refine ⟨fun q => absurd q c, fun _ => ⟨v, v, v, v, v, ?_⟩⟩
      rw [nI_1, nclamp (by omega), e2]
      exact i2 w
    · have j := i4 x hx
      rw [r2, r3, r4] at j
      by_cases e1 : x = s
      · subst e1
        rw [upd_s, upd_s, upd_s, if_neg (by omega), if_neg (by omega), if_neg (by omega)] at j
        rw [if_pos (by omega), if_pos (by omega), if_pos (by omega)]
        exact j
      · rw [upd_o e1, upd_o e1, upd_o e1] at j
        by_cases c1 : s + 1 ≤ x
        · rw [if_pos c1, if_pos c1, if_pos c1] at j
          rw [if_pos (by omega), if_pos (by omega), if_pos (by omega)]
          exact j
        · rw [if_neg c1, if_neg c1, if_neg c1] at j
          rw [if_neg (by omega), if_neg (by omega), if_neg (by omega)]
          exact j
/-- the start of a round; the round's number has been raised before -/
theorem c_st {a n : Nat} {h : HH} {g : Nat → Int32} (hn : n ≤ 4) (h0 : g 0 = nI n) (cg : CG n a h (upd g 2 (g 2 + 1))) : CG n a (fX0_startRound a h) (G_start n g) ∧ sX0_startRound a h ∧ Out a (a + 15) h (fX0_startRound a h) ∧ fX0_startRound a h (a + 5) = h (a + 5) ∧ fX0_startRound a h (a + 6) = h (a + 6) := by
  obtain ⟨c1, c2, c3⟩ := cg
  have a0 : h a 0 = nI n := by rw [c1 0 (by decide), upd_o (by decide), h0]
  obtain ⟨h1, i1, i2, i3, i4⟩ := c_sp_loop (a := a) hn 12 0 0 h a0 (by decide)
  have ha1 : h1 a = h a := i3 a (by omega)
  obtain ⟨h2, j1, j2, j3, j4⟩ := c_st_loop (a := a) hn n 0 (4 - n) h1 (by rw [ha1, a0]) (by omega)
  rw [show n + (4 - n) + 1 = 5 by omega] at j1 j2
  have ha2 : h2 a = h a := (j3 a (by omega)).trans ha1
  have E : fX0_startRound a h = hset h2 a 3 (h2 a 4) := i1.trans j1
  have hq (q : Nat) (hq : a < q) : fX0_startRound a h q = h2 q := by rw [E, hset_o _ _ _ _ (by omega)]
  refine ⟨⟨fun k hk => ?_, fun p hp => ?_, fun s hs => ?_⟩, i2 j2, ?_, ?_, ?_⟩
  · rw [E, hset_s, gs_hd hn hk, ha2]
    by_cases k3 : k = 3
    · subst k3
      rw [upd_s, if_neg (by decide), if_pos rfl, c1 4 (by decide), upd_o (by decide)]
    · rw [upd_o k3, c1 k hk]
      by_cases k2 : k = 2
      · subst k2
        rw [upd_s, if_pos rfl]
      · rw [upd_o k2, if_neg k2, if_neg k3]
  · have e1 : pv (a + 7 + 2 * p) (fX0_startRound a h) = pv (a + 7 + 2 * p) h2 := pv_ext (hq _ (by omega)) (hq _ (by omega))
    rw [e1, j4 p (by omega), if_pos (by omega), pv_out i3 (by omega), c2 p hp, gs_mp hn (by omega), if_pos hp, mp_lo (by decide)]
  · have e2 : fX0_startRound a h (a + 2) = h1 (a + 2) := (hq _ (by omega)).trans (j3 _ (by omega))
    have e3 : fX0_startRound a h (a + 3) = h1 (a + 3) := (hq _ (by omega)).trans (j3 _ (by omega))
    have e4 : fX0_startRound a h (a + 4) = h1 (a + 4) := (hq _ (by omega)).trans (j3 _ (by omega))
    have r := i4 s hs
    rw [if_pos (by omega), if_pos (by omega), if_pos (by omega)] at r
    have w := gs_sp hn (g := g) hs
    rw [e2, e3, e4, r.1, r.2.1, r.2.2, w.1, w.2.1, w.2.2, (c3 s hs).1, upd_o (by omega)]
    exact ⟨rfl, rfl, rfl⟩
  · rw [E]
    exact out_set (by omega) (by omega) (out_tr (out_mono (by omega) (by omega) i3) (out_mono (by omega) (by omega) j3))
  · rw [hq _ (by omega), j3 _ (by omega), i3 _ (by omega)]
  · rw [hq _ (by omega), j3 _ (by omega), i3 _ (by omega)]
