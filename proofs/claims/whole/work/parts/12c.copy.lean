/-! a new game, copies, the history -/
def CH (a : Nat) (h : HH) (g : Nat → Int32) : Prop := ∃ q o : Nat, q ≤ 30 ∧ o < 30 ∧ h (a + 5) 1 = nI o ∧ h (a + 5) 2 = nI q ∧ g 85 = nI q ∧ ∀ i, i < q → ∀ w, w < 4 → h (a + 6) ((o + i) % 30 * 4 + w) = g (86 + 4 * i + w)
theorem CG_fr {n a : Nat} {h h' : HH} {g : Nat → Int32} (hn : n ≤ 4) (e : ∀ q, a ≤ q → q < a + 15 → h' q = h q) (cg : CG n a h g) : CG n a h' g := by
  obtain ⟨c1, c2, c3⟩ := cg
  refine ⟨fun k hk => ?_, fun p hp => ?_, fun s hs => ?_⟩
  · rw [e a (by omega) (by omega)]
    exact c1 k hk
  · rw [pv_ext (e _ (by omega) (by omega)) (e _ (by omega) (by omega))]
    exact c2 p hp
  · rw [e _ (by omega) (by omega), e _ (by omega) (by omega), e _ (by omega) (by omega)]
    exact c3 s hs
theorem CH_fr {a : Nat} {h h' : HH} {g g' : Nat → Int32} (e5 : h' (a + 5) = h (a + 5)) (e6 : h' (a + 6) = h (a + 6)) (eg : ∀ k, 85 ≤ k → g' k = g k) (ch : CH a h g) : CH a h' g' := by
  obtain ⟨q, o, h1, h2, h3, h4, h5, h6⟩ := ch
  refine ⟨q, o, h1, h2, by rw [e5]; exact h3, by rw [e5]; exact h4, by rw [eg 85 (by omega)]; exact h5, fun i hi w hw => ?_⟩
  rw [e6, eg _ (by omega)]
  exact h6 i hi w hw
theorem c_st' {a n : Nat} {h : HH} {g : Nat → Int32} (hn : n ≤ 4) (h0 : g 0 = nI n) (c1 : ∀ k, k < 5 → k ≠ 3 → h a k = upd g 2 (g 2 + 1) k) (c2 : ∀ p, p < n → P_start (pv (a + 7 + 2 * p) h) = P_start (mp g p)) (c3 : ∀ s, s < 12 → h (a + 2) s = g (49 + 3 * s)) : CG n a (fX0_startRound a h) (G_start n g) ∧ sX0_startRound a h ∧ Out a (a + 15) h (fX0_startRound a h) ∧ fX0_startRound a h (a + 5) = h (a + 5) ∧ fX0_startRound a h (a + 6) = h (a + 6) := by
  have a0 : h a 0 = nI n := by rw [c1 0 (by decide) (by decide), upd_o (by decide), h0]
  obtain ⟨h1, i1, i2, i3, i4⟩ := c_sp_loop (a := a) hn 12 0 0 h a0 (by decide)
  have ha1 : h1 a = h a := i3 a (by omega)
  obtain ⟨h2, j1, j2, j3, j4⟩ := c_st_loop (a := a) hn n 0 (4 - n) h1 (by rw [ha1, a0]) (by omega)
  rw [show n + (4 - n) + 1 = 5 by omega] at j1 j2
  have ha2 : h2 a = h a := (j3 a (by omega)).trans ha1
  have E : fX0_startRound a h = hset h2 a 3 (h2 a 4) := i1.trans j1
  have hq (q : Nat) (hq : a < q) : fX0_startRound a h q = h2 q := by rw [E, hset_o _ _ _ _ (by omega)]
  refine ⟨⟨fun k hk => ?_, fun p hp => ?_, fun s hs => ?_⟩, i2 j2, ?_, ?_, ?_⟩
  · rw [E, hset_s, gs_hd hn hk, ha2]
    by_cases k3 : k = 3
    · subst k3
      rw [upd_s, if_neg (by decide), if_pos rfl, c1 4 (by decide) (by decide), upd_o (by decide)]
    · rw [upd_o k3, c1 k hk k3]
      by_cases k2 : k = 2
      · subst k2
        rw [upd_s, if_pos rfl]
      · rw [upd_o k2, if_neg k2, if_neg k3]
  · have e1 : pv (a + 7 + 2 * p) (fX0_startRound a h) = pv (a + 7 + 2 * p) h2 := pv_ext (hq _ (by omega)) (hq _ (by omega))
    rw [e1, j4 p (by omega), if_pos (by omega), pv_out i3 (by omega), c2 p hp, gs_mp hn (by omega), if_pos hp]
  · have e2 : fX0_startRound a h (a + 2) = h1 (a + 2) := (hq _ (by omega)).trans (j3 _ (by omega))
    have e3 : fX0_startRound a h (a + 3) = h1 (a + 3) := (hq _ (by omega)).trans (j3 _ (by omega))
    have e4 : fX0_startRound a h (a + 4) = h1 (a + 4) := (hq _ (by omega)).trans (j3 _ (by omega))
    have r := i4 s hs
    rw [if_pos (by omega), if_pos (by omega), if_pos (by omega)] at r
    have w := gs_sp hn (g := g) hs
    rw [e2, e3, e4, r.1, r.2.1, r.2.2, w.1, w.2.1, w.2.2, c3 s hs]
    exact ⟨rfl, rfl, rfl⟩
  · rw [E]
    exact out_set (by omega) (by omega) (out_tr (out_mono (by omega) (by omega) i3) (out_mono (by omega) (by omega) j3))
  · rw [hq _ (by omega), j3 _ (by omega), i3 _ (by omega)]
  · rw [hq _ (by omega), j3 _ (by omega), i3 _ (by omega)]
theorem c_beg_step (a n k : Nat) (hk : k < 5) (f : Int32) (h : HH) : fX2_begin_c2 a (n + 1) f (nI k) h = fX2_begin_c2 a n f (nI (k + 1)) (hset h (a + 1) k 0) ∧ (sX2_begin_c2 a n f (nI (k + 1)) (hset h (a + 1) k 0) → sX2_begin_c2 a (n + 1) f (nI k) h) := by
  have c : ¬ (5 : Int32) ≤ nI k := nI_ge (b := 5) hk (by decide)
  constructor
  · show (if (5 : Int32) ≤ nI k then _ else fX2_begin_c2 a n f (nI k + 1) (hset h (a + 1) (nI k).toNatClampNeg 0)) = _
    rw [if_neg c, nI_1, nclamp (by omega)]
  · intro w
    refine ⟨fun q => absurd q c, fun _ => ⟨v_of hk (by decide), ?_⟩⟩
    rw [nI_1, nclamp (by omega)]
    exact w
theorem c_beg (a : Nat) (f : Int32) (h : HH) : (∀ p, (if nI p = 0 then (2 : Int32) else 3) = f → P_start (pv a (fX2_begin a f h)) = P_start (P_ini p (fun _ => 0))) ∧ sX2_begin a f h := by
  have s (n k : Nat) (hk : k < 5) (h : HH) := c_beg_step a n k hk f h
  have E : fX2_begin a f h = hset (hset (hset (hset (hset (hset (hset (hset (hset (hset h (a + 1) 0 0) (a + 1) 1 0) (a + 1) 2 0) (a + 1) 3 0) (a + 1) 4 0) (a + 1) 4 f) a 1 2) a 4 2) a 5 0) a 6 0 := by
    show fX2_begin_c2 a 6 f (nI 0) h = _
    rw [(s 5 0 (by decide) _).1, (s 4 1 (by decide) _).1, (s 3 2 (by decide) _).1, (s 2 3 (by decide) _).1, (s 1 4 (by decide) _).1]
    exact if_pos (by decide)
  refine ⟨fun p hf => ?_, ?_⟩
  · rw [E, pv_setF (by decide), pv_setF (by decide), pv_setF (by decide), pv_setF (by decide), pv_setG (by decide), pv_setG (by decide), pv_setG (by decide), pv_setG (by decide), pv_setG (by decide), pv_setG (by decide)]
    obtain ⟨r, er⟩ : ∃ r, pv a h = r := ⟨_, rfl⟩
    have cr : Cut r := by rw [← er]; exact pv_cut a h
    rw [er]
    obtain ⟨r1, e1⟩ : ∃ r1, upd (upd (upd (upd (upd (upd (upd (upd (upd (upd r 0 0) 1 0) 2 0) 3 0) 4 0) 4 f) (1 + 4) 2) (4 + 4) 2) (5 + 4) 0) (6 + 4) 0 = r1 := ⟨_, rfl⟩
    have w1 : P_has r1 5 = P_has (P_ini p (fun _ => 0)) 5 := P_has_ext (by rw [← e1]; rfl) 5
    rw [e1]
    unfold P_start
    rw [w1]
    have q4 : r1 4 = P_ini p (fun _ => 0) 4 := by
      show _ = (if nI p = 0 then (2 : Int32) else 3)
      rw [hf, ← e1]
      rfl
    have q5 : r1 5 = P_ini p (fun _ => 0) 5 := by rw [← e1]; rfl
    rw [q4, q5]
    funext j
    unfold upd
    by_cases j7 : j = 7
    · simp [j7]
    by_cases j6 : j = 6
    · simp [j6]
    by_cases j4 : j = 4
    · simp [j4]
    simp only [j7, j6, j4, if_false]
    by_cases jj : j < 11
    · have : j = 0 ∨ j = 1 ∨ j = 2 ∨ j = 3 ∨ j = 5 ∨ j = 8 ∨ j = 9 ∨ j = 10 := by omega
      rcases this with rfl | rfl | rfl | rfl | rfl | rfl | rfl | rfl <;> (rw [← e1]; rfl)
    · have c1 : Cut r1 := by
        rw [← e1]
        exact cut_upd (cut_upd (cut_upd (cut_upd (cut_upd (cut_upd (cut_upd (cut_upd (cut_upd (cut_upd cr (by decide)) (by decide)) (by decide)) (by decide)) (by decide)) (by decide)) (by decide)) (by decide)) (by decide)) (by decide)
      rw [c1 j (by omega), cut_ini p (fun _ => 0) (fun _ _ => rfl) j (by omega)]
  · exact (s 5 0 (by decide) _).2 ((s 4 1 (by decide) _).2 ((s 3 2 (by decide) _).2 ((s 2 3 (by decide) _).2 ((s 1 4 (by decide) _).2 ⟨fun _ => trivial, fun q => absurd (by decide) q⟩))))
theorem c_lie_loop {a : Nat} : ∀ (d s f : Nat) (h : HH), s + d = 12 → ∃ h1 : HH, fX0_begin_c60 a (d + f + 1) (nI s) h = fX0_startRound a h1 ∧ (sX0_startRound a h1 → sX0_begin_c60 a (d + f + 1) (nI s) h) ∧ Out (a + 2) (a + 3) h h1 ∧ ∀ x, x < 12 → h1 (a + 2) x = if s ≤ x then 0 else h (a + 2) x := by
  intro d
  induction d with
  | zero =>
    intro s f h e
    have c : (12 : Int32) ≤ nI s := nI_le (a := 12) (by omega) (by omega)
    rw [show 0 + f + 1 = f + 1 by omega]
    exact ⟨h, if_pos c, fun w => ⟨fun _ => w, fun q => absurd c q⟩, out_refl, fun x h1 => (if_neg (by omega)).symm⟩
  | succ d ih =>
    intro s f h e
    have c : ¬ (12 : Int32) ≤ nI s := nI_ge (b := 12) (by omega) (by decide)
    obtain ⟨h1, i1, i2, i3, i4⟩ := ih (s + 1) f (hset h (a + 2) s 0) (by omega)
    rw [show d + 1 + f + 1 = (d + f + 1) + 1 by omega]
    refine ⟨h1, ?_, fun w => ⟨fun q => absurd q c, fun _ => ⟨v_of (by omega) (by decide), ?_⟩⟩, out_tr (out_set (by omega) (by omega) out_refl) i3, fun x hx => ?_⟩
    · show (if (12 : Int32) ≤ nI s then _ else fX0_begin_c60 a (d + f + 1) (nI s + 1) (hset h (a + 2) (nI s).toNatClampNeg 0)) = _
      rw [if_neg c, nI_1, nclamp (by omega)]
      exact i1
    · rw [nI_1, nclamp (by omega)]
      exact i2 w
    · rw [i4 x hx, hset_s]
      by_cases e1 : x = s
      · subst e1
        rw [if_neg (by omega), upd_s, if_pos (by omega)]
      · rw [upd_o e1]
        by_cases c1 : s + 1 ≤ x
        · rw [if_pos c1, if_pos (by omega)]
        · rw [if_neg c1, if_neg (by omega)]
theorem c_begp_loop {a : Nat} : ∀ (d p f : Nat) (h : HH), p + d = 4 → ∃ h1 : HH, fX0_begin_c29 a (d + f + 1) (nI p) h = fX0_begin_c60 a 13 0 h1 ∧ (sX0_begin_c60 a 13 0 h1 → sX0_begin_c29 a (d + f + 1) (nI p) h) ∧ Out (a + 7) (a + 15) h h1 ∧ ∀ x, x < 4 → (p ≤ x → P_start (pv (a + 7 + 2 * x) h1) = P_start (P_ini x (fun _ => 0))) ∧ (x < p → pv (a + 7 + 2 * x) h1 = pv (a + 7 + 2 * x) h) := by
  intro d
  induction d with
  | zero =>
    intro p f h e
    have c : (4 : Int32) ≤ nI p := nI_le (a := 4) (by omega) (by omega)
    rw [show 0 + f + 1 = f + 1 by omega]
    exact ⟨h, if_pos c, fun w => ⟨fun _ => w, fun q => absurd c q⟩, out_refl, fun x h1 => ⟨fun h2 => absurd h2 (by omega), fun _ => rfl⟩⟩
  | succ d ih =>
    intro p f h e
    have c : ¬ (4 : Int32) ≤ nI p := nI_ge (b := 4) (by omega) (by decide)
    obtain ⟨w, ew⟩ : ∃ w, (if nI p = 0 then (2 : Int32) else 3) = w := ⟨_, rfl⟩
    have o1 := o2_begin (a + 7 + 2 * p) w h
    have E := c_beg (a + 7 + 2 * p) w h
    obtain ⟨h1, i1, i2, i3, i4⟩ := ih (p + 1) f (fX2_begin (a + 7 + 2 * p) w h) (by omega)
    rw [show d + 1 + f + 1 = (d + f + 1) + 1 by omega]
    refine ⟨h1, ?_, fun z => ⟨fun q => absurd q c, fun _ => ⟨v_of (by omega) (by decide), ?_⟩⟩, out_tr (out_mono (by omega) (by omega) o1) i3, fun x hx => ⟨fun h2 => ?_, fun h2 => ?_⟩⟩
    · show (if (4 : Int32) ≤ nI p then _ else (if nI p = 0 then fX0_begin_c29 a (d + f + 1) (nI p + 1) (fX2_begin (a + 7 + 2 * (nI p).toNatClampNeg) 2 h) else fX0_begin_c29 a (d + f + 1) (nI p + 1) (fX2_begin (a + 7 + 2 * (nI p).toNatClampNeg) 3 h))) = _
      rw [if_neg c, nI_1, nclamp (by omega), ← i1, ← ew]
      split <;> rfl
    · refine ⟨fun q => ?_, fun q => ?_⟩
      · rw [if_pos q] at ew
        unfold sX0_begin_c49
        rw [ew, nI_1, nclamp (by omega)]
        exact ⟨E.2, i2 z⟩
      · rw [if_neg q] at ew
        unfold sX0_begin_c49
        rw [ew, nI_1, nclamp (by omega)]
        exact ⟨E.2, i2 z⟩
    · by_cases e1 : x = p
      · subst e1
        rw [(i4 x hx).2 (by omega)]
        exact E.1 x ew
      · exact (i4 x hx).1 (by omega)
    · rw [(i4 x hx).2 (by omega), pv_out o1 (by omega)]
theorem c_begin {a n : Nat} {R : Int32} {h : HH} (g : Nat → Int32) (hn : n ≤ 4) : CG n a (fX0_begin a (nI n) R h) (G_begin n R g) ∧ CH a (fX0_begin a (nI n) R h) (G_begin n R g) ∧ sX0_begin a (nI n) R h ∧ Out a (a + 15) h (fX0_begin a (nI n) R h) := by
  obtain ⟨h0, e0⟩ : ∃ h0, fX1_clear (a + 5) (hset (hset (hset (hset h a 0 (nI n)) a 1 R) a 2 1) a 4 0) = h0 := ⟨_, rfl⟩
  have o0 : Out a (a + 15) h h0 := by
    rw [← e0]
    exact out_set (by omega) (by omega) (out_set (by omega) (by omega) (out_set (by omega) (by omega) (out_set (by omega) (by omega) (out_set (by omega) (by omega) (out_set (by omega) (by omega) out_refl)))))
  have r0 : h0 a = upd (upd (upd (upd (h a) 0 (nI n)) 1 R) 2 1) 4 0 := by
    rw [← e0]
    show hset (hset (hset (hset (hset (hset h a 0 (nI n)) a 1 R) a 2 1) a 4 0) (a + 5) 1 0) (a + 5) 2 0 a = _
    rw [hset_o _ _ _ _ (by omega), hset_o _ _ _ _ (by omega), hset_s, hset_s, hset_s, hset_s]
  have r5 : h0 (a + 5) 1 = 0 ∧ h0 (a + 5) 2 = 0 := by
    rw [← e0]
    show hset (hset (hset (hset (hset (hset h a 0 (nI n)) a 1 R) a 2 1) a 4 0) (a + 5) 1 0) (a + 5) 2 0 (a + 5) 1 = 0 ∧ _
    rw [hset_s]
    refine ⟨?_, ?_⟩
    · rw [upd_o (by decide), hset_s, upd_s]
    · show hset (hset (hset (hset (hset (hset h a 0 (nI n)) a 1 R) a 2 1) a 4 0) (a + 5) 1 0) (a + 5) 2 0 (a + 5) 2 = 0
      rw [hset_s, upd_s]
  obtain ⟨h1, i1, i2, i3, i4⟩ := c_begp_loop (a := a) 4 0 0 h0 (by decide)
  obtain ⟨h2, j1, j2, j3, j4⟩ := c_lie_loop (a := a) 12 0 0 h1 (by decide)
  have E : fX0_begin a (nI n) R h = fX0_startRound a h2 := by
    show fX0_begin_c29 a 5 (nI 0) (fX1_clear (a + 5) (hset (hset (hset (hset h a 0 (nI n)) a 1 R) a 2 1) a 4 0)) = _
    rw [e0]
    exact i1.trans j1
  have S : sX0_startRound a h2 → sX0_begin a (nI n) R h := by
    intro w
    show sX0_begin_c29 a 5 (nI 0) (fX1_clear (a + 5) (hset (hset (hset (hset h a 0 (nI n)) a 1 R) a 2 1) a 4 0))
    rw [e0]
    exact i2 (j2 w)
  obtain ⟨gi, eg⟩ : ∃ gi, pfrom P_ini 0 n (upd (upd (G_zero g) 0 (nI n)) 1 R) = gi := ⟨_, rfl⟩
  have gio (k : Nat) (hk : k < 5 ∨ 49 ≤ k) : gi k = upd (upd (G_zero g) 0 (nI n)) 1 R k := by rw [← eg]; exact pfrom_out n 0 _ k (by omega) hk
  have gz (k : Nat) (hk : k < 206) : G_zero g k = 0 := if_pos hk
  have hr2 : h2 a = h0 a := (j3 a (by omega)).trans (i3 a (by omega))
  have St := c_st' (a := a) (h := h2) (g := gi) hn (by rw [gio 0 (Or.inl (by decide)), upd_o (by decide), upd_s]) (fun k hk k3 => by
      rw [hr2, r0]
      have : k = 0 ∨ k = 1 ∨ k = 2 ∨ k = 4 := by omega
      rcases this with rfl | rfl | rfl | rfl
      · rw [upd_o (by decide), upd_o (by decide), upd_o (by decide), upd_s, upd_o (by decide), gio 0 (Or.inl (by decide)), upd_o (by decide), upd_s]
      · rw [upd_o (by decide), upd_o (by decide), upd_s, upd_o (by decide), gio 1 (Or.inl (by decide)), upd_s]
      · rw [upd_o (by decide), upd_s, upd_s, gio 2 (Or.inl (by decide)), upd_o (by decide), upd_o (by decide), gz 2 (by decide)]
        rfl
      · rw [upd_s, upd_o (by decide), gio 4 (Or.inl (by decide)), upd_o (by decide), upd_o (by decide), gz 4 (by decide)])
    (fun p hp => by
      rw [pv_out j3 (by omega), (i4 p (by omega)).1 (by omega), ← eg, pfrom_mp cut_ini, if_pos (by omega)]
      have : mp (upd (upd (G_zero g) 0 (nI n)) 1 R) p = fun _ => 0 := by
        rw [mp_lo (by decide), mp_lo (by decide)]
        funext j
        unfold mp
        by_cases c : j < 11
        · rw [if_pos c, gz _ (by omega)]
        · rw [if_neg c]
      rw [this])
    (fun s hs => by
      rw [j4 s hs, if_pos (by omega), gio _ (Or.inr (by omega)), upd_o (by omega), upd_o (by omega), gz _ (by omega)])
  have f5 : fX0_startRound a h2 (a + 5) = h0 (a + 5) := St.2.2.2.1.trans ((j3 _ (by omega)).trans (i3 _ (by omega)))
  have eB : G_begin n R g = G_start n gi := by rw [← eg]; rfl
  rw [E, eB]
  refine ⟨St.1, ⟨0, 0, by decide, by decide, ?_, ?_, ?_, fun i hi => absurd hi (by omega)⟩, S St.2.1, out_tr o0 (out_tr (out_mono (by omega) (by omega) i3) (out_tr (out_mono (by omega) (by omega) j3) St.2.2.1))⟩
  · rw [f5]; exact r5.1
  · rw [f5]; exact r5.2
  · rw [gs_hi hn (by decide), gio 85 (Or.inr (by decide)), upd_o (by decide), upd_o (by decide), gz 85 (by decide)]
    rfl
theorem c_cpp_loop {a b : Nat} (hab : a + 15 ≤ b ∨ b + 15 ≤ a) : ∀ (d p f : Nat) (h : HH), p + d = 4 → ∃ h1 : HH, fX0_copyFrom_c42 a b (d + f + 1) (nI p) h = fX0_copyFrom_c121 a b (hcpy (hcpy (hcpy h1 (b + 2) (a + 2) 0 0 12) (b + 3) (a + 3) 0 0 12) (b + 4) (a + 4) 0 0 12) ∧ sX0_copyFrom_c42 a b (d + f + 1) (nI p) h ∧ Out (a + 7) (a + 15) h h1 ∧ ∀ x, x < 4 → pv (a + 7 + 2 * x) h1 = if p ≤ x then pv (b + 7 + 2 * x) h else pv (a + 7 + 2 * x) h := by
  intro d
  induction d with
  | zero =>
    intro p f h e
    have c : (4 : Int32) ≤ nI p := nI_le (a := 4) (by omega) (by omega)
    rw [show 0 + f + 1 = f + 1 by omega]
    exact ⟨h, if_pos c, ⟨fun _ => trivial, fun q => absurd c q⟩, out_refl, fun x hx => by rw [if_neg (by omega)]⟩
  | succ d ih =>
    intro p f h e
    have c : ¬ (4 : Int32) ≤ nI p := nI_ge (b := 4) (by omega) (by decide)
    have o1 := o2_copy (a + 7 + 2 * p) (b + 7 + 2 * p) h
    have E := c_copy (a := a + 7 + 2 * p) (b := b + 7 + 2 * p) (by omega) h
    obtain ⟨h1, i1, i2, i3, i4⟩ := ih (p + 1) f (fX2_copyFrom (a + 7 + 2 * p) (b + 7 + 2 * p) h) (by omega)
    rw [show d + 1 + f + 1 = (d + f + 1) + 1 by omega]
    refine ⟨h1, ?_, ⟨fun q => absurd q c, fun _ => ⟨v_of (by omega) (by decide), v_of (by omega) (by decide), ?_⟩⟩, out_tr (out_mono (by omega) (by omega) o1) i3, fun x hx => ?_⟩
    · show (if (4 : Int32) ≤ nI p then _ else fX0_copyFrom_c42 a b (d + f + 1) (nI p + 1) (fX2_copyFrom (a + 7 + 2 * (nI p).toNatClampNeg) (b + 7 + 2 * (nI p).toNatClampNeg) h)) = _
      rw [if_neg c, nI_1, nclamp (by omega)]
      exact i1
    · rw [nI_1, nclamp (by omega)]
      exact i2
    · rw [i4 x hx]
      by_cases e1 : x = p
      · subst e1
        rw [if_neg (by omega), if_pos (by omega), E]
      · rw [pv_out o1 (by omega), pv_out o1 (by omega)]
        by_cases c1 : p + 1 ≤ x
        · rw [if_pos c1, if_pos (by omega)]
        · rw [if_neg c1, if_neg (by omega)]
theorem cpy_v {f g : Nat → Int32} {n k : Nat} (hk : k < n) : va_cpy f g 0 0 n k = f k := by
  unfold va_cpy
  rw [if_pos (by omega)]
  congr 1
  omega
theorem c_copyG {a b : Nat} (hab : a + 15 ≤ b ∨ b + 15 ≤ a) (h : HH) : (∀ n g, n ≤ 4 → CG n b h g → CG n a (fX0_copyFrom a b h) g) ∧ (∀ g, CH b h g → CH a (fX0_copyFrom a b h) g) ∧ sX0_copyFrom a b h ∧ Out a (a + 15) h (fX0_copyFrom a b h) := by
  obtain ⟨h0, e0⟩ : ∃ h0, hset (hset (hset (hset (hset h a 0 (h b 0)) a 1 (h b 1)) a 2 (h b 2)) a 3 (h b 3)) a 4 (h b 4) = h0 := ⟨_, rfl⟩
  have hb : b ≠ a := by omega
  have o0 : Out a (a + 1) h h0 := by
    rw [← e0]
    exact out_set (by omega) (by omega) (out_set (by omega) (by omega) (out_set (by omega) (by omega) (out_set (by omega) (by omega) (out_set (by omega) (by omega) out_refl))))
  have r0 : ∀ k, k < 5 → h0 a k = h b k := by
    intro k hk
    rw [← e0, hset_s, hset_s, hset_s, hset_s, hset_s]
    have : k = 0 ∨ k = 1 ∨ k = 2 ∨ k = 3 ∨ k = 4 := by omega
    rcases this with rfl | rfl | rfl | rfl | rfl <;> rfl
  obtain ⟨h1, i1, i2, i3, i4⟩ := c_cpp_loop hab 4 0 0 h0 (by decide)
  have q0 : fX0_copyFrom a b h = fX0_copyFrom_c42 a b 5 (nI 0) h0 ∧ (sX0_copyFrom_c42 a b 5 (nI 0) h0 → sX0_copyFrom a b h) := by
    unfold fX0_copyFrom fX0_copyFrom_c0 fX0_copyFrom_c10 fX0_copyFrom_c18 fX0_copyFrom_c26 fX0_copyFrom_c34 sX0_copyFrom sX0_copyFrom_c0 sX0_copyFrom_c10 sX0_copyFrom_c18 sX0_copyFrom_c26 sX0_copyFrom_c34
    simp only [hset_o _ _ _ _ hb]
    rw [e0]
    exact ⟨rfl, fun w => w⟩
  obtain ⟨h2, e2⟩ : ∃ h2, hcpy (hcpy (hcpy h1 (b + 2) (a + 2) 0 0 12) (b + 3) (a + 3) 0 0 12) (b + 4) (a + 4) 0 0 12 = h2 := ⟨_, rfl⟩
  have o2 : Out (a + 2) (a + 5) h1 h2 := by
    rw [← e2]
    exact out_cpy (by omega) (by omega) (out_cpy (by omega) (by omega) (out_cpy (by omega) (by omega) out_refl))
  have r2 : h2 (a + 2) = va_cpy (h1 (b + 2)) (h1 (a + 2)) 0 0 12 ∧ h2 (a + 3) = va_cpy (h1 (b + 3)) (h1 (a + 3)) 0 0 12 ∧ h2 (a + 4) = va_cpy (h1 (b + 4)) (h1 (a + 4)) 0 0 12 := by
    rw [← e2]
    refine ⟨?_, ?_, ?_⟩
    · rw [hcpy_o _ _ _ _ _ _ (by omega), hcpy_o _ _ _ _ _ _ (by omega), hcpy_s]
    · rw [hcpy_o _ _ _ _ _ _ (by omega), hcpy_s, hcpy_o _ _ _ _ _ _ (by omega), hcpy_o _ _ _ _ _ _ (by omega)]
    · rw [hcpy_s, hcpy_o _ _ _ _ _ _ (by omega), hcpy_o _ _ _ _ _ _ (by omega), hcpy_o _ _ _ _ _ _ (by omega), hcpy_o _ _ _ _ _ _ (by omega)]
  rw [e2] at i1
  have E : fX0_copyFrom a b h = hset (hset (hcpy h2 (b + 6) (a + 6) 0 0 120) (a + 5) 1 ((hcpy h2 (b + 6) (a + 6) 0 0 120) (b + 5) 1)) (a + 5) 2 (hset (hcpy h2 (b + 6) (a + 6) 0 0 120) (a + 5) 1 ((hcpy h2 (b + 6) (a + 6) 0 0 120) (b + 5) 1) (b + 5) 2) := q0.1.trans i1
  have far (q : Nat) (hq : b ≤ q) (hq' : q < b + 15) : h2 q = h q := (o2 q (by omega)).trans ((i3 q (by omega)).trans (o0 q (by omega)))
  have oE : Out (a + 5) (a + 7) h2 (fX0_copyFrom a b h) := by
    rw [E]
    exact out_set (by omega) (by omega) (out_set (by omega) (by omega) (out_cpy (by omega) (by omega) out_refl))
  have r5 : fX0_copyFrom a b h (a + 5) 1 = h (b + 5) 1 ∧ fX0_copyFrom a b h (a + 5) 2 = h (b + 5) 2 := by
    rw [E, hset_s]
    refine ⟨?_, ?_⟩
    · rw [upd_o (by decide), hset_s, upd_s, hcpy_o _ _ _ _ _ _ (by omega), far _ (by omega) (by omega)]
    · rw [upd_s, hset_o _ _ _ _ (by omega), hcpy_o _ _ _ _ _ _ (by omega), far _ (by omega) (by omega)]
  have r6 : ∀ k, k < 120 → fX0_copyFrom a b h (a + 6) k = h (b + 6) k := by
    intro k hk
    rw [E, hset_o _ _ _ _ (by omega), hset_o _ _ _ _ (by omega), hcpy_s, cpy_v hk, far _ (by omega) (by omega)]
  have oAll : Out a (a + 15) h (fX0_copyFrom a b h) := out_tr (out_mono (by omega) (by omega) o0) (out_tr (out_mono (by omega) (by omega) i3) (out_tr (out_mono (by omega) (by omega) o2) (out_mono (by omega) (by omega) oE)))
  refine ⟨fun n g hn cg => ?_, fun g ch => ?_, q0.2 i2, oAll⟩
  · obtain ⟨c1, c2, c3⟩ := cg
    refine ⟨fun k hk => ?_, fun p hp => ?_, fun s hs => ?_⟩
    · rw [oE a (by omega), o2 a (by omega), i3 a (by omega), r0 k hk]
      exact c1 k hk
    · rw [pv_out oE (by omega), pv_out o2 (by omega), i4 p (by omega), if_pos (by omega), pv_out o0 (by omega)]
      exact c2 p hp
    · have w (k : Nat) (hk : b ≤ k) (hk' : k < b + 7) : h1 k = h k := (i3 k (by omega)).trans (o0 k (by omega))
      rw [oE _ (by omega), oE _ (by omega), oE _ (by omega), r2.1, r2.2.1, r2.2.2, cpy_v hs, cpy_v hs, cpy_v hs, w _ (by omega) (by omega), w _ (by omega) (by omega), w _ (by omega) (by omega)]
      exact c3 s hs
  · obtain ⟨q, o, h1', h2', h3', h4', h5', h6'⟩ := ch
    refine ⟨q, o, h1', h2', by rw [r5.1]; exact h3', by rw [r5.2]; exact h4', h5', fun i hi w hw => ?_⟩
    rw [r6 _ (by omega)]
    exact h6' i hi w hw
