/-! the component's game against the row: the end of rounds and turns, a new game, copies -/
theorem ge_mp {n : Nat} {F : (Nat → Int32) → (Nat → Int32)} (hF : ∀ r, Cut r → Cut (F r)) {g : Nat → Int32} {q : Nat} (hq : q < n) : mp (pfrom (fun _ => F) 0 n g) q = F (mp g q) := by
  rw [pfrom_mp (fun _ r c => hF r c), if_pos (by omega)]
theorem c_end_loop {a n : Nat} (hn : n ≤ 4) (f0 : Bool) {B : Int} (hB : B ≤ 100000000) : ∀ (d p f : Nat) (h : HH), h a 0 = nI n → p + d = n → (∀ q, p ≤ q → q < n → PI B (pv (a + 7 + 2 * q) h)) → ∃ h' : HH, fX0_endRound_c7 a (d + f + 1) (bI f0) (nI p) h = fX0_endRound_c42 a (hset h' a 2 (h' a 2 + 1)) ∧ (sX0_endRound_c42 a (hset h' a 2 (h' a 2 + 1)) → sX0_endRound_c7 a (d + f + 1) (bI f0) (nI p) h) ∧ Out (a + 7) (a + 15) h h' ∧ ∀ q, q < 4 → pv (a + 7 + 2 * q) h' = if p ≤ q ∧ q < n then P_end f0 (pv (a + 7 + 2 * q) h) else pv (a + 7 + 2 * q) h := by
  intro d
  induction d with
  | zero =>
    intro p f h h0 e hI
    have c : h a 0 ≤ nI p := by rw [h0]; exact nI_le (by omega) (by omega)
    rw [show 0 + f + 1 = f + 1 by omega]
    exact ⟨h, if_pos c, fun w => ⟨fun _ => w, fun q => absurd c q⟩, out_refl, fun q hq => by rw [if_neg (by omega)]⟩
  | succ d ih =>
    intro p f h h0 e hI
    have c : ¬ h a 0 ≤ nI p := by rw [h0]; exact nI_ge (by omega) (by omega)
    have o1 := o2_end (a + 7 + 2 * p) (bI f0) h
    have E := c_end hB (a + 7 + 2 * p) f0 h (hI p (by omega) (by omega))
    obtain ⟨h', i1, i2, i3, i4⟩ := ih (p + 1) f (fX2_endRound (a + 7 + 2 * p) (bI f0) h) (by rw [o1 a (by omega), h0]) (by omega) (fun q h1 h2 => by rw [pv_out o1 (by omega)]; exact hI q (by omega) h2)
    rw [show d + 1 + f + 1 = (d + f + 1) + 1 by omega]
    refine ⟨h', ?_, fun w => ⟨fun q => absurd q c, fun _ => ⟨v_of (by omega) (by decide), ?_, ?_⟩⟩, out_tr (out_mono (by omega) (by omega) o1) i3, fun q hq => ?_⟩
    · show (if h a 0 ≤ nI p then _ else fX0_endRound_c7 a (d + f + 1) (bI f0) (nI p + 1) (fX2_endRound (a + 7 + 2 * (nI p).toNatClampNeg) (bI f0) h)) = _
      rw [if_neg c, nI_1, nclamp (by omega)]
      exact i1
    · rw [nclamp (by omega)]
      exact E.2
    · rw [nI_1, nclamp (by omega)]
      exact i2 w
    · rw [i4 q hq]
      by_cases e1 : q = p
      · subst e1
        rw [if_neg (by omega), if_pos (by omega), E.1]
      · rw [pv_out o1 (by omega)]
        by_cases c1 : p + 1 ≤ q ∧ q < n
        · rw [if_pos c1, if_pos (by omega)]
        · rw [if_neg c1, if_neg (by omega)]
theorem c_endR {a n : Nat} {h : HH} {g : Nat → Int32} {B : Int} (hB : B ≤ 100000000) (hn : n ≤ 4) (h0 : g 0 = nI n) (hr : 1 ≤ (g 2).toInt ∧ (g 2).toInt ≤ (g 1).toInt ∧ (g 1).toInt ≤ 12) (hI : ∀ p, p < n → PI B (mp g p)) (cg : CG n a h g) : CG n a (fX0_endRound a h) (G_end n g) ∧ sX0_endRound a h ∧ Out a (a + 15) h (fX0_endRound a h) ∧ fX0_endRound a h (a + 5) = h (a + 5) ∧ fX0_endRound a h (a + 6) = h (a + 6) := by
  have cg' := cg
  obtain ⟨c1, c2, c3⟩ := cg
  have a0 : h a 0 = nI n := by rw [c1 0 (by decide), h0]
  have ef : fX0_feedsAtEnd a h = feeds g := by
    show (if jrem (h a 2) 2 = 0 then true else if h a 2 = h a 1 then true else false) = _
    rw [c1 2 (by decide), c1 1 (by decide)]
    rfl
  obtain ⟨h', i1, i2, i3, i4⟩ := c_end_loop (a := a) hn (feeds g) hB n 0 (4 - n) h a0 (by omega) (fun q _ hq => by rw [c2 q hq]; exact hI q hq)
  rw [show n + (4 - n) + 1 = 5 by omega] at i1 i2
  have ha : h' a = h a := i3 a (by omega)
  obtain ⟨h2, e2⟩ : ∃ h2, hset h' a 2 (h' a 2 + 1) = h2 := ⟨_, rfl⟩
  have hq (q : Nat) (hq : a < q) : h2 q = h' q := by rw [← e2, hset_o _ _ _ _ (by omega)]
  have h2a : h2 a = upd (h a) 2 (g 2 + 1) := by rw [← e2, hset_s, ha, c1 2 (by decide)]
  have E : fX0_endRound a h = fX0_endRound_c42 a h2 := by
    show fX0_endRound_c7 a 5 (bI (fX0_feedsAtEnd a h)) (nI 0) h = _
    rw [ef, i1, e2]
  have S : sX0_endRound_c42 a h2 → sX0_endRound a h := by
    intro w
    show sX0_endRound_c7 a 5 (bI (fX0_feedsAtEnd a h)) (nI 0) h
    rw [ef]
    rw [← e2] at w
    exact i2 w
  have o2 : Out a (a + 15) h h2 := by
    rw [← e2]
    exact out_set (by omega) (by omega) (out_mono (by omega) (by omega) i3)
  have r2 : (g 2 + 1).toInt = (g 2).toInt + 1 := by rw [ti_add (by rw [t1]; omega) (by rw [t1]; omega), t1]
  have v2 : h2 a 2 = g 2 + 1 := by rw [h2a, upd_s]
  have v1 : h2 a 1 = g 1 := by rw [h2a, upd_o (by decide), c1 1 (by decide)]
  obtain ⟨gp, eg⟩ : ∃ gp, pfrom (fun _ => P_end (feeds g)) 0 n g = gp := ⟨_, rfl⟩
  have gpo (k : Nat) (hk : k < 5 ∨ 49 ≤ k) : gp k = g k := by rw [← eg]; exact pfrom_out n 0 g k (by omega) hk
  have gpm (q : Nat) (hq : q < n) : mp gp q = P_end (feeds g) (mp g q) := by rw [← eg]; exact ge_mp (fun _ c => cut_end c) hq
  have cg2 : CG n a h2 (upd gp 2 (gp 2 + 1)) := by
    refine ⟨fun k hk => ?_, fun p hp => ?_, fun s hs => ?_⟩
    · rw [h2a, gpo 2 (Or.inl (by decide))]
      by_cases k2 : k = 2
      · subst k2
        rw [upd_s, upd_s]
      · rw [upd_o k2, upd_o k2, c1 k hk, gpo k (Or.inl hk)]
    · rw [pv_ext (hq _ (by omega)) (hq _ (by omega)), i4 p (by omega), if_pos (by omega), c2 p hp, mp_lo (by decide), gpm p hp]
    · rw [hq _ (by omega), hq _ (by omega), hq _ (by omega), i3 _ (by omega), i3 _ (by omega), i3 _ (by omega), upd_o (by omega), upd_o (by omega), upd_o (by omega), gpo _ (Or.inr (by omega)), gpo _ (Or.inr (by omega)), gpo _ (Or.inr (by omega))]
      exact c3 s hs
  have f5 : h2 (a + 5) = h (a + 5) := (hq _ (by omega)).trans (i3 _ (by omega))
  have f6 : h2 (a + 6) = h (a + 6) := (hq _ (by omega)).trans (i3 _ (by omega))
  rw [E]
  unfold fX0_endRound_c42 G_end
  by_cases c : g 2 = g 1
  · have c' : ¬ h2 a 2 ≤ h2 a 1 := by
      rw [v2, v1]
      intro q
      have q' := ti_le.mp q
      rw [r2, c] at q'
      omega
    rw [if_neg c', if_pos c, eg]
    refine ⟨⟨fun k hk => ?_, fun p hp => ?_, fun s hs => ?_⟩, S ⟨fun q => absurd q c', fun _ => trivial⟩, out_set (by omega) (by omega) o2, ?_, ?_⟩
    · have w := cg2.1 k hk
      rw [gpo 2 (Or.inl (by decide))] at w
      rw [hset_s]
      by_cases k3 : k = 3
      · subst k3
        rw [upd_s, upd_s]
      · rw [upd_o k3, upd_o k3, w]
    · have w := cg2.2.1 p hp
      rw [pv_o (by omega) (by omega), w, mp_lo (by decide), mp_lo (by decide), mp_lo (by decide)]
    · have w := cg2.2.2 s hs
      rw [gpo 2 (Or.inl (by decide))] at w
      rw [hset_o _ _ _ _ (by omega), hset_o _ _ _ _ (by omega), hset_o _ _ _ _ (by omega), upd_o (by omega : 49 + 3 * s ≠ 3), upd_o (by omega : 50 + 3 * s ≠ 3), upd_o (by omega : 51 + 3 * s ≠ 3)]
      exact w
    · rw [hset_o _ _ _ _ (by omega), f5]
    · rw [hset_o _ _ _ _ (by omega), f6]
  · have c' : h2 a 2 ≤ h2 a 1 := by
      rw [v2, v1]
      refine ti_le.mpr ?_
      rw [r2]
      have := ti_ne c
      omega
    have St := c_st (a := a) (h := h2) (g := gp) hn (by rw [gpo 0 (Or.inl (by decide)), h0]) cg2
    rw [if_pos c', if_neg c, eg]
    exact ⟨St.1, S ⟨fun _ => St.2.1, fun q => absurd c' q⟩, out_tr o2 St.2.2.1, St.2.2.2.1.trans f5, St.2.2.2.2.trans f6⟩
theorem c_pass_loop {a n t : Nat} {h : HH} {g : Nat → Int32} {B : Int} (hB : B ≤ 100000000) (hn0 : 2 ≤ n) (hn : n ≤ 4) (ht : t < n) (h0 : g 0 = nI n) (h3 : g 3 = nI t) (hr : 1 ≤ (g 2).toInt ∧ (g 2).toInt ≤ (g 1).toInt ∧ (g 1).toInt ≤ 12) (hI : ∀ p, p < n → PI B (mp g p)) (cg : CG n a h g) : ∀ (d k f : Nat), 1 ≤ k → k + d = n + 1 → CG n a (fX0_passTurn_c2 a (d + f + 1) (nI k) h) (gon n t g d k) ∧ sX0_passTurn_c2 a (d + f + 1) (nI k) h ∧ Out a (a + 15) h (fX0_passTurn_c2 a (d + f + 1) (nI k) h) ∧ fX0_passTurn_c2 a (d + f + 1) (nI k) h (a + 5) = h (a + 5) ∧ fX0_passTurn_c2 a (d + f + 1) (nI k) h (a + 6) = h (a + 6) := by
  have cg' := cg
  obtain ⟨c1, c2, c3⟩ := cg
  have a0 : h a 0 = nI n := by rw [c1 0 (by decide), h0]
  have a3 : h a 3 = nI t := by rw [c1 3 (by decide), h3]
  intro d
  induction d with
  | zero =>
    intro k f k1 e
    have c : h a 0 < nI k := by rw [a0]; exact nI_lt (by omega) (by omega)
    have E := c_endR hB hn h0 hr hI cg'
    rw [show 0 + f + 1 = f + 1 by omega]
    have F : fX0_passTurn_c2 a (f + 1) (nI k) h = fX0_endRound a h := if_pos c
    rw [F]
    exact ⟨E.1, ⟨fun _ => E.2.1, fun q => absurd c q⟩, E.2.2⟩
  | succ d ih =>
    intro k f k1 e
    have c : ¬ h a 0 < nI k := by rw [a0]; exact nI_nlt (by omega) (by omega)
    have I := ih (k + 1) f (by omega) (by omega)
    have hm : (t + k) % n < n := Nat.mod_lt _ (by omega)
    obtain ⟨x, ex⟩ : ∃ x, (t + k) % n = x := ⟨_, rfl⟩
    rw [ex] at hm
    rw [show d + 1 + f + 1 = (d + f + 1) + 1 by omega]
    have V : h (a + 7 + 2 * x) 3 = mp g x 7 := by rw [← c2 x hm]; exact pv_F _ h 2
    have Q : fX0_passTurn_c2 a (d + f + 1 + 1) (nI k) h = fX0_passTurn_c32 a (fX0_passTurn_c2 a (d + f + 1)) (nI k) (nI x) h ∧ (sX0_passTurn_c32 a (sX0_passTurn_c2 a (d + f + 1)) (nI k) (nI x) h → sX0_passTurn_c2 a (d + f + 1 + 1) (nI k) h) := by
      have sm : h a 3 + nI k = nI (t + k) := by rw [a3, nI_add]
      by_cases l : t + k < n
      · have l' : h a 3 + nI k < h a 0 := by rw [sm, a0]; exact nI_lt l (by omega)
        have x1 : h a 3 + nI k = nI x := by rw [sm, ← ex, Nat.mod_eq_of_lt l]
        constructor
        · show (if h a 0 < nI k then _ else (if h a 3 + nI k < h a 0 then _ else _)) = _
          rw [if_neg c, if_pos l', x1]
        · intro w
          refine ⟨fun q => absurd q c, fun _ => ⟨fun _ => ?_, fun q => absurd l' q⟩⟩
          rw [x1]
          exact w
      · have l' : ¬ h a 3 + nI k < h a 0 := by rw [sm, a0]; exact nI_nlt (by omega) (by omega)
        have x1 : h a 3 + nI k - h a 0 = nI x := by
          rw [sm, a0, ← ex, Nat.mod_eq_sub_mod (by omega), Nat.mod_eq_of_lt (by omega)]
          refine ti_eq ?_
          rw [ti_sub (by rw [ti_nI (by omega), ti_nI (by omega)]; omega) (by rw [ti_nI (by omega), ti_nI (by omega)]; omega), ti_nI (by omega), ti_nI (by omega), ti_nI (by omega)]
          omega
        constructor
        · show (if h a 0 < nI k then _ else (if h a 3 + nI k < h a 0 then _ else _)) = _
          rw [if_neg c, if_neg l', x1]
        · intro w
          refine ⟨fun q => absurd q c, fun _ => ⟨fun q => absurd q l', fun _ => ?_⟩⟩
          rw [x1]
          exact w
    have R : fX0_passTurn_c32 a (fX0_passTurn_c2 a (d + f + 1)) (nI k) (nI x) h = if mp g x 7 ≤ 0 then fX0_passTurn_c2 a (d + f + 1) (nI (k + 1)) h else hset h a 3 (nI x) := by
      unfold fX0_passTurn_c32
      rw [nclamp (by omega), V, nI_1]
    have G : gon n t g (d + 1) k = if mp g x 7 ≤ 0 then gon n t g d (k + 1) else upd g 3 (nI x) := by
      rw [← ex]
      rfl
    have S : sX0_passTurn_c32 a (sX0_passTurn_c2 a (d + f + 1)) (nI k) (nI x) h := by
      refine ⟨v_of (by omega) (by decide), fun _ => ?_, fun _ => trivial⟩
      rw [nI_1]
      exact I.2.1
    rw [Q.1, R, G]
    by_cases w : mp g x 7 ≤ 0
    · rw [if_pos w, if_pos w]
      exact ⟨I.1, Q.2 S, I.2.2⟩
    · rw [if_neg w, if_neg w]
      refine ⟨⟨fun j hj => ?_, fun p hp => ?_, fun s hs => ?_⟩, Q.2 S, out_set (by omega) (by omega) out_refl, hset_o _ _ _ _ (by omega), hset_o _ _ _ _ (by omega)⟩
      · rw [hset_s]
        by_cases j3 : j = 3
        · subst j3
          rw [upd_s, upd_s]
        · rw [upd_o j3, upd_o j3, c1 j hj]
      · rw [pv_o (by omega) (by omega), c2 p hp, mp_lo (by decide)]
      · rw [hset_o _ _ _ _ (by omega), hset_o _ _ _ _ (by omega), hset_o _ _ _ _ (by omega), upd_o (by omega), upd_o (by omega), upd_o (by omega)]
        exact c3 s hs
theorem c_pass {a n t : Nat} {h : HH} {g : Nat → Int32} {B : Int} (hB : B ≤ 100000000) (hn0 : 2 ≤ n) (hn : n ≤ 4) (ht : t < n) (h0 : g 0 = nI n) (h3 : g 3 = nI t) (hr : 1 ≤ (g 2).toInt ∧ (g 2).toInt ≤ (g 1).toInt ∧ (g 1).toInt ≤ 12) (hI : ∀ p, p < n → PI B (mp g p)) (cg : CG n a h g) : CG n a (fX0_passTurn a h) (G_goesOn n t g) ∧ sX0_passTurn a h ∧ Out a (a + 15) h (fX0_passTurn a h) ∧ fX0_passTurn a h (a + 5) = h (a + 5) ∧ fX0_passTurn a h (a + 6) = h (a + 6) := by
  have L := c_pass_loop hB hn0 hn ht h0 h3 hr hI cg n 1 (5 - n) (by decide) (by omega)
  rw [show n + (5 - n) + 1 = 6 by omega] at L
  exact L
