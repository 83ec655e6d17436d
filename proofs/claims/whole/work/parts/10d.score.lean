/-! a player's score; what the player's methods leave alone; copies -/
def Out (lo hi : Nat) (h h' : HH) : Prop := ∀ q, (q < lo ∨ hi ≤ q) → h' q = h q
theorem out_refl {lo hi : Nat} {h : HH} : Out lo hi h h := fun _ _ => rfl
theorem out_set {lo hi q k : Nat} {v : Int32} {h0 h : HH} (h1 : lo ≤ q) (h2 : q < hi) (o : Out lo hi h0 h) : Out lo hi h0 (hset h q k v) := fun p hp => by
  rw [hset_o _ _ _ _ (by omega)]
  exact o p hp
theorem out_cpy {lo hi q0 q k k' n : Nat} {h0 h : HH} (h1 : lo ≤ q) (h2 : q < hi) (o : Out lo hi h0 h) : Out lo hi h0 (hcpy h q0 q k k' n) := fun p hp => by
  rw [hcpy_o _ _ _ _ _ _ (by omega)]
  exact o p hp
theorem out_tr {lo hi : Nat} {h0 h1 h2 : HH} (o1 : Out lo hi h0 h1) (o2 : Out lo hi h1 h2) : Out lo hi h0 h2 := fun p hp => (o2 p hp).trans (o1 p hp)
theorem out_mono {lo hi lo' hi' : Nat} {h h' : HH} (h1 : lo' ≤ lo) (h2 : hi ≤ hi') (o : Out lo hi h h') : Out lo' hi' h h' := fun p hp => o p (by omega)
theorem out_ite {lo hi : Nat} {h0 h1 h2 : HH} {c : Prop} [Decidable c] (o1 : Out lo hi h0 h1) (o2 : Out lo hi h0 h2) : Out lo hi h0 (if c then h1 else h2) := by
  split
  · exact o1
  · exact o2
theorem pv_out {a lo hi : Nat} {h h' : HH} (o : Out lo hi h h') (ha : a + 1 < lo ∨ hi ≤ a) : pv a h' = pv a h := pv_ext (o a (by omega)) (o (a + 1) (by omega))
theorem o2_payFor (a : Nat) (b : Int32) (h : HH) : Out a (a + 2) h (fX2_payFor a b h) := out_set (by omega) (by omega) (out_set (by omega) (by omega) out_refl)
theorem o2_grow (a : Nat) (h : HH) : Out a (a + 2) h (fX2_grow a h) := out_set (by omega) (by omega) (out_set (by omega) (by omega) out_refl)
theorem o2_start (a : Nat) (h : HH) : Out a (a + 2) h (fX2_startRound a h) :=
  out_ite (out_set (by omega) (by omega) (out_set (by omega) (by omega) out_refl)) (out_set (by omega) (by omega) (out_set (by omega) (by omega) (out_set (by omega) (by omega) out_refl)))
theorem o2_loop (a : Nat) : ∀ (n : Nat) (d w : Int32) (h : HH), Out a (a + 2) h (fX2_feed_c70 a n d w h)
  | 0, _, _, _ => out_refl
  | n + 1, d, w, h => out_ite (out_ite (out_set (by omega) (by omega) out_refl) (out_set (by omega) (by omega) out_refl)) (out_ite (out_ite (out_set (by omega) (by omega) out_refl) (out_set (by omega) (by omega) out_refl)) (out_tr (out_set (by omega) (by omega) out_refl) (o2_loop a n _ _ _)))
theorem o2_feed (a : Nat) (h : HH) : Out a (a + 2) h (fX2_feed a h) :=
  out_tr (out_set (by omega) (by omega) (out_set (by omega) (by omega) out_refl)) (out_ite (o2_loop a 12 _ _ _) (o2_loop a 12 _ _ _))
theorem o2_spoil (a : Nat) (h : HH) : Out a (a + 2) h (fX2_endRound_c12 a h) := out_ite out_refl (out_ite (out_set (by omega) (by omega) out_refl) out_refl)
theorem o2_end (a : Nat) (f : Int32) (h : HH) : Out a (a + 2) h (fX2_endRound a f h) :=
  out_ite (o2_spoil a h) (out_tr (out_tr (o2_feed a h) (out_ite out_refl (out_set (by omega) (by omega) out_refl))) (o2_spoil a _))
theorem o2_copy (a b : Nat) (h : HH) : Out a (a + 2) h (fX2_copyFrom a b h) :=
  out_set (by omega) (by omega) (out_set (by omega) (by omega) (out_set (by omega) (by omega) (out_set (by omega) (by omega) (out_set (by omega) (by omega) (out_set (by omega) (by omega) (out_cpy (by omega) (by omega) out_refl))))))
theorem o2_begin_c2 (a : Nat) : ∀ (n : Nat) (f x : Int32) (h : HH), Out a (a + 2) h (fX2_begin_c2 a n f x h)
  | 0, _, _, _ => out_refl
  | n + 1, f, x, h => out_ite (out_set (by omega) (by omega) (out_set (by omega) (by omega) (out_set (by omega) (by omega) (out_set (by omega) (by omega) (out_set (by omega) (by omega) out_refl))))) (out_tr (out_set (by omega) (by omega) out_refl) (o2_begin_c2 a n _ _ _))
theorem o2_begin (a : Nat) (f : Int32) (h : HH) : Out a (a + 2) h (fX2_begin a f h) := o2_begin_c2 a 6 f 0 h
theorem c_copy {a b : Nat} (hab : b + 1 < a ∨ a + 1 < b) (h : HH) : pv a (fX2_copyFrom a b h) = pv b h := by
  have e : pv a (hcpy h (b + 1) (a + 1) 0 0 5) = fun j => if j < 5 then pv b h j else pv a h j := by
    funext j
    unfold pv
    rw [hcpy_s, hcpy_o _ _ _ _ _ _ (by omega : a ≠ a + 1)]
    by_cases h1 : j < 5
    · simp only [if_pos h1]
      unfold va_cpy
      simp [h1]
    · simp only [if_neg h1]
  obtain ⟨h1, e1⟩ : ∃ h1, hcpy h (b + 1) (a + 1) 0 0 5 = h1 := ⟨_, rfl⟩
  have eb : h1 b = h b := by rw [← e1, hcpy_o _ _ _ _ _ _ (by omega : b ≠ a + 1)]
  show pv a (fX2_copyFrom_c16 a b (hcpy h (b + 1) (a + 1) 0 0 5)) = _
  rw [e1] at e ⊢
  unfold fX2_copyFrom_c16 fX2_copyFrom_c24 fX2_copyFrom_c32 fX2_copyFrom_c40 fX2_copyFrom_c48 fX2_copyFrom_c56
  have hb : b ≠ a := by omega
  simp only [hset_o _ _ _ _ hb]
  rw [pv_setF (by decide), pv_setF (by decide), pv_setF (by decide), pv_setF (by decide), pv_setF (by decide), pv_setF (by decide), e, eb]
  funext j
  unfold upd pv
  by_cases j5 : j < 5
  · have : j ≠ 5 ∧ j ≠ 6 ∧ j ≠ 7 ∧ j ≠ 8 ∧ j ≠ 9 ∧ j ≠ 10 := by omega
    simp [j5, this]
  · by_cases j11 : j < 11
    · have : j = 5 ∨ j = 6 ∨ j = 7 ∨ j = 8 ∨ j = 9 ∨ j = 10 := by omega
      rcases this with rfl | rfl | rfl | rfl | rfl | rfl <;> simp
    · have : j ≠ 5 ∧ j ≠ 6 ∧ j ≠ 7 ∧ j ≠ 8 ∧ j ≠ 9 ∧ j ≠ 10 := by omega
      simp [j5, j11, this]
-- points
theorem P_pts_v (r : Nat → Int32) (b : Nat) (hb : b < 8) : tBUILDING_POINTS (nI b).toNatClampNeg * ((r 10 >>> (nI b &&& 31)) &&& 1) = P_pts r (nI b) := by
  have e : P_has r (nI b) = (if ((r 10 >>> (nI b &&& 31)) &&& 1) = 1 then true else false) := rfl
  unfold P_pts
  rw [e]
  rcases and1 (r 10 >>> (nI b &&& 31)) with x | x <;> rw [x] <;> (match b, hb with | 0, _ => decide | 1, _ => decide | 2, _ => decide | 3, _ => decide | 4, _ => decide | 5, _ => decide | 6, _ => decide | 7, _ => decide | b + 8, hb => exact absurd hb (by omega))
theorem c_pts_step (a n b : Nat) (hb : b < 8) (x : Int32) (h : HH) : fX2_buildingPoints_c4 a (n + 1) x (nI b) h = fX2_buildingPoints_c4 a n (x + P_pts (pv a h) (nI b)) (nI (b + 1)) h ∧ (sX2_buildingPoints_c4 a n (x + P_pts (pv a h) (nI b)) (nI (b + 1)) h → sX2_buildingPoints_c4 a (n + 1) x (nI b) h) := by
  have c : ¬ (8 : Int32) ≤ nI b := nI_ge (b := 8) hb (by decide)
  have q := P_pts_v (pv a h) b hb
  rw [show pv a h 10 = h a 6 from (pv_F a h 5).symm] at q
  rw [← q, ← nI_1]
  refine ⟨if_neg c, fun w => ⟨fun c' => absurd c' c, fun _ => ⟨ti_vp (by rw [ti_nI (by omega)]; omega) (by rw [ti_nI (by omega)]; omega), w⟩⟩⟩
theorem c_bpts (a : Nat) (h : HH) : fX2_buildingPoints a h = P_bpts (pv a h) ∧ sX2_buildingPoints a h := by
  have s (n b : Nat) (hb : b < 8) (x : Int32) := c_pts_step a n b hb x h
  constructor
  · show fX2_buildingPoints_c4 a 9 0 (nI 0) h = _
    rw [(s 8 0 (by decide) _).1, (s 7 1 (by decide) _).1, (s 6 2 (by decide) _).1, (s 5 3 (by decide) _).1, (s 4 4 (by decide) _).1, (s 3 5 (by decide) _).1, (s 2 6 (by decide) _).1, (s 1 7 (by decide) _).1]
    exact if_pos (by decide)
  · refine (s 8 0 (by decide) _).2 ((s 7 1 (by decide) _).2 ((s 6 2 (by decide) _).2 ((s 5 3 (by decide) _).2 ((s 4 4 (by decide) _).2 ((s 3 5 (by decide) _).2 ((s 2 6 (by decide) _).2 ((s 1 7 (by decide) _).2 ?_)))))))
    exact ⟨fun _ => trivial, fun q => absurd (by decide) q⟩
theorem c_score (a : Nat) (x : Int32) (h : HH) : fX2_scorePart a x h = P_score (pv a h) x ∧ sX2_scorePart a x h := by
  have b := c_bpts a h
  constructor
  · show fX2_scorePart_c0 a x h = _
    unfold fX2_scorePart_c0 P_score
    rw [b.1, show h a 1 = pv a h 5 from pv_F a h 0, show h a 4 = pv a h 8 from pv_F a h 3, show h a 5 = pv a h 9 from pv_F a h 4, pv_G a h (by decide : 3 < 5), pv_G a h (by decide : 2 < 5)]
    have : jmin 5 (pv a h 3) = if 5 ≤ pv a h 3 then 5 else pv a h 3 := by
      unfold jmin
      by_cases c : pv a h 3 < 5
      · rw [if_pos c, if_neg (fun q => by have q1 := ti_le.mp q; have q2 := ti_lt.mp c; omega)]
      · rw [if_neg c, if_pos (ti_le.mpr (by have q2 : ¬ (pv a h 3).toInt < (5 : Int32).toInt := fun q => c (ti_lt.mpr q); omega))]
    rw [this]
  · exact ⟨fun _ => trivial, fun _ => ⟨fun _ => trivial, fun _ => ⟨fun _ => trivial, fun _ => ⟨fun _ => trivial, fun _ => ⟨fun _ => b.2, fun _ => trivial⟩⟩⟩⟩⟩
theorem c_all_step (a n k : Nat) (hk : k < 6) (x : Int32) (h : HH) : fX2_wholeScore_c4 a (n + 1) x (nI k) h = fX2_wholeScore_c4 a n (x + P_score (pv a h) (nI k)) (nI (k + 1)) h ∧ (sX2_wholeScore_c4 a n (x + P_score (pv a h) (nI k)) (nI (k + 1)) h → sX2_wholeScore_c4 a (n + 1) x (nI k) h) := by
  have c : ¬ (6 : Int32) ≤ nI k := nI_ge (b := 6) hk (by decide)
  have q := c_score a (nI k) h
  rw [← q.1, ← nI_1]
  exact ⟨if_neg c, fun w => ⟨fun c' => absurd c' c, fun _ => ⟨q.2, w⟩⟩⟩
theorem c_all (a : Nat) (h : HH) : fX2_wholeScore a h = P_all (pv a h) ∧ sX2_wholeScore a h := by
  have s (n b : Nat) (hb : b < 6) (x : Int32) := c_all_step a n b hb x h
  constructor
  · show fX2_wholeScore_c4 a 7 0 (nI 0) h = _
    rw [(s 6 0 (by decide) _).1, (s 5 1 (by decide) _).1, (s 4 2 (by decide) _).1, (s 3 3 (by decide) _).1, (s 2 4 (by decide) _).1, (s 1 5 (by decide) _).1, Int32.zero_add]
    exact if_pos (by decide)
  · refine (s 6 0 (by decide) _).2 ((s 5 1 (by decide) _).2 ((s 4 2 (by decide) _).2 ((s 3 3 (by decide) _).2 ((s 2 4 (by decide) _).2 ((s 1 5 (by decide) _).2 ?_)))))
    exact ⟨fun _ => trivial, fun q => absurd (by decide) q⟩
/-- one player is ahead of another -/
def P_ahead (r r' : Nat → Int32) : Bool := if P_all r' < P_all r then true else if P_all r = P_all r' then (if r 4 ≤ r' 4 then false else true) else false
theorem c_ahead (a b : Nat) (h : HH) : fX2_isAheadOf a b h = P_ahead (pv a h) (pv b h) ∧ sX2_isAheadOf a b h := by
  refine ⟨?_, (c_all a h).2, (c_all b h).2⟩
  show (if fX2_wholeScore b h < fX2_wholeScore a h then true else if fX2_wholeScore a h = fX2_wholeScore b h then (if h (a + 1) 4 ≤ h (b + 1) 4 then false else true) else false) = _
  rw [(c_all a h).1, (c_all b h).1, pv_G a h (by decide : 4 < 5), pv_G b h (by decide : 4 < 5)]
  rfl
theorem i_pts (r : Nat → Int32) (b : Int32) : 0 ≤ (P_pts r b).toInt ∧ (P_pts r b).toInt ≤ 2 := by
  unfold P_pts
  split
  · exact ⟨by decide, by decide⟩
  · show 0 ≤ (fX6_pointsOf_c0 b).toInt ∧ _
    have : fX6_pointsOf b = 1 ∨ fX6_pointsOf b = 2 := by
      show fX6_pointsOf_c0 b = 1 ∨ fX6_pointsOf_c0 b = 2
      unfold fX6_pointsOf_c0
      split
      · exact Or.inr rfl
      · split
        · exact Or.inr rfl
        · split
          · exact Or.inr rfl
          · exact Or.inl rfl
    show 0 ≤ (fX6_pointsOf b).toInt ∧ (fX6_pointsOf b).toInt ≤ 2
    rcases this with e | e <;> rw [e] <;> decide
theorem i_bpts (r : Nat → Int32) : 0 ≤ (P_bpts r).toInt ∧ (P_bpts r).toInt ≤ 16 := by
  have p (b : Int32) := i_pts r b
  have a1 {x y : Int32} {n m : Int} (hx : 0 ≤ x.toInt ∧ x.toInt ≤ n) (hy : 0 ≤ y.toInt ∧ y.toInt ≤ m) (hn : n ≤ 100) (hm : m ≤ 100) : 0 ≤ (x + y).toInt ∧ (x + y).toInt ≤ n + m := by
    rw [ti_add (by omega) (by omega)]
    omega
  have z : 0 ≤ ((0 : Int32)).toInt ∧ ((0 : Int32)).toInt ≤ 0 := by decide
  exact a1 (a1 (a1 (a1 (a1 (a1 (a1 (a1 z (p 0) (by decide) (by decide)) (p 1) (by decide) (by decide)) (p 2) (by decide) (by decide)) (p 3) (by decide) (by decide)) (p 4) (by decide) (by decide)) (p 5) (by decide) (by decide)) (p 6) (by decide) (by decide)) (p 7) (by decide) (by decide)
theorem i_all {B : Int} {r : Nat → Int32} (hB : B ≤ 100000000) (hr : PI B r) : -500000000 ≤ (P_all r).toInt ∧ (P_all r).toInt ≤ 500000000 := by
  have h2 := hr.1 2 (by decide)
  have h3 := hr.1 3 (by decide)
  obtain ⟨_, h5, _, _, h8, h9, _⟩ := hr
  have b4 := i_bpts r
  have e0 : (P_score r 0).toInt = 3 * (r 5).toInt := by
    show (3 * r 5).toInt = _
    rw [ti_mul (by rw [t3]; omega) (by rw [t3]; omega), t3]
  have e1 : (P_score r 1).toInt = (r 8).toInt := rfl
  have e2 : 0 ≤ (P_score r 2).toInt ∧ (P_score r 2).toInt ≤ 100000000 := by
    show 0 ≤ (if 5 ≤ r 3 then 5 else r 3).toInt ∧ (if 5 ≤ r 3 then 5 else r 3).toInt ≤ 100000000
    split
    · rw [t5]; decide
    · omega
  have e3 : 0 ≤ (P_score r 3).toInt ∧ (P_score r 3).toInt ≤ 100000000 := by
    show 0 ≤ (r 2 / 2).toInt ∧ (r 2 / 2).toInt ≤ 100000000
    rw [ti_div (by omega) (by rw [t2]; decide), t2]
    omega
  have e4 : P_score r 4 = P_bpts r := rfl
  have e5 : (P_score r 5).toInt = -3 * (r 9).toInt := by
    show ((-3) * r 9).toInt = _
    rw [ti_mul (by rw [tm3]; omega) (by rw [tm3]; omega), tm3]
  unfold P_all
  have a1 : (P_score r 0 + P_score r 1).toInt = (P_score r 0).toInt + (P_score r 1).toInt := ti_add (by omega) (by omega)
  have a2 : (P_score r 0 + P_score r 1 + P_score r 2).toInt = (P_score r 0).toInt + (P_score r 1).toInt + (P_score r 2).toInt := by rw [ti_add (by omega) (by omega), a1]
  have a3 : (P_score r 0 + P_score r 1 + P_score r 2 + P_score r 3).toInt = (P_score r 0).toInt + (P_score r 1).toInt + (P_score r 2).toInt + (P_score r 3).toInt := by rw [ti_add (by omega) (by omega), a2]
  have a4 : (P_score r 0 + P_score r 1 + P_score r 2 + P_score r 3 + P_score r 4).toInt = (P_score r 0).toInt + (P_score r 1).toInt + (P_score r 2).toInt + (P_score r 3).toInt + (P_bpts r).toInt := by rw [ti_add (by rw [e4]; omega) (by rw [e4]; omega), a3, e4]
  rw [ti_add (by omega) (by omega), a4]
  omega
