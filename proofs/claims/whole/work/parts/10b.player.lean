/-! a player as a row of eleven: 0 to 4 the goods, 5 family, 6 newcomers, 7 free workers, 8 rooms, 9 tokens, 10 buildings -/
def pv (a : Nat) (h : HH) : Nat → Int32 := fun j => if j < 5 then h (a + 1) j else if j < 11 then h a (j - 4) else 0
theorem pv_G (a : Nat) (h : HH) {k : Nat} (hk : k < 5) : h (a + 1) k = pv a h k := (if_pos hk).symm
theorem pv_F (a : Nat) (h : HH) (k : Nat) (hk : k < 6 := by decide) : h a (k + 1) = pv a h (k + 5) := by
  unfold pv
  rw [if_neg (by omega), if_pos (by omega)]
  congr 1
theorem pv_setG {a k : Nat} {v : Int32} {h : HH} (hk : k < 5) : pv a (hset h (a + 1) k v) = upd (pv a h) k v := by
  funext j
  unfold pv
  rw [hset_s, hset_o _ _ _ _ (by omega : a ≠ a + 1)]
  by_cases h1 : j < 5
  · rw [if_pos h1]
    unfold upd
    simp [h1]
  · rw [if_neg h1, upd_o (by omega), if_neg h1]
theorem pv_setF {a k : Nat} {v : Int32} {h : HH} (hk : 1 ≤ k ∧ k < 7) : pv a (hset h a k v) = upd (pv a h) (k + 4) v := by
  funext j
  unfold pv
  rw [hset_s, hset_o _ _ _ _ (by omega : a + 1 ≠ a)]
  by_cases h1 : j < 5
  · rw [if_pos h1, upd_o (by omega), if_pos h1]
  · rw [if_neg h1]
    by_cases h2 : j = k + 4
    · subst h2
      rw [upd_s, if_pos (by omega)]
      rw [show k + 4 - 4 = k by omega, upd_s]
    · rw [upd_o h2, upd_o (by omega), if_neg h1]
theorem pv_o {a q k : Nat} {v : Int32} {h : HH} (h1 : q ≠ a) (h2 : q ≠ a + 1) : pv a (hset h q k v) = pv a h := by
  funext j
  unfold pv
  rw [hset_o _ _ _ _ (Ne.symm h1), hset_o _ _ _ _ (Ne.symm h2)]
theorem pv_ext {a : Nat} {h h' : HH} (h1 : h' a = h a) (h2 : h' (a + 1) = h (a + 1)) : pv a h' = pv a h := by
  funext j
  unfold pv
  rw [h1, h2]
-- the rules for one player, on rows
def P_has (r : Nat → Int32) (b : Int32) : Bool := if ((r 10 >>> (b &&& 31)) &&& 1) = 1 then true else false
def P_cost (r : Nat → Int32) (b g : Int32) : Int32 :=
  if g = 0 then (if bI (P_has r 6) = 0 then fX6_woodOf b else if b = 6 then fX6_woodOf b else if fX6_woodOf b ≤ 0 then fX6_woodOf b else fX6_woodOf b - 1)
  else (if bI (P_has r 7) = 0 then fX6_clayOf b else if b = 7 then fX6_clayOf b else if fX6_clayOf b ≤ 0 then fX6_clayOf b else fX6_clayOf b - 1)
def P_canPay (r : Nat → Int32) (b : Int32) : Bool := if r 0 < P_cost r b 0 then false else if r 1 < P_cost r b 1 then false else true
def P_pay (r : Nat → Int32) (b : Int32) : Nat → Int32 := upd (upd r 0 (r 0 - P_cost r b 0)) 1 (r 1 - P_cost r b 1)
def P_canGrow (r : Nat → Int32) : Bool := if 5 ≤ r 5 then false else if r 8 + (if bI (P_has r 4) = 0 then 0 else 1) ≤ r 5 then false else true
def P_need (r : Nat → Int32) : Int32 := 2 * r 5 - r 6
def P_grain (r : Nat → Int32) : Int32 := if 0 ≤ P_need r - r 4 then (if r 2 ≤ P_need r - r 4 then r 2 else P_need r - r 4) else 0
def P_worth (r : Nat → Int32) : Int32 := if bI (P_has r 3) = 0 then 2 else 4
def P_sheep (r : Nat → Int32) : Int32 := if r 3 ≤ (if 0 < P_need r - r 4 - P_grain r then (P_need r - r 4 - P_grain r + P_worth r - 1) / P_worth r else 0) then r 3 else (if 0 < P_need r - r 4 - P_grain r then (P_need r - r 4 - P_grain r + P_worth r - 1) / P_worth r else 0)
def P_miss (r : Nat → Int32) : Int32 := if 0 ≤ P_need r - r 4 - P_grain r - P_worth r * P_sheep r then P_need r - r 4 - P_grain r - P_worth r * P_sheep r else 0
def P_food (r : Nat → Int32) : Int32 := r 4 + P_grain r + P_worth r * P_sheep r + P_miss r - P_need r
def P_shp (r : Nat → Int32) : Int32 := if r 3 - P_sheep r ≤ 1 then r 3 - P_sheep r else r 3 - P_sheep r + 1
def P_feed (r : Nat → Int32) : Nat → Int32 := upd (upd (upd (upd r 9 (r 9 + P_miss r)) 2 (r 2 - P_grain r)) 4 (P_food r)) 3 (P_shp r)
def P_spoil (r : Nat → Int32) : Nat → Int32 := if r 2 ≤ 3 then r else if bI (P_has r 2) = 0 then upd r 2 3 else r
def P_end (f : Bool) (r : Nat → Int32) : Nat → Int32 := if f = true then P_spoil (P_feed r) else P_spoil r
def P_start (r : Nat → Int32) : Nat → Int32 := upd (upd (upd r 4 (r 4 + (if bI (P_has r 5) = 0 then 0 else 1))) 6 0) 7 (r 5)
def P_pts (r : Nat → Int32) (b : Int32) : Int32 := if bI (P_has r b) = 0 then 0 else fX6_pointsOf b
def P_bpts (r : Nat → Int32) : Int32 := 0 + P_pts r 0 + P_pts r 1 + P_pts r 2 + P_pts r 3 + P_pts r 4 + P_pts r 5 + P_pts r 6 + P_pts r 7
def P_score (r : Nat → Int32) (k : Int32) : Int32 := if k = 0 then 3 * r 5 else if k = 1 then r 8 else if k = 2 then (if 5 ≤ r 3 then 5 else r 3) else if k = 3 then r 2 / 2 else if k = 4 then P_bpts r else (-3) * r 9
def P_all (r : Nat → Int32) : Int32 := P_score r 0 + P_score r 1 + P_score r 2 + P_score r 3 + P_score r 4 + P_score r 5
/-- what a player's row always is; B bounds the amounts -/
def PI (B : Int) (r : Nat → Int32) : Prop := (∀ k, k < 5 → 0 ≤ (r k).toInt ∧ (r k).toInt ≤ B) ∧ (2 ≤ (r 5).toInt ∧ (r 5).toInt ≤ 5) ∧ (0 ≤ (r 6).toInt ∧ (r 6).toInt ≤ (r 5).toInt) ∧ (0 ≤ (r 7).toInt ∧ (r 7).toInt ≤ 5) ∧ (2 ≤ (r 8).toInt ∧ (r 8).toInt ≤ 5) ∧ (0 ≤ (r 9).toInt ∧ (r 9).toInt ≤ B) ∧ (0 ≤ (r 10).toInt ∧ (r 10).toInt ≤ 255)
-- the component's player
theorem c_has (a : Nat) (b : Int32) (h : HH) : fX2_has a b h = P_has (pv a h) b := by
  show (if (((h a 6) >>> (b &&& 31)) &&& 1) = 0 then false else true) = _
  unfold P_has
  rw [show h a 6 = pv a h 10 from pv_F a h 5]
  rcases and1 (pv a h 10 >>> (b &&& 31)) with e | e <;> rw [e] <;> decide
theorem c_part (a : Nat) (k : Nat) (hk : k < 6) (h : HH) : fX2_part a (nI k) h = pv a h (5 + k) := by
  match k, hk with
  | 0, _ => rfl
  | 1, _ => rfl
  | 2, _ => rfl
  | 3, _ => rfl
  | 4, _ => rfl
  | 5, _ => rfl
  | k + 6, hk => exact absurd hk (by omega)
theorem c_need (a : Nat) (h : HH) : fX2_foodNeeded a h = P_need (pv a h) := rfl
theorem bld_cases {b : Int32} (h1 : -1 ≤ b.toInt) (h2 : b.toInt ≤ 7) : b = -1 ∨ b = 0 ∨ b = 1 ∨ b = 2 ∨ b = 3 ∨ b = 4 ∨ b = 5 ∨ b = 6 ∨ b = 7 := by
  have h : b.toInt = -1 ∨ b.toInt = 0 ∨ b.toInt = 1 ∨ b.toInt = 2 ∨ b.toInt = 3 ∨ b.toInt = 4 ∨ b.toInt = 5 ∨ b.toInt = 6 ∨ b.toInt = 7 := by omega
  rcases h with h | h | h | h | h | h | h | h | h
  · exact Or.inl (ti_eq (by rw [h]; decide))
  · exact Or.inr (Or.inl (ti_eq (by rw [h]; decide)))
  · exact Or.inr (Or.inr (Or.inl (ti_eq (by rw [h]; decide))))
  · exact Or.inr (Or.inr (Or.inr (Or.inl (ti_eq (by rw [h]; decide)))))
  · exact Or.inr (Or.inr (Or.inr (Or.inr (Or.inl (ti_eq (by rw [h]; decide))))))
  · exact Or.inr (Or.inr (Or.inr (Or.inr (Or.inr (Or.inl (ti_eq (by rw [h]; decide)))))))
  · exact Or.inr (Or.inr (Or.inr (Or.inr (Or.inr (Or.inr (Or.inl (ti_eq (by rw [h]; decide))))))))
  · exact Or.inr (Or.inr (Or.inr (Or.inr (Or.inr (Or.inr (Or.inr (Or.inl (ti_eq (by rw [h]; decide)))))))))
  · exact Or.inr (Or.inr (Or.inr (Or.inr (Or.inr (Or.inr (Or.inr (Or.inr (ti_eq (by rw [h]; decide)))))))))
theorem c_price0 (a : Nat) (b : Int32) (h : HH) (h1 : -1 ≤ b.toInt) (h2 : b.toInt ≤ 7) : fX2_price a b 0 h = P_cost (pv a h) b 0 ∧ sX2_price a b 0 h := by
  have e6 : h a 6 = pv a h 10 := pv_F a h 5
  have hv : vp_in (b + 1) 9 := by
    rcases bld_cases h1 h2 with rfl | rfl | rfl | rfl | rfl | rfl | rfl | rfl | rfl <;> exact vpd (by decide)
  obtain ⟨x, e⟩ : ∃ x, ((pv a h 10 >>> ((6 : Int32) &&& 31)) &&& 1) = x := ⟨_, rfl⟩
  have hx : x = 0 ∨ x = 1 := by rw [← e]; exact and1 _
  have hh : P_has (pv a h) 6 = (if x = 1 then true else false) := by unfold P_has; rw [e]
  have e1 : fX2_price a b 0 h = (if b = 6 then jmax 0 (tWOOD_PRICE ((b + 1).toNatClampNeg) - 0) else jmax 0 (tWOOD_PRICE ((b + 1).toNatClampNeg) - x)) := by
    rw [← e, ← e6]; unfold fX2_price fX2_price_c0 fX2_price_c13v1 fX2_price_c25v1 fX2_price_c46v1; rw [if_pos (rfl : (0 : Int32) = 0), if_pos (rfl : (0 : Int32) = 0)]
  have e2 : P_cost (pv a h) b 0 = (if bI (if x = 1 then true else false) = 0 then fX6_woodOf b else if b = 6 then fX6_woodOf b else if fX6_woodOf b ≤ 0 then fX6_woodOf b else fX6_woodOf b - 1) := by
    unfold P_cost; rw [hh]; exact (if_pos rfl)
  refine ⟨?_, fun _ => ⟨fun _ => ⟨fun _ => hv, fun _ => hv⟩, fun h9 => absurd rfl h9⟩, fun h9 => absurd rfl h9⟩
  rw [e1, e2]
  rcases bld_cases h1 h2 with rfl | rfl | rfl | rfl | rfl | rfl | rfl | rfl | rfl <;> rcases hx with rfl | rfl <;> decide
theorem c_price1 (a : Nat) (b : Int32) (h : HH) (h1 : -1 ≤ b.toInt) (h2 : b.toInt ≤ 7) : fX2_price a b 1 h = P_cost (pv a h) b 1 ∧ sX2_price a b 1 h := by
  have e6 : h a 6 = pv a h 10 := pv_F a h 5
  have hv : vp_in (b + 1) 9 := by
    rcases bld_cases h1 h2 with rfl | rfl | rfl | rfl | rfl | rfl | rfl | rfl | rfl <;> exact vpd (by decide)
  obtain ⟨x, e⟩ : ∃ x, ((pv a h 10 >>> ((7 : Int32) &&& 31)) &&& 1) = x := ⟨_, rfl⟩
  have hx : x = 0 ∨ x = 1 := by rw [← e]; exact and1 _
  have hh : P_has (pv a h) 7 = (if x = 1 then true else false) := by unfold P_has; rw [e]
  have e1 : fX2_price a b 1 h = (if b = 7 then jmax 0 (tCLAY_PRICE ((b + 1).toNatClampNeg) - 0) else jmax 0 (tCLAY_PRICE ((b + 1).toNatClampNeg) - x)) := by
    rw [← e, ← e6]; unfold fX2_price fX2_price_c0 fX2_price_c13 fX2_price_c25 fX2_price_c46; rw [if_neg (by decide : ¬ (1 : Int32) = 0), if_neg (by decide : ¬ (1 : Int32) = 0)]
  have e2 : P_cost (pv a h) b 1 = (if bI (if x = 1 then true else false) = 0 then fX6_clayOf b else if b = 7 then fX6_clayOf b else if fX6_clayOf b ≤ 0 then fX6_clayOf b else fX6_clayOf b - 1) := by
    unfold P_cost; rw [hh]; exact (if_neg (by decide))
  refine ⟨?_, fun h9 => absurd h9 (by decide), fun _ => ⟨fun h9 => absurd h9 (by decide), fun _ => ⟨fun _ => hv, fun _ => hv⟩⟩⟩
  rw [e1, e2]
  rcases bld_cases h1 h2 with rfl | rfl | rfl | rfl | rfl | rfl | rfl | rfl | rfl <;> rcases hx with rfl | rfl <;> decide
theorem c_canAfford (a : Nat) (b : Int32) (h : HH) (h1 : -1 ≤ b.toInt) (h2 : b.toInt ≤ 7) : fX2_canAfford a b h = P_canPay (pv a h) b ∧ sX2_canAfford a b h := by
  have p0 := c_price0 a b h h1 h2
  have p1 := c_price1 a b h h1 h2
  refine ⟨?_, p0.2, fun _ => trivial, fun _ => p1.2⟩
  show (if (h (a + 1) 0) < (fX2_price a b 0 h) then false else (if (h (a + 1) 1) < (fX2_price a b 1 h) then false else true)) = _
  rw [p0.1, p1.1]
  rfl
theorem P_cost_ext {r r' : Nat → Int32} (h : r' 10 = r 10) (b g : Int32) : P_cost r' b g = P_cost r b g := by
  unfold P_cost P_has
  rw [h]
theorem c_payFor (a : Nat) (b : Int32) (h : HH) (h1 : -1 ≤ b.toInt) (h2 : b.toInt ≤ 7) : pv a (fX2_payFor a b h) = P_pay (pv a h) b ∧ sX2_payFor a b h := by
  have p0 := c_price0 a b h h1 h2
  have p1 := c_price1 a b (hset h (a + 1) 0 ((h (a + 1) 0) - (fX2_price a b 0 h))) h1 h2
  refine ⟨?_, p0.2, vpd (by decide), p1.2, vpd (by decide)⟩
  show pv a (hset (hset h (a + 1) 0 _) (a + 1) 1 ((hset h (a + 1) 0 _ (a + 1) 1) - _)) = _
  rw [p1.1, pv_setG (by decide), pv_setG (by decide), p0.1, hset_s, upd_o (by decide), P_cost_ext (upd_o (by decide))]
  rfl
theorem c_canGrow (a : Nat) (h : HH) : fX2_canGrow a h = P_canGrow (pv a h) := by
  show (if (bI (fX2_has a 4 h)) = 0 then (if 5 ≤ (h a 1) then false else (if (h a 4) ≤ (h a 1) then false else true)) else (if 5 ≤ (h a 1) then false else (if ((h a 4) + 1) ≤ (h a 1) then false else true))) = _
  rw [c_has]
  unfold P_canGrow
  rw [show h a 1 = pv a h 5 from pv_F a h 0, show h a 4 = pv a h 8 from pv_F a h 3]
  by_cases c : bI (P_has (pv a h) 4) = 0
  · rw [if_pos c, if_pos c, show pv a h 8 + 0 = pv a h 8 from Int32.add_zero _]
  · rw [if_neg c, if_neg c]
theorem c_grow (a : Nat) (h : HH) : pv a (fX2_grow a h) = upd (upd (pv a h) 5 (pv a h 5 + 1)) 6 (pv a h 6 + 1) := by
  show pv a (hset (hset h a 1 ((h a 1) + 1)) a 2 ((hset h a 1 ((h a 1) + 1) a 2) + 1)) = _
  rw [pv_setF (by decide), pv_setF (by decide), hset_s, upd_o (by decide)]
  rfl
theorem c_start (a : Nat) (h : HH) : pv a (fX2_startRound a h) = P_start (pv a h) := by
  generalize hh : hset (hset h a 2 0) a 3 ((hset h a 2 0) a 1) = h1
  have e1 : pv a h1 = upd (upd (pv a h) 6 0) 7 (pv a h 5) := by
    rw [← hh, pv_setF (by decide), pv_setF (by decide), hset_s, upd_o (by decide)]
    rfl
  show pv a (if (bI (fX2_has a 5 (hset (hset h a 2 0) a 3 ((hset h a 2 0) a 1)))) = 0 then (hset (hset h a 2 0) a 3 ((hset h a 2 0) a 1)) else (hset (hset (hset h a 2 0) a 3 ((hset h a 2 0) a 1)) (a + 1) 4 (((hset (hset h a 2 0) a 3 ((hset h a 2 0) a 1)) (a + 1) 4) + 1))) = _
  rw [hh, c_has, e1]
  have e2 : P_has (upd (upd (pv a h) 6 0) 7 (pv a h 5)) 5 = P_has (pv a h) 5 := by unfold P_has; rw [upd_o (by decide), upd_o (by decide)]
  rw [e2]
  unfold P_start
  by_cases c : bI (P_has (pv a h) 5) = 0
  · rw [if_pos c, if_pos c, e1, show pv a h 4 + 0 = pv a h 4 from Int32.add_zero _]
    funext j
    unfold upd
    by_cases q : j = 4 <;> simp [q]
  · rw [if_neg c, if_neg c, pv_setG (by decide), pv_G a h1 (by decide), e1]
    funext j
    unfold upd
    by_cases q1 : j = 4 <;> by_cases q2 : j = 6 <;> by_cases q3 : j = 7 <;> simp [q1, q2, q3] <;> omega
