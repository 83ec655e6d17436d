/-! placements on the model's row -/
theorem ps_upd {g : Nat → Int32} {p k : Nat} {v : Int32} {r : Nat → Int32} (hk : k < 5 + 11 * p ∨ 16 + 11 * p ≤ k) : upd (ps g p r) k v = ps (upd g k v) p r := by
  funext x
  unfold upd ps
  dsimp only
  by_cases h1 : x = k
  · rw [if_pos h1, if_neg (by omega), if_pos h1]
  · rw [if_neg h1]
    split
    · rfl
    · rfl
def P_act0 : Nat → Int32 → Int32 → (Nat → Int32) → (Nat → Int32)
  | 0, _, lie, r => upd r 0 (r 0 + lie + (if bI (P_has r 1) = 0 then 0 else 1))
  | 1, _, lie, r => upd r 1 (r 1 + lie)
  | 2, _, _, r => upd r 2 (r 2 + 1)
  | 3, _, lie, r => upd r 4 (r 4 + lie)
  | 4, _, _, r => upd r 4 (r 4 + 2)
  | 5, _, lie, r => upd r 3 (r 3 + lie)
  | 6, _, _, r => upd (P_pay r (-1)) 8 (r 8 + 1)
  | 7, _, _, r => upd (upd r 5 (r 5 + 1)) 6 (r 6 + 1)
  | 8, c, _, r => upd (upd r 2 (r 2 - c)) 4 (r 4 + (if bI (P_has r 0) = 0 then 3 else 5) * c)
  | 9, c, _, r => upd (P_pay r c) 10 (r 10 + (1 <<< (c &&& 31)))
  | 10, _, _, r => upd r 2 (r 2 + 1)
  | _ + 11, c, _, r => upd (upd r (c / 5).toNatClampNeg (r (c / 5).toNatClampNeg - 2)) (jrem c 5).toNatClampNeg (upd r (c / 5).toNatClampNeg (r (c / 5).toNatClampNeg - 2) (jrem c 5).toNatClampNeg + 1)
theorem P_act0_0 (c lie : Int32) (r : Nat → Int32) : P_act0 0 c lie r = upd r 0 (r 0 + lie + (if bI (P_has r 1) = 0 then 0 else 1)) := rfl
theorem P_act0_8 (c lie : Int32) (r : Nat → Int32) : P_act0 8 c lie r = upd (upd r 2 (r 2 - c)) 4 (r 4 + (if bI (P_has r 0) = 0 then 3 else 5) * c) := rfl
theorem P_act0_11 (c lie : Int32) (r : Nat → Int32) : P_act0 11 c lie r = upd (upd r (c / 5).toNatClampNeg (r (c / 5).toNatClampNeg - 2)) (jrem c 5).toNatClampNeg (upd r (c / 5).toNatClampNeg (r (c / 5).toNatClampNeg - 2) (jrem c 5).toNatClampNeg + 1) := rfl
def P_act (s : Nat) (c lie : Int32) (r : Nat → Int32) : Nat → Int32 := P_act0 s c lie (upd r 7 (r 7 + -1))
def takesAll (s : Nat) : Bool := if s = 0 then true else if s = 1 then true else if s = 3 then true else if s = 5 then true else false
def G_tk (t s : Nat) (g : Nat → Int32) : Nat → Int32 := if s = 10 then upd g 4 (nI t) else if takesAll s = true then upd g (49 + 3 * s) 0 else g
def G_sp (t s : Nat) (g : Nat → Int32) : Nat → Int32 := G_tk t s (upd (if g (50 + 3 * s) = 0 then upd g (51 + 3 * s) (nI t) else g) (50 + 3 * s) (g (50 + 3 * s) + 1))
def G_comes (t s : Nat) (c : Int32) (g : Nat → Int32) : Nat → Int32 := ps (G_sp t s g) t (P_act s c (g (49 + 3 * s)) (mp g t))
theorem j5 {j : Nat} (hj : j < 25) : nI j / 5 = nI (j / 5) ∧ jrem (nI j) 5 = nI (j % 5) := by
  have h5 : (5 : Int32) = nI 5 := rfl
  have a : nI j / 5 = nI (j / 5) := ti_eq (by rw [ti_div (by rw [ti_nI (by omega)]; omega) (by decide), ti_nI (by omega), ti_nI (by omega), t5]; omega)
  refine ⟨a, ?_⟩
  unfold jrem
  rw [a]
  refine ti_eq ?_
  have m1 : (nI (j / 5) * 5).toInt = (j / 5 : Nat) * 5 := by rw [ti_mul (by rw [ti_nI (by omega), t5]; omega) (by rw [ti_nI (by omega), t5]; omega), ti_nI (by omega), t5]
  rw [ti_sub (by rw [m1, ti_nI (by omega)]; omega) (by rw [m1, ti_nI (by omega)]; omega), m1, ti_nI (by omega), ti_nI (by omega)]
  omega
theorem j5c {j : Nat} (hj : j < 25) : (nI j / 5).toNatClampNeg = j / 5 ∧ (jrem (nI j) 5).toNatClampNeg = j % 5 := by
  rw [(j5 hj).1, (j5 hj).2]
  exact ⟨nI_clamp (by omega), nI_clamp (by omega)⟩
theorem cut_act0 {s : Nat} {j : Nat} {lie : Int32} {r : Nat → Int32} (hj : j < 25) (c : Cut r) : Cut (P_act0 s (nI j) lie r) := by
  have hp : ∀ b, Cut (P_pay r b) := fun b => cut_upd (cut_upd c (by decide)) (by decide)
  match s with
  | 0 => exact cut_upd c (by decide)
  | 1 => exact cut_upd c (by decide)
  | 2 => exact cut_upd c (by decide)
  | 3 => exact cut_upd c (by decide)
  | 4 => exact cut_upd c (by decide)
  | 5 => exact cut_upd c (by decide)
  | 6 => exact cut_upd (hp _) (by decide)
  | 7 => exact cut_upd (cut_upd c (by decide)) (by decide)
  | 8 => exact cut_upd (cut_upd c (by decide)) (by decide)
  | 9 => exact cut_upd (hp _) (by decide)
  | 10 => exact cut_upd c (by decide)
  | s + 11 =>
    have e := j5c hj
    refine cut_upd (cut_upd c ?_) ?_
    · rw [e.1]; omega
    · rw [e.2]; omega
theorem cut_act {s : Nat} {j : Nat} {lie : Int32} {r : Nat → Int32} (hj : j < 25) (c : Cut r) : Cut (P_act s (nI j) lie r) := cut_act0 hj (cut_upd c (by decide))
theorem sa0 {s : Nat} (hs : s < 12) : (fX6_spaceAt (nI s) 0).toNatClampNeg = 49 + 3 * s ∧ vp_in (fX6_spaceAt (nI s) 0) 206 := sa_v (w := 0) hs (by decide)
theorem sa1 {s : Nat} (hs : s < 12) : (fX6_spaceAt (nI s) 1).toNatClampNeg = 50 + 3 * s ∧ vp_in (fX6_spaceAt (nI s) 1) 206 := by
  have q := sa_v (w := 1) hs (by decide)
  exact ⟨q.1.trans (by omega), q.2⟩
theorem sa2 {s : Nat} (hs : s < 12) : (fX6_spaceAt (nI s) 2).toNatClampNeg = 51 + 3 * s ∧ vp_in (fX6_spaceAt (nI s) 2) 206 := by
  have q := sa_v (w := 2) hs (by decide)
  exact ⟨q.1.trans (by omega), q.2⟩
theorem m_pays {m t : Nat} {b : Int32} {h : HH} (ht : t < 4) : fX6_pays m (nI t) b h = hrow h (m + 1) (ps (h (m + 1)) t (P_pay (mp (h (m + 1)) t) b)) ∧ sX6_pays m (nI t) b h := by
  have c1 : Cut (upd (mp (h (m + 1)) t) 0 (mp (h (m + 1)) t 0 + -P_cost (mp (h (m + 1)) t) b 0)) := cut_upd (mp_cut _ _) (by decide)
  refine ⟨?_, m_scost ht, m_scost ht, m_si0 ht, m_si1 ht⟩
  show fX6_gets m (nI t) 1 (-(fX6_costOf m (nI t) b 1 h)) (fX6_gets m (nI t) 0 (-(fX6_costOf m (nI t) b 0 h)) h) = _
  rw [m_cost ht, m_cost ht, m_i0 ht, m_i1 ht, hrow_s, hrow_hrow, ps_ps, mp_ps_s c1, upd_o (by decide : (1 : Nat) ≠ 0), ← Int32.sub_eq_add_neg, ← Int32.sub_eq_add_neg]
  rfl
theorem m_takes {m t s k : Nat} {h : HH} (ht : t < 4) (hs : s < 12) (hk : k < 11) : fX6_takes m (nI t) (nI s) (nI k) h = hrow h (m + 1) (ps (upd (h (m + 1)) (49 + 3 * s) 0) t (upd (mp (h (m + 1)) t) k (mp (h (m + 1)) t k + h (m + 1) (49 + 3 * s)))) ∧ sX6_takes m (nI t) (nI s) (nI k) h := by
  refine ⟨?_, (sa0 hs).2, m_sgets ht hk, (sa0 hs).2⟩
  show hset (fX6_gets m (nI t) (nI k) (h (m + 1) (fX6_spaceAt (nI s) 0).toNatClampNeg) h) (m + 1) (fX6_spaceAt (nI s) 0).toNatClampNeg 0 = _
  rw [(sa0 hs).1, m_gets ht hk, hrow_set, ps_upd (by omega)]
theorem m_acts0 {m t j : Nat} {h : HH} (ht : t < 4) (hj : j < 25) : fX6_acts m (nI t) (nI 0) (nI j) h = hrow h (m + 1) (ps (G_tk t 0 (h (m + 1))) t (P_act0 0 (nI j) (h (m + 1) (49 + 3 * 0)) (mp (h (m + 1)) t))) ∧ sX6_acts m (nI t) (nI 0) (nI j) h := by
  have cr := mp_cut (h (m + 1)) t
  have T := m_takes (m := m) (t := t) (s := 0) (k := 0) (h := h) ht (by decide) (by decide)
  have c1 : Cut (upd (mp (h (m + 1)) t) 0 (mp (h (m + 1)) t 0 + h (m + 1) (49 + 3 * 0))) := cut_upd cr (by decide)
  constructor
  · unfold fX6_acts fX6_acts_c0
    rw [if_pos (by decide : nI 0 = 0)]
    have T1 : fX6_takes m (nI t) (nI 0) 0 h = _ := T.1
    rw [T1]
    unfold fX6_acts_c57 fX6_acts_c68
    rw [m_has ht, m_i0 ht, m_i0 ht, hrow_s, hrow_hrow, hrow_hrow, ps_ps, ps_ps, mp_ps_s c1, upd_s, upd_u, upd_u, P_has_ext (upd_o (by decide))]
    unfold G_tk
    rw [P_act0_0, if_neg (by decide : ¬ (0 : Nat) = 10), if_pos (by decide : takesAll 0 = true)]
    by_cases c : bI (P_has (mp (h (m + 1)) t) 1) = 0
    · rw [if_pos c, if_pos c]
    · rw [if_neg c, if_neg c]
  · unfold sX6_acts sX6_acts_c0
    exact ⟨fun _ => ⟨T.2, m_shas ht, fun _ => m_si0 ht, fun _ => m_si0 ht⟩, fun q => absurd rfl q⟩
theorem m_acts1 {m t j : Nat} {h : HH} (ht : t < 4) (hj : j < 25) : fX6_acts m (nI t) (nI 1) (nI j) h = hrow h (m + 1) (ps (G_tk t 1 (h (m + 1))) t (P_act0 1 (nI j) (h (m + 1) (49 + 3 * 1)) (mp (h (m + 1)) t))) ∧ sX6_acts m (nI t) (nI 1) (nI j) h := by
  have cr := mp_cut (h (m + 1)) t
  have T := m_takes (m := m) (t := t) (s := 1) (k := 1) (h := h) ht (by decide) (by decide)
  constructor
  · unfold fX6_acts fX6_acts_c0
    rw [if_neg (by decide : ¬ nI 1 = 0), if_pos (by decide : nI 1 = 1)]
    have T1 : fX6_takes m (nI t) (nI 1) 1 h = _ := T.1
    rw [T1]
    unfold P_act0 G_tk
    rw [if_neg (by decide : ¬ (1 : Nat) = 10), if_pos (by decide : takesAll 1 = true)]
  · unfold sX6_acts sX6_acts_c0
    exact ⟨fun q => absurd q (by decide), fun _ => ⟨fun _ => T.2, fun q => absurd rfl q⟩⟩
theorem m_acts2 {m t j : Nat} {h : HH} (ht : t < 4) (hj : j < 25) : fX6_acts m (nI t) (nI 2) (nI j) h = hrow h (m + 1) (ps (G_tk t 2 (h (m + 1))) t (P_act0 2 (nI j) (h (m + 1) (49 + 3 * 2)) (mp (h (m + 1)) t))) ∧ sX6_acts m (nI t) (nI 2) (nI j) h := by
  have cr := mp_cut (h (m + 1)) t
  constructor
  · unfold fX6_acts fX6_acts_c0
    rw [if_neg (by decide : ¬ nI 2 = 0), if_neg (by decide : ¬ nI 2 = 1), if_pos (by decide : nI 2 = 2)]
    rw [m_i2 ht]
    unfold P_act0 G_tk
    rw [if_neg (by decide : ¬ (2 : Nat) = 10), if_neg (by decide : ¬ takesAll 2 = true)]
  · unfold sX6_acts sX6_acts_c0
    exact ⟨fun q => absurd q (by decide), fun _ => ⟨fun q => absurd q (by decide), fun _ => ⟨fun _ => m_si2 ht, fun q => absurd rfl q⟩⟩⟩
theorem m_acts3 {m t j : Nat} {h : HH} (ht : t < 4) (hj : j < 25) : fX6_acts m (nI t) (nI 3) (nI j) h = hrow h (m + 1) (ps (G_tk t 3 (h (m + 1))) t (P_act0 3 (nI j) (h (m + 1) (49 + 3 * 3)) (mp (h (m + 1)) t))) ∧ sX6_acts m (nI t) (nI 3) (nI j) h := by
  have cr := mp_cut (h (m + 1)) t
  have T := m_takes (m := m) (t := t) (s := 3) (k := 4) (h := h) ht (by decide) (by decide)
  constructor
  · unfold fX6_acts fX6_acts_c0
    rw [if_neg (by decide : ¬ nI 3 = 0), if_neg (by decide : ¬ nI 3 = 1), if_neg (by decide : ¬ nI 3 = 2), if_pos (by decide : nI 3 = 3)]
    have T1 : fX6_takes m (nI t) (nI 3) 4 h = _ := T.1
    rw [T1]
    unfold P_act0 G_tk
    rw [if_neg (by decide : ¬ (3 : Nat) = 10), if_pos (by decide : takesAll 3 = true)]
  · unfold sX6_acts sX6_acts_c0
    exact ⟨fun q => absurd q (by decide), fun _ => ⟨fun q => absurd q (by decide), fun _ => ⟨fun q => absurd q (by decide), fun _ => ⟨fun _ => T.2, fun q => absurd rfl q⟩⟩⟩⟩
theorem m_acts4 {m t j : Nat} {h : HH} (ht : t < 4) (hj : j < 25) : fX6_acts m (nI t) (nI 4) (nI j) h = hrow h (m + 1) (ps (G_tk t 4 (h (m + 1))) t (P_act0 4 (nI j) (h (m + 1) (49 + 3 * 4)) (mp (h (m + 1)) t))) ∧ sX6_acts m (nI t) (nI 4) (nI j) h := by
  have cr := mp_cut (h (m + 1)) t
  constructor
  · unfold fX6_acts fX6_acts_c0
    rw [if_neg (by decide : ¬ nI 4 = 0), if_neg (by decide : ¬ nI 4 = 1), if_neg (by decide : ¬ nI 4 = 2), if_neg (by decide : ¬ nI 4 = 3), if_pos (by decide : nI 4 = 4)]
    rw [m_i4 ht]
    unfold P_act0 G_tk
    rw [if_neg (by decide : ¬ (4 : Nat) = 10), if_neg (by decide : ¬ takesAll 4 = true)]
  · unfold sX6_acts sX6_acts_c0
    exact ⟨fun q => absurd q (by decide), fun _ => ⟨fun q => absurd q (by decide), fun _ => ⟨fun q => absurd q (by decide), fun _ => ⟨fun q => absurd q (by decide), fun _ => ⟨fun _ => m_si4 ht, fun q => absurd rfl q⟩⟩⟩⟩⟩
theorem m_acts5 {m t j : Nat} {h : HH} (ht : t < 4) (hj : j < 25) : fX6_acts m (nI t) (nI 5) (nI j) h = hrow h (m + 1) (ps (G_tk t 5 (h (m + 1))) t (P_act0 5 (nI j) (h (m + 1) (49 + 3 * 5)) (mp (h (m + 1)) t))) ∧ sX6_acts m (nI t) (nI 5) (nI j) h := by
  have cr := mp_cut (h (m + 1)) t
  have T := m_takes (m := m) (t := t) (s := 5) (k := 3) (h := h) ht (by decide) (by decide)
  constructor
  · unfold fX6_acts fX6_acts_c0
    rw [if_neg (by decide : ¬ nI 5 = 0), if_neg (by decide : ¬ nI 5 = 1), if_neg (by decide : ¬ nI 5 = 2), if_neg (by decide : ¬ nI 5 = 3), if_neg (by decide : ¬ nI 5 = 4), if_pos (by decide : nI 5 = 5)]
    have T1 : fX6_takes m (nI t) (nI 5) 3 h = _ := T.1
    rw [T1]
    unfold P_act0 G_tk
    rw [if_neg (by decide : ¬ (5 : Nat) = 10), if_pos (by decide : takesAll 5 = true)]
  · unfold sX6_acts sX6_acts_c0
    exact ⟨fun q => absurd q (by decide), fun _ => ⟨fun q => absurd q (by decide), fun _ => ⟨fun q => absurd q (by decide), fun _ => ⟨fun q => absurd q (by decide), fun _ => ⟨fun q => absurd q (by decide), fun _ => ⟨fun _ => T.2, fun q => absurd rfl q⟩⟩⟩⟩⟩⟩
theorem m_acts6 {m t j : Nat} {h : HH} (ht : t < 4) (hj : j < 25) : fX6_acts m (nI t) (nI 6) (nI j) h = hrow h (m + 1) (ps (G_tk t 6 (h (m + 1))) t (P_act0 6 (nI j) (h (m + 1) (49 + 3 * 6)) (mp (h (m + 1)) t))) ∧ sX6_acts m (nI t) (nI 6) (nI j) h := by
  have cr := mp_cut (h (m + 1)) t
  have T := m_pays (m := m) (t := t) (b := -1) (h := h) ht
  have c1 : Cut (P_pay (mp (h (m + 1)) t) (-1)) := cut_upd (cut_upd cr (by decide)) (by decide)
  have v1 : P_pay (mp (h (m + 1)) t) (-1) 8 = mp (h (m + 1)) t 8 := (upd_o (by decide)).trans (upd_o (by decide))
  constructor
  · unfold fX6_acts fX6_acts_c0
    rw [if_neg (by decide : ¬ nI 6 = 0), if_neg (by decide : ¬ nI 6 = 1), if_neg (by decide : ¬ nI 6 = 2), if_neg (by decide : ¬ nI 6 = 3), if_neg (by decide : ¬ nI 6 = 4), if_neg (by decide : ¬ nI 6 = 5), if_pos (by decide : nI 6 = 6)]
    unfold fX6_acts_c135
    rw [T.1, m_i8 ht, hrow_s, hrow_hrow, ps_ps, mp_ps_s c1, v1]
    unfold P_act0 G_tk
    rw [if_neg (by decide : ¬ (6 : Nat) = 10), if_neg (by decide : ¬ takesAll 6 = true)]
  · unfold sX6_acts sX6_acts_c0
    exact ⟨fun q => absurd q (by decide), fun _ => ⟨fun q => absurd q (by decide), fun _ => ⟨fun q => absurd q (by decide), fun _ => ⟨fun q => absurd q (by decide), fun _ => ⟨fun q => absurd q (by decide), fun _ => ⟨fun q => absurd q (by decide), fun _ => ⟨fun _ => ⟨T.2, m_si8 ht⟩, fun q => absurd rfl q⟩⟩⟩⟩⟩⟩⟩
theorem m_acts7 {m t j : Nat} {h : HH} (ht : t < 4) (hj : j < 25) : fX6_actsElse m (nI t) (nI 7) (nI j) h = hrow h (m + 1) (ps (G_tk t 7 (h (m + 1))) t (P_act0 7 (nI j) (h (m + 1) (49 + 3 * 7)) (mp (h (m + 1)) t))) ∧ sX6_actsElse m (nI t) (nI 7) (nI j) h := by
  have cr := mp_cut (h (m + 1)) t
  have c1 : Cut (upd (mp (h (m + 1)) t) 5 (mp (h (m + 1)) t 5 + 1)) := cut_upd cr (by decide)
  constructor
  · unfold fX6_actsElse fX6_actsElse_c0
    rw [if_pos (by decide : nI 7 = 7)]
    unfold fX6_actsElse_c44
    rw [m_i5 ht, m_i6 ht, hrow_s, hrow_hrow, ps_ps, mp_ps_s c1, upd_o (by decide : (6 : Nat) ≠ 5)]
    unfold P_act0 G_tk
    rw [if_neg (by decide : ¬ (7 : Nat) = 10), if_neg (by decide : ¬ takesAll 7 = true)]
  · unfold sX6_actsElse sX6_actsElse_c0
    exact ⟨fun _ => ⟨m_si5 ht, m_si6 ht⟩, fun q => absurd rfl q⟩
theorem m_acts8 {m t j : Nat} {h : HH} (ht : t < 4) (hj : j < 25) : fX6_actsElse m (nI t) (nI 8) (nI j) h = hrow h (m + 1) (ps (G_tk t 8 (h (m + 1))) t (P_act0 8 (nI j) (h (m + 1) (49 + 3 * 8)) (mp (h (m + 1)) t))) ∧ sX6_actsElse m (nI t) (nI 8) (nI j) h := by
  have cr := mp_cut (h (m + 1)) t
  have c1 : Cut (upd (mp (h (m + 1)) t) 2 (mp (h (m + 1)) t 2 - nI j)) := cut_upd cr (by decide)
  constructor
  · unfold fX6_actsElse fX6_actsElse_c0
    rw [if_neg (by decide : ¬ nI 8 = 7), if_pos (by decide : nI 8 = 8)]
    unfold fX6_actsElse_c64 fX6_actsElse_c75
    rw [m_i2 ht, ← Int32.sub_eq_add_neg, m_has ht, m_i4 ht, m_i4 ht, hrow_s, hrow_hrow, hrow_hrow, ps_ps, ps_ps, mp_ps_s c1, P_has_ext (upd_o (by decide)), upd_o (by decide : (4 : Nat) ≠ 2)]
    unfold G_tk
    rw [P_act0_8, if_neg (by decide : ¬ (8 : Nat) = 10), if_neg (by decide : ¬ takesAll 8 = true)]
    by_cases c : bI (P_has (mp (h (m + 1)) t) 0) = 0
    · rw [if_pos c, if_pos c]
    · rw [if_neg c, if_neg c]
  · unfold sX6_actsElse sX6_actsElse_c0
    exact ⟨fun q => absurd q (by decide), fun _ => ⟨fun _ => ⟨m_si2 ht, m_shas ht, fun _ => m_si4 ht, fun _ => m_si4 ht⟩, fun q => absurd rfl q⟩⟩
theorem m_acts9 {m t j : Nat} {h : HH} (ht : t < 4) (hj : j < 25) : fX6_actsElse m (nI t) (nI 9) (nI j) h = hrow h (m + 1) (ps (G_tk t 9 (h (m + 1))) t (P_act0 9 (nI j) (h (m + 1) (49 + 3 * 9)) (mp (h (m + 1)) t))) ∧ sX6_actsElse m (nI t) (nI 9) (nI j) h := by
  have cr := mp_cut (h (m + 1)) t
  have T := m_pays (m := m) (t := t) (b := nI j) (h := h) ht
  have c1 : Cut (P_pay (mp (h (m + 1)) t) (nI j)) := cut_upd (cut_upd cr (by decide)) (by decide)
  have v1 : P_pay (mp (h (m + 1)) t) (nI j) 10 = mp (h (m + 1)) t 10 := (upd_o (by decide)).trans (upd_o (by decide))
  constructor
  · unfold fX6_actsElse fX6_actsElse_c0
    rw [if_neg (by decide : ¬ nI 9 = 7), if_neg (by decide : ¬ nI 9 = 8), if_pos (by decide : nI 9 = 9)]
    unfold fX6_actsElse_c96
    rw [T.1, m_i10 ht, hrow_s, hrow_hrow, ps_ps, mp_ps_s c1, v1]
    unfold P_act0 G_tk
    rw [if_neg (by decide : ¬ (9 : Nat) = 10), if_neg (by decide : ¬ takesAll 9 = true)]
  · unfold sX6_actsElse sX6_actsElse_c0
    exact ⟨fun q => absurd q (by decide), fun _ => ⟨fun q => absurd q (by decide), fun _ => ⟨fun _ => ⟨T.2, m_si10 ht⟩, fun q => absurd rfl q⟩⟩⟩
theorem m_acts10 {m t j : Nat} {h : HH} (ht : t < 4) (hj : j < 25) : fX6_actsElse m (nI t) (nI 10) (nI j) h = hrow h (m + 1) (ps (G_tk t 10 (h (m + 1))) t (P_act0 10 (nI j) (h (m + 1) (49 + 3 * 10)) (mp (h (m + 1)) t))) ∧ sX6_actsElse m (nI t) (nI 10) (nI j) h := by
  have cr := mp_cut (h (m + 1)) t
  constructor
  · unfold fX6_actsElse fX6_actsElse_c0
    rw [if_neg (by decide : ¬ nI 10 = 7), if_neg (by decide : ¬ nI 10 = 8), if_neg (by decide : ¬ nI 10 = 9), if_pos (by decide : nI 10 = 10)]
    rw [m_i2 ht, hrow_set, ps_upd (by omega)]
    unfold P_act0 G_tk
    rw [if_pos rfl]
  · unfold sX6_actsElse sX6_actsElse_c0
    exact ⟨fun q => absurd q (by decide), fun _ => ⟨fun q => absurd q (by decide), fun _ => ⟨fun q => absurd q (by decide), fun _ => ⟨fun _ => m_si2 ht, fun q => absurd rfl q⟩⟩⟩⟩
theorem m_acts11 {m t j : Nat} {h : HH} (ht : t < 4) (hj : j < 25) : fX6_actsElse m (nI t) (nI 11) (nI j) h = hrow h (m + 1) (ps (G_tk t 11 (h (m + 1))) t (P_act0 11 (nI j) (h (m + 1) (49 + 3 * 11)) (mp (h (m + 1)) t))) ∧ sX6_actsElse m (nI t) (nI 11) (nI j) h := by
  have cr := mp_cut (h (m + 1)) t
  have e := j5 hj
  have e' := j5c hj
  have c1 : Cut (upd (mp (h (m + 1)) t) (j / 5) (mp (h (m + 1)) t (j / 5) + -2)) := cut_upd cr (by omega)
  constructor
  · unfold fX6_actsElse fX6_actsElse_c0
    rw [if_neg (by decide : ¬ nI 11 = 7), if_neg (by decide : ¬ nI 11 = 8), if_neg (by decide : ¬ nI 11 = 9), if_neg (by decide : ¬ nI 11 = 10)]
    unfold fX6_actsElse_c135
    rw [e.1, e.2, m_gets ht (by omega), m_gets ht (by omega), hrow_s, hrow_hrow, ps_ps, mp_ps_s c1]
    unfold G_tk
    rw [P_act0_11, if_neg (by decide : ¬ (11 : Nat) = 10), if_neg (by decide : ¬ takesAll 11 = true), e'.1, e'.2, Int32.sub_eq_add_neg]
  · unfold sX6_actsElse sX6_actsElse_c0
    exact ⟨fun q => absurd q (by decide), fun _ => ⟨fun q => absurd q (by decide), fun _ => ⟨fun q => absurd q (by decide), fun _ => ⟨fun q => absurd q (by decide), fun _ => ⟨by rw [e.1]; exact m_sgets ht (by omega), by unfold sX6_actsElse_c135; rw [e.2]; exact m_sgets ht (by omega)⟩⟩⟩⟩⟩
theorem m_actsE7 {m t j : Nat} {h : HH} (ht : t < 4) (hj : j < 25) : fX6_acts m (nI t) (nI 7) (nI j) h = hrow h (m + 1) (ps (G_tk t 7 (h (m + 1))) t (P_act0 7 (nI j) (h (m + 1) (49 + 3 * 7)) (mp (h (m + 1)) t))) ∧ sX6_acts m (nI t) (nI 7) (nI j) h := by
  have T := m_acts7 (m := m) (h := h) ht hj
  constructor
  · unfold fX6_acts fX6_acts_c0
    rw [if_neg (by decide : ¬ nI 7 = 0), if_neg (by decide : ¬ nI 7 = 1), if_neg (by decide : ¬ nI 7 = 2), if_neg (by decide : ¬ nI 7 = 3), if_neg (by decide : ¬ nI 7 = 4), if_neg (by decide : ¬ nI 7 = 5), if_neg (by decide : ¬ nI 7 = 6)]
    exact T.1
  · unfold sX6_acts sX6_acts_c0
    exact ⟨fun q => absurd q (by decide), fun _ => ⟨fun q => absurd q (by decide), fun _ => ⟨fun q => absurd q (by decide), fun _ => ⟨fun q => absurd q (by decide), fun _ => ⟨fun q => absurd q (by decide), fun _ => ⟨fun q => absurd q (by decide), fun _ => ⟨fun q => absurd q (by decide), fun _ => T.2⟩⟩⟩⟩⟩⟩⟩
theorem m_actsE8 {m t j : Nat} {h : HH} (ht : t < 4) (hj : j < 25) : fX6_acts m (nI t) (nI 8) (nI j) h = hrow h (m + 1) (ps (G_tk t 8 (h (m + 1))) t (P_act0 8 (nI j) (h (m + 1) (49 + 3 * 8)) (mp (h (m + 1)) t))) ∧ sX6_acts m (nI t) (nI 8) (nI j) h := by
  have T := m_acts8 (m := m) (h := h) ht hj
  constructor
  · unfold fX6_acts fX6_acts_c0
    rw [if_neg (by decide : ¬ nI 8 = 0), if_neg (by decide : ¬ nI 8 = 1), if_neg (by decide : ¬ nI 8 = 2), if_neg (by decide : ¬ nI 8 = 3), if_neg (by decide : ¬ nI 8 = 4), if_neg (by decide : ¬ nI 8 = 5), if_neg (by decide : ¬ nI 8 = 6)]
    exact T.1
  · unfold sX6_acts sX6_acts_c0
    exact ⟨fun q => absurd q (by decide), fun _ => ⟨fun q => absurd q (by decide), fun _ => ⟨fun q => absurd q (by decide), fun _ => ⟨fun q => absurd q (by decide), fun _ => ⟨fun q => absurd q (by decide), fun _ => ⟨fun q => absurd q (by decide), fun _ => ⟨fun q => absurd q (by decide), fun _ => T.2⟩⟩⟩⟩⟩⟩⟩
theorem m_actsE9 {m t j : Nat} {h : HH} (ht : t < 4) (hj : j < 25) : fX6_acts m (nI t) (nI 9) (nI j) h = hrow h (m + 1) (ps (G_tk t 9 (h (m + 1))) t (P_act0 9 (nI j) (h (m + 1) (49 + 3 * 9)) (mp (h (m + 1)) t))) ∧ sX6_acts m (nI t) (nI 9) (nI j) h := by
  have T := m_acts9 (m := m) (h := h) ht hj
  constructor
  · unfold fX6_acts fX6_acts_c0
    rw [if_neg (by decide : ¬ nI 9 = 0), if_neg (by decide : ¬ nI 9 = 1), if_neg (by decide : ¬ nI 9 = 2), if_neg (by decide : ¬ nI 9 = 3), if_neg (by decide : ¬ nI 9 = 4), if_neg (by decide : ¬ nI 9 = 5), if_neg (by decide : ¬ nI 9 = 6)]
    exact T.1
  · unfold sX6_acts sX6_acts_c0
    exact ⟨fun q => absurd q (by decide), fun _ => ⟨fun q => absurd q (by decide), fun _ => ⟨fun q => absurd q (by decide), fun _ => ⟨fun q => absurd q (by decide), fun _ => ⟨fun q => absurd q (by decide), fun _ => ⟨fun q => absurd q (by decide), fun _ => ⟨fun q => absurd q (by decide), fun _ => T.2⟩⟩⟩⟩⟩⟩⟩
theorem m_actsE10 {m t j : Nat} {h : HH} (ht : t < 4) (hj : j < 25) : fX6_acts m (nI t) (nI 10) (nI j) h = hrow h (m + 1) (ps (G_tk t 10 (h (m + 1))) t (P_act0 10 (nI j) (h (m + 1) (49 + 3 * 10)) (mp (h (m + 1)) t))) ∧ sX6_acts m (nI t) (nI 10) (nI j) h := by
  have T := m_acts10 (m := m) (h := h) ht hj
  constructor
  · unfold fX6_acts fX6_acts_c0
    rw [if_neg (by decide : ¬ nI 10 = 0), if_neg (by decide : ¬ nI 10 = 1), if_neg (by decide : ¬ nI 10 = 2), if_neg (by decide : ¬ nI 10 = 3), if_neg (by decide : ¬ nI 10 = 4), if_neg (by decide : ¬ nI 10 = 5), if_neg (by decide : ¬ nI 10 = 6)]
    exact T.1
  · unfold sX6_acts sX6_acts_c0
    exact ⟨fun q => absurd q (by decide), fun _ => ⟨fun q => absurd q (by decide), fun _ => ⟨fun q => absurd q (by decide), fun _ => ⟨fun q => absurd q (by decide), fun _ => ⟨fun q => absurd q (by decide), fun _ => ⟨fun q => absurd q (by decide), fun _ => ⟨fun q => absurd q (by decide), fun _ => T.2⟩⟩⟩⟩⟩⟩⟩
theorem m_actsE11 {m t j : Nat} {h : HH} (ht : t < 4) (hj : j < 25) : fX6_acts m (nI t) (nI 11) (nI j) h = hrow h (m + 1) (ps (G_tk t 11 (h (m + 1))) t (P_act0 11 (nI j) (h (m + 1) (49 + 3 * 11)) (mp (h (m + 1)) t))) ∧ sX6_acts m (nI t) (nI 11) (nI j) h := by
  have T := m_acts11 (m := m) (h := h) ht hj
  constructor
  · unfold fX6_acts fX6_acts_c0
    rw [if_neg (by decide : ¬ nI 11 = 0), if_neg (by decide : ¬ nI 11 = 1), if_neg (by decide : ¬ nI 11 = 2), if_neg (by decide : ¬ nI 11 = 3), if_neg (by decide : ¬ nI 11 = 4), if_neg (by decide : ¬ nI 11 = 5), if_neg (by decide : ¬ nI 11 = 6)]
    exact T.1
  · unfold sX6_acts sX6_acts_c0
    exact ⟨fun q => absurd q (by decide), fun _ => ⟨fun q => absurd q (by decide), fun _ => ⟨fun q => absurd q (by decide), fun _ => ⟨fun q => absurd q (by decide), fun _ => ⟨fun q => absurd q (by decide), fun _ => ⟨fun q => absurd q (by decide), fun _ => ⟨fun q => absurd q (by decide), fun _ => T.2⟩⟩⟩⟩⟩⟩⟩
theorem m_acts {m t s j : Nat} {h : HH} (ht : t < 4) (hs : s < 12) (hj : j < 25) : fX6_acts m (nI t) (nI s) (nI j) h = hrow h (m + 1) (ps (G_tk t s (h (m + 1))) t (P_act0 s (nI j) (h (m + 1) (49 + 3 * s)) (mp (h (m + 1)) t))) ∧ sX6_acts m (nI t) (nI s) (nI j) h := by
  have q : s = 0 ∨ s = 1 ∨ s = 2 ∨ s = 3 ∨ s = 4 ∨ s = 5 ∨ s = 6 ∨ s = 7 ∨ s = 8 ∨ s = 9 ∨ s = 10 ∨ s = 11 := by omega
  rcases q with rfl | rfl | rfl | rfl | rfl | rfl | rfl | rfl | rfl | rfl | rfl | rfl
  · exact m_acts0 ht hj
  · exact m_acts1 ht hj
  · exact m_acts2 ht hj
  · exact m_acts3 ht hj
  · exact m_acts4 ht hj
  · exact m_acts5 ht hj
  · exact m_acts6 ht hj
  · exact m_actsE7 ht hj
  · exact m_actsE8 ht hj
  · exact m_actsE9 ht hj
  · exact m_actsE10 ht hj
  · exact m_actsE11 ht hj
theorem G_tk_ps {t s p : Nat} {g r : Nat → Int32} (hp : p < 4) (hs : s < 12) : G_tk t s (ps g p r) = ps (G_tk t s g) p r := by
  unfold G_tk
  split
  · exact ps_upd (by omega)
  · split
    · exact ps_upd (by omega)
    · rfl
theorem m_comes {m t s j : Nat} {h : HH} (ht : t < 4) (h3 : h (m + 1) 3 = nI t) (hs : s < 12) (hj : j < 25) : fX6_comes m (nI s) (nI j) h = hrow h (m + 1) (G_comes t s (nI j) (h (m + 1))) ∧ sX6_comes m (nI s) (nI j) h := by
  have A : ∀ h1 : HH, ∀ g1, h1 (m + 1) = g1 → fX6_comes_c31 m (nI s) (nI j) (nI t) h1 = hrow h1 (m + 1) (ps (G_tk t s (upd g1 (50 + 3 * s) (g1 (50 + 3 * s) + 1))) t (P_act s (nI j) (g1 (49 + 3 * s)) (mp g1 t))) ∧ sX6_comes_c31 m (nI s) (nI j) (nI t) h1 := by
    intro h1 g1 e1
    have B := m_acts (m := m) (t := t) (s := s) (j := j) (h := hrow h1 (m + 1) (ps (upd g1 (50 + 3 * s) (g1 (50 + 3 * s) + 1)) t (upd (mp g1 t) 7 (mp g1 t 7 + -1)))) ht hs hj
    rw [hrow_s, hrow_hrow, mp_ps_s (cut_upd (mp_cut g1 t) (by decide)), G_tk_ps ht hs, ps_ps, ps_hi ht (by omega), upd_o (by omega)] at B
    have C : fX6_gets m (nI t) 7 (-1) (hset h1 (m + 1) (fX6_spaceAt (nI s) 1).toNatClampNeg (h1 (m + 1) (fX6_spaceAt (nI s) 1).toNatClampNeg + 1)) = hrow h1 (m + 1) (ps (upd g1 (50 + 3 * s) (g1 (50 + 3 * s) + 1)) t (upd (mp g1 t) 7 (mp g1 t 7 + -1))) := by
      rw [(sa1 hs).1, m_i7 ht, e1, hset_row, hrow_s, hrow_hrow, e1, mp_hi ht (by omega)]
    refine ⟨?_, (sa1 hs).2, (sa1 hs).2, m_si7 ht, ?_⟩
    · show fX6_acts m (nI t) (nI s) (nI j) (fX6_gets m (nI t) 7 (-1) (hset h1 (m + 1) (fX6_spaceAt (nI s) 1).toNatClampNeg (h1 (m + 1) (fX6_spaceAt (nI s) 1).toNatClampNeg + 1))) = _
      rw [C]
      exact B.1
    · show sX6_acts m (nI t) (nI s) (nI j) (fX6_gets m (nI t) 7 (-1) (hset h1 (m + 1) (fX6_spaceAt (nI s) 1).toNatClampNeg (h1 (m + 1) (fX6_spaceAt (nI s) 1).toNatClampNeg + 1)))
      rw [C]
      exact B.2
  show fX6_comes_c0 m (nI s) (nI j) h = _ ∧ sX6_comes_c0 m (nI s) (nI j) h
  unfold fX6_comes_c0 sX6_comes_c0 G_comes G_sp
  rw [(sa1 hs).1, (sa2 hs).1, h3]
  obtain ⟨g, eg⟩ : ∃ g, h (m + 1) = g := ⟨_, rfl⟩
  rw [eg]
  by_cases c : g (50 + 3 * s) = 0
  · have A1 := A (hset h (m + 1) (51 + 3 * s) (nI t)) (upd g (51 + 3 * s) (nI t)) (by rw [hset_s, eg])
    rw [upd_o (by omega), upd_o (by omega), mp_hi ht (by omega), hset_row, eg, hrow_hrow] at A1
    rw [if_pos c, if_pos c, hset_row, eg]
    exact ⟨A1.1, (sa1 hs).2, fun _ => ⟨(sa2 hs).2, A1.2⟩, fun q => absurd c q⟩
  · have A1 := A h g eg
    rw [if_neg c, if_neg c]
    exact ⟨A1.1, (sa1 hs).2, fun q => absurd q c, fun _ => A1.2⟩
