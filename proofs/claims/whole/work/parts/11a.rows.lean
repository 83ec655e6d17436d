/-! the model's row: heads 0 to 4, players, spaces -/
def mp (g : Nat → Int32) (p : Nat) : Nat → Int32 := fun j => if j < 11 then g (5 + 11 * p + j) else 0
def Cut (r : Nat → Int32) : Prop := ∀ j, 11 ≤ j → r j = 0
def ps (g : Nat → Int32) (p : Nat) (r : Nat → Int32) : Nat → Int32 := fun k => if 5 + 11 * p ≤ k ∧ k < 16 + 11 * p then r (k - (5 + 11 * p)) else g k
theorem mp_cut (g : Nat → Int32) (p : Nat) : Cut (mp g p) := fun j hj => if_neg (by omega)
theorem pv_cut (a : Nat) (h : HH) : Cut (pv a h) := fun j hj => by
  unfold pv
  rw [if_neg (by omega), if_neg (by omega)]
theorem cut_upd {r : Nat → Int32} {k : Nat} {v : Int32} (c : Cut r) (hk : k < 11) : Cut (upd r k v) := fun j hj => by
  rw [upd_o (by omega)]
  exact c j hj
theorem mp_ps_s {g : Nat → Int32} {p : Nat} {r : Nat → Int32} (c : Cut r) : mp (ps g p r) p = r := by
  funext j
  unfold mp ps
  by_cases h : j < 11
  · rw [if_pos h, if_pos (by omega), show 5 + 11 * p + j - (5 + 11 * p) = j by omega]
  · rw [if_neg h, c j (by omega)]
theorem mp_ps_o {g : Nat → Int32} {p q : Nat} {r : Nat → Int32} (h : q ≠ p) : mp (ps g p r) q = mp g q := by
  funext j
  unfold mp ps
  by_cases h1 : j < 11
  · rw [if_pos h1, if_pos h1, if_neg (by omega)]
  · rw [if_neg h1, if_neg h1]
theorem ps_lo {g : Nat → Int32} {p k : Nat} {r : Nat → Int32} (h : k < 5) : ps g p r k = g k := if_neg (by omega)
theorem ps_hi {g : Nat → Int32} {p k : Nat} {r : Nat → Int32} (hp : p < 4) (h : 49 ≤ k) : ps g p r k = g k := if_neg (by omega)
theorem ps_ps {g : Nat → Int32} {p : Nat} {r r' : Nat → Int32} : ps (ps g p r) p r' = ps g p r' := by
  funext k
  unfold ps
  split <;> rfl
theorem ps_id {g : Nat → Int32} {p : Nat} : ps g p (mp g p) = g := by
  funext k
  unfold ps mp
  split
  · rw [if_pos (by omega), show 5 + 11 * p + (k - (5 + 11 * p)) = k by omega]
  · rfl
theorem mp_lo {g : Nat → Int32} {p k : Nat} {v : Int32} (h : k < 5) : mp (upd g k v) p = mp g p := by
  funext j
  unfold mp
  split
  · rw [upd_o (by omega)]
  · rfl
theorem mp_hi {g : Nat → Int32} {p k : Nat} {v : Int32} (hp : p < 4) (h : 49 ≤ k) : mp (upd g k v) p = mp g p := by
  funext j
  unfold mp
  split
  · rw [upd_o (by omega)]
  · rfl
theorem upd_ps {g : Nat → Int32} {p j : Nat} {v : Int32} (hj : j < 11) : upd g (5 + 11 * p + j) v = ps g p (upd (mp g p) j v) := by
  funext k
  unfold upd ps mp
  dsimp only
  by_cases h : 5 + 11 * p ≤ k ∧ k < 16 + 11 * p
  · rw [if_pos h]
    by_cases h1 : k = 5 + 11 * p + j
    · rw [if_pos h1, if_pos (by omega)]
    · rw [if_neg h1, if_neg (by omega), if_pos (by omega), show 5 + 11 * p + (k - (5 + 11 * p)) = k by omega]
  · rw [if_neg h, if_neg (by omega)]
theorem p4 {p : Nat} (h : p < 4) : p = 0 ∨ p = 1 ∨ p = 2 ∨ p = 3 := by omega
theorem at_v {p j : Nat} (hp : p < 4) (hj : j < 11) : (fX6_at (nI p) (nI j)).toNatClampNeg = 5 + 11 * p + j ∧ vp_in (fX6_at (nI p) (nI j)) 206 := by
  have e : fX6_at (nI p) (nI j) = nI (5 + 11 * p + j) := by
    rcases p4 hp with rfl | rfl | rfl | rfl <;> (match j, hj with | 0, _ => decide | 1, _ => decide | 2, _ => decide | 3, _ => decide | 4, _ => decide | 5, _ => decide | 6, _ => decide | 7, _ => decide | 8, _ => decide | 9, _ => decide | 10, _ => decide | j + 11, hj => exact absurd hj (by omega))
  rw [e]
  exact ⟨nI_clamp (by omega), ti_vp (by rw [ti_nI (by omega)]; omega) (by rw [ti_nI (by omega)]; omega)⟩
theorem sa_v {s w : Nat} (hs : s < 12) (hw : w < 3) : (fX6_spaceAt (nI s) (nI w)).toNatClampNeg = 49 + 3 * s + w ∧ vp_in (fX6_spaceAt (nI s) (nI w)) 206 := by
  have e : fX6_spaceAt (nI s) (nI w) = nI (49 + 3 * s + w) := by
    show (49 + 3 * nI s) + nI w = _
    refine ti_eq ?_
    have e0 : ((49 : Int32)).toInt = 49 := rfl
    have e1 : (3 * nI s).toInt = 3 * s := by rw [ti_mul (by rw [t3, ti_nI (by omega)]; omega) (by rw [t3, ti_nI (by omega)]; omega), t3, ti_nI (by omega)]
    have e2 : (49 + 3 * nI s).toInt = 49 + 3 * s := by rw [ti_add (by rw [e1, e0]; omega) (by rw [e1, e0]; omega), e1, e0]
    rw [ti_add (by rw [e2, ti_nI (by omega)]; omega) (by rw [e2, ti_nI (by omega)]; omega), e2, ti_nI (by omega), ti_nI (by omega)]
    omega
  rw [e]
  exact ⟨nI_clamp (by omega), ti_vp (by rw [ti_nI (by omega)]; omega) (by rw [ti_nI (by omega)]; omega)⟩
-- the model's player
theorem m_get {m p j : Nat} {h : HH} (hp : p < 4) (hj : j < 11) : fX6_get m (nI p) (nI j) h = mp (h (m + 1)) p j := by
  show h (m + 1) (fX6_at (nI p) (nI j)).toNatClampNeg = _
  rw [(at_v hp hj).1]
  exact (if_pos hj).symm
theorem m_sget {m p j : Nat} {h : HH} (hp : p < 4) (hj : j < 11) : sX6_get m (nI p) (nI j) h := (at_v hp hj).2
theorem m_gets {m p j : Nat} {v : Int32} {h : HH} (hp : p < 4) (hj : j < 11) : fX6_gets m (nI p) (nI j) v h = hrow h (m + 1) (ps (h (m + 1)) p (upd (mp (h (m + 1)) p) j (mp (h (m + 1)) p j + v))) := by
  show hset h (m + 1) (fX6_at (nI p) (nI j)).toNatClampNeg (h (m + 1) (fX6_at (nI p) (nI j)).toNatClampNeg + v) = _
  rw [(at_v hp hj).1, hset_row, upd_ps hj, show h (m + 1) (5 + 11 * p + j) = mp (h (m + 1)) p j from (if_pos hj).symm]
theorem m_sgets {m p j : Nat} {v : Int32} {h : HH} (hp : p < 4) (hj : j < 11) : sX6_gets m (nI p) (nI j) v h := ⟨(at_v hp hj).2, (at_v hp hj).2⟩
theorem m_put {m p j : Nat} {v : Int32} {h : HH} (hp : p < 4) (hj : j < 11) : hset h (m + 1) (fX6_at (nI p) (nI j)).toNatClampNeg v = hrow h (m + 1) (ps (h (m + 1)) p (upd (mp (h (m + 1)) p) j v)) := by
  rw [(at_v hp hj).1, hset_row, upd_ps hj]
theorem m_g0 {m p : Nat} {h : HH} (hp : p < 4) : fX6_get m (nI p) 0 h = mp (h (m + 1)) p 0 := m_get (j := 0) hp (by decide)
theorem m_s0 {m p : Nat} {h : HH} (hp : p < 4) : sX6_get m (nI p) 0 h := m_sget (j := 0) hp (by decide)
theorem m_i0 {m p : Nat} {v : Int32} {h : HH} (hp : p < 4) : fX6_gets m (nI p) 0 v h = hrow h (m + 1) (ps (h (m + 1)) p (upd (mp (h (m + 1)) p) 0 (mp (h (m + 1)) p 0 + v))) := m_gets (j := 0) hp (by decide)
theorem m_si0 {m p : Nat} {v : Int32} {h : HH} (hp : p < 4) : sX6_gets m (nI p) 0 v h := m_sgets (j := 0) hp (by decide)
theorem m_p0 {m p : Nat} {v : Int32} {h : HH} (hp : p < 4) : hset h (m + 1) (fX6_at (nI p) 0).toNatClampNeg v = hrow h (m + 1) (ps (h (m + 1)) p (upd (mp (h (m + 1)) p) 0 v)) := m_put (j := 0) hp (by decide)
theorem m_v0 {p : Nat} (hp : p < 4) : vp_in (fX6_at (nI p) 0) 206 := (at_v (j := 0) hp (by decide)).2
theorem m_g1 {m p : Nat} {h : HH} (hp : p < 4) : fX6_get m (nI p) 1 h = mp (h (m + 1)) p 1 := m_get (j := 1) hp (by decide)
theorem m_s1 {m p : Nat} {h : HH} (hp : p < 4) : sX6_get m (nI p) 1 h := m_sget (j := 1) hp (by decide)
theorem m_i1 {m p : Nat} {v : Int32} {h : HH} (hp : p < 4) : fX6_gets m (nI p) 1 v h = hrow h (m + 1) (ps (h (m + 1)) p (upd (mp (h (m + 1)) p) 1 (mp (h (m + 1)) p 1 + v))) := m_gets (j := 1) hp (by decide)
theorem m_si1 {m p : Nat} {v : Int32} {h : HH} (hp : p < 4) : sX6_gets m (nI p) 1 v h := m_sgets (j := 1) hp (by decide)
theorem m_p1 {m p : Nat} {v : Int32} {h : HH} (hp : p < 4) : hset h (m + 1) (fX6_at (nI p) 1).toNatClampNeg v = hrow h (m + 1) (ps (h (m + 1)) p (upd (mp (h (m + 1)) p) 1 v)) := m_put (j := 1) hp (by decide)
theorem m_v1 {p : Nat} (hp : p < 4) : vp_in (fX6_at (nI p) 1) 206 := (at_v (j := 1) hp (by decide)).2
theorem m_g2 {m p : Nat} {h : HH} (hp : p < 4) : fX6_get m (nI p) 2 h = mp (h (m + 1)) p 2 := m_get (j := 2) hp (by decide)
theorem m_s2 {m p : Nat} {h : HH} (hp : p < 4) : sX6_get m (nI p) 2 h := m_sget (j := 2) hp (by decide)
theorem m_i2 {m p : Nat} {v : Int32} {h : HH} (hp : p < 4) : fX6_gets m (nI p) 2 v h = hrow h (m + 1) (ps (h (m + 1)) p (upd (mp (h (m + 1)) p) 2 (mp (h (m + 1)) p 2 + v))) := m_gets (j := 2) hp (by decide)
theorem m_si2 {m p : Nat} {v : Int32} {h : HH} (hp : p < 4) : sX6_gets m (nI p) 2 v h := m_sgets (j := 2) hp (by decide)
theorem m_p2 {m p : Nat} {v : Int32} {h : HH} (hp : p < 4) : hset h (m + 1) (fX6_at (nI p) 2).toNatClampNeg v = hrow h (m + 1) (ps (h (m + 1)) p (upd (mp (h (m + 1)) p) 2 v)) := m_put (j := 2) hp (by decide)
theorem m_v2 {p : Nat} (hp : p < 4) : vp_in (fX6_at (nI p) 2) 206 := (at_v (j := 2) hp (by decide)).2
theorem m_g3 {m p : Nat} {h : HH} (hp : p < 4) : fX6_get m (nI p) 3 h = mp (h (m + 1)) p 3 := m_get (j := 3) hp (by decide)
theorem m_s3 {m p : Nat} {h : HH} (hp : p < 4) : sX6_get m (nI p) 3 h := m_sget (j := 3) hp (by decide)
theorem m_i3 {m p : Nat} {v : Int32} {h : HH} (hp : p < 4) : fX6_gets m (nI p) 3 v h = hrow h (m + 1) (ps (h (m + 1)) p (upd (mp (h (m + 1)) p) 3 (mp (h (m + 1)) p 3 + v))) := m_gets (j := 3) hp (by decide)
theorem m_si3 {m p : Nat} {v : Int32} {h : HH} (hp : p < 4) : sX6_gets m (nI p) 3 v h := m_sgets (j := 3) hp (by decide)
theorem m_p3 {m p : Nat} {v : Int32} {h : HH} (hp : p < 4) : hset h (m + 1) (fX6_at (nI p) 3).toNatClampNeg v = hrow h (m + 1) (ps (h (m + 1)) p (upd (mp (h (m + 1)) p) 3 v)) := m_put (j := 3) hp (by decide)
theorem m_v3 {p : Nat} (hp : p < 4) : vp_in (fX6_at (nI p) 3) 206 := (at_v (j := 3) hp (by decide)).2
theorem m_g4 {m p : Nat} {h : HH} (hp : p < 4) : fX6_get m (nI p) 4 h = mp (h (m + 1)) p 4 := m_get (j := 4) hp (by decide)
theorem m_s4 {m p : Nat} {h : HH} (hp : p < 4) : sX6_get m (nI p) 4 h := m_sget (j := 4) hp (by decide)
theorem m_i4 {m p : Nat} {v : Int32} {h : HH} (hp : p < 4) : fX6_gets m (nI p) 4 v h = hrow h (m + 1) (ps (h (m + 1)) p (upd (mp (h (m + 1)) p) 4 (mp (h (m + 1)) p 4 + v))) := m_gets (j := 4) hp (by decide)
theorem m_si4 {m p : Nat} {v : Int32} {h : HH} (hp : p < 4) : sX6_gets m (nI p) 4 v h := m_sgets (j := 4) hp (by decide)
theorem m_p4 {m p : Nat} {v : Int32} {h : HH} (hp : p < 4) : hset h (m + 1) (fX6_at (nI p) 4).toNatClampNeg v = hrow h (m + 1) (ps (h (m + 1)) p (upd (mp (h (m + 1)) p) 4 v)) := m_put (j := 4) hp (by decide)
theorem m_v4 {p : Nat} (hp : p < 4) : vp_in (fX6_at (nI p) 4) 206 := (at_v (j := 4) hp (by decide)).2
theorem m_g5 {m p : Nat} {h : HH} (hp : p < 4) : fX6_get m (nI p) 5 h = mp (h (m + 1)) p 5 := m_get (j := 5) hp (by decide)
theorem m_s5 {m p : Nat} {h : HH} (hp : p < 4) : sX6_get m (nI p) 5 h := m_sget (j := 5) hp (by decide)
theorem m_i5 {m p : Nat} {v : Int32} {h : HH} (hp : p < 4) : fX6_gets m (nI p) 5 v h = hrow h (m + 1) (ps (h (m + 1)) p (upd (mp (h (m + 1)) p) 5 (mp (h (m + 1)) p 5 + v))) := m_gets (j := 5) hp (by decide)
theorem m_si5 {m p : Nat} {v : Int32} {h : HH} (hp : p < 4) : sX6_gets m (nI p) 5 v h := m_sgets (j := 5) hp (by decide)
theorem m_p5 {m p : Nat} {v : Int32} {h : HH} (hp : p < 4) : hset h (m + 1) (fX6_at (nI p) 5).toNatClampNeg v = hrow h (m + 1) (ps (h (m + 1)) p (upd (mp (h (m + 1)) p) 5 v)) := m_put (j := 5) hp (by decide)
theorem m_v5 {p : Nat} (hp : p < 4) : vp_in (fX6_at (nI p) 5) 206 := (at_v (j := 5) hp (by decide)).2
theorem m_g6 {m p : Nat} {h : HH} (hp : p < 4) : fX6_get m (nI p) 6 h = mp (h (m + 1)) p 6 := m_get (j := 6) hp (by decide)
theorem m_s6 {m p : Nat} {h : HH} (hp : p < 4) : sX6_get m (nI p) 6 h := m_sget (j := 6) hp (by decide)
theorem m_i6 {m p : Nat} {v : Int32} {h : HH} (hp : p < 4) : fX6_gets m (nI p) 6 v h = hrow h (m + 1) (ps (h (m + 1)) p (upd (mp (h (m + 1)) p) 6 (mp (h (m + 1)) p 6 + v))) := m_gets (j := 6) hp (by decide)
theorem m_si6 {m p : Nat} {v : Int32} {h : HH} (hp : p < 4) : sX6_gets m (nI p) 6 v h := m_sgets (j := 6) hp (by decide)
theorem m_p6 {m p : Nat} {v : Int32} {h : HH} (hp : p < 4) : hset h (m + 1) (fX6_at (nI p) 6).toNatClampNeg v = hrow h (m + 1) (ps (h (m + 1)) p (upd (mp (h (m + 1)) p) 6 v)) := m_put (j := 6) hp (by decide)
theorem m_v6 {p : Nat} (hp : p < 4) : vp_in (fX6_at (nI p) 6) 206 := (at_v (j := 6) hp (by decide)).2
theorem m_g7 {m p : Nat} {h : HH} (hp : p < 4) : fX6_get m (nI p) 7 h = mp (h (m + 1)) p 7 := m_get (j := 7) hp (by decide)
theorem m_s7 {m p : Nat} {h : HH} (hp : p < 4) : sX6_get m (nI p) 7 h := m_sget (j := 7) hp (by decide)
theorem m_i7 {m p : Nat} {v : Int32} {h : HH} (hp : p < 4) : fX6_gets m (nI p) 7 v h = hrow h (m + 1) (ps (h (m + 1)) p (upd (mp (h (m + 1)) p) 7 (mp (h (m + 1)) p 7 + v))) := m_gets (j := 7) hp (by decide)
theorem m_si7 {m p : Nat} {v : Int32} {h : HH} (hp : p < 4) : sX6_gets m (nI p) 7 v h := m_sgets (j := 7) hp (by decide)
theorem m_p7 {m p : Nat} {v : Int32} {h : HH} (hp : p < 4) : hset h (m + 1) (fX6_at (nI p) 7).toNatClampNeg v = hrow h (m + 1) (ps (h (m + 1)) p (upd (mp (h (m + 1)) p) 7 v)) := m_put (j := 7) hp (by decide)
theorem m_v7 {p : Nat} (hp : p < 4) : vp_in (fX6_at (nI p) 7) 206 := (at_v (j := 7) hp (by decide)).2
theorem m_g8 {m p : Nat} {h : HH} (hp : p < 4) : fX6_get m (nI p) 8 h = mp (h (m + 1)) p 8 := m_get (j := 8) hp (by decide)
theorem m_s8 {m p : Nat} {h : HH} (hp : p < 4) : sX6_get m (nI p) 8 h := m_sget (j := 8) hp (by decide)
theorem m_i8 {m p : Nat} {v : Int32} {h : HH} (hp : p < 4) : fX6_gets m (nI p) 8 v h = hrow h (m + 1) (ps (h (m + 1)) p (upd (mp (h (m + 1)) p) 8 (mp (h (m + 1)) p 8 + v))) := m_gets (j := 8) hp (by decide)
theorem m_si8 {m p : Nat} {v : Int32} {h : HH} (hp : p < 4) : sX6_gets m (nI p) 8 v h := m_sgets (j := 8) hp (by decide)
theorem m_p8 {m p : Nat} {v : Int32} {h : HH} (hp : p < 4) : hset h (m + 1) (fX6_at (nI p) 8).toNatClampNeg v = hrow h (m + 1) (ps (h (m + 1)) p (upd (mp (h (m + 1)) p) 8 v)) := m_put (j := 8) hp (by decide)
theorem m_v8 {p : Nat} (hp : p < 4) : vp_in (fX6_at (nI p) 8) 206 := (at_v (j := 8) hp (by decide)).2
theorem m_g9 {m p : Nat} {h : HH} (hp : p < 4) : fX6_get m (nI p) 9 h = mp (h (m + 1)) p 9 := m_get (j := 9) hp (by decide)
theorem m_s9 {m p : Nat} {h : HH} (hp : p < 4) : sX6_get m (nI p) 9 h := m_sget (j := 9) hp (by decide)
theorem m_i9 {m p : Nat} {v : Int32} {h : HH} (hp : p < 4) : fX6_gets m (nI p) 9 v h = hrow h (m + 1) (ps (h (m + 1)) p (upd (mp (h (m + 1)) p) 9 (mp (h (m + 1)) p 9 + v))) := m_gets (j := 9) hp (by decide)
theorem m_si9 {m p : Nat} {v : Int32} {h : HH} (hp : p < 4) : sX6_gets m (nI p) 9 v h := m_sgets (j := 9) hp (by decide)
theorem m_p9 {m p : Nat} {v : Int32} {h : HH} (hp : p < 4) : hset h (m + 1) (fX6_at (nI p) 9).toNatClampNeg v = hrow h (m + 1) (ps (h (m + 1)) p (upd (mp (h (m + 1)) p) 9 v)) := m_put (j := 9) hp (by decide)
theorem m_v9 {p : Nat} (hp : p < 4) : vp_in (fX6_at (nI p) 9) 206 := (at_v (j := 9) hp (by decide)).2
theorem m_g10 {m p : Nat} {h : HH} (hp : p < 4) : fX6_get m (nI p) 10 h = mp (h (m + 1)) p 10 := m_get (j := 10) hp (by decide)
theorem m_s10 {m p : Nat} {h : HH} (hp : p < 4) : sX6_get m (nI p) 10 h := m_sget (j := 10) hp (by decide)
theorem m_i10 {m p : Nat} {v : Int32} {h : HH} (hp : p < 4) : fX6_gets m (nI p) 10 v h = hrow h (m + 1) (ps (h (m + 1)) p (upd (mp (h (m + 1)) p) 10 (mp (h (m + 1)) p 10 + v))) := m_gets (j := 10) hp (by decide)
theorem m_si10 {m p : Nat} {v : Int32} {h : HH} (hp : p < 4) : sX6_gets m (nI p) 10 v h := m_sgets (j := 10) hp (by decide)
theorem m_p10 {m p : Nat} {v : Int32} {h : HH} (hp : p < 4) : hset h (m + 1) (fX6_at (nI p) 10).toNatClampNeg v = hrow h (m + 1) (ps (h (m + 1)) p (upd (mp (h (m + 1)) p) 10 v)) := m_put (j := 10) hp (by decide)
theorem m_v10 {p : Nat} (hp : p < 4) : vp_in (fX6_at (nI p) 10) 206 := (at_v (j := 10) hp (by decide)).2
theorem m_has {m p : Nat} {b : Int32} {h : HH} (hp : p < 4) : fX6_has m (nI p) b h = P_has (mp (h (m + 1)) p) b := by
  show (if (((fX6_get m (nI p) 10 h) >>> (b &&& 31)) &&& 1) = 1 then true else false) = _
  rw [m_g10 hp]
  rfl
theorem m_shas {m p : Nat} {b : Int32} {h : HH} (hp : p < 4) : sX6_has m (nI p) b h := m_s10 (m := m) (h := h) hp
theorem m_cost {m p : Nat} {b g : Int32} {h : HH} (hp : p < 4) : fX6_costOf m (nI p) b g h = P_cost (mp (h (m + 1)) p) b g := by
  show fX6_costOf_c0 m (nI p) b g h = _
  unfold fX6_costOf_c0 fX6_costOf_c15 fX6_costOf_c28 P_cost
  rw [m_has hp, m_has hp]
  by_cases c : g = 0
  · simp only [if_pos c]
  · simp only [if_neg c]
theorem m_scost {m p : Nat} {b g : Int32} {h : HH} (hp : p < 4) : sX6_costOf m (nI p) b g h :=
  ⟨fun _ => ⟨fun _ => m_shas hp, fun _ => m_shas hp⟩, fun _ => ⟨fun _ => m_shas hp, fun _ => m_shas hp⟩⟩
theorem m_canPay {m p : Nat} {b : Int32} {h : HH} (hp : p < 4) : fX6_canPay m (nI p) b h = P_canPay (mp (h (m + 1)) p) b := by
  show fX6_canPay_c0 m (nI p) b h = _
  unfold fX6_canPay_c0 P_canPay
  rw [m_cost hp, m_cost hp, m_g0 hp, m_g1 hp]
theorem m_scanPay {m p : Nat} {b : Int32} {h : HH} (hp : p < 4) : sX6_canPay m (nI p) b h :=
  ⟨m_s0 hp, m_scost hp, fun _ => trivial, fun _ => ⟨m_s1 hp, m_scost hp⟩⟩
theorem m_need {m p : Nat} {h : HH} (hp : p < 4) : fX6_needOf m (nI p) h = P_need (mp (h (m + 1)) p) := by
  show 2 * fX6_get m (nI p) 5 h - fX6_get m (nI p) 6 h = _
  rw [m_g5 hp, m_g6 hp]
  rfl
theorem m_sneed {m p : Nat} {h : HH} (hp : p < 4) : sX6_needOf m (nI p) h := ⟨m_s5 hp, m_s6 hp⟩
theorem m_grain {m p : Nat} {h : HH} (hp : p < 4) : fX6_grainPaid m (nI p) h = P_grain (mp (h (m + 1)) p) := by
  show fX6_grainPaid_c0 m (nI p) h = _
  unfold fX6_grainPaid_c0 P_grain
  rw [m_need hp, m_g4 hp, m_g2 hp]
theorem m_sgrain {m p : Nat} {h : HH} (hp : p < 4) : sX6_grainPaid m (nI p) h := by
  show sX6_grainPaid_c0 m (nI p) h
  unfold sX6_grainPaid_c0
  simp only [m_sneed hp, m_s4 hp, m_s2 hp, implies_true, and_self]
theorem m_worth {m p : Nat} {h : HH} (hp : p < 4) : fX6_sheepWorth m (nI p) h = P_worth (mp (h (m + 1)) p) := by
  show fX6_sheepWorth_c0 m (nI p) h = _
  unfold fX6_sheepWorth_c0 P_worth
  rw [m_has hp]
theorem m_sworth {m p : Nat} {h : HH} (hp : p < 4) : sX6_sheepWorth m (nI p) h := m_shas (m := m) (h := h) (b := 3) hp
theorem m_sheep {m p : Nat} {h : HH} (hp : p < 4) : fX6_sheepPaid m (nI p) h = P_sheep (mp (h (m + 1)) p) := by
  show fX6_sheepPaid_c0 m (nI p) h = _
  unfold fX6_sheepPaid_c0 fX6_sheepPaid_c42 P_sheep
  rw [m_need hp, m_g4 hp, m_grain hp, m_worth hp, m_g3 hp]
  split <;> rfl
theorem m_ssheep {m p : Nat} {h : HH} (hp : p < 4) : sX6_sheepPaid m (nI p) h := by
  show sX6_sheepPaid_c0 m (nI p) h
  unfold sX6_sheepPaid_c0 sX6_sheepPaid_c42
  have w : ¬ fX6_sheepWorth m (nI p) h = 0 := by
    rw [m_worth hp]
    rcases P_worth_v (mp (h (m + 1)) p) with e | e <;> rw [e] <;> decide
  simp only [m_sneed hp, m_s4 hp, m_s3 hp, m_sgrain hp, m_sworth hp, w, not_false_eq_true, implies_true, and_self]
theorem m_miss {m p : Nat} {h : HH} (hp : p < 4) : fX6_missingOf m (nI p) h = P_miss (mp (h (m + 1)) p) := by
  show fX6_missingOf_c0 m (nI p) h = _
  unfold fX6_missingOf_c0 P_miss
  rw [m_need hp, m_g4 hp, m_grain hp, m_worth hp, m_sheep hp]
theorem m_smiss {m p : Nat} {h : HH} (hp : p < 4) : sX6_missingOf m (nI p) h := ⟨m_sneed hp, m_s4 hp, m_sgrain hp, m_sworth hp, m_ssheep hp⟩
def feeds (g : Nat → Int32) : Bool := if jrem (g 2) 2 = 0 then true else if g 2 = g 1 then true else false
theorem cut_ite {r r' : Nat → Int32} {c : Prop} [Decidable c] (h : Cut r) (h' : Cut r') : Cut (if c then r else r') := by
  split
  · exact h
  · exact h'
theorem cut_feed {r : Nat → Int32} (c : Cut r) : Cut (P_feed r) := cut_upd (cut_upd (cut_upd (cut_upd c (by decide)) (by decide)) (by decide)) (by decide)
theorem cut_spoil {r : Nat → Int32} (c : Cut r) : Cut (P_spoil r) := cut_ite c (cut_ite (cut_upd c (by decide)) c)
theorem cut_end {f : Bool} {r : Nat → Int32} (c : Cut r) : Cut (P_end f r) := cut_ite (cut_spoil (cut_feed c)) (cut_spoil c)
theorem cut_start {r : Nat → Int32} (c : Cut r) : Cut (P_start r) := cut_upd (cut_upd (cut_upd c (by decide)) (by decide)) (by decide)
theorem m_spoil {m p : Nat} {h : HH} (hp : p < 4) : fX6_endsFor_c130 m (nI p) h = hrow h (m + 1) (ps (h (m + 1)) p (P_spoil (mp (h (m + 1)) p))) ∧ sX6_endsFor_c130 m (nI p) h := by
  constructor
  · unfold fX6_endsFor_c130 P_spoil
    rw [m_g2 hp, m_has hp, m_p2 hp]
    split
    · rw [ps_id, hrow_self]
    · split
      · rfl
      · rw [ps_id, hrow_self]
  · unfold sX6_endsFor_c130
    simp only [m_s2 hp, m_shas hp, m_v2 hp, implies_true, and_self]
theorem m_ends {m p : Nat} {h : HH} (hp : p < 4) : fX6_endsFor m (nI p) h = hrow h (m + 1) (ps (h (m + 1)) p (P_end (feeds (h (m + 1))) (mp (h (m + 1)) p))) ∧ sX6_endsFor m (nI p) h := by
  have A : fX6_endsFor_c26 m (nI p) h = hrow h (m + 1) (ps (h (m + 1)) p (P_spoil (P_feed (mp (h (m + 1)) p)))) ∧ sX6_endsFor_c26 m (nI p) h := by
    obtain ⟨g, eg⟩ : ∃ g, h (m + 1) = g := ⟨_, rfl⟩
    obtain ⟨r, er⟩ : ∃ r, mp g p = r := ⟨_, rfl⟩
    have cr : Cut r := by rw [← er]; exact mp_cut g p
    have cF := cut_feed cr
    have X : fX6_endsFor_c86 m (nI p) (P_sheep r) (P_food r) (-(P_grain r)) 2 (nI p) (fX6_gets m (nI p) 9 (P_miss r) h) = hrow h (m + 1) (ps g p (P_spoil (P_feed r))) ∧ sX6_endsFor_c86 m (nI p) (P_sheep r) (P_food r) (-(P_grain r)) 2 (nI p) (fX6_gets m (nI p) 9 (P_miss r) h) := by
      rw [m_i9 hp, eg, er]
      obtain ⟨r1, e1⟩ : ∃ r1, upd r 9 (r 9 + P_miss r) = r1 := ⟨_, rfl⟩
      have c1 : Cut r1 := by rw [← e1]; exact cut_upd cr (by decide)
      rw [e1]
      unfold fX6_endsFor_c86 sX6_endsFor_c86
      rw [m_i2 hp, hrow_s, hrow_hrow, ps_ps, mp_ps_s c1]
      obtain ⟨r2, e2⟩ : ∃ r2, upd r1 2 (r1 2 + -P_grain r) = r2 := ⟨_, rfl⟩
      have c2 : Cut r2 := by rw [← e2]; exact cut_upd c1 (by decide)
      rw [e2]
      unfold fX6_endsFor_c94 sX6_endsFor_c94
      rw [m_i3 hp, hrow_s, hrow_hrow, ps_ps, mp_ps_s c2]
      obtain ⟨r3, e3⟩ : ∃ r3, upd r2 3 (r2 3 + -P_sheep r) = r3 := ⟨_, rfl⟩
      have c3 : Cut r3 := by rw [← e3]; exact cut_upd c2 (by decide)
      rw [e3, m_p4 hp, hrow_s, hrow_hrow, ps_ps, mp_ps_s c3]
      obtain ⟨r4, e4⟩ : ∃ r4, upd r3 4 (P_food r) = r4 := ⟨_, rfl⟩
      have c4 : Cut r4 := by rw [← e4]; exact cut_upd c3 (by decide)
      rw [e4]
      unfold fX6_endsFor_c115 sX6_endsFor_c115 fX6_endsFor_c127 sX6_endsFor_c127
      rw [m_g3 hp, m_i3 hp, m_i3 hp, hrow_s, hrow_hrow, hrow_hrow, ps_ps, ps_ps, mp_ps_s c4]
      have v3 : r4 3 = r 3 - P_sheep r := by
        rw [← e4, upd_o (by decide), ← e3, upd_s, ← e2, upd_o (by decide), ← e1, upd_o (by decide), ← Int32.sub_eq_add_neg]
      have fin : ∀ v, v = P_shp r → upd r4 3 v = P_feed r := by
        intro v ev
        rw [ev, ← e4, ← e3, ← e2, ← e1]
        unfold P_feed
        rw [upd_o (by decide : (2 : Nat) ≠ 9), ← Int32.sub_eq_add_neg, upd_c (by decide : (3 : Nat) ≠ 4), upd_u]
      have f1 := m_spoil (m := m) (p := p) (h := hrow h (m + 1) (ps g p (P_feed r))) hp
      rw [hrow_s, hrow_hrow, ps_ps, mp_ps_s cF] at f1
      refine ⟨?_, m_si2 hp, m_si3 hp, m_v4 hp, m_s3 hp, fun c => ⟨m_si3 hp, ?_⟩, fun c => ⟨m_si3 hp, ?_⟩⟩
      · by_cases c : r4 3 ≤ 1
        · rw [if_pos c, fin _ (by unfold P_shp; rw [← v3, if_pos c, show r4 3 + 0 = r4 3 from Int32.add_zero _])]
          exact f1.1
        · rw [if_neg c, fin _ (by unfold P_shp; rw [← v3, if_neg c])]
          exact f1.1
      · rw [fin _ (by unfold P_shp; rw [← v3, if_pos c, show r4 3 + 0 = r4 3 from Int32.add_zero _])]
        exact f1.2
      · rw [fin _ (by unfold P_shp; rw [← v3, if_neg c])]
        exact f1.2
    unfold fX6_endsFor_c26 sX6_endsFor_c26
    rw [m_sheep hp, m_grain hp, m_miss hp, m_worth hp, m_need hp, m_g4 hp, eg, er]
    exact ⟨X.1, m_sgrain hp, m_ssheep hp, m_smiss hp, m_s4 hp, m_sworth hp, m_sneed hp, m_si9 hp, X.2⟩
  have S := m_spoil (m := m) (p := p) (h := h) hp
  show fX6_endsFor_c0 m (nI p) h = _ ∧ sX6_endsFor_c0 m (nI p) h
  unfold fX6_endsFor_c0 sX6_endsFor_c0 feeds P_end
  by_cases c : jrem (h (m + 1) 2) 2 = 0
  · rw [if_pos c, if_pos c, if_pos rfl]
    exact ⟨A.1, fun _ => A.2, fun q => absurd c q⟩
  · rw [if_neg c, if_neg c]
    by_cases d : h (m + 1) 2 = h (m + 1) 1
    · rw [if_pos d, if_pos d, if_pos rfl]
      exact ⟨A.1, fun q => absurd q c, fun _ => ⟨fun _ => A.2, fun q => absurd d q⟩⟩
    · rw [if_neg d, if_neg d, if_neg (by decide)]
      exact ⟨S.1, fun q => absurd q c, fun _ => ⟨fun q => absurd q d, fun _ => S.2⟩⟩
theorem m_pts_step {m p : Nat} {h : HH} (hp : p < 4) (n b : Nat) (hb : b < 8) (x : Int32) : fX6_scoreOf_c88 m (n + 1) (nI p) x (nI b) h = fX6_scoreOf_c88 m n (nI p) (x + P_pts (mp (h (m + 1)) p) (nI b)) (nI (b + 1)) h ∧ (sX6_scoreOf_c88 m n (nI p) (x + P_pts (mp (h (m + 1)) p) (nI b)) (nI (b + 1)) h → sX6_scoreOf_c88 m (n + 1) (nI p) x (nI b) h) := by
  have c : ¬ (8 : Int32) ≤ nI b := nI_ge (b := 8) hb (by decide)
  constructor
  · show (if (8 : Int32) ≤ nI b then x else (if bI (fX6_has m (nI p) (nI b) h) = 0 then fX6_scoreOf_c88 m n (nI p) (x + 0) (nI b + 1) h else fX6_scoreOf_c88 m n (nI p) (x + fX6_pointsOf (nI b)) (nI b + 1) h)) = _
    rw [if_neg c, m_has hp, nI_1]
    unfold P_pts
    split <;> rfl
  · intro w
    unfold P_pts at w
    refine ⟨fun q => absurd q c, fun _ => ⟨m_shas hp, ?_⟩⟩
    rw [m_has hp]
    refine ⟨fun q => ?_, fun q => ?_⟩
    · show sX6_scoreOf_c88 m n (nI p) (x + 0) (nI b + 1) h
      rw [nI_1]
      rw [if_pos q] at w
      exact w
    · show sX6_scoreOf_c88 m n (nI p) (x + fX6_pointsOf (nI b)) (nI b + 1) h
      rw [nI_1]
      rw [if_neg q] at w
      exact w
theorem m_bpts {m p : Nat} {h : HH} (hp : p < 4) : fX6_scoreOf_c88 m 9 (nI p) 0 0 h = P_bpts (mp (h (m + 1)) p) ∧ sX6_scoreOf_c88 m 9 (nI p) 0 0 h := by
  have s (n b : Nat) (hb : b < 8) (x : Int32) := m_pts_step (m := m) (h := h) hp n b hb x
  constructor
  · show fX6_scoreOf_c88 m 9 (nI p) 0 (nI 0) h = _
    rw [(s 8 0 (by decide) _).1, (s 7 1 (by decide) _).1, (s 6 2 (by decide) _).1, (s 5 3 (by decide) _).1, (s 4 4 (by decide) _).1, (s 3 5 (by decide) _).1, (s 2 6 (by decide) _).1, (s 1 7 (by decide) _).1]
    exact if_pos (by decide)
  · refine (s 8 0 (by decide) _).2 ((s 7 1 (by decide) _).2 ((s 6 2 (by decide) _).2 ((s 5 3 (by decide) _).2 ((s 4 4 (by decide) _).2 ((s 3 5 (by decide) _).2 ((s 2 6 (by decide) _).2 ((s 1 7 (by decide) _).2 ?_)))))))
    exact ⟨fun _ => trivial, fun q => absurd (by decide) q⟩
theorem m_score {m p : Nat} {h : HH} (hp : p < 4) (x : Int32) : fX6_scoreOf m (nI p) x h = P_score (mp (h (m + 1)) p) x ∧ sX6_scoreOf m (nI p) x h := by
  have b := m_bpts (m := m) (h := h) hp
  constructor
  · show fX6_scoreOf_c0 m (nI p) x h = _
    unfold fX6_scoreOf_c0 P_score
    rw [b.1, m_g5 hp, m_g8 hp, m_g3 hp, m_g2 hp, m_g9 hp]
  · show sX6_scoreOf_c0 m (nI p) x h
    unfold sX6_scoreOf_c0
    simp only [b.2, m_s5 hp, m_s8 hp, m_s3 hp, m_s2 hp, m_s9 hp, implies_true, and_self]
