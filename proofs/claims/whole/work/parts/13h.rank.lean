/-! ranks -/
def grank (g : Nat → Int32) (p : Nat) : Nat → Nat → Int32 → Int32
  | 0, _, x => x
  | d + 1, o, x => grank g p d (o + 1) (x + (if P_ahead (mp g o) (mp g p) = true then 1 else 0))
theorem ahead_v {B : Int} {r r' : Nat → Int32} (hB : B ≤ 100000000) (h : PI B r) (h' : PI B r') : P_ahead r r' = (if 0 < P_all r - P_all r' then true else if P_all r - P_all r' = 0 then (if r 4 ≤ r' 4 then false else true) else false) := by
  have b := i_all hB h
  have b' := i_all hB h'
  have e : (P_all r - P_all r').toInt = (P_all r).toInt - (P_all r').toInt := ti_sub (by omega) (by omega)
  unfold P_ahead
  by_cases c : P_all r' < P_all r
  · have c' := ti_lt.mp c
    rw [if_pos c, if_pos (ti_lt.mpr (by rw [e, t0]; omega))]
  · have c' : ¬ (P_all r').toInt < (P_all r).toInt := fun z => c (ti_lt.mpr z)
    have n0 : ¬ 0 < P_all r - P_all r' := fun z => by
      have := ti_lt.mp z
      rw [e, t0] at this
      omega
    rw [if_neg c, if_neg n0]
    by_cases d : P_all r = P_all r'
    · rw [if_pos d, if_pos (ti_eq (by rw [e, t0, d]; omega))]
    · have d' := ti_ne d
      have n1 : ¬ P_all r - P_all r' = 0 := fun z => by
        have := congrArg Int32.toInt z
        rw [e, t0] at this
        omega
      rw [if_neg d, if_neg n1]
theorem m_rank_loop {m n p : Nat} {h : HH} {B : Int} (hB : B ≤ 100000000) (hn : n ≤ 4) (hp : p < n) (h0 : h (m + 1) 0 = nI n) (hI : ∀ p, p < n → PI B (mp (h (m + 1)) p)) : ∀ (d o f : Nat) (x : Int32), o + d = n → fX6_rankOf_c4 m (d + f + 1) (nI p) x (nI o) h = grank (h (m + 1)) p d o x ∧ sX6_rankOf_c4 m (d + f + 1) (nI p) x (nI o) h := by
  have hp4 : p < 4 := by omega
  intro d
  induction d with
  | zero =>
    intro o f x e
    have c : h (m + 1) 0 ≤ nI o := by rw [h0]; exact nI_le (by omega) (by omega)
    rw [show 0 + f + 1 = f + 1 by omega]
    exact ⟨if_pos c, fun _ => trivial, fun q => absurd c q⟩
  | succ d ih =>
    intro o f x e
    have c : ¬ h (m + 1) 0 ≤ nI o := by rw [h0]; exact nI_ge (by omega) (by omega)
    have ho : o < 4 := by omega
    have A := ahead_v hB (hI o (by omega)) (hI p hp)
    have I (x : Int32) := ih (o + 1) f x (by omega)
    rw [show d + 1 + f + 1 = (d + f + 1) + 1 by omega]
    have ao := m_all (m := m) (h := h) ho
    have ap := m_all (m := m) (h := h) hp4
    constructor
    · show (if h (m + 1) 0 ≤ nI o then x else (if 0 < fX6_allOf m (nI o) h - fX6_allOf m (nI p) h then fX6_rankOf_c4 m (d + f + 1) (nI p) (x + 1) (nI o + 1) h else (if fX6_allOf m (nI o) h - fX6_allOf m (nI p) h = 0 then (if fX6_get m (nI o) 4 h ≤ fX6_get m (nI p) 4 h then fX6_rankOf_c4 m (d + f + 1) (nI p) (x + 0) (nI o + 1) h else fX6_rankOf_c4 m (d + f + 1) (nI p) (x + 1) (nI o + 1) h) else fX6_rankOf_c4 m (d + f + 1) (nI p) (x + 0) (nI o + 1) h))) = grank (h (m + 1)) p d (o + 1) (x + (if P_ahead (mp (h (m + 1)) o) (mp (h (m + 1)) p) = true then 1 else 0))
      rw [if_neg c, ao.1, ap.1, m_g4 ho, m_g4 hp4, nI_1, (I (x + 1)).1, (I (x + 0)).1, A]
      by_cases c1 : 0 < P_all (mp (h (m + 1)) o) - P_all (mp (h (m + 1)) p)
      · rw [if_pos c1, if_pos c1, if_pos rfl]
      · rw [if_neg c1, if_neg c1]
        by_cases c2 : P_all (mp (h (m + 1)) o) - P_all (mp (h (m + 1)) p) = 0
        · rw [if_pos c2, if_pos c2]
          by_cases c3 : mp (h (m + 1)) o 4 ≤ mp (h (m + 1)) p 4
          · rw [if_pos c3, if_pos c3, if_neg (by decide)]
          · rw [if_neg c3, if_neg c3, if_pos rfl]
        · rw [if_neg c2, if_neg c2, if_neg (by decide)]
    · have S (y : Int32) : sX6_rankOf_c4 m (d + f + 1) (nI p) y (nI o + 1) h := by rw [nI_1]; exact (I y).2
      exact ⟨fun q => absurd q c, fun _ => ⟨ao.2, ap.2, fun _ => S _, fun _ => ⟨fun _ => ⟨m_s4 ho, m_s4 hp4, fun _ => S _, fun _ => S _⟩, fun _ => S _⟩⟩⟩
theorem m_rank {m n p : Nat} {h : HH} {B : Int} (hB : B ≤ 100000000) (hn : n ≤ 4) (hp : p < n) (h0 : h (m + 1) 0 = nI n) (hI : ∀ p, p < n → PI B (mp (h (m + 1)) p)) : fX6_rankOf m (nI p) h = grank (h (m + 1)) p n 0 1 ∧ sX6_rankOf m (nI p) h := by
  have L := m_rank_loop hB hn hp h0 hI n 0 (4 - n) 1 (by omega)
  rw [show n + (4 - n) + 1 = 5 by omega] at L
  exact L
theorem c_rank_loop {a n p : Nat} {h : HH} {g : Nat → Int32} (hn : n ≤ 4) (hp : p < n) (h0 : g 0 = nI n) (cg : CG n a h g) : ∀ (d o f : Nat) (x : Int32), o + d = n → fX0_rankOf_c4 a (d + f + 1) (nI p) x (nI o) h = grank g p d o x ∧ sX0_rankOf_c4 a (d + f + 1) (nI p) x (nI o) h := by
  have a0 : h a 0 = nI n := by rw [cg.1 0 (by decide), h0]
  intro d
  induction d with
  | zero =>
    intro o f x e
    have c : h a 0 ≤ nI o := by rw [a0]; exact nI_le (by omega) (by omega)
    rw [show 0 + f + 1 = f + 1 by omega]
    exact ⟨if_pos c, fun _ => trivial, fun q => absurd c q⟩
  | succ d ih =>
    intro o f x e
    have c : ¬ h a 0 ≤ nI o := by rw [a0]; exact nI_ge (by omega) (by omega)
    have A := c_ahead (a + 7 + 2 * o) (a + 7 + 2 * p) h
    rw [cg.2.1 o (by omega), cg.2.1 p hp] at A
    have I (x : Int32) := ih (o + 1) f x (by omega)
    rw [show d + 1 + f + 1 = (d + f + 1) + 1 by omega]
    constructor
    · show (if h a 0 ≤ nI o then x else (if bI (fX2_isAheadOf (a + 7 + 2 * (nI o).toNatClampNeg) (a + 7 + 2 * (nI p).toNatClampNeg) h) = 0 then fX0_rankOf_c4 a (d + f + 1) (nI p) x (nI o + 1) h else fX0_rankOf_c4 a (d + f + 1) (nI p) (x + 1) (nI o + 1) h)) = grank g p d (o + 1) (x + (if P_ahead (mp g o) (mp g p) = true then 1 else 0))
      rw [if_neg c, nclamp (by omega), nclamp (by omega), A.1, nI_1, (I x).1, (I (x + 1)).1]
      cases w : P_ahead (mp g o) (mp g p) with
      | false => rw [if_pos (by decide), if_neg (by decide), show x + 0 = x from Int32.add_zero x]
      | true => rw [if_neg (by decide), if_pos rfl]
    · have S (y : Int32) : sX0_rankOf_c4 a (d + f + 1) (nI p) y (nI o + 1) h := by rw [nI_1]; exact (I y).2
      refine ⟨fun q => absurd q c, fun _ => ⟨v_of (by omega) (by decide), v_of (by omega) (by decide), ?_, fun _ => S _, fun _ => S _⟩⟩
      rw [nclamp (by omega), nclamp (by omega)]
      exact A.2
theorem c_rank {a n p : Nat} {h : HH} {g : Nat → Int32} (hn : n ≤ 4) (hp : p < n) (h0 : g 0 = nI n) (cg : CG n a h g) : fX0_rankOf a (nI p) h = grank g p n 0 1 ∧ sX0_rankOf a (nI p) h := by
  have L := c_rank_loop hn hp h0 cg n 0 (4 - n) 1 (by omega)
  rw [show n + (4 - n) + 1 = 5 by omega] at L
  exact L
