/-! the model's levels -/
theorem m_lay_loop {m l : Nat} (hl : l < 4) : ∀ (d x f : Nat) (h : HH), x + d = 85 → fX6_laysLevel_c2 m (d + f + 1) (nI l) (nI x) h = hrow h (m + 3) (cpf l (h (m + 1)) x d (h (m + 3))) ∧ sX6_laysLevel_c2 m (d + f + 1) (nI l) (nI x) h := by
  intro d
  induction d with
  | zero =>
    intro x f h e
    have c : (85 : Int32) ≤ nI x := nI_le (a := 85) (by omega) (by omega)
    rw [show 0 + f + 1 = f + 1 by omega]
    refine ⟨?_, fun _ => trivial, fun q => absurd c q⟩
    show (if (85 : Int32) ≤ nI x then h else _) = hrow h (m + 3) (h (m + 3))
    rw [if_pos c, hrow_self]
  | succ d ih =>
    intro x f h e
    have c : ¬ (85 : Int32) ≤ nI x := nI_ge (b := 85) (by omega) (by decide)
    have E : hset h (m + 3) ((206 * nI l + nI x).toNatClampNeg) (h (m + 1) (nI x).toNatClampNeg) = hrow h (m + 3) (upd (h (m + 3)) (206 * l + x) (h (m + 1) x)) := by
      rw [p206 (by omega), nI_clamp (by omega), nI_clamp (by omega), hset_row]
    have I := ih (x + 1) f (hrow h (m + 3) (upd (h (m + 3)) (206 * l + x) (h (m + 1) x))) (by omega)
    rw [hrow_s, hrow_hrow, hrow_o (by omega : m + 1 ≠ m + 3)] at I
    rw [show d + 1 + f + 1 = (d + f + 1) + 1 by omega]
    constructor
    · show (if (85 : Int32) ≤ nI x then h else fX6_laysLevel_c2 m (d + f + 1) (nI l) (nI x + 1) (hset h (m + 3) ((206 * nI l + nI x).toNatClampNeg) (h (m + 1) (nI x).toNatClampNeg))) = _
      rw [if_neg c, E, nI_1]
      exact I.1
    · refine ⟨fun q => absurd q c, fun _ => ⟨v_of (by omega) (by decide), ?_, ?_⟩⟩
      · rw [p206 (by omega)]
        exact v_of (by omega) (by decide)
      · rw [E, nI_1]
        exact I.2
theorem m_lays {m l : Nat} {h : HH} (hl : l < 4) : fX6_laysLevel m (nI l) h = hrow h (m + 3) (cpf l (h (m + 1)) 0 85 (h (m + 3))) ∧ sX6_laysLevel m (nI l) h := by
  have L := m_lay_loop (m := m) hl 85 0 0 h (by decide)
  unfold fX6_laysLevel fX6_laysLevel_c0 sX6_laysLevel sX6_laysLevel_c0
  exact L
theorem m_tak_loop {m l : Nat} (hl : l < 4) : ∀ (d x f : Nat) (h : HH), x + d = 85 → fX6_takesLevel_c2 m (d + f + 1) (nI l) (nI x) h = hrow h (m + 1) (unf l (h (m + 3)) x d (h (m + 1))) ∧ sX6_takesLevel_c2 m (d + f + 1) (nI l) (nI x) h := by
  intro d
  induction d with
  | zero =>
    intro x f h e
    have c : (85 : Int32) ≤ nI x := nI_le (a := 85) (by omega) (by omega)
    rw [show 0 + f + 1 = f + 1 by omega]
    refine ⟨?_, fun _ => trivial, fun q => absurd c q⟩
    show (if (85 : Int32) ≤ nI x then h else _) = hrow h (m + 1) (h (m + 1))
    rw [if_pos c, hrow_self]
  | succ d ih =>
    intro x f h e
    have c : ¬ (85 : Int32) ≤ nI x := nI_ge (b := 85) (by omega) (by decide)
    have E : hset h (m + 1) (nI x).toNatClampNeg (h (m + 3) ((206 * nI l + nI x).toNatClampNeg)) = hrow h (m + 1) (upd (h (m + 1)) x (h (m + 3) (206 * l + x))) := by
      rw [p206 (by omega), nI_clamp (by omega), nI_clamp (by omega), hset_row]
    have I := ih (x + 1) f (hrow h (m + 1) (upd (h (m + 1)) x (h (m + 3) (206 * l + x)))) (by omega)
    rw [hrow_s, hrow_hrow, hrow_o (by omega : m + 3 ≠ m + 1)] at I
    rw [show d + 1 + f + 1 = (d + f + 1) + 1 by omega]
    constructor
    · show (if (85 : Int32) ≤ nI x then h else fX6_takesLevel_c2 m (d + f + 1) (nI l) (nI x + 1) (hset h (m + 1) (nI x).toNatClampNeg (h (m + 3) ((206 * nI l + nI x).toNatClampNeg)))) = _
      rw [if_neg c, E, nI_1]
      exact I.1
    · refine ⟨fun q => absurd q c, fun _ => ⟨?_, v_of (by omega) (by decide), ?_⟩⟩
      · rw [p206 (by omega)]
        exact v_of (by omega) (by decide)
      · rw [E, nI_1]
        exact I.2
theorem m_takesL {m l : Nat} {h : HH} (hl : l < 4) : fX6_takesLevel m (nI l) h = hrow h (m + 1) (unf l (h (m + 3)) 0 85 (h (m + 1))) ∧ sX6_takesLevel m (nI l) h := by
  have L := m_tak_loop (m := m) hl 85 0 0 h (by decide)
  unfold fX6_takesLevel fX6_takesLevel_c0 sX6_takesLevel sX6_takesLevel_c0
  exact L
