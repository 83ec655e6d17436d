/-! the model's undo -/
def unf (k : Nat) (P : Nat → Int32) : Nat → Nat → (Nat → Int32) → (Nat → Int32)
  | _, 0, g => g
  | x, d + 1, g => unf k P (x + 1) d (upd g x (P (206 * k + x)))
theorem unf_v {k : Nat} {P : Nat → Int32} : ∀ (d x : Nat) (g : Nat → Int32) (y : Nat), unf k P x d g y = if x ≤ y ∧ y < x + d then P (206 * k + y) else g y
  | 0, x, g, y => by rw [if_neg (by omega)]; rfl
  | d + 1, x, g, y => by
    show unf k P (x + 1) d (upd g x (P (206 * k + x))) y = _
    rw [unf_v d (x + 1) _ y]
    by_cases c1 : y = x
    · subst c1
      rw [if_neg (by omega), upd_s, if_pos (by omega)]
    · rw [upd_o c1]
      by_cases c3 : x + 1 ≤ y ∧ y < x + 1 + d
      · rw [if_pos c3, if_pos (by omega)]
      · rw [if_neg c3, if_neg (by omega)]
theorem m_un_loop {m k : Nat} (hk : k < 4) : ∀ (d x f : Nat) (h : HH), h m 3 = nI k → x + d = 206 → fX6_undo_c33 m (d + f + 1) (nI x) h = (nI k, hrow h (m + 1) (unf k (h (m + 2)) x d (h (m + 1)))) ∧ sX6_undo_c33 m (d + f + 1) (nI x) h := by
  intro d
  induction d with
  | zero =>
    intro x f h h3 e
    have c : (206 : Int32) ≤ nI x := nI_le (a := 206) (by omega) (by omega)
    rw [show 0 + f + 1 = f + 1 by omega]
    refine ⟨?_, fun _ => trivial, fun q => absurd c q⟩
    show (if (206 : Int32) ≤ nI x then (h m 3, h) else _) = (nI k, hrow h (m + 1) (h (m + 1)))
    rw [if_pos c, h3, hrow_self]
  | succ d ih =>
    intro x f h h3 e
    have c : ¬ (206 : Int32) ≤ nI x := nI_ge (b := 206) (by omega) (by decide)
    have E : hset h (m + 1) (nI x).toNatClampNeg (h (m + 2) ((206 * h m 3 + nI x).toNatClampNeg)) = hrow h (m + 1) (upd (h (m + 1)) x (h (m + 2) (206 * k + x))) := by
      rw [h3, p206 (by omega), nI_clamp (by omega), nI_clamp (by omega), hset_row]
    have I := ih (x + 1) f (hrow h (m + 1) (upd (h (m + 1)) x (h (m + 2) (206 * k + x)))) (by rw [hrow_o (by omega), h3]) (by omega)
    rw [hrow_s, hrow_hrow, hrow_o (by omega : m + 2 ≠ m + 1)] at I
    rw [show d + 1 + f + 1 = (d + f + 1) + 1 by omega]
    constructor
    · show (if (206 : Int32) ≤ nI x then _ else fX6_undo_c33 m (d + f + 1) (nI x + 1) (hset h (m + 1) (nI x).toNatClampNeg (h (m + 2) ((206 * h m 3 + nI x).toNatClampNeg)))) = _
      rw [if_neg c, E, nI_1]
      exact I.1
    · refine ⟨fun q => absurd q c, fun _ => ⟨?_, v_of (by omega) (by decide), ?_⟩⟩
      · rw [h3, p206 (by omega)]
        exact v_of (by omega) (by decide)
      · rw [E, nI_1]
        exact I.2
