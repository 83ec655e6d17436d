/-! the model's saved rows -/
def cpf (k : Nat) (g : Nat → Int32) : Nat → Nat → (Nat → Int32) → (Nat → Int32)
  | _, 0, P => P
  | x, d + 1, P => cpf k g (x + 1) d (upd P (206 * k + x) (g x))
theorem cpf_v {k : Nat} {g : Nat → Int32} : ∀ (d x : Nat) (P : Nat → Int32) (y : Nat), cpf k g x d P y = if 206 * k + x ≤ y ∧ y < 206 * k + x + d then g (y - 206 * k) else P y
  | 0, x, P, y => by rw [if_neg (by omega)]; rfl
  | d + 1, x, P, y => by
    show cpf k g (x + 1) d (upd P (206 * k + x) (g x)) y = _
    rw [cpf_v d (x + 1) _ y]
    by_cases c1 : y = 206 * k + x
    · subst c1
      rw [if_neg (by omega), upd_s, if_pos (by omega), show 206 * k + x - 206 * k = x by omega]
    · rw [upd_o c1]
      by_cases c3 : 206 * k + (x + 1) ≤ y ∧ y < 206 * k + (x + 1) + d
      · rw [if_pos c3, if_pos (by omega)]
      · rw [if_neg c3, if_neg (by omega)]
theorem p206 {k x : Nat} (h : 206 * k + x < 2147483648) : (206 : Int32) * nI k + nI x = nI (206 * k + x) := by
  rw [show (206 : Int32) = nI 206 from rfl, show nI 206 * nI k = nI (206 * k) from (Int32.ofNat_mul _ _).symm, nI_add]
theorem m_sv_loop {m k : Nat} (hk : k < 4) : ∀ (d x f : Nat) (h : HH), h m 3 = nI k → x + d = 206 → fX6_saves_c51 m (d + f + 1) (nI x) h = hset (hrow h (m + 2) (cpf k (h (m + 1)) x d (h (m + 2)))) m 3 (nI (k + 1)) ∧ sX6_saves_c51 m (d + f + 1) (nI x) h := by
  intro d
  induction d with
  | zero =>
    intro x f h h3 e
    have c : (206 : Int32) ≤ nI x := nI_le (a := 206) (by omega) (by omega)
    rw [show 0 + f + 1 = f + 1 by omega]
    refine ⟨?_, fun _ => trivial, fun q => absurd c q⟩
    show (if (206 : Int32) ≤ nI x then hset h m 3 (h m 3 + 1) else _) = _
    rw [if_pos c, h3, nI_1]
    show _ = hset (hrow h (m + 2) (h (m + 2))) m 3 (nI (k + 1))
    rw [hrow_self]
  | succ d ih =>
    intro x f h h3 e
    have c : ¬ (206 : Int32) ≤ nI x := nI_ge (b := 206) (by omega) (by decide)
    have E : hset h (m + 2) ((206 * h m 3 + nI x).toNatClampNeg) (h (m + 1) (nI x).toNatClampNeg) = hrow h (m + 2) (upd (h (m + 2)) (206 * k + x) (h (m + 1) x)) := by
      rw [h3, p206 (by omega), nI_clamp (by omega), nI_clamp (by omega), hset_row]
    have I := ih (x + 1) f (hrow h (m + 2) (upd (h (m + 2)) (206 * k + x) (h (m + 1) x))) (by rw [hrow_o (by omega), h3]) (by omega)
    rw [hrow_s, hrow_hrow, hrow_o (by omega : m + 1 ≠ m + 2)] at I
    rw [show d + 1 + f + 1 = (d + f + 1) + 1 by omega]
    constructor
    · show (if (206 : Int32) ≤ nI x then _ else fX6_saves_c51 m (d + f + 1) (nI x + 1) (hset h (m + 2) ((206 * h m 3 + nI x).toNatClampNeg) (h (m + 1) (nI x).toNatClampNeg))) = _
      rw [if_neg c, E, nI_1]
      exact I.1
    · refine ⟨fun q => absurd q c, fun _ => ⟨v_of (by omega) (by decide), ?_, ?_⟩⟩
      · rw [h3, p206 (by omega)]
        exact v_of (by omega) (by decide)
      · rw [E, nI_1]
        exact I.2
def shp : Nat → Nat → (Nat → Int32) → (Nat → Int32)
  | _, 0, P => P
  | x, d + 1, P => shp (x + 1) d (upd P x (P (x + 206)))
theorem shp_v : ∀ (d x : Nat) (P : Nat → Int32) (y : Nat), shp x d P y = if x ≤ y ∧ y < x + d then P (y + 206) else P y
  | 0, x, P, y => by rw [if_neg (by omega)]; rfl
  | d + 1, x, P, y => by
    show shp (x + 1) d (upd P x (P (x + 206))) y = _
    rw [shp_v d (x + 1) _ y]
    by_cases c1 : y = x
    · subst c1
      rw [if_neg (by omega), upd_s, if_pos (by omega)]
    · rw [upd_o c1]
      by_cases c3 : x + 1 ≤ y ∧ y < x + 1 + d
      · rw [if_pos c3, if_pos (by omega), upd_o (by omega)]
      · rw [if_neg c3, if_neg (by omega)]
def G_save (k : Nat) (g P : Nat → Int32) : Nat → Int32 := if k = 4 then cpf 3 g 0 206 (shp 0 618 P) else cpf k g 0 206 P
theorem m_sh_loop {m : Nat} : ∀ (d x f : Nat) (h : HH), h m 3 = nI 4 → x + d = 618 → fX6_saves_c10 m (d + f + 1) (nI x) h = hset (hrow h (m + 2) (cpf 3 (h (m + 1)) 0 206 (shp x d (h (m + 2))))) m 3 (nI 4) ∧ sX6_saves_c10 m (d + f + 1) (nI x) h := by
  intro d
  induction d with
  | zero =>
    intro x f h h3 e
    have c : (618 : Int32) ≤ nI x := nI_le (a := 618) (by omega) (by omega)
    have E : hset h m 3 (h m 3 - 1) = hset h m 3 (nI 3) := by rw [h3, show nI 4 - 1 = nI 3 by decide]
    have L := m_sv_loop (m := m) (k := 3) (by decide) 206 0 0 (hset h m 3 (nI 3)) (by rw [hset_s, upd_s]) (by decide)
    rw [hset_o _ _ _ _ (by omega : m + 1 ≠ m), hset_o _ _ _ _ (by omega : m + 2 ≠ m)] at L
    have W : hset (hrow (hset h m 3 (nI 3)) (m + 2) (cpf 3 (h (m + 1)) 0 206 (h (m + 2)))) m 3 (nI (3 + 1)) = hset (hrow h (m + 2) (cpf 3 (h (m + 1)) 0 206 (h (m + 2)))) m 3 (nI 4) := by
      funext q
      unfold hset hrow
      by_cases c1 : q = m
      · subst c1
        simp only [if_pos, if_neg (by omega : ¬ q = q + 2)]
        exact upd_u
      · simp only [if_neg c1]
    rw [W] at L
    rw [show 0 + f + 1 = f + 1 by omega]
    constructor
    · show (if (618 : Int32) ≤ nI x then fX6_saves_c51 m 207 (nI 0) (hset h m 3 (h m 3 - 1)) else _) = _
      rw [if_pos c, E]
      exact L.1
    · refine ⟨fun _ => ?_, fun q => absurd c q⟩
      show sX6_saves_c51 m 207 (nI 0) (hset h m 3 (h m 3 - 1))
      rw [E]
      exact L.2
  | succ d ih =>
    intro x f h h3 e
    have c : ¬ (618 : Int32) ≤ nI x := nI_ge (b := 618) (by omega) (by decide)
    have e2 : nI x + 206 = nI (x + 206) := nI_add x 206
    have E : hset h (m + 2) (nI x).toNatClampNeg (h (m + 2) ((nI x + 206).toNatClampNeg)) = hrow h (m + 2) (upd (h (m + 2)) x (h (m + 2) (x + 206))) := by
      rw [e2, nI_clamp (by omega), nI_clamp (by omega), hset_row]
    have I := ih (x + 1) f (hrow h (m + 2) (upd (h (m + 2)) x (h (m + 2) (x + 206)))) (by rw [hrow_o (by omega), h3]) (by omega)
    rw [hrow_s, hrow_hrow, hrow_o (by omega : m + 1 ≠ m + 2)] at I
    rw [show d + 1 + f + 1 = (d + f + 1) + 1 by omega]
    constructor
    · show (if (618 : Int32) ≤ nI x then _ else fX6_saves_c10 m (d + f + 1) (nI x + 1) (hset h (m + 2) (nI x).toNatClampNeg (h (m + 2) ((nI x + 206).toNatClampNeg)))) = _
      rw [if_neg c, E, nI_1]
      exact I.1
    · refine ⟨fun q => absurd q c, fun _ => ⟨?_, v_of (by omega) (by decide), ?_⟩⟩
      · rw [e2]
        exact v_of (by omega) (by decide)
      · rw [E, nI_1]
        exact I.2
theorem m_saves {m k : Nat} {h : HH} (hk : k ≤ 4) (h3 : h m 3 = nI k) : fX6_saves m h = hset (hrow h (m + 2) (G_save k (h (m + 1)) (h (m + 2)))) m 3 (nI (if k = 4 then 4 else k + 1)) ∧ sX6_saves m h := by
  unfold fX6_saves fX6_saves_c0 sX6_saves sX6_saves_c0 G_save
  by_cases e : k = 4
  · have c : h m 3 = 4 := by rw [h3, e]; rfl
    have L := m_sh_loop (m := m) 618 0 0 h (by rw [h3, e]) (by decide)
    rw [if_pos c, if_pos e, if_pos e]
    exact ⟨L.1, fun _ => L.2, fun q => absurd c q⟩
  · have c : ¬ h m 3 = 4 := by rw [h3]; exact fun w => e ((nI_eq (b := 4) (by omega) (by decide)).mp w)
    have L := m_sv_loop (m := m) (k := k) (by omega) 206 0 0 h h3 (by decide)
    rw [if_neg c, if_neg e, if_neg e]
    exact ⟨L.1, fun q => absurd q c, fun _ => L.2⟩
