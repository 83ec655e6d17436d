/-! the two sides side by side -/
def INV (B : Int) (a m : Nat) (h : HH) : Prop := SA B (a + 1) h (h (m + 1)) ∧ ∃ k, h m 3 = nI k ∧ UC B (a + 16) h k (h (m + 2))
def Keep (a m : Nat) (h h' : HH) : Prop := (∀ q, a + 1 ≤ q → q < a + 78 → h' q = h q) ∧ h' m 3 = h m 3 ∧ h' (m + 1) = h (m + 1) ∧ h' (m + 2) = h (m + 2)
theorem INV_keep {B : Int} {a m : Nat} {h h' : HH} (k : Keep a m h h') (i : INV B a m h) : INV B a m h' := by
  obtain ⟨k1, k2, k3, k4⟩ := k
  obtain ⟨i1, k, i2, i3⟩ := i
  refine ⟨?_, k, k2.trans i2, ?_⟩
  · rw [k3]
    exact SA_h (fun q q1 q2 => k1 q (by omega) (by omega)) i1
  · rw [k4]
    exact UC_h (fun q q1 q2 => k1 q (by omega) (by omega)) i3
theorem INV_mono {B B' : Int} {a m : Nat} {h : HH} (hB : B ≤ B') (i : INV B a m h) : INV B' a m h := by
  obtain ⟨i1, k, i2, i3⟩ := i
  exact ⟨SA_mono hB i1, k, i2, UC_mono hB i3⟩
theorem keep_refl {a m : Nat} {h : HH} : Keep a m h h := ⟨fun _ _ _ => rfl, rfl, rfl, rfl⟩
theorem keep_tr {a m : Nat} {h h1 h2 : HH} (x : Keep a m h h1) (y : Keep a m h1 h2) : Keep a m h h2 := ⟨fun q q1 q2 => (y.1 q q1 q2).trans (x.1 q q1 q2), y.2.1.trans x.2.1, y.2.2.1.trans x.2.2.1, y.2.2.2.trans x.2.2.2⟩
theorem keep_o {a m o k : Nat} {v : Int32} {h : HH} (d : a + 110 ≤ m ∧ m + 6 ≤ o) : Keep a m h (hset h o k v) := ⟨fun q q1 q2 => hset_o _ _ _ _ (by omega), by rw [hset_o _ _ _ _ (by omega)], hset_o _ _ _ _ (by omega), hset_o _ _ _ _ (by omega)⟩
theorem keep_oL {a m o : Nat} {v : Int64} {h : HH} (d : a + 110 ≤ m ∧ m + 6 ≤ o) : Keep a m h (hsetL h o 0 1 v) := keep_tr (keep_o d) (keep_o d)
theorem keep_m {a m k : Nat} {v : Int32} {h : HH} (d : a + 110 ≤ m) (hk : k ≠ 3) : Keep a m h (hset h m k v) := ⟨fun q q1 q2 => hset_o _ _ _ _ (by omega), by rw [hset_s, upd_o (Ne.symm hk)], hset_o _ _ _ _ (by omega), hset_o _ _ _ _ (by omega)⟩
theorem keep_se {a m : Nat} {h h' : HH} (d : a + 110 ≤ m) (o : Out (a + 78) (a + 110) h h') : Keep a m h h' := ⟨fun q q1 q2 => o q (by omega), by rw [o m (by omega)], o _ (by omega), o _ (by omega)⟩
def W1 (o : Nat) (c : Nat × Int32 × HH) : Int32 × HH := if c.1 = 0 then (0, hsetL c.2.2 o 0 1 c.2.1.toInt64) else (1, c.2.2)
def W2 (o : Nat) (c : Nat × Int32 × HH) : Int32 × HH := if c.1 = 0 then (0, hsetL c.2.2 o 0 1 c.2.1.toInt64) else if c.1 = 2 then (1, c.2.2) else (2, c.2.2)
def Good (a m o : Nat) (B : Int) (sC : Prop) (C : Int32 × HH) (sM : HH → Prop) (M : HH → Int32 × HH) : Prop := sC ∧ sM C.2 ∧ (M C.2).2 m 4 = C.1 ∧ (C.1 = 0 → LJ ((M C.2).2 o 0) ((M C.2).2 o 1) = (M C.2).1.toInt64) ∧ INV B a m (M C.2).2
theorem LJ_out {o : Nat} {v : Int64} {h h' : HH} (e : h' o = hsetL h o 0 1 v o) : LJ (h' o 0) (h' o 1) = v := by
  rw [e]
  unfold hsetL
  rw [hset_s, upd_o (by decide), upd_s, hset_s, upd_s]
  exact LJ_eq v
theorem g2 {a m o e2 e : Nat} {B : Int} {c : Nat × Int32 × HH} {v w r : Int32} {h1 hM : HH} {S : Prop} {M : HH → Int32 × HH} {sM : HH → Prop} (E : c = (e, v, h1)) (s : S) (m1 : M (W2 o c).2 = (w, hM)) (m2 : sM (W2 o c).2) (m3 : hM m 4 = r) (m4 : hM o = (W2 o c).2 o) (m5 : INV B a m hM) (he2 : e2 ≠ 0 ∧ e2 ≠ 2) (rel : (e = 0 ∧ r = 0 ∧ w = v) ∨ (e = 2 ∧ r = 1) ∨ (e = e2 ∧ r = 2)) : Good a m o B (S ∧ (c.1 = 0 ∨ c.1 = 2 ∨ c.1 = e2)) (W2 o c) sM M := by
  subst E
  unfold Good
  rw [m1]
  rcases rel with ⟨rfl, rfl, rfl⟩ | ⟨rfl, rfl⟩ | ⟨rfl, rfl⟩
  · exact ⟨⟨s, Or.inl rfl⟩, m2, m3, fun _ => LJ_out m4, m5⟩
  · exact ⟨⟨s, Or.inr (Or.inl rfl)⟩, m2, m3, fun z => absurd (show (1 : Int32) = 0 from z) (by decide), m5⟩
  · have z : (W2 o (e, v, h1)).1 = 2 := by
      unfold W2
      rw [if_neg he2.1, if_neg he2.2]
    exact ⟨⟨s, Or.inr (Or.inr rfl)⟩, m2, by rw [z]; exact m3, fun y => absurd (z.symm.trans y) (by decide), m5⟩
theorem g1 {a m o e1 e : Nat} {B : Int} {c : Nat × Int32 × HH} {v w r : Int32} {h1 hM : HH} {S : Prop} {M : HH → Int32 × HH} {sM : HH → Prop} (E : c = (e, v, h1)) (s : S) (m1 : M (W1 o c).2 = (w, hM)) (m2 : sM (W1 o c).2) (m3 : hM m 4 = r) (m4 : hM o = (W1 o c).2 o) (m5 : INV B a m hM) (he1 : e1 ≠ 0) (rel : (e = 0 ∧ r = 0 ∧ w = v) ∨ (e = e1 ∧ r = 1)) : Good a m o B (S ∧ (c.1 = 0 ∨ c.1 = e1)) (W1 o c) sM M := by
  subst E
  unfold Good
  rw [m1]
  rcases rel with ⟨rfl, rfl, rfl⟩ | ⟨rfl, rfl⟩
  · exact ⟨⟨s, Or.inl rfl⟩, m2, m3, fun _ => LJ_out m4, m5⟩
  · have z : (W1 o (e, v, h1)).1 = 1 := by
      unfold W1
      rw [if_neg he1]
    exact ⟨⟨s, Or.inr rfl⟩, m2, by rw [z]; exact m3, fun y => absurd (z.symm.trans y) (by decide), m5⟩
theorem w2_keep {a m o : Nat} {c : Nat × Int32 × HH} (d : a + 110 ≤ m ∧ m + 6 ≤ o) : Keep a m c.2.2 (W2 o c).2 := by
  unfold W2
  split
  · exact keep_oL d
  · split <;> exact keep_refl
theorem w1_keep {a m o : Nat} {c : Nat × Int32 × HH} (d : a + 110 ≤ m ∧ m + 6 ≤ o) : Keep a m c.2.2 (W1 o c).2 := by
  unfold W1
  split
  · exact keep_oL d
  · exact keep_refl
/-- a question with two exceptions -/
theorem q2 {a m o e2 e : Nat} {B : Int} {c : Nat × Int32 × HH} {v w r : Int32} {h h1 : HH} {S : Prop} {M : HH → Int32 × HH} {sM : HH → Prop} (d : a + 110 ≤ m ∧ m + 6 ≤ o) (inv : INV B a m h) (kp : Keep a m h h1) (E : c = (e, v, h1) ∧ S) (hM : ∀ h', h' (m + 1) = h (m + 1) → M h' = (w, hset h' m 4 r) ∧ sM h') (he2 : e2 ≠ 0 ∧ e2 ≠ 2) (rel : (e = 0 ∧ r = 0 ∧ w = v) ∨ (e = 2 ∧ r = 1) ∨ (e = e2 ∧ r = 2)) : Good a m o B (S ∧ (c.1 = 0 ∨ c.1 = 2 ∨ c.1 = e2)) (W2 o c) sM M := by
  have k1 : Keep a m h (W2 o c).2 := keep_tr kp (by rw [E.1]; exact w2_keep d)
  have M1 := hM (W2 o c).2 k1.2.2.1
  exact g2 E.1 E.2 M1.1 M1.2 (by rw [hset_s, upd_s]) (hset_o _ _ _ _ (by omega)) (INV_keep (keep_tr k1 (keep_m d.1 (by decide))) inv) he2 rel
theorem q1 {a m o e1 e : Nat} {B : Int} {c : Nat × Int32 × HH} {v w r : Int32} {h h1 : HH} {S : Prop} {M : HH → Int32 × HH} {sM : HH → Prop} (d : a + 110 ≤ m ∧ m + 6 ≤ o) (inv : INV B a m h) (kp : Keep a m h h1) (E : c = (e, v, h1) ∧ S) (hM : ∀ h', h' (m + 1) = h (m + 1) → M h' = (w, hset h' m 4 r) ∧ sM h') (he1 : e1 ≠ 0) (rel : (e = 0 ∧ r = 0 ∧ w = v) ∨ (e = e1 ∧ r = 1)) : Good a m o B (S ∧ (c.1 = 0 ∨ c.1 = e1)) (W1 o c) sM M := by
  have k1 : Keep a m h (W1 o c).2 := keep_tr kp (by rw [E.1]; exact w1_keep d)
  have M1 := hM (W1 o c).2 k1.2.2.1
  exact g1 E.1 E.2 M1.1 M1.2 (by rw [hset_s, upd_s]) (hset_o _ _ _ _ (by omega)) (INV_keep (keep_tr k1 (keep_m d.1 (by decide))) inv) he1 rel
-- small facts for the walks
theorem rf0 {m : Nat} {h : HH} : fX6_refused m 0 h = (false, hset h m 4 0) := by
  unfold fX6_refused fX6_refused_c0
  rw [if_pos (by decide)]
theorem rf1 {m : Nat} {h : HH} : fX6_refused m 1 h = (true, hset h m 4 1) := by
  unfold fX6_refused fX6_refused_c0
  rw [if_neg (by decide)]
theorem rf2 {m : Nat} {h : HH} : fX6_refused m 2 h = (true, hset h m 4 2) := by
  unfold fX6_refused fX6_refused_c0
  rw [if_neg (by decide)]
theorem ra0 : fX5_requireArgument 0 = 1 := if_pos rfl
theorem ra1 : fX5_requireArgument 1 = 0 := if_neg (by decide)
theorem ri0 : fX5_requireIndex 0 = 2 := if_pos rfl
theorem ri1 : fX5_requireIndex 1 = 0 := if_neg (by decide)
theorem rs0 : fX5_requireState 0 = 3 := if_pos rfl
theorem rs1 : fX5_requireState 1 = 0 := if_neg (by decide)
theorem bf : (bI false = 0) = True := eq_true rfl
theorem bt : (bI true = 0) = False := eq_false (by decide)
theorem n10 : ((1 : Nat) = 0) = False := eq_false (by decide)
theorem n20 : ((2 : Nat) = 0) = False := eq_false (by decide)
theorem n30 : ((3 : Nat) = 0) = False := eq_false (by decide)
theorem wi_f1 {x lo hi : Int32} (c : x < lo) : fX6_within x lo hi = false := if_pos c
theorem wi_f2 {x lo hi : Int32} (c : ¬ x < lo) (c2 : hi < x) : fX6_within x lo hi = false := (if_neg c).trans (if_pos c2)
theorem wi_t {x lo hi : Int32} (c : ¬ x < lo) (c2 : ¬ hi < x) : fX6_within x lo hi = true := (if_neg c).trans (if_neg c2)
theorem le_lt {x lo hi : Int32} (h : lo.toInt + 1 = hi.toInt) : hi ≤ x ↔ lo < x := by
  rw [ti_le, ti_lt]
  omega
theorem rng {x : Int32} {N : Nat} (hN : N < 2147483648) (c : ¬ x < 0) (c2 : ¬ nI N ≤ x) : ∃ j, j < N ∧ x = nI j := by
  obtain ⟨j, hj, e⟩ := nI_of c
  refine ⟨j, ?_, e⟩
  by_cases w : j < N
  · exact w
  · rw [e] at c2
    exact absurd (nI_le (by omega) hj) c2
theorem pl_cases {a m n : Nat} {B : Int} {h : HH} {g : Nat → Int32} (gi : GI B n g) (cg : CG n (a + 1) h g) (x : Int32) : (fX5_requirePlayer a x h = 2 ∧ ∀ h' : HH, h' (m + 1) = g → fX6_isPlayer m x h' = false) ∨ ∃ p, p < n ∧ x = nI p ∧ fX5_requirePlayer a x h = 0 ∧ ∀ h' : HH, h' (m + 1) = g → fX6_isPlayer m x h' = true := by
  have hn0 := gi.1
  have hn := gi.2.1
  have e0 : h (a + 1) 0 = nI n := by rw [cg.1 0 (by decide), gi.2.2.1]
  have l : (nI n - 1 : Int32).toInt = n - 1 := by
    rw [ti_sub (by rw [t1, ti_nI (by omega)]; omega) (by rw [t1, ti_nI (by omega)]; omega), t1, ti_nI (by omega)]
  have un : fX5_requirePlayer a x h = if x < 0 then 2 else if nI n ≤ x then 2 else 0 := by
    simp only [fX5_requirePlayer, fX5_requirePlayer_c0, fX5_requirePlayer_c19, fX5_requirePlayer_c20, ri0, ri1, n20, e0, if_true, if_false]
  have um (h' : HH) (e : h' (m + 1) = g) : fX6_isPlayer m x h' = fX6_within x 0 (nI n - 1) := by
    show fX6_within x 0 (h' (m + 1) 0 - 1) = _
    rw [e, gi.2.2.1]
  have ge : nI n ≤ x ↔ (nI n - 1 : Int32) < x := by
    rw [ti_le, ti_lt, l, ti_nI (by omega)]
    omega
  by_cases c1 : x < 0
  · exact Or.inl ⟨by rw [un, if_pos c1], fun h' e => by rw [um h' e]; exact wi_f1 c1⟩
  · by_cases c2 : nI n ≤ x
    · exact Or.inl ⟨by rw [un, if_neg c1, if_pos c2], fun h' e => by rw [um h' e]; exact wi_f2 c1 (ge.mp c2)⟩
    · obtain ⟨p, hp, e⟩ := rng (by omega) c1 c2
      exact Or.inr ⟨p, hp, e, by rw [un, if_neg c1, if_neg c2], fun h' e => by rw [um h' e]; exact wi_t c1 (fun z => c2 (ge.mpr z))⟩
