/-! the model's search -/
def hd : List Nat → Int32
  | [] => -1
  | x :: _ => nI x
def MF (m r c : Nat) (h h' : HH) : Prop := (∀ q, q ≠ m → q ≠ m + 1 → q ≠ m + 3 → q ≠ m + 4 → q ≠ m + 5 → h' q = h q) ∧ (∀ k, k ≠ 7 → k ≠ 8 → h' m k = h m k) ∧ (∀ y, 85 ≤ y → h' (m + 1) y = h (m + 1) y) ∧ (∀ y, y < 206 * r → h' (m + 3) y = h (m + 3) y) ∧ ∀ i, i < c → h' (m + 4) i = h (m + 4) i
theorem MF_tr {m r c : Nat} {h h1 h2 : HH} (x : MF m r c h h1) (y : MF m r c h1 h2) : MF m r c h h2 :=
  ⟨fun q a b c d e => (y.1 q a b c d e).trans (x.1 q a b c d e), fun k a b => (y.2.1 k a b).trans (x.2.1 k a b), fun k a => (y.2.2.1 k a).trans (x.2.2.1 k a), fun k a => (y.2.2.2.1 k a).trans (x.2.2.2.1 k a), fun k a => (y.2.2.2.2 k a).trans (x.2.2.2.2 k a)⟩
theorem MF_lo {m r c r' c' : Nat} {h h1 : HH} (hr : r ≤ r') (hc : c ≤ c') (x : MF m r' c' h h1) : MF m r c h h1 :=
  ⟨x.1, x.2.1, x.2.2.1, fun k a => x.2.2.2.1 k (by omega), fun k a => x.2.2.2.2 k (by omega)⟩
def MX (m l : Nat) (h : HH) (g : Nat → Int32) (pre : Nat → Nat) (b : Bs) : Prop := (∀ y, y < 85 → h (m + 3) (206 * l + y) = g y) ∧ (∀ y, 85 ≤ y → h (m + 1) y = g y) ∧ (∀ i, i < l → h (m + 4) i = nI (pre i)) ∧ BM m h b
theorem m_one {m n t D l k : Nat} {B : Int} {g : Nat → Int32} {h : HH} {L : List Nat} (hl : l ≤ 2) (sg : SG B n t g) (hk : k ≤ 300) (hL : okfrom n t g (300 - k) k = L) (hx : h (m + 4) l + 1 = nI k) (v1 : ∀ y, y < 85 → h (m + 3) (206 * l + y) = g y) (v2 : ∀ y, 85 ≤ y → h (m + 1) y = g y) (F : Nat) : fX6_searches_c27 m (F + 1) (nI D) (nI l) h = fX6_searches_c57 m (fX6_searches_c27 m F) (nI D) (nI l) (nI l) (hset (hrow h (m + 1) g) (m + 4) l (hd L)) ∧ (sX6_searches_c57 m (sX6_searches_c27 m F) (nI D) (nI l) (nI l) (hset (hrow h (m + 1) g) (m + 4) l (hd L)) → sX6_searches_c27 m (F + 1) (nI D) (nI l) h) := by
  have cl : (nI l).toNatClampNeg = l := nclamp (by omega)
  have T := m_takesL (m := m) (l := l) (h := h) (by omega)
  have eg : unf l (h (m + 3)) 0 85 (h (m + 1)) = g := by
    funext y
    rw [unf_v]
    by_cases c : y < 85
    · rw [if_pos (by omega), v1 y c]
    · rw [if_neg (by omega), v2 y (by omega)]
  rw [eg] at T
  obtain ⟨h1, e1⟩ : ∃ h1, hrow h (m + 1) g = h1 := ⟨_, rfl⟩
  rw [e1] at T ⊢
  have r1 : h1 (m + 1) = g := by rw [← e1, hrow_s]
  have r4 : h1 (m + 4) = h (m + 4) := by rw [← e1, hrow_o (by omega)]
  have hn4 := sg.2.1
  have htn := sg.2.2.2.1
  have N := m_next (m := m) (n := n) (t := t) (k := k) (x := h1 (m + 4) l) (h := h1) hn4 (by rw [r1]; exact sg.2.2.1) (by omega) (fun _ => by rw [r1]; exact sg.2.2.2.2.1) hk (by rw [r4]; exact hx)
  rw [r1, gnext_v, hL] at N
  have N1 : fX6_nextCode m (h1 (m + 4) l) h1 = hd L := by
    rw [N.1]
    cases L <;> rfl
  have ng : ¬ nI l < 0 := nI_pos (by omega)
  constructor
  · show (if nI l < 0 then _ else fX6_searches_c47 m (fX6_searches_c27 m F) (nI D) (nI l) (nI l) (nI l) (fX6_takesLevel m (nI l) h)) = _
    rw [if_neg ng, T.1]
    unfold fX6_searches_c47
    rw [cl, N1]
  · intro z
    refine ⟨fun q => absurd q ng, fun _ => ⟨T.2, ?_⟩⟩
    rw [T.1]
    unfold sX6_searches_c47
    rw [cl, N1]
    exact ⟨v_of (by omega) (by decide), N.2, v_of (by omega) (by decide), z⟩
def BR (m D l : Nat) (k27 : Int32 → Int32 → HH → HH) (h : HH) : HH := if nI D ≤ nI l + 1 then fX6_searches_c125 m k27 (nI D) (nI l) h else fX6_searches_c103 m k27 (nI D) (nI l) 3 h
def BRs (m D l : Nat) (K27 : Int32 → Int32 → HH → Prop) (h : HH) : Prop := (nI D ≤ nI l + 1 → sX6_searches_c125 m K27 (nI D) (nI l) h) ∧ (¬ nI D ≤ nI l + 1 → sX6_searches_c103 m K27 (nI D) (nI l) 3 h)
theorem m_two {m t D l x : Nat} {h : HH} {g : Nat → Int32} {k27 : Int32 → Int32 → HH → HH} {K27 : Int32 → Int32 → HH → Prop} (hl : l ≤ 2) (ht : t < 4) (h3 : g 3 = nI t) (hx : x < 300) (eg : h (m + 1) = g) (e4 : h (m + 4) l = nI x) : fX6_searches_c57 m k27 (nI D) (nI l) (nI l) h = BR m D l k27 (hrow h (m + 1) (G_comes t (x / 25) (nI (x % 25)) g)) ∧ (BRs m D l K27 (hrow h (m + 1) (G_comes t (x / 25) (nI (x % 25)) g)) → sX6_searches_c57 m K27 (nI D) (nI l) (nI l) h) := by
  have cl : (nI l).toNatClampNeg = l := nclamp (by omega)
  have d1 : nI x / 25 = nI (x / 25) := nI_div (b := 25) (by omega) (by decide) (by decide)
  have d2 : jrem (nI x) 25 = nI (x % 25) := jrem_n (b := 25) (by omega) (by decide) (by decide)
  have C := m_comes (m := m) (t := t) (s := x / 25) (j := x % 25) (h := h) ht (by rw [eg, h3]) (by omega) (by omega)
  rw [eg] at C
  have ne : ¬ nI x = -1 := nI_m1 (by omega)
  unfold fX6_searches_c57 sX6_searches_c57 BR BRs
  rw [cl, e4, if_neg ne, d1, d2, C.1]
  exact ⟨rfl, fun z => ⟨v_of (by omega) (by decide), fun q => absurd q ne, fun _ => ⟨v_of (by omega) (by decide), v_of (by omega) (by decide), C.2, z⟩⟩⟩
/-- behind a code: the loop comes back to its level -/
def Aft (m n t D l e : Nat) (g : Nat → Int32) (pre : Nat → Nat) (c : Nat) : Prop := ∀ (x : Nat) (b : Bs) (h : HH), x < 300 → G_ok n t g x = true → h (m + 1) = G_comes t (x / 25) (nI (x % 25)) g → (∀ i, i < l + 1 → h (m + 4) i = nI (prs pre l x i)) → BM m h b → ∃ (T : Nat) (h' : HH), T + 1 ≤ c ∧ MF m (l + 1) (l + 1) h h' ∧ BM m h' (Srch n t e (G_comes t (x / 25) (nI (x % 25)) g) (l + 1) (prs pre l x) b) ∧ ∀ F, BR m D l (fX6_searches_c27 m (F + T)) h = fX6_searches_c27 m F (nI D) (nI l) h' ∧ (sX6_searches_c27 m F (nI D) (nI l) h' → BRs m D l (sX6_searches_c27 m (F + T)) h)
theorem m_list {m n t D l e c : Nat} {B : Int} {g : Nat → Int32} {pre : Nat → Nat} (hl : l ≤ 2) (sg : SG B n t g) (aft : Aft m n t D l e g pre c) : ∀ (L : List Nat) (k : Nat) (b : Bs) (h : HH), k ≤ 300 → okfrom n t g (300 - k) k = L → h (m + 4) l + 1 = nI k → MX m l h g pre b → ∃ (T : Nat) (h' : HH), T ≤ L.length * c + 1 ∧ MF m (l + 1) l h h' ∧ BM m h' (sfold (fun k b => Srch n t e (G_comes t (k / 25) (nI (k % 25)) g) (l + 1) (prs pre l k) b) L b) ∧ ∀ F, fX6_searches_c27 m (F + T) (nI D) (nI l) h = fX6_searches_c27 m F (nI D) (nI l + (-1)) h' ∧ (sX6_searches_c27 m F (nI D) (nI l + (-1)) h' → sX6_searches_c27 m (F + T) (nI D) (nI l) h)
  | [], k, b, h, hk, hL, hx, mx => by
    obtain ⟨v1, v2, v3, v4⟩ := mx
    have cl : (nI l).toNatClampNeg = l := nclamp (by omega)
    obtain ⟨hN, eN⟩ : ∃ hN, hset (hrow h (m + 1) g) (m + 4) l (hd []) = hN := ⟨_, rfl⟩
    have fN (q : Nat) (q1 : q ≠ m + 1) (q2 : q ≠ m + 4) : hN q = h q := by rw [← eN, hset_o _ _ _ _ q2, hrow_o q1]
    have rN : hN (m + 1) = g := by rw [← eN, hset_o _ _ _ _ (by omega), hrow_s]
    have r4 : hN (m + 4) = upd (h (m + 4)) l (-1) := by rw [← eN, hset_s, hrow_o (by omega)]; rfl
    refine ⟨1, hN, by omega, ⟨fun q _ q2 _ q4 _ => fN q q2 q4, fun k _ _ => by rw [fN m (by omega) (by omega)], fun y hy => by rw [rN, v2 y hy], fun y _ => by rw [fN _ (by omega) (by omega)], fun i hi => by rw [r4, upd_o (by omega)]⟩, BM_fr (by rw [fN m (by omega) (by omega)]) (by rw [fN m (by omega) (by omega)]) (fN _ (by omega) (by omega)) v4, fun F => ?_⟩
    have O := m_one (m := m) (D := D) hl sg hk hL hx v1 v2 F
    rw [eN] at O
    have z : hN (m + 4) (nI l).toNatClampNeg = -1 := by rw [cl, r4, upd_s]
    rw [O.1]
    refine ⟨?_, fun w => O.2 ⟨v_of (by omega) (by decide), fun _ => w, fun q => absurd z q⟩⟩
    unfold fX6_searches_c57
    rw [if_pos z]
  | x :: L, k, b, h, hk, hL, hx, mx => by
    obtain ⟨v1, v2, v3, v4⟩ := mx
    obtain ⟨d', b1, b2, b3, b4⟩ := okfrom_cons _ _ hL
    have hx3 : x < 300 := by omega
    have hd' : d' = 300 - (x + 1) := by omega
    subst hd'
    have ht4 : t < 4 := by have := sg.2.1; have := sg.2.2.2.1; omega
    obtain ⟨hN, eN⟩ : ∃ hN, hset (hrow h (m + 1) g) (m + 4) l (hd (x :: L)) = hN := ⟨_, rfl⟩
    have fN (q : Nat) (q1 : q ≠ m + 1) (q2 : q ≠ m + 4) : hN q = h q := by rw [← eN, hset_o _ _ _ _ q2, hrow_o q1]
    have rN : hN (m + 1) = g := by rw [← eN, hset_o _ _ _ _ (by omega), hrow_s]
    have r4 : hN (m + 4) = upd (h (m + 4)) l (nI x) := by rw [← eN, hset_s, hrow_o (by omega)]; rfl
    obtain ⟨h3, e3⟩ : ∃ h3, hrow hN (m + 1) (G_comes t (x / 25) (nI (x % 25)) g) = h3 := ⟨_, rfl⟩
    have f3 (q : Nat) (q1 : q ≠ m + 1) : h3 q = hN q := by rw [← e3, hrow_o q1]
    have r3 : h3 (m + 1) = G_comes t (x / 25) (nI (x % 25)) g := by rw [← e3, hrow_s]
    have hi3 (y : Nat) (hy : 85 ≤ y) : h3 (m + 1) y = g y := by rw [r3, comes_hi ht4 (by omega) hy]
    obtain ⟨T1, h4, t1, mf4, bm4, lp4⟩ := aft x b h3 hx3 b3 r3 (fun i hi => by
      rw [f3 _ (by omega), r4]
      unfold prs
      by_cases z : i = l
      · subst z
        rw [upd_s, if_pos rfl]
      · rw [upd_o z, if_neg z]
        exact v3 i (by omega)) (BM_fr (by rw [f3 m (by omega), fN m (by omega) (by omega)]) (by rw [f3 m (by omega), fN m (by omega) (by omega)]) (by rw [f3 _ (by omega), fN _ (by omega) (by omega)]) v4)
    have mf3 : MF m (l + 1) l h h3 := ⟨fun q _ q2 _ q4 _ => by rw [f3 q q2, fN q q2 q4], fun k _ _ => by rw [f3 m (by omega), fN m (by omega) (by omega)], fun y hy => by rw [hi3 y hy, v2 y hy], fun y _ => by rw [f3 _ (by omega), fN _ (by omega) (by omega)], fun i hi => by rw [f3 _ (by omega), r4, upd_o (by omega)]⟩
    have mf34 := MF_tr mf3 (MF_lo (Nat.le_refl _) (by omega) mf4)
    have c4 : h4 (m + 4) l = nI x := by rw [mf4.2.2.2.2 l (by omega), f3 _ (by omega), r4, upd_s]
    obtain ⟨T2, h5, t2, mf5, bm5, lp5⟩ := m_list hl sg aft L (x + 1) _ h4 (by omega) b4.symm (by rw [c4, nI_1]) ⟨fun y hy => by rw [mf34.2.2.2.1 _ (by omega), v1 y hy], fun y hy => by rw [mf34.2.2.1 y hy, v2 y hy], fun i hi => by rw [mf34.2.2.2.2 i hi, v3 i hi], bm4⟩
    refine ⟨T2 + T1 + 1, h5, ?_, MF_tr mf34 mf5, bm5, fun F => ?_⟩
    · show T2 + T1 + 1 ≤ (L.length + 1) * c + 1
      rw [Nat.succ_mul]
      omega
    · have O := m_one (m := m) (D := D) hl sg hk hL hx v1 v2 (F + T2 + T1)
      rw [eN] at O
      have W := m_two (m := m) (D := D) (k27 := fX6_searches_c27 m (F + T2 + T1)) (K27 := sX6_searches_c27 m (F + T2 + T1)) hl ht4 sg.2.2.2.2.1 hx3 rN (by rw [r4, upd_s])
      rw [e3] at W
      have P4 := lp4 (F + T2)
      have P5 := lp5 F
      rw [show F + (T2 + T1 + 1) = F + T2 + T1 + 1 by omega]
      exact ⟨by rw [O.1, W.1, P4.1, P5.1], fun w => O.2 (W.2 (P4.2 (P5.2 w)))⟩
def cst : Nat → Nat
  | 0 => 1
  | e + 1 => 40 * cst e + 2
theorem m_back {m D l : Nat} {h : HH} {k27 : Int32 → Int32 → HH → HH} {K27 : Int32 → Int32 → HH → Prop} (sw : sX6_weighs m (nI (l + 1)) h) : fX6_searches_c125 m k27 (nI D) (nI l) h = k27 (nI D) (nI l) (fX6_weighs m (nI (l + 1)) h) ∧ (K27 (nI D) (nI l) (fX6_weighs m (nI (l + 1)) h) → sX6_searches_c125 m K27 (nI D) (nI l) h) := by
  unfold fX6_searches_c125 fX6_searches_c126 sX6_searches_c125 sX6_searches_c126 fX6_searches_c156 sX6_searches_c156
  rw [if_pos rfl, nI_1]
  exact ⟨rfl, fun z => ⟨fun _ => ⟨sw, z⟩, fun q => absurd rfl q⟩⟩
theorem m_aft {m n t D : Nat} (hD : D ≤ 3) : ∀ (e l : Nat) (B : Int) (g : Nat → Int32) (pre : Nat → Nat), l + (e + 1) = D → B + 40 * ((e : Int) + 1) ≤ 70000000 → SG B n t g → 0 < (mp g t 7).toInt → Aft m n t D l e g pre (cst e) := by
  intro e
  induction e with
  | zero =>
    intro l B g pre hl hB sg h7 x b h hx ok eg st bm
    have ht4 : t < 4 := by have := sg.2.1; have := sg.2.2.2.1; omega
    have sg' := SG_comes (by omega) sg h7 hx ok
    have W := m_weighs (m := m) (t := t) (l := l + 1) (pre := prs pre l x) (b := b) (by omega) (by omega) ht4 eg sg'.2.2.2.2.1 bm st
    have c : nI D ≤ nI l + 1 := by rw [nI_1]; exact nI_le (by omega) (by omega)
    refine ⟨0, fX6_weighs m (nI (l + 1)) h, Nat.le_refl _, ⟨fun q q1 q2 _ _ q5 => W.2.2.1 q q1 q2 q5, W.2.2.2.1, W.2.2.2.2, fun y _ => by rw [W.2.2.1 _ (by omega) (by omega) (by omega)], fun i _ => by rw [W.2.2.1 _ (by omega) (by omega) (by omega)]⟩, W.1, fun F => ?_⟩
    have K := m_back (m := m) (D := D) (l := l) (h := h) (k27 := fX6_searches_c27 m (F + 0)) (K27 := sX6_searches_c27 m (F + 0)) W.2.1
    unfold BR BRs
    rw [if_pos c]
    exact ⟨K.1, fun z => ⟨fun _ => K.2 z, fun q => absurd c q⟩⟩
  | succ e ih =>
    intro l B g pre hl hB sg h7 x b h hx ok eg st bm
    have ht4 : t < 4 := by have := sg.2.1; have := sg.2.2.2.1; omega
    have sg' := SG_comes (by omega) sg h7 hx ok
    obtain ⟨g', eg'⟩ : ∃ g', G_comes t (x / 25) (nI (x % 25)) g = g' := ⟨_, rfl⟩
    rw [eg'] at sg' eg ⊢
    have W := m_weighs (m := m) (t := t) (l := l + 1) (pre := prs pre l x) (b := b) (by omega) (by omega) ht4 eg sg'.2.2.2.2.1 bm st
    have c : ¬ nI D ≤ nI l + 1 := by rw [nI_1]; exact nI_ge (by omega) (by omega)
    have e3 : h (m + 1) (3 : Int32).toNatClampNeg = nI t := by
      show h (m + 1) 3 = nI t
      rw [eg, sg'.2.2.2.2.1]
    have e7 : fX6_get m (nI t) 7 h = mp g' t 7 := by rw [m_g7 ht4, eg]
    have s7 : sX6_get m (nI t) 7 h := m_s7 ht4
    have v3 : vp_in (3 : Int32) 206 := vpd (by decide)
    have N := m_next (m := m) (n := n) (t := t) (k := 0) (x := -1) (h := h) sg'.2.1 (by rw [eg]; exact sg'.2.2.1) ht4 (fun _ => by rw [eg]; exact sg'.2.2.2.2.1) (by decide) (by decide)
    rw [eg, gnext_v] at N
    have mfw : MF m (l + 1) (l + 1) h (fX6_weighs m (nI (l + 1)) h) := ⟨fun q q1 q2 _ _ q5 => W.2.2.1 q q1 q2 q5, W.2.2.2.1, W.2.2.2.2, fun y _ => by rw [W.2.2.1 _ (by omega) (by omega) (by omega)], fun i _ => by rw [W.2.2.1 _ (by omega) (by omega) (by omega)]⟩
    rw [Srch_s]
    by_cases c1 : mp g' t 7 ≤ 0
    · rw [if_pos c1]
      refine ⟨0, fX6_weighs m (nI (l + 1)) h, by unfold cst; omega, mfw, W.1, fun F => ?_⟩
      have K := m_back (m := m) (D := D) (l := l) (h := h) (k27 := fX6_searches_c27 m (F + 0)) (K27 := sX6_searches_c27 m (F + 0)) W.2.1
      unfold BR BRs fX6_searches_c103 sX6_searches_c103
      rw [if_neg c, e3, e7, if_pos c1]
      exact ⟨K.1, fun z => ⟨fun q => absurd q c, fun _ => ⟨v3, s7, fun _ => K.2 z, fun q => absurd c1 q⟩⟩⟩
    · rw [if_neg c1]
      have N1 : fX6_nextCode m (-1) h = hd (okl n t g') := by
        rw [N.1]
        show (match okl n t g' with | [] => -1 | x :: _ => nI x) = _
        cases okl n t g' <;> rfl
      have len := okl_len n t g'
      have memO : ∀ k, k ∈ okl n t g' → k < 300 := fun k hk => (okl_mem hk).1
      obtain ⟨O, eO⟩ : ∃ O, okl n t g' = O := ⟨_, rfl⟩
      rw [eO] at N1 len memO ⊢
      by_cases c2 : O = []
      · rw [if_pos c2]
        subst c2
        refine ⟨0, fX6_weighs m (nI (l + 1)) h, by unfold cst; omega, mfw, W.1, fun F => ?_⟩
        have K := m_back (m := m) (D := D) (l := l) (h := h) (k27 := fX6_searches_c27 m (F + 0)) (K27 := sX6_searches_c27 m (F + 0)) W.2.1
        have z : fX6_nextCode m (-1) h = -1 := N1
        unfold BR BRs fX6_searches_c103 sX6_searches_c103
        rw [if_neg c, e3, e7, if_neg c1, if_pos z]
        exact ⟨K.1, fun w => ⟨fun q => absurd q c, fun _ => ⟨v3, s7, fun q => absurd q c1, fun _ => ⟨N.2, fun _ => K.2 w, fun q => absurd z q⟩⟩⟩⟩
      · rw [if_neg c2]
        have z : ¬ fX6_nextCode m (-1) h = -1 := by
          rw [N1]
          cases O with
          | nil => exact absurd rfl c2
          | cons y O => exact nI_m1 (by have := memO y List.mem_cons_self; omega)
        have p7 : 0 < (mp g' t 7).toInt := by
          have w : ¬ (mp g' t 7).toInt ≤ 0 := fun z => c1 (ti_le.mpr z)
          omega
        have A := ih (l + 1) (B + 40) g' (prs pre l x) (by omega) (by omega) sg' p7
        have cl : (nI (l + 1)).toNatClampNeg = l + 1 := nclamp (by omega)
        obtain ⟨h5, e5⟩ : ∃ h5, hset h (m + 4) (l + 1) (-1) = h5 := ⟨_, rfl⟩
        have f5 (q : Nat) (hq : q ≠ m + 4) : h5 q = h q := by rw [← e5, hset_o _ _ _ _ hq]
        have r5 : h5 (m + 4) = upd (h (m + 4)) (l + 1) (-1) := by rw [← e5, hset_s]
        have LY := m_lays (m := m) (l := l + 1) (h := h5) (by omega)
        rw [f5 (m + 1) (by omega), f5 (m + 3) (by omega), eg] at LY
        obtain ⟨h6, e6⟩ : ∃ h6, hrow h5 (m + 3) (cpf (l + 1) g' 0 85 (h (m + 3))) = h6 := ⟨_, rfl⟩
        rw [e6] at LY
        have f6 (q : Nat) (q3 : q ≠ m + 3) (q4 : q ≠ m + 4) : h6 q = h q := by rw [← e6, hrow_o q3, f5 q q4]
        have r6 : h6 (m + 4) = upd (h (m + 4)) (l + 1) (-1) := by rw [← e6, hrow_o (by omega), r5]
        have l6 (y : Nat) : h6 (m + 3) y = if 206 * (l + 1) + 0 ≤ y ∧ y < 206 * (l + 1) + 0 + 85 then g' (y - 206 * (l + 1)) else h (m + 3) y := by rw [← e6, hrow_s, cpf_v]
        have mf6 : MF m (l + 1) (l + 1) h h6 := ⟨fun q _ _ q3 q4 _ => f6 q q3 q4, fun k _ _ => by rw [f6 m (by omega) (by omega)], fun y _ => by rw [f6 _ (by omega) (by omega)], fun y hy => by rw [l6, if_neg (by omega)], fun i hi => by rw [r6, upd_o (by omega)]⟩
        obtain ⟨T, h7', tt, mf7, bm7, lp7⟩ := m_list (m := m) (D := D) (l := l + 1) (by omega) sg' A O 0 b h6 (by omega) eO (by rw [r6, upd_s]; decide) ⟨fun y hy => by rw [l6, if_pos (by omega), show 206 * (l + 1) + y - 206 * (l + 1) = y by omega], fun y hy => by rw [f6 _ (by omega) (by omega), eg], fun i hi => by rw [r6, upd_o (by omega)]; exact st i hi, BM_fr (by rw [f6 m (by omega) (by omega)]) (by rw [f6 m (by omega) (by omega)]) (f6 _ (by omega) (by omega)) bm⟩
        have lm : nI (l + 1) + (-1) = nI l := by
          refine ti_eq ?_
          rw [ti_add (by rw [tm1, ti_nI (by omega)]; omega) (by rw [tm1, ti_nI (by omega)]; omega), tm1, ti_nI (by omega), ti_nI (by omega)]
          omega
        rw [lm] at lp7
        refine ⟨T, h7', ?_, MF_tr mf6 (MF_lo (by omega) (Nat.le_refl _) mf7), bm7, fun F => ?_⟩
        · have := Nat.mul_le_mul_right (cst e) len
          unfold cst
          omega
        · have P := lp7 F
          unfold BR BRs fX6_searches_c103 sX6_searches_c103 fX6_searches_c126 sX6_searches_c126 fX6_searches_c143 sX6_searches_c143 fX6_searches_c156 sX6_searches_c156
          rw [if_neg c, e3, e7, if_neg c1, if_neg z, if_neg (by decide : ¬ (1 : Int32) = 0), nI_1, cl, e5, LY.1]
          exact ⟨P.1, fun w => ⟨fun q => absurd (by rw [nI_1]; exact q) c, fun _ => ⟨v3, s7, fun q => absurd q c1, fun _ => ⟨N.2, fun q => absurd q z, fun _ => ⟨fun q => absurd q (by decide), fun _ => ⟨v_of (by omega) (by decide), LY.2, P.2 w⟩⟩⟩⟩⟩⟩
theorem m_searches {m n t D : Nat} {B : Int} {h : HH} (hD0 : 1 ≤ D) (hD : D ≤ 3) (hB : B + 120 ≤ 70000000) (gi : GI B n (h (m + 1))) (tk : TK n t (h (m + 1))) : BM m (fX6_searches m (nI D) h) (Sroot n t D (h (m + 1))) ∧ sX6_searches m (nI D) h ∧ (∀ q, q ≠ m → q ≠ m + 3 → q ≠ m + 4 → q ≠ m + 5 → fX6_searches m (nI D) h q = h q) ∧ ∀ k, k ≠ 7 → k ≠ 8 → fX6_searches m (nI D) h m k = h m k := by
  obtain ⟨h1, e1⟩ : ∃ h1, hset h m 7 0 = h1 := ⟨_, rfl⟩
  have f1 (q : Nat) (hq : q ≠ m) : h1 q = h q := by rw [← e1, hset_o _ _ _ _ hq]
  have m1 : h1 m = upd (h m) 7 0 := by rw [← e1, hset_s]
  have a7 : h1 m 7 = 0 := by rw [m1, upd_s]
  have ov : fX6_isOver m h1 = G_over (h (m + 1)) := by
    show G_over (h1 (m + 1)) = _
    rw [f1 _ (by omega)]
  obtain ⟨g, eg⟩ : ∃ g, h (m + 1) = g := ⟨_, rfl⟩
  rw [eg] at gi tk ov ⊢
  unfold fX6_searches fX6_searches_c0 fX6_searches_c6 fX6_searches_c24 sX6_searches sX6_searches_c0 sX6_searches_c6 sX6_searches_c24
  rw [e1, ov]
  unfold Sroot
  by_cases c : bI (G_over g) = 0
  · rw [if_pos c, if_pos c]
    have sg := TK_sg gi tk c
    have p7 := (tk.2 c).2.1
    obtain ⟨h5, e5⟩ : ∃ h5, hset h1 (m + 4) 0 (-1) = h5 := ⟨_, rfl⟩
    have f5 (q : Nat) (hq : q ≠ m + 4) : h5 q = h1 q := by rw [← e5, hset_o _ _ _ _ hq]
    have r5 : h5 (m + 4) = upd (h1 (m + 4)) 0 (-1) := by rw [← e5, hset_s]
    have LY := m_lays (m := m) (l := 0) (h := h5) (by omega)
    rw [f5 (m + 1) (by omega), f5 (m + 3) (by omega), f1 (m + 1) (by omega), f1 (m + 3) (by omega), eg] at LY
    obtain ⟨h6, e6⟩ : ∃ h6, hrow h5 (m + 3) (cpf 0 g 0 85 (h (m + 3))) = h6 := ⟨_, rfl⟩
    rw [e6] at LY
    have LY : fX6_laysLevel m 0 h5 = h6 ∧ sX6_laysLevel m 0 h5 := LY
    have f6 (q : Nat) (q3 : q ≠ m + 3) (q4 : q ≠ m + 4) : h6 q = h1 q := by rw [← e6, hrow_o q3, f5 q q4]
    have r6 : h6 (m + 4) = upd (h1 (m + 4)) 0 (-1) := by rw [← e6, hrow_o (by omega), r5]
    have l6 (y : Nat) (hy : y < 85) : h6 (m + 3) y = g y := by
      rw [← e6, hrow_s, cpf_v, if_pos (by omega)]
      congr 1
    obtain ⟨d, ed⟩ : ∃ d, D = d + 1 := ⟨D - 1, by omega⟩
    have A := m_aft (m := m) (n := n) (t := t) (D := D) hD d 0 B g (fun _ => 0) (by omega) (by omega) sg p7
    have len := okl_len n t g
    obtain ⟨T, h7, tt, mf7, bm7, lp7⟩ := m_list (m := m) (D := D) (l := 0) (by omega) sg A (okl n t g) 0 none h6 (by omega) rfl (by rw [r6, upd_s]; decide) ⟨fun y hy => by rw [show 206 * 0 + y = y by omega]; exact l6 y hy, fun y hy => by rw [f6 _ (by omega) (by omega), f1 _ (by omega), eg], fun i hi => absurd hi (by omega), by show h6 m 7 = 0; rw [f6 m (by omega) (by omega), a7]⟩
    have cb : cst d ≤ 1682 := by
      have : d = 0 ∨ d = 1 ∨ d = 2 := by omega
      rcases this with rfl | rfl | rfl <;> decide
    have tb : T ≤ 67281 := by
      have := Nat.mul_le_mul len cb
      omega
    obtain ⟨F, hF⟩ : ∃ F, fuelS = (F + 1) + T := ⟨fuelS - T - 1, by unfold fuelS; omega⟩
    have P := lp7 (F + 1)
    have TL := m_takesL (m := m) (l := 0) (h := h7) (by omega)
    have TL : fX6_takesLevel m 0 h7 = hrow h7 (m + 1) (unf 0 (h7 (m + 3)) 0 85 (h7 (m + 1))) ∧ sX6_takesLevel m 0 h7 := TL
    have row : unf 0 (h7 (m + 3)) 0 85 (h7 (m + 1)) = g := by
      funext y
      rw [unf_v]
      by_cases cy : y < 85
      · rw [if_pos (by omega), show 206 * 0 + y = y by omega, mf7.2.2.2.1 y (by omega), l6 y cy]
      · rw [if_neg (by omega), mf7.2.2.1 y (by omega), f6 _ (by omega) (by omega), f1 _ (by omega), eg]
    rw [row] at TL
    have lt : nI 0 + (-1) < 0 := by decide
    have Z : fX6_searches_c27 m (F + 1) (nI D) (nI 0 + (-1)) h7 = hrow h7 (m + 1) g ∧ sX6_searches_c27 m (F + 1) (nI D) (nI 0 + (-1)) h7 := by
      refine ⟨?_, fun _ => TL.2, fun q => absurd lt q⟩
      show (if nI 0 + (-1) < 0 then fX6_takesLevel m 0 h7 else _) = _
      rw [if_pos lt, TL.1]
    have Fin : fX6_searches_c27 m fuelS (nI D) 0 h6 = hrow h7 (m + 1) g ∧ sX6_searches_c27 m fuelS (nI D) 0 h6 := by
      rw [hF]
      exact ⟨P.1.trans Z.1, P.2 Z.2⟩
    have e5' : hset h1 (m + 4) 0 (-1) = h5 := e5
    rw [e5', LY.1, Fin.1]
    have bmF : BM m h7 (Srch n t D g 0 (fun _ => 0) none) := by
      rw [ed, Srch_s]
      have n7 : ¬ mp g t 7 ≤ 0 := fun w => by
        have w : (mp g t 7).toInt ≤ 0 := ti_le.mp w
        omega
      rw [if_neg n7]
      by_cases c2 : okl n t g = []
      · rw [if_pos c2]
        rw [c2] at bm7
        exact bm7
      · rw [if_neg c2]
        exact bm7
    refine ⟨BM_fr (by rw [hrow_o (by omega)]) (by rw [hrow_o (by omega)]) (by rw [hrow_o (by omega)]) bmF, ⟨fun _ => ⟨LY.2, Fin.2⟩, fun q => absurd c q⟩, fun q q1 q3 q4 q5 => ?_, fun k k7 k8 => ?_⟩
    · by_cases z : q = m + 1
      · subst z
        rw [hrow_s, eg]
      · rw [hrow_o z, mf7.1 q q1 z q3 q4 q5, f6 q q3 q4, f1 q q1]
    · rw [hrow_o (by omega), mf7.2.1 k k7 k8, f6 m (by omega) (by omega), m1, upd_o k7]
  · rw [if_neg c, if_neg c]
    exact ⟨a7, ⟨fun q => absurd q c, fun _ => trivial⟩, fun q q1 _ _ _ => f1 q q1, fun k k7 _ => by rw [m1, upd_o k7]⟩
