/-! the component's search as a whole; the model's weighing -/
def TK (n t : Nat) (g : Nat → Int32) : Prop := OKg n t g ∧ (bI (G_over g) = 0 → g 3 = nI t ∧ 0 < (mp g t 7).toInt ∧ (g 2).toInt ≤ (g 1).toInt)
theorem TK_sg {B : Int} {n t : Nat} {g : Nat → Int32} (gi : GI B n g) (tk : TK n t g) (ov : bI (G_over g) = 0) : SG B n t g := SG_of gi tk.1.2.1 (tk.2 ov).1 (tk.2 ov).2.2
def Sroot (n t D : Nat) (g : Nat → Int32) : Bs := if bI (G_over g) = 0 then Srch n t D g 0 (fun _ => 0) none else none
theorem Sroot_ok {n t D : Nat} {g : Nat → Int32} (hD : D ≤ 3) : Bok (fun k => k ∈ okl n t g) (Sroot n t D g) := by
  have z : Bok (fun k => k ∈ okl n t g) none := fun _ _ _ e => by cases e
  unfold Sroot
  by_cases c : bI (G_over g) = 0
  · rw [if_pos c]
    exact Srch_ok D 0 g _ _ (by omega) (fun w => absurd w (by decide)) (fun _ k hk => hk) z
  · rw [if_neg c]
    exact z
theorem c_run {a r n t D : Nat} {B : Int} {h : HH} {g : Nat → Int32} (hD : D ≤ 3) (hB : B + 120 ≤ 70000000) (hr : r + 15 ≤ a ∨ a + 31 ≤ r) (gi : GI B n g) (tk : TK n t g) (cg : CG n r h g) : BC a (fX3_run a r (nI D) h) (Sroot n t D g) ∧ sX3_run a r (nI D) h ∧ Out a (a + 31) h (fX3_run a r (nI D) h) := by
  have jm : jmin (nI D) 3 = nI D := by
    refine ti_eq ?_
    rw [ti_jmin, ti_nI (by omega), t3, if_neg (by omega)]
  obtain ⟨h1, e1⟩ : ∃ h1, hset (hset h a 6 (nI D)) a 7 0 = h1 := ⟨_, rfl⟩
  have f1 (q : Nat) (hq : q ≠ a) : h1 q = h q := by rw [← e1, hset_o _ _ _ _ hq, hset_o _ _ _ _ hq]
  have a6 : h1 a 6 = nI D := by rw [← e1, hset_s, upd_o (by decide), hset_s, upd_s]
  have a7 : h1 a 7 = 0 := by rw [← e1, hset_s, upd_s]
  have ov : fX0_isOver r h1 = G_over g := by
    show (if h1 r 3 = -1 then true else false) = _
    rw [f1 r (by omega), cg.1 3 (by decide)]
    exact tk.1.2.2.2.2.1
  unfold fX3_run fX3_run_c0 fX3_run_c15 fX3_run_c31 sX3_run sX3_run_c0 sX3_run_c15 sX3_run_c31
  rw [jm, e1, ov]
  have o1 : Out a (a + 31) h h1 := fun q hq => f1 q (by omega)
  unfold Sroot
  by_cases c : bI (G_over g) = 0
  · rw [if_pos c, if_pos c]
    have sg := TK_sg gi tk c
    have hn4 := gi.2.1
    have cg1 : CG n r h1 g := CG_fr hn4 (fun q q1 q2 => f1 q (by omega)) cg
    have C := c_copyG (a := a + 1) (b := r) (by omega) h1
    have cg2 := C.1 n g hn4 cg1
    obtain ⟨h2, e2⟩ : ∃ h2, fX0_copyFrom (a + 1) r h1 = h2 := ⟨_, rfl⟩
    rw [e2] at C cg2 ⊢
    have o2 := C.2.2.2
    have ex : EX a n D 0 h2 g (fun _ => 0) none := ⟨cg2, by rw [o2 a (by omega)]; exact a6, by show h2 a 7 = 0; rw [o2 a (by omega)]; exact a7, fun i hi => absurd hi (by omega)⟩
    have X := c_expl (a := a) (t := t) hD D (4 - D) 0 B g g (fun _ => 0) none h2 (by omega) (by omega) sg (TR_refl g) ex
    rw [show D + (4 - D) + 1 = 5 by omega] at X
    have X : EX a n D 0 (fX3_explore 5 a 0 h2) g (fun _ => 0) (Srch n t D g 0 (fun _ => 0) none) ∧ EF a 0 h2 (fX3_explore 5 a 0 h2) ∧ sX3_explore 5 a 0 h2 := X
    exact ⟨X.1.2.2.1, ⟨fun _ => ⟨C.2.2.1, X.2.2⟩, fun q => absurd c q⟩, out_tr o1 (out_tr (out_mono (by omega) (by omega) o2) (fun q hq => X.2.1 q (by omega)))⟩
  · rw [if_neg c, if_neg c]
    exact ⟨a7, ⟨fun q => absurd q c, fun _ => trivial⟩, o1⟩
-- the model
def BM (m : Nat) (h : HH) (b : Bs) : Prop := match b with
  | none => h m 7 = 0
  | some (r, l, f) => h m 7 = nI l ∧ 1 ≤ l ∧ l ≤ 3 ∧ h m 8 = r ∧ ∀ i, i < l → h (m + 5) i = nI (f i)
theorem BM_fr {m : Nat} {h h' : HH} {b : Bs} (e7 : h' m 7 = h m 7) (e8 : h' m 8 = h m 8) (e5 : h' (m + 5) = h (m + 5)) (bc : BM m h b) : BM m h' b := by
  match b, bc with
  | none, bc => exact e7.trans bc
  | some (r, l, f), bc =>
    obtain ⟨b1, b2, b3, b4, b5⟩ := bc
    exact ⟨e7.trans b1, b2, b3, e8.trans b4, fun i hi => by rw [e5]; exact b5 i hi⟩
theorem m_w48 {m l : Nat} (hl : l ≤ 4) : ∀ (d i f : Nat) (h : HH), i + d = l → fX6_weighs_c48 m (d + f + 1) (nI l) (nI i) h = hrow h (m + 5) (fun y => if i ≤ y ∧ y < l then h (m + 4) y else h (m + 5) y) ∧ sX6_weighs_c48 m (d + f + 1) (nI l) (nI i) h := by
  intro d
  induction d with
  | zero =>
    intro i f h e
    have c : nI l ≤ nI i := nI_le (by omega) (by omega)
    rw [show 0 + f + 1 = f + 1 by omega]
    refine ⟨?_, fun _ => trivial, fun q => absurd c q⟩
    show (if nI l ≤ nI i then h else _) = _
    rw [if_pos c, show (fun y => if i ≤ y ∧ y < l then h (m + 4) y else h (m + 5) y) = h (m + 5) from by funext y; rw [if_neg (by omega)], hrow_self]
  | succ d ih =>
    intro i f h e
    have c : ¬ nI l ≤ nI i := nI_ge (by omega) (by omega)
    have ci : (nI i).toNatClampNeg = i := nclamp (by omega)
    have I := ih (i + 1) f (hset h (m + 5) i (h (m + 4) i)) (by omega)
    have R : hrow (hset h (m + 5) i (h (m + 4) i)) (m + 5) (fun y => if i + 1 ≤ y ∧ y < l then hset h (m + 5) i (h (m + 4) i) (m + 4) y else hset h (m + 5) i (h (m + 4) i) (m + 5) y) = hrow h (m + 5) (fun y => if i ≤ y ∧ y < l then h (m + 4) y else h (m + 5) y) := by
      rw [hset_row, hrow_hrow]
      congr 1
      funext y
      rw [hrow_s, hrow_o (by omega : m + 4 ≠ m + 5)]
      by_cases z : y = i
      · subst z
        rw [if_neg (by omega), upd_s, if_pos (by omega)]
      · rw [upd_o z]
        by_cases w : i + 1 ≤ y ∧ y < l
        · rw [if_pos w, if_pos (by omega)]
        · rw [if_neg w, if_neg (by omega)]
    rw [R] at I
    rw [show d + 1 + f + 1 = (d + f + 1) + 1 by omega]
    constructor
    · show (if nI l ≤ nI i then h else fX6_weighs_c48 m (d + f + 1) (nI l) (nI i + 1) (hset h (m + 5) (nI i).toNatClampNeg (h (m + 4) (nI i).toNatClampNeg))) = _
      rw [if_neg c, ci, nI_1]
      exact I.1
    · refine ⟨fun q => absurd q c, fun _ => ⟨v_of (by omega) (by decide), v_of (by omega) (by decide), ?_⟩⟩
      rw [ci, nI_1]
      exact I.2
theorem m_weighs {m t l : Nat} {h : HH} {g : Nat → Int32} {pre : Nat → Nat} {b : Bs} (hl0 : 1 ≤ l) (hl : l ≤ 3) (ht : t < 4) (eg : h (m + 1) = g) (h3 : g 3 = nI t) (bm : BM m h b) (st : ∀ i, i < l → h (m + 4) i = nI (pre i)) : BM m (fX6_weighs m (nI l) h) (wgh t g l pre b) ∧ sX6_weighs m (nI l) h ∧ (∀ q, q ≠ m → q ≠ m + 1 → q ≠ m + 5 → fX6_weighs m (nI l) h q = h q) ∧ (∀ k, k ≠ 7 → k ≠ 8 → fX6_weighs m (nI l) h m k = h m k) ∧ ∀ y, 85 ≤ y → fX6_weighs m (nI l) h (m + 1) y = h (m + 1) y := by
  have E := m_ends (m := m) (p := t) (h := h) ht
  rw [eg] at E
  obtain ⟨h1, e1⟩ : ∃ h1, hrow h (m + 1) (ps g t (P_end (feeds g) (mp g t))) = h1 := ⟨_, rfl⟩
  rw [e1] at E
  have r1 : h1 (m + 1) = ps g t (P_end (feeds g) (mp g t)) := by rw [← e1, hrow_s]
  have f1 (q : Nat) (hq : q ≠ m + 1) : h1 q = h q := by rw [← e1, hrow_o hq]
  have A := m_all (m := m) (p := t) (h := h1) ht
  have A1 : fX6_allOf m (nI t) h1 = P_fin t g := by
    rw [A.1, r1, mp_ps_s (cut_end (mp_cut _ _))]
    rfl
  have g3 : h1 (m + 1) (3 : Int32).toNatClampNeg = nI t := by
    show h1 (m + 1) 3 = nI t
    rw [r1, ps_lo (by decide), h3]
  have J : fX6_weighs m (nI l) h = fX6_weighs_c16 m (nI l) 3 h1 := by
    unfold fX6_weighs fX6_weighs_c0
    rw [eg, h3, E.1]
  have sJ : sX6_weighs_c16 m (nI l) 3 h1 → sX6_weighs m (nI l) h := fun z => by
    unfold sX6_weighs sX6_weighs_c0
    rw [eg, h3, E.1]
    exact ⟨E.2, z⟩
  have hi (y : Nat) (hy : 85 ≤ y) : h1 (m + 1) y = h (m + 1) y := by rw [r1, ps_hi ht (by omega), eg]
  have bm1 : BM m h1 b := BM_fr (by rw [f1 m (by omega)]) (by rw [f1 m (by omega)]) (f1 _ (by omega)) bm
  have W := m_w48 (m := m) (l := l) (by omega) l 0 (4 - l) (hset (hset h1 m 7 (nI l)) m 8 (P_fin t g)) (by omega)
  rw [show l + (4 - l) + 1 = 5 by omega] at W
  have W : fX6_weighs_c36 m (nI l) (P_fin t g) h1 = _ ∧ sX6_weighs_c36 m (nI l) (P_fin t g) h1 := W
  obtain ⟨h2, e2⟩ : ∃ h2, fX6_weighs_c36 m (nI l) (P_fin t g) h1 = h2 := ⟨_, rfl⟩
  rw [e2] at W
  have f2 (q : Nat) (q1 : q ≠ m) (q2 : q ≠ m + 5) : h2 q = h1 q := by rw [W.1, hrow_o q2, hset_o _ _ _ _ q1, hset_o _ _ _ _ q1]
  have am : h2 m = upd (upd (h1 m) 7 (nI l)) 8 (P_fin t g) := by rw [W.1, hrow_o (by omega), hset_s, hset_s]
  have bm2 : BM m h2 (some (P_fin t g, l, pre)) := by
    refine ⟨by rw [am, upd_o (by decide), upd_s], hl0, hl, by rw [am, upd_s], fun i hi => ?_⟩
    rw [W.1, hrow_s]
    show (if 0 ≤ i ∧ i < l then hset (hset h1 m 7 (nI l)) m 8 (P_fin t g) (m + 4) i else _) = _
    rw [if_pos (by omega), hset_o _ _ _ _ (by omega), hset_o _ _ _ _ (by omega), f1 _ (by omega)]
    exact st i hi
  have fr : (∀ q, q ≠ m → q ≠ m + 1 → q ≠ m + 5 → h2 q = h q) ∧ (∀ k, k ≠ 7 → k ≠ 8 → h2 m k = h m k) ∧ ∀ y, 85 ≤ y → h2 (m + 1) y = h (m + 1) y :=
    ⟨fun q q1 q2 q3 => by rw [f2 q q1 q3, f1 q q2], fun k k7 k8 => by rw [am, upd_o k8, upd_o k7, f1 m (by omega)], fun y hy => by rw [f2 _ (by omega) (by omega), hi y hy]⟩
  have fr1 : (∀ q, q ≠ m → q ≠ m + 1 → q ≠ m + 5 → h1 q = h q) ∧ (∀ k, k ≠ 7 → k ≠ 8 → h1 m k = h m k) ∧ ∀ y, 85 ≤ y → h1 (m + 1) y = h (m + 1) y :=
    ⟨fun q _ q2 _ => f1 q q2, fun k _ _ => by rw [f1 m (by omega)], hi⟩
  rw [J]
  unfold wgh
  rw [if_neg (by omega : ¬ l = 0)]
  have v3 : vp_in (3 : Int32) 206 := vpd (by decide)
  match b, bm1 with
  | none, bm1 =>
    have z7 : h1 m 7 = 0 := bm1
    have e0 : fX6_weighs_c16 m (nI l) 3 h1 = h2 := by
      unfold fX6_weighs_c16
      rw [if_pos z7, g3, A1, e2]
    rw [e0]
    refine ⟨bm2, sJ ?_, fr⟩
    unfold sX6_weighs_c16
    rw [g3, A1]
    exact ⟨v3, A.2, fun _ => W.2, fun q => absurd z7 q⟩
  | some (r, l', f), bm1 =>
    obtain ⟨b1, b2, b3, b4, b5⟩ := id bm1
    have z7 : ¬ h1 m 7 = 0 := by rw [b1]; exact nI_ne0 (by omega) (by omega)
    by_cases c : P_fin t g ≤ r
    · have e0 : fX6_weighs_c16 m (nI l) 3 h1 = h1 := by
        unfold fX6_weighs_c16
        rw [if_neg z7, g3, A1, b4, if_pos c]
      rw [e0]
      show BM m h1 (if P_fin t g ≤ r then some (r, l', f) else some (P_fin t g, l, pre)) ∧ _
      rw [if_pos c]
      refine ⟨bm1, sJ ?_, fr1⟩
      unfold sX6_weighs_c16
      rw [g3, A1, b4]
      exact ⟨v3, A.2, fun q => absurd q z7, fun _ => ⟨fun _ => trivial, fun q => absurd c q⟩⟩
    · have e0 : fX6_weighs_c16 m (nI l) 3 h1 = h2 := by
        unfold fX6_weighs_c16
        rw [if_neg z7, g3, A1, b4, if_neg c, e2]
      rw [e0]
      show BM m h2 (if P_fin t g ≤ r then some (r, l', f) else some (P_fin t g, l, pre)) ∧ _
      rw [if_neg c]
      refine ⟨bm2, sJ ?_, fr⟩
      unfold sX6_weighs_c16
      rw [g3, A1, b4]
      exact ⟨v3, A.2, fun q => absurd q z7, fun _ => ⟨fun q => absurd q c, fun _ => W.2⟩⟩
