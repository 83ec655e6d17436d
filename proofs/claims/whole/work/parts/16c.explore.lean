/-! the component's search: explore -/
def EX (a n D l : Nat) (h : HH) (gT : Nat → Int32) (pre : Nat → Nat) (b : Bs) : Prop := CG n (a + 1) h gT ∧ h a 6 = nI D ∧ BC a h b ∧ ∀ i, i < l → h (a + 23) i = nI (told (pre i))
def EF (a l : Nat) (h h' : HH) : Prop := ∀ q, (q < a ∨ a + 31 ≤ q ∨ (a + 20 ≤ q ∧ q < a + 20 + l) ∨ (a + 25 ≤ q ∧ q < a + 25 + 2 * l)) → h' q = h q
theorem EF_refl {a l : Nat} {h : HH} : EF a l h h := fun _ _ => rfl
theorem EF_tr {a l : Nat} {h h1 h2 : HH} (x : EF a l h h1) (y : EF a l h1 h2) : EF a l h h2 := fun q hq => (y q hq).trans (x q hq)
theorem EF_lo {a l : Nat} {h h' : HH} (x : EF a (l + 1) h h') : EF a l h h' := fun q hq => x q (by omega)
theorem E_judge {a n t D l : Nat} {h : HH} {gT g : Nat → Int32} {pre : Nat → Nat} {b : Bs} {B : Int} (hB : B ≤ 100000000) (hl : l ≤ 3) (sg : SG B n t g) (tr : TR gT g) (ex : EX a n D l h gT pre b) : EX a n D l (fX3_judge a (nI l) h) gT pre (wgh t g l pre b) ∧ EF a l h (fX3_judge a (nI l) h) ∧ sX3_judge a (nI l) h := by
  obtain ⟨a1, a2, a3, a4, a5, a6, a10, a11, _⟩ := sg
  obtain ⟨x1, x2, x3, x4⟩ := ex
  have J := c_judge (pre := pre) hB (a11 t a4) hl a2 a4 a5 tr x1 x3 x4
  refine ⟨⟨CG_fr a2 (fun q q1 q2 => J.2.2.1 q (by omega) (by omega) (by omega) (by omega)) x1, by rw [J.2.2.2 6 (by decide) (by decide)]; exact x2, J.1, fun i hi => by rw [J.2.2.1 _ (by omega) (by omega) (by omega) (by omega)]; exact x4 i hi⟩, fun q hq => J.2.2.1 q (by omega) (by omega) (by omega) (by omega), J.2.1⟩
theorem c_xloop {a n t D e l : Nat} {B : Int} {gT g : Nat → Int32} {pre : Nat → Nat} {kr : Int32 → HH → HH} {kR : Int32 → HH → Prop} (hl : l + 1 ≤ 3) (hB : B ≤ 70000000) (sg : SG B n t g) (h7 : 0 < (mp g t 7).toInt) (tr : TR gT g)
    (IH : ∀ (gT g : Nat → Int32) (pre : Nat → Nat) (b : Bs) (h : HH), SG (B + 40) n t g → TR gT g → EX a n D (l + 1) h gT pre b → EX a n D (l + 1) (kr (nI (l + 1)) h) gT pre (Srch n t e g (l + 1) pre b) ∧ EF a (l + 1) h (kr (nI (l + 1)) h) ∧ kR (nI (l + 1)) h) :
    ∀ (M : List Nat) (i f : Nat) (b : Bs) (h : HH), i + M.length ≤ 40 → (∀ k, k ∈ M → k < 300 ∧ G_ok n t g k = true) → opt (h (a + 20 + l)) M i → pv (a + 25 + 2 * l) h = mp gT t → EX a n D l h gT pre b →
      EX a n D l (fX3_explore_c70 a kr (M.length + f + 1) (nI l) (a + 1 + 7 + 2 * t) (nI (i + M.length)) (nI i) h) gT pre (sfold (fun k b => Srch n t e (G_comes t (k / 25) (nI (k % 25)) g) (l + 1) (prs pre l k) b) M b) ∧ EF a l h (fX3_explore_c70 a kr (M.length + f + 1) (nI l) (a + 1 + 7 + 2 * t) (nI (i + M.length)) (nI i) h) ∧ sX3_explore_c70 a kr kR (M.length + f + 1) (nI l) (a + 1 + 7 + 2 * t) (nI (i + M.length)) (nI i) h
  | [], i, f, b, h, hi, _, _, _, ex => by
    have c : nI (i + ([] : List Nat).length) ≤ nI i := nI_le (Nat.le_refl _) (by simp at hi; omega)
    have E : fX3_explore_c70 a kr (([] : List Nat).length + f + 1) (nI l) (a + 1 + 7 + 2 * t) (nI (i + ([] : List Nat).length)) (nI i) h = h := by
      show (if nI (i + ([] : List Nat).length) ≤ nI i then h else _) = h
      rw [if_pos c]
    rw [E]
    exact ⟨ex, EF_refl, fun _ => trivial, fun q => absurd c q⟩
  | k :: M, i, f, b, h, hi, hM, hopt, hpv, ex => by
    have hlen : (k :: M).length = M.length + 1 := rfl
    rw [hlen] at hi ⊢
    obtain ⟨hk, hok⟩ := hM k List.mem_cons_self
    obtain ⟨o1, o2⟩ := hopt
    have sg0 := sg
    obtain ⟨a1, a2, a3, a4, a5, a6, a10, a11, a12, a13, a14, a15⟩ := sg0
    have ht4 : t < 4 := by omega
    have hs : k / 25 < 12 := by omega
    have hj : k % 25 < 25 := by omega
    obtain ⟨x1, x2, x3, x4⟩ := ex
    have c : ¬ nI (i + (M.length + 1)) ≤ nI i := nI_ge (by omega) (by omega)
    have cl : (nI l).toNatClampNeg = l := nclamp (by omega)
    have ci : (nI i).toNatClampNeg = i := nclamp (by omega)
    have cs : (nI (k / 25)).toNatClampNeg = k / 25 := nclamp (by omega)
    obtain ⟨hA, eA⟩ : ∃ hA, hset h (a + 23) l (nI (told k)) = hA := ⟨_, rfl⟩
    have fA (q : Nat) (hq : q ≠ a + 23) : hA q = h q := by rw [← eA, hset_o _ _ _ _ hq]
    have cgA : CG n (a + 1) hA gT := CG_fr a2 (fun q q1 q2 => fA q (by omega)) x1
    have mt : mp gT t = mp g t := tr.2.1 t ht4
    have ST := c_stp (a := a + 1) (t := t) (s := k / 25) (j := k % 25) a2 a4 hs hj (fun z => by
      have w := ok_9 a2 a4 hok z
      have p := (a11 t a4).2.2.2.2.2.2
      rw [mt]
      exact ⟨w.1, p, w.2⟩) cgA
    obtain ⟨hB', eB⟩ : ∃ hB', fX0_carryOut (a + 1) (a + 1 + 7 + 2 * t) (nI (k / 25)) (nI (k % 25)) hA = hB' := ⟨_, rfl⟩
    rw [eB] at ST
    obtain ⟨hC, eC⟩ : ∃ hC, hset hB' (a + 1 + 3) (k / 25) (hB' (a + 1 + 3) (k / 25) + 1) = hC := ⟨_, rfl⟩
    rw [eC] at ST
    have oC := ST.2.2
    have why := why_ok (ok_why hok)
    obtain ⟨k', hk', h50⟩ := (a13 (k / 25) hs).2
    have kl : k' < plN (k / 25) := by
      have : ¬ k' = plN (k / 25) := fun z => why.2.1 (by rw [h50, (pl_v hs).2.1, z])
      omega
    have TS := TR_step (j := k % 25) ht4 hs hj (a12 (k / 25) hs).1 h50 kl tr
    have exC : EX a n D (l + 1) hC (C_step t (k / 25) (nI (k % 25)) gT) (prs pre l k) b := by
      refine ⟨ST.1, by rw [oC a (by omega), fA a (by omega)]; exact x2, BC_fr (by rw [oC a (by omega), fA a (by omega)]) (by rw [oC a (by omega), fA a (by omega)]) (by rw [oC (a + 24) (by omega), fA (a + 24) (by omega)]) x3, fun y hy => ?_⟩
      rw [oC (a + 23) (by omega), ← eA, hset_s]
      unfold prs
      by_cases z : y = l
      · subst z
        rw [upd_s, if_pos rfl]
      · rw [upd_o z, if_neg z]
        exact x4 y (by omega)
    have R := IH _ _ _ _ _ (SG_comes hB sg h7 hk hok) TS exC
    obtain ⟨hD', eD⟩ : ∃ hD', kr (nI (l + 1)) hC = hD' := ⟨_, rfl⟩
    rw [eD] at R
    obtain ⟨⟨y1, y2, y3, y4⟩, yF, yR⟩ := R
    have fD (q : Nat) (hq : (a + 20 ≤ q ∧ q < a + 20 + (l + 1)) ∨ (a + 25 ≤ q ∧ q < a + 25 + 2 * (l + 1))) : hD' q = h q := by
      rw [yF q (by omega), oC q (by omega), fA q (by omega)]
    have K := c_bck (a := a + 1) (t := t) (s := k / 25) (j := k % 25) (q := a + 25 + 2 * l) (h := hD') a2 a4 hs (by omega) (by rw [pv_ext (fD _ (by omega)) (fD _ (by omega))]; exact hpv) y1
    obtain ⟨hF, eF⟩ : ∃ hF, fX2_copyFrom (a + 1 + 7 + 2 * t) (a + 25 + 2 * l) (hset hD' (a + 1 + 3) (k / 25) (hD' (a + 1 + 3) (k / 25) - 1)) = hF := ⟨_, rfl⟩
    rw [eF] at K
    have oF := K.2
    have exF : EX a n D l hF gT pre (Srch n t e (G_comes t (k / 25) (nI (k % 25)) g) (l + 1) (prs pre l k) b) := by
      refine ⟨K.1, by rw [oF a (by omega)]; exact y2, BC_fr (by rw [oF a (by omega)]) (by rw [oF a (by omega)]) (oF (a + 24) (by omega)) y3, fun y hy => ?_⟩
      rw [oF (a + 23) (by omega), y4 y (by omega)]
      unfold prs
      rw [if_neg (by omega)]
    have fF (q : Nat) (hq : (a + 20 ≤ q ∧ q < a + 20 + (l + 1)) ∨ (a + 25 ≤ q ∧ q < a + 25 + 2 * (l + 1))) : hF q = h q := by
      rw [oF q (by omega), fD q hq]
    have efF : EF a l h hF := fun q hq => by
      rw [oF q (by omega), yF q (by omega), oC q (by omega), fA q (by omega)]
    have L := c_xloop hl hB sg h7 tr IH M (i + 1) f _ hF (by omega) (fun k' hk' => hM k' (List.mem_cons_of_mem _ hk')) (by rw [fF _ (by omega)]; exact o2) (by rw [pv_ext (fF _ (by omega)) (fF _ (by omega))]; exact hpv) exF
    rw [show i + 1 + M.length = i + (M.length + 1) by omega] at L
    have E : fX3_explore_c70 a kr (M.length + 1 + f + 1) (nI l) (a + 1 + 7 + 2 * t) (nI (i + (M.length + 1))) (nI i) h = fX3_explore_c70 a kr (M.length + f + 1) (nI l) (a + 1 + 7 + 2 * t) (nI (i + (M.length + 1))) (nI (i + 1)) hF := by
      rw [show M.length + 1 + f + 1 = (M.length + f + 1) + 1 by omega]
      show (if nI (i + (M.length + 1)) ≤ nI i then h else (fX3_explore_c114 a kr (fX3_explore_c70 a kr (M.length + f + 1)) (nI l) (a + 1 + 7 + 2 * t) (nI (i + (M.length + 1))) (nI i) ((h (a + 20 + (nI l).toNatClampNeg) (nI i).toNatClampNeg) / 100) (jrem (h (a + 20 + (nI l).toNatClampNeg) (nI i).toNatClampNeg) 100) ((h (a + 20 + (nI l).toNatClampNeg) (nI i).toNatClampNeg) / 100) (a + 1 + 7 + 2 * t) (hset h (a + 23) (nI l).toNatClampNeg (h (a + 20 + (nI l).toNatClampNeg) (nI i).toNatClampNeg)))) = _
      rw [if_neg c, cl, ci, o1, told_div hk, told_rem hk, eA]
      unfold fX3_explore_c114 fX3_explore_c127 fX3_explore_c135 fX3_explore_c148 fX3_explore_c159
      rw [cs, cl, eB, eC, nI_1 l, eD, eF, nI_1 i]
    have S : sX3_explore_c70 a kr kR (M.length + 1 + f + 1) (nI l) (a + 1 + 7 + 2 * t) (nI (i + (M.length + 1))) (nI i) h := by
      rw [show M.length + 1 + f + 1 = (M.length + f + 1) + 1 by omega]
      refine ⟨fun q => absurd q c, fun _ => ⟨v_of (by omega) (by decide), v_of (by omega) (by decide), v_of (by omega) (by decide), ?_⟩⟩
      rw [cl, ci, o1, told_div hk, told_rem hk, eA]
      unfold sX3_explore_c114 sX3_explore_c127 sX3_explore_c135 sX3_explore_c148 sX3_explore_c159
      rw [cs, cl, eB, eC, nI_1 l, eD, eF, nI_1 i]
      exact ⟨ST.2.1, v_of hs (by decide), v_of hs (by decide), yR, v_of hs (by decide), v_of hs (by decide), v_of (by omega) (by decide), L.2.2⟩
    rw [E]
    exact ⟨L.1, EF_tr efF L.2.1, S⟩
theorem c_expl {a n t D : Nat} (hD : D ≤ 3) : ∀ (e f l : Nat) (B : Int) (gT g : Nat → Int32) (pre : Nat → Nat) (b : Bs) (h : HH), l + e = D → B + 40 * (e : Int) ≤ 70000000 → SG B n t g → TR gT g → EX a n D l h gT pre b → EX a n D l (fX3_explore (e + f + 1) a (nI l) h) gT pre (Srch n t e g l pre b) ∧ EF a l h (fX3_explore (e + f + 1) a (nI l) h) ∧ sX3_explore (e + f + 1) a (nI l) h := by
  intro e
  induction e with
  | zero =>
    intro f l B gT g pre b h hl hB sg tr ex
    have J := E_judge (pre := pre) (by omega) (by omega) sg tr ex
    have c : h a 6 ≤ nI l := by rw [ex.2.1]; exact nI_le (by omega) (by omega)
    have h13 : h (a + 1) 3 = nI t := by rw [ex.1.1 3 (by decide), tr.1 3 (by decide), sg.2.2.2.2.1]
    have ht4 : t < 4 := by have := sg.2.1; have := sg.2.2.2.1; omega
    have E : fX3_explore (0 + f + 1) a (nI l) h = fX3_judge a (nI l) h := by
      rw [show 0 + f + 1 = f + 1 by omega]
      show fX3_explore_c0 a (fX3_explore f a) (nI l) h = _
      unfold fX3_explore_c0 fX3_explore_c47
      rw [if_pos c, if_pos rfl]
    rw [E, Srch_0]
    refine ⟨J.1, J.2.1, ?_⟩
    rw [show 0 + f + 1 = f + 1 by omega]
    show sX3_explore_c0 a (fX3_explore f a) (sX3_explore f a) (nI l) h
    refine ⟨by rw [h13]; exact v_of ht4 (by decide), fun _ => ⟨fun _ => J.2.2, fun q => absurd rfl q⟩, fun q => absurd c q⟩
  | succ e ih =>
    intro f l B gT g pre b h hl hB sg tr ex
    have J := E_judge (pre := pre) (by omega) (by omega) sg tr ex
    have c : ¬ h a 6 ≤ nI l := by rw [ex.2.1]; exact nI_ge (by omega) (by omega)
    have h13 : h (a + 1) 3 = nI t := by rw [ex.1.1 3 (by decide), tr.1 3 (by decide), sg.2.2.2.2.1]
    have hn4 := sg.2.1
    have htn := sg.2.2.2.1
    have ht4 : t < 4 := by omega
    have ct : (nI t).toNatClampNeg = t := nclamp (by omega)
    have cl : (nI l).toNatClampNeg = l := nclamp (by omega)
    have fr : h (a + 1 + 7 + 2 * t) 3 = mp g t 7 := by
      rw [show h (a + 1 + 7 + 2 * t) 3 = pv (a + 1 + 7 + 2 * t) h 7 from pv_F _ h 2, ex.1.2.1 t htn, tr.2.1 t ht4]
    rw [show e + 1 + f + 1 = (e + f + 1) + 1 by omega, Srch_s]
    show EX a n D l (fX3_explore_c0 a (fX3_explore (e + f + 1) a) (nI l) h) gT pre _ ∧ EF a l h (fX3_explore_c0 a (fX3_explore (e + f + 1) a) (nI l) h) ∧ sX3_explore_c0 a (fX3_explore (e + f + 1) a) (sX3_explore (e + f + 1) a) (nI l) h
    unfold fX3_explore_c0 sX3_explore_c0
    rw [if_neg c, h13, ct, fr]
    by_cases c1 : mp g t 7 ≤ 0
    · rw [if_pos c1, if_pos c1]
      have E : fX3_explore_c47 a (fX3_explore (e + f + 1) a) (nI l) (a + 1 + 7 + 2 * t) 0 h = fX3_judge a (nI l) h := by
        unfold fX3_explore_c47
        rw [if_pos rfl]
      rw [E]
      exact ⟨J.1, J.2.1, v_of ht4 (by decide), fun q => absurd q c, fun _ => ⟨fun _ => ⟨fun _ => J.2.2, fun q => absurd rfl q⟩, fun q => absurd c1 q⟩⟩
    · rw [if_neg c1, if_neg c1, cl]
      have L := c_list (a := a + 1) (r := a + 20 + l) (OKg_tr tr (SG_ok sg)) (by omega) ex.1
      rw [okl_tr hn4 ht4 tr] at L
      rw [L.1]
      have len := okl_len n t g
      obtain ⟨O, eO⟩ : ∃ O, okl n t g = O := ⟨_, rfl⟩
      have memO : ∀ k, k ∈ O → k < 300 ∧ G_ok n t g k = true := fun k hk => okl_mem (by rw [eO]; exact hk)
      rw [eO] at L len ⊢
      unfold fX3_explore_c46 sX3_explore_c46
      by_cases c2 : O = []
      · subst c2
        rw [if_pos rfl]
        have E : fX3_explore_c47 a (fX3_explore (e + f + 1) a) (nI l) (a + 1 + 7 + 2 * t) (nI ([] : List Nat).length) (wr (a + 20 + l) [] 0 h) = fX3_judge a (nI l) h := by
          unfold fX3_explore_c47
          rw [if_pos (show nI ([] : List Nat).length = 0 by decide)]
          rfl
        refine ⟨?_, ?_, v_of ht4 (by decide), fun q => absurd q c, fun _ => ⟨fun q => absurd q c1, fun _ => ⟨v_of (by omega) (by decide), L.2, fun _ => J.2.2, fun q => absurd (show nI ([] : List Nat).length = 0 by decide) q⟩⟩⟩
        · show EX a n D l (fX3_explore_c47 a (fX3_explore (e + f + 1) a) (nI l) (a + 1 + 7 + 2 * t) (nI ([] : List Nat).length) (wr (a + 20 + l) [] 0 h)) gT pre _
          rw [E]
          exact J.1
        · show EF a l h (fX3_explore_c47 a (fX3_explore (e + f + 1) a) (nI l) (a + 1 + 7 + 2 * t) (nI ([] : List Nat).length) (wr (a + 20 + l) [] 0 h))
          rw [E]
          exact J.2.1
      · rw [if_neg c2]
        have h7 : 0 < (mp g t 7).toInt := by
          have w : ¬ (mp g t 7).toInt ≤ 0 := fun z => c1 (ti_le.mpr z)
          omega
        have pos : 0 < O.length := List.length_pos_iff.mpr c2
        have ne : ¬ nI O.length = 0 := nI_ne0 pos (by omega)
        obtain ⟨h1, e1⟩ : ∃ h1, wr (a + 20 + l) O 0 h = h1 := ⟨_, rfl⟩
        have f1 (q : Nat) (hq : q ≠ a + 20 + l) : h1 q = h q := by rw [← e1, wr_o hq]
        obtain ⟨h2, e2⟩ : ∃ h2, fX2_copyFrom (a + 25 + 2 * l) (a + 1 + 7 + 2 * t) h1 = h2 := ⟨_, rfl⟩
        have o2 : Out (a + 25 + 2 * l) (a + 25 + 2 * l + 2) h1 h2 := by rw [← e2]; exact o2_copy _ _ _
        have f2 (q : Nat) (hq : q ≠ a + 20 + l) (hq' : q < a + 25 + 2 * l ∨ a + 25 + 2 * l + 2 ≤ q) : h2 q = h q := by rw [o2 q hq', f1 q hq]
        have p2 : pv (a + 25 + 2 * l) h2 = mp gT t := by
          rw [← e2, c_copy (by omega), pv_ext (f1 _ (by omega)) (f1 _ (by omega))]
          exact ex.1.2.1 t htn
        have op : opt (h2 (a + 20 + l)) O 0 := by
          rw [o2 _ (by omega), ← e1]
          exact wr_opt O 0 h
        obtain ⟨x1, x2, x3, x4⟩ := ex
        have ex2 : EX a n D l h2 gT pre b := ⟨CG_fr hn4 (fun q q1 q2 => f2 q (by omega) (by omega)) x1, by rw [f2 a (by omega) (by omega)]; exact x2, BC_fr (by rw [f2 a (by omega) (by omega)]) (by rw [f2 a (by omega) (by omega)]) (f2 _ (by omega) (by omega)) x3, fun i hi => by rw [f2 _ (by omega) (by omega)]; exact x4 i hi⟩
        have X := c_xloop (a := a) (D := D) (e := e) (l := l) (pre := pre) (kr := fX3_explore (e + f + 1) a) (kR := sX3_explore (e + f + 1) a) (by omega) (by omega) sg h7 tr (fun gT' g' pre' b' h' sg' tr' ex' => ih f (l + 1) (B + 40) gT' g' pre' b' h' (by omega) (by omega) sg' tr' ex') O 0 (40 - O.length) b h2 (by omega) memO op p2 ex2
        rw [show O.length + (40 - O.length) + 1 = 41 by omega, show 0 + O.length = O.length by omega] at X
        have E : fX3_explore_c47 a (fX3_explore (e + f + 1) a) (nI l) (a + 1 + 7 + 2 * t) (nI O.length) h1 = fX3_explore_c70 a (fX3_explore (e + f + 1) a) 41 (nI l) (a + 1 + 7 + 2 * t) (nI O.length) (nI 0) h2 := by
          unfold fX3_explore_c47
          rw [if_neg ne, cl, e2]
          rfl
        have S : sX3_explore_c47 a (fX3_explore (e + f + 1) a) (sX3_explore (e + f + 1) a) (nI l) (a + 1 + 7 + 2 * t) (nI O.length) h1 := by
          unfold sX3_explore_c47
          rw [cl, e2]
          exact ⟨fun q => absurd q ne, fun _ => ⟨v_of (by omega) (by decide), X.2.2⟩⟩
        show EX a n D l (fX3_explore_c47 a (fX3_explore (e + f + 1) a) (nI l) (a + 1 + 7 + 2 * t) (nI O.length) (wr (a + 20 + l) O 0 h)) gT pre _ ∧ EF a l h (fX3_explore_c47 a (fX3_explore (e + f + 1) a) (nI l) (a + 1 + 7 + 2 * t) (nI O.length) (wr (a + 20 + l) O 0 h)) ∧ _
        rw [e1, E]
        refine ⟨X.1, EF_tr (fun q hq => f2 q (by omega) (by omega)) X.2.1, v_of ht4 (by decide), fun q => absurd q c, fun _ => ⟨fun q => absurd q c1, fun _ => ⟨v_of (by omega) (by decide), L.2, ?_⟩⟩⟩
        exact S
