/-! the component's placements and skips against the row -/
theorem CG_row {n a : Nat} {h : HH} {g g' : Nat → Int32} (hn : n ≤ 4) (e : ∀ k, k < 85 → g' k = g k) (cg : CG n a h g) : CG n a h g' := by
  obtain ⟨c1, c2, c3⟩ := cg
  refine ⟨fun k hk => by rw [e k (by omega)]; exact c1 k hk, fun p hp => ?_, fun s hs => by rw [e _ (by omega), e _ (by omega), e _ (by omega)]; exact c3 s hs⟩
  rw [c2 p hp]
  funext j
  unfold mp
  by_cases c : j < 11
  · rw [if_pos c, if_pos c, e _ (by omega)]
  · rw [if_neg c, if_neg c]
theorem mp_row {g g' : Nat → Int32} {p : Nat} (hp : p < 4) (e : ∀ k, k < 85 → g' k = g k) : mp g' p = mp g p := by
  funext j
  unfold mp
  by_cases c : j < 11
  · rw [if_pos c, if_pos c, e _ (by omega)]
  · rw [if_neg c, if_neg c]
theorem G_tk_hi {t s k : Nat} {g : Nat → Int32} (hs : s < 12) (hk : 85 ≤ k) : G_tk t s g k = g k := by
  unfold G_tk
  split
  · exact upd_o (by omega)
  · split
    · exact upd_o (by omega)
    · rfl
theorem comes_hi {t s k : Nat} {c : Int32} {g : Nat → Int32} (ht : t < 4) (hs : s < 12) (hk : 85 ≤ k) : G_comes t s c g k = g k := by
  unfold G_comes G_sp
  rw [ps_hi ht (by omega), G_tk_hi hs hk, upd_o (by omega)]
  split
  · exact upd_o (by omega)
  · rfl
theorem end_hi {n k : Nat} {g : Nat → Int32} (hn : n ≤ 4) (hk : 85 ≤ k) : G_end n g k = g k := by
  unfold G_end
  split
  · rw [upd_o (by omega), upd_o (by omega), pfrom_out n 0 _ k (by omega) (Or.inr (by omega))]
  · rw [gs_hi hn hk, pfrom_out n 0 _ k (by omega) (Or.inr (by omega))]
theorem gon_hi {n t k : Nat} {g : Nat → Int32} (hn : n ≤ 4) (hk : 85 ≤ k) : ∀ (d x : Nat), gon n t g d x k = g k
  | 0, _ => end_hi hn hk
  | d + 1, x => by
    show (if mp g ((t + x) % n) 7 ≤ 0 then gon n t g d (x + 1) else upd g 3 (nI ((t + x) % n))) k = g k
    split
    · exact gon_hi hn hk d (x + 1)
    · exact upd_o (by omega)
theorem jr30 {k : Nat} (h : k < 1000) : jrem (nI k) 30 = nI (k % 30) := jrem_n (b := 30) (by omega) (by decide) (by decide)
theorem put_v {q : Nat} {g : Nat → Int32} {s c : Int32} : G_put q g s c (86 + 4 * q + 0) = g 2 ∧ G_put q g s c (86 + 4 * q + 1) = g 3 ∧ G_put q g s c (86 + 4 * q + 2) = s ∧ G_put q g s c (86 + 4 * q + 3) = c ∧ G_put q g s c 85 = nI (q + 1) ∧ ∀ k, 86 ≤ k → (k < 86 + 4 * q ∨ 90 + 4 * q ≤ k) → G_put q g s c k = g k := by
  unfold G_put
  refine ⟨?_, ?_, ?_, ?_, upd_s, fun k h1 h2 => ?_⟩
  · rw [upd_o (by omega), upd_o (by omega), upd_o (by omega), upd_o (by omega), show 86 + 4 * q + 0 = 86 + 4 * q by omega, upd_s]
  · rw [upd_o (by omega), upd_o (by omega), upd_o (by omega), show 86 + 4 * q + 1 = 87 + 4 * q by omega, upd_s]
  · rw [upd_o (by omega), upd_o (by omega), show 86 + 4 * q + 2 = 88 + 4 * q by omega, upd_s]
  · rw [upd_o (by omega), show 86 + 4 * q + 3 = 89 + 4 * q by omega, upd_s]
  · rw [upd_o (by omega), upd_o (by omega), upd_o (by omega), upd_o (by omega), upd_o (by omega)]
theorem c_add {a q o : Nat} {h : HH} {g : Nat → Int32} {s c : Int32} (hq : q ≤ 30) (ho : o < 30) (e1 : h (a + 5) 1 = nI o) (e2 : h (a + 5) 2 = nI q) (hg : ∀ i, i < q → ∀ w, w < 4 → h (a + 6) ((o + i) % 30 * 4 + w) = g (86 + 4 * i + w)) : CH a (fX1_add (a + 5) (g 2) (g 3) s c h) (G_notes q g s c) ∧ sX1_add (a + 5) (g 2) (g 3) s c h ∧ Out (a + 5) (a + 7) h (fX1_add (a + 5) (g 2) (g 3) s c h) := by
  have lt : (o + q) % 30 < 30 := Nat.mod_lt _ (by decide)
  obtain ⟨P, eP⟩ : ∃ P, (o + q) % 30 * 4 = P := ⟨_, rfl⟩
  have hP : P < 117 := by omega
  have st : fX1_startOf (a + 5) (h (a + 5) 2) h = nI P := by
    show jrem (h (a + 5) 1 + h (a + 5) 2) 30 * 4 = _
    rw [e1, e2, nI_add, jr30 (by omega), ← eP]
    exact (Int32.ofNat_mul _ _).symm
  have s1 : nI P + 1 = nI (P + 1) := nI_1 P
  have s2 : nI P + 2 = nI (P + 2) := nI_add P 2
  have s3 : nI P + 3 = nI (P + 3) := nI_add P 3
  obtain ⟨h1, eh⟩ : ∃ h1, hset (hset (hset (hset h (a + 6) P (g 2)) (a + 6) (P + 1) (g 3)) (a + 6) (P + 2) s) (a + 6) (P + 3) c = h1 := ⟨_, rfl⟩
  have E : fX1_add (a + 5) (g 2) (g 3) s c h = fX1_add_c50 (a + 5) h1 := by
    unfold fX1_add fX1_add_c0
    rw [st, s1, s2, s3, nclamp (by omega), nclamp (by omega), nclamp (by omega), nclamp (by omega), show a + 5 + 1 = a + 6 by omega, eh]
  have S : sX1_add (a + 5) (g 2) (g 3) s c h := by
    unfold sX1_add sX1_add_c0
    rw [st, s1, s2, s3]
    exact ⟨v_of (by omega) (by decide), v_of (by omega) (by decide), v_of (by omega) (by decide), v_of (by omega) (by decide)⟩
  have o1 : Out (a + 6) (a + 7) h h1 := by
    rw [← eh]
    exact out_set (by omega) (by omega) (out_set (by omega) (by omega) (out_set (by omega) (by omega) (out_set (by omega) (by omega) out_refl)))
  have r6 : h1 (a + 6) = upd (upd (upd (upd (h (a + 6)) P (g 2)) (P + 1) (g 3)) (P + 2) s) (P + 3) c := by rw [← eh, hset_s, hset_s, hset_s, hset_s]
  have r5 : h1 (a + 5) = h (a + 5) := o1 _ (by omega)
  have new (w : Nat) (hw : w < 4) (k : Nat) (g1 : Nat → Int32) (a2 : g1 2 = g 2) (a3 : g1 3 = g 3) : h1 (a + 6) (P + w) = G_put k g1 s c (86 + 4 * k + w) := by
    have pv := put_v (q := k) (g := g1) (s := s) (c := c)
    rw [a2, a3] at pv
    rw [r6]
    have : w = 0 ∨ w = 1 ∨ w = 2 ∨ w = 3 := by omega
    rcases this with rfl | rfl | rfl | rfl
    · rw [pv.1, upd_o (by omega), upd_o (by omega), upd_o (by omega)]
      exact upd_s
    · rw [pv.2.1, upd_o (by omega), upd_o (by omega), upd_s]
    · rw [pv.2.2.1, upd_o (by omega), upd_s]
    · rw [pv.2.2.2.1, upd_s]
  have old (x w : Nat) (hx : x * 4 ≠ P) (hw : w < 4) : h1 (a + 6) (x * 4 + w) = h (a + 6) (x * 4 + w) := by
    rw [r6, upd_o (by omega), upd_o (by omega), upd_o (by omega), upd_o (by omega)]
  rw [E]
  unfold fX1_add_c50 G_notes
  rw [r5, e1, e2]
  by_cases c30 : q = 30
  · have cc : (30 : Int32) ≤ nI q := by rw [c30]; decide
    rw [if_pos cc, if_pos c30]
    have hP' : P = o * 4 := by omega
    have pv := put_v (q := 29) (g := upd (G_shift g) 85 (nI 29)) (s := s) (c := c)
    refine ⟨⟨30, (o + 1) % 30, by decide, by omega, ?_, ?_, pv.2.2.2.2.1, fun i hi w hw => ?_⟩, S, out_set (by omega) (by omega) (out_mono (by omega) (by omega) o1)⟩
    · rw [hset_s, upd_s, nI_1, jr30 (by omega)]
    · rw [hset_s, upd_o (by decide), r5, e2, c30]
    · rw [hset_o _ _ _ _ (by omega)]
      by_cases l : i = 29
      · subst l
        rw [show ((o + 1) % 30 + 29) % 30 * 4 + w = P + w by omega]
        exact new w hw 29 _ (by rw [upd_o (by decide)]; exact if_neg (by omega)) (by rw [upd_o (by decide)]; exact if_neg (by omega))
      · have hi' := hg (i + 1) (by omega) w hw
        rw [show ((o + 1) % 30 + i) % 30 = (o + (i + 1)) % 30 by omega, old _ w (by omega) hw, hi', pv.2.2.2.2.2 _ (by omega) (by omega), upd_o (by omega)]
        unfold G_shift
        rw [if_pos (by omega)]
        congr 1
        omega
  · have cc : ¬ (30 : Int32) ≤ nI q := nI_ge (b := 30) (by omega) (by decide)
    rw [if_neg cc, if_neg c30]
    have pv := put_v (q := q) (g := g) (s := s) (c := c)
    refine ⟨⟨q + 1, o, by omega, ho, ?_, ?_, pv.2.2.2.2.1, fun i hi w hw => ?_⟩, S, out_set (by omega) (by omega) (out_mono (by omega) (by omega) o1)⟩
    · rw [hset_s, upd_o (by decide), r5, e1]
    · rw [hset_s, upd_s, nI_1]
    · rw [hset_o _ _ _ _ (by omega)]
      by_cases l : i = q
      · subst l
        rw [eP]
        exact new w hw i g rfl rfl
      · rw [old _ w (by omega) hw, hg i (by omega) w hw, pv.2.2.2.2.2 _ (by omega) (by omega)]
/-- what a space always is -/
def SI (g : Nat → Int32) (s : Nat) : Prop := (takesAll s = false → g (49 + 3 * s) = 0) ∧ (g (50 + 3 * s) = 0 ↔ g (51 + 3 * s) = -1)
theorem c_occ {a n t s : Nat} {h : HH} {g : Nat → Int32} {r : Nat → Int32} (hn : n ≤ 4) (ht : t < n) (hs : s < 12) (h3 : g 3 = nI t) (hS : SI g s) (c1 : ∀ k, k < 5 → h a k = g k) (c2 : ∀ p, p < n → pv (a + 7 + 2 * p) h = if p = t then r else mp g p) (c3 : ∀ s, s < 12 → h (a + 2) s = g (49 + 3 * s) ∧ h (a + 3) s = g (50 + 3 * s) ∧ h (a + 4) s = g (51 + 3 * s)) (cr : Cut r) : CG n a (fX0_occupy a (nI s) h) (ps (G_sp t s g) t r) ∧ sX0_occupy a (nI s) h ∧ Out a (a + 5) h (fX0_occupy a (nI s) h) := by
  have a3 : h a 3 = nI t := by rw [c1 3 (by decide), h3]
  have v := v_of hs (by decide : 12 < 1000)
  obtain ⟨h1, e1⟩ : ∃ h1, hset (hset h (a + 2) s 0) (a + 3) s (g (50 + 3 * s) + 1) = h1 := ⟨_, rfl⟩
  have x1 : hset (hset h (a + 2) s 0) (a + 3) s (hset h (a + 2) s 0 (a + 3) s + 1) = h1 := by rw [hset_o _ _ _ _ (by omega), (c3 s hs).2.1, e1]
  have o1 : Out (a + 2) (a + 4) h h1 := by rw [← e1]; exact out_set (by omega) (by omega) (out_set (by omega) (by omega) out_refl)
  have r2 : h1 (a + 2) = upd (h (a + 2)) s 0 := by rw [← e1, hset_o _ _ _ _ (by omega), hset_s]
  have r3 : h1 (a + 3) = upd (h (a + 3)) s (g (50 + 3 * s) + 1) := by rw [← e1, hset_s, hset_o _ _ _ _ (by omega)]
  have r4 : h1 (a + 4) = h (a + 4) := o1 _ (by omega)
  have ra : h1 a = h a := o1 _ (by omega)
  obtain ⟨h2, e2⟩ : ∃ h2, (if g (50 + 3 * s) = 0 then hset h1 (a + 4) s (nI t) else h1) = h2 := ⟨_, rfl⟩
  have o2 : Out (a + 4) (a + 5) h1 h2 := by rw [← e2]; exact out_ite (out_set (by omega) (by omega) out_refl) out_refl
  have q4 : h2 (a + 4) = if g (50 + 3 * s) = 0 then upd (h (a + 4)) s (nI t) else h (a + 4) := by
    rw [← e2]
    by_cases c : g (50 + 3 * s) = 0
    · rw [if_pos c, if_pos c, hset_s, r4]
    · rw [if_neg c, if_neg c, r4]
  have E : fX0_occupy a (nI s) h = (if nI s = 10 then hset h2 a 4 (nI t) else h2) ∧ sX0_occupy a (nI s) h := by
    unfold fX0_occupy fX0_occupy_c0 fX0_occupy_c13 fX0_occupy_c22 fX0_occupy_c37 sX0_occupy sX0_occupy_c0 sX0_occupy_c13 sX0_occupy_c22
    rw [nclamp (by omega), x1, r4, (c3 s hs).2.2, ra, a3]
    refine ⟨?_, v, v, v, v, fun _ => v, fun _ => trivial⟩
    rw [← e2]
    by_cases c : g (50 + 3 * s) = 0
    · have c' : g (51 + 3 * s) = -1 := hS.2.mp c
      rw [if_pos c', if_pos c, hset_o _ _ _ _ (by omega), ra, a3]
    · have c' : ¬ g (51 + 3 * s) = -1 := fun w => c (hS.2.mpr w)
      rw [if_neg c', if_neg c]
  have o3 : Out a (a + 5) h (fX0_occupy a (nI s) h) := by
    rw [E.1]
    exact out_tr (out_mono (by omega) (by omega) o1) (out_tr (out_mono (by omega) (by omega) o2) (out_ite (out_set (by omega) (by omega) out_refl) out_refl))
  have up (q : Nat) (hq : a < q) : fX0_occupy a (nI s) h q = h2 q := by
    rw [E.1]
    split
    · rw [hset_o _ _ _ _ (by omega)]
    · rfl
  have s10 : nI s = 10 ↔ s = 10 := nI_eq (b := 10) (by omega) (by decide)
  have h2a : h2 a = h a := (o2 a (by omega)).trans ra
  -- the row
  obtain ⟨g1, eg⟩ : ∃ g1, upd (if g (50 + 3 * s) = 0 then upd g (51 + 3 * s) (nI t) else g) (50 + 3 * s) (g (50 + 3 * s) + 1) = g1 := ⟨_, rfl⟩
  have gk (k : Nat) (hk : k < 49 ∨ 85 ≤ k) : g1 k = g k := by
    rw [← eg, upd_o (by omega)]
    split
    · exact upd_o (by omega)
    · rfl
  have g49 (x : Nat) (hx : x < 12) : g1 (49 + 3 * x) = g (49 + 3 * x) := by
    rw [← eg, upd_o (by omega)]
    split
    · exact upd_o (by omega)
    · rfl
  have g50 (x : Nat) (hx : x < 12) : g1 (50 + 3 * x) = if x = s then g (50 + 3 * s) + 1 else g (50 + 3 * x) := by
    rw [← eg]
    by_cases c : x = s
    · subst c
      rw [if_pos rfl, upd_s]
    · rw [if_neg c, upd_o (by omega)]
      split
      · exact upd_o (by omega)
      · rfl
  have g51 (x : Nat) (hx : x < 12) : g1 (51 + 3 * x) = if x = s ∧ g (50 + 3 * s) = 0 then nI t else g (51 + 3 * x) := by
    rw [← eg, upd_o (by omega)]
    by_cases c : g (50 + 3 * s) = 0
    · rw [if_pos c]
      by_cases d : x = s
      · subst d
        rw [if_pos ⟨rfl, c⟩, upd_s]
      · rw [if_neg (fun w => d w.1), upd_o (by omega)]
    · rw [if_neg c, if_neg (fun w => c w.2)]
  have T : G_sp t s g = G_tk t s g1 := by rw [← eg]; rfl
  have tk (k : Nat) (hk : k < 85) : G_tk t s g1 k = if k = 4 ∧ s = 10 then nI t else if k = 49 + 3 * s then 0 else g1 k := by
    unfold G_tk
    by_cases c10 : s = 10
    · rw [if_pos c10]
      by_cases k4 : k = 4
      · subst k4
        rw [upd_s, if_pos ⟨rfl, c10⟩]
      · rw [upd_o k4, if_neg (fun w => k4 w.1)]
        by_cases k49 : k = 49 + 3 * s
        · rw [if_pos k49, k49, g49 s hs, hS.1 (by rw [c10]; decide)]
        · rw [if_neg k49]
    · rw [if_neg c10, if_neg (show ¬ (k = 4 ∧ s = 10) from fun w => c10 w.2)]
      by_cases tt : takesAll s = true
      · rw [if_pos tt]
        by_cases k49 : k = 49 + 3 * s
        · rw [if_pos k49, k49, upd_s]
        · rw [if_neg k49, upd_o k49]
      · rw [if_neg tt]
        by_cases k49 : k = 49 + 3 * s
        · rw [if_pos k49, k49, g49 s hs]
          exact hS.1 (by cases w : takesAll s; rfl; exact absurd w tt)
        · rw [if_neg k49]
  refine ⟨⟨fun k hk => ?_, fun p hp => ?_, fun x hx => ?_⟩, E.2, o3⟩
  · rw [ps_lo hk, T, tk k (by omega), if_neg (by omega : ¬ k = 49 + 3 * s), gk k (by omega), E.1]
    by_cases c10 : s = 10
    · rw [if_pos (s10.mpr c10), hset_s, h2a]
      by_cases k4 : k = 4
      · subst k4
        rw [upd_s, if_pos ⟨rfl, c10⟩]
      · rw [upd_o k4, if_neg (fun w => k4 w.1), c1 k hk]
    · rw [if_neg (fun w => c10 (s10.mp w)), h2a, if_neg (fun w => c10 w.2), c1 k hk]
  · rw [pv_ext (up _ (by omega)) (up _ (by omega)), pv_out o2 (by omega), pv_out o1 (by omega), c2 p hp]
    by_cases e : p = t
    · subst e
      rw [if_pos rfl, mp_ps_s cr]
    · rw [if_neg e, mp_ps_o e, T]
      funext j
      unfold mp
      by_cases c : j < 11
      · rw [if_pos c, if_pos c, tk _ (by omega), if_neg (by omega), if_neg (by omega), gk _ (by omega)]
      · rw [if_neg c, if_neg c]
  · have k49 : G_tk t s g1 (49 + 3 * x) = if x = s then 0 else g (49 + 3 * x) := by
      rw [tk _ (by omega), if_neg (by omega)]
      by_cases e : x = s
      · rw [if_pos e, if_pos (by omega)]
      · rw [if_neg e, if_neg (by omega), g49 x hx]
    have k50 : G_tk t s g1 (50 + 3 * x) = if x = s then g (50 + 3 * s) + 1 else g (50 + 3 * x) := by
      rw [tk _ (by omega), if_neg (by omega), if_neg (by omega), g50 x hx]
    have k51 : G_tk t s g1 (51 + 3 * x) = if x = s ∧ g (50 + 3 * s) = 0 then nI t else g (51 + 3 * x) := by
      rw [tk _ (by omega), if_neg (by omega), if_neg (by omega), g51 x hx]
    rw [up _ (by omega), up _ (by omega), up _ (by omega), o2 _ (by omega), o2 _ (by omega), r2, r3, q4, ps_hi (by omega) (by omega), ps_hi (by omega) (by omega), ps_hi (by omega) (by omega), T, k49, k50, k51]
    have w := c3 x hx
    by_cases e : x = s
    · subst e
      rw [if_pos rfl, if_pos rfl, upd_s, upd_s]
      refine ⟨rfl, rfl, ?_⟩
      by_cases c : g (50 + 3 * x) = 0
      · rw [if_pos c, if_pos ⟨rfl, c⟩, upd_s]
      · rw [if_neg c, if_neg (fun z => c z.2), w.2.2]
    · rw [if_neg e, if_neg e, upd_o e, upd_o e, if_neg (show ¬ (x = s ∧ g (50 + 3 * s) = 0) from fun z => e z.1)]
      refine ⟨w.1, w.2.1, ?_⟩
      split
      · rw [upd_o e, w.2.2]
      · exact w.2.2
