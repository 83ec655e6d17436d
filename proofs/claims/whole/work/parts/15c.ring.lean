/-! the undo ring against the saved rows -/
theorem CH_row {a : Nat} {h : HH} {g g' : Nat → Int32} (e : ∀ k, 85 ≤ k → k < 206 → g' k = g k) (ch : CH a h g) : CH a h g' := by
  obtain ⟨q, o, h1, h2, h3, h4, h5, h6⟩ := ch
  refine ⟨q, o, h1, h2, h3, h4, by rw [e 85 (by omega) (by omega)]; exact h5, fun i hi w hw => ?_⟩
  rw [e _ (by omega) (by omega)]
  exact h6 i hi w hw
theorem CH_h {a : Nat} {h h' : HH} {g : Nat → Int32} (e5 : h' (a + 5) = h (a + 5)) (e6 : h' (a + 6) = h (a + 6)) (ch : CH a h g) : CH a h' g := CH_fr e5 e6 (fun _ _ => rfl) ch
theorem GI_row {B : Int} {n : Nat} {g g' : Nat → Int32} (e : ∀ k, k < 86 → g' k = g k) (gi : GI B n g) : GI B n g' := by
  obtain ⟨h1, h2, h3, h4, h5, h6, h7, h8, h9, h10, h11⟩ := gi
  have e' : ∀ k, k < 85 → g' k = g k := fun k hk => e k (by omega)
  refine ⟨h1, h2, by rw [e 0 (by decide)]; exact h3, by rw [e 1 (by decide), e 2 (by decide)]; exact h4, by rw [e 4 (by decide)]; exact h5, ?_, fun p hp => by rw [mp_row (by omega) e']; exact h7 p hp, LI_row e' h8, SP2_row e' h9, UO_row h2 e' h10, by rw [e 85 (by decide)]; exact h11⟩
  rw [e 1 (by decide), e 2 (by decide), e 3 (by decide)]
  rcases h6 with ⟨r, t, ht, e3, e7⟩ | h6
  · exact Or.inl ⟨r, t, ht, e3, by rw [mp_row (by omega) e']; exact e7⟩
  · exact Or.inr h6
theorem GI_mono {B B' : Int} {n : Nat} {g : Nat → Int32} (hB : B ≤ B') (gi : GI B n g) : GI B' n g := by
  obtain ⟨h1, h2, h3, h4, h5, h6, h7, h8⟩ := gi
  exact ⟨h1, h2, h3, h4, h5, h6, fun p hp => pi_mono hB (h7 p hp), h8⟩
/-- one state: the component's game at a, the row g -/
def SA (B : Int) (a : Nat) (h : HH) (g : Nat → Int32) : Prop := ∃ n, GI B n g ∧ CG n a h g ∧ CH a h g
theorem SA_row {B : Int} {a : Nat} {h : HH} {g g' : Nat → Int32} (e : ∀ k, k < 206 → g' k = g k) (s : SA B a h g) : SA B a h g' := by
  obtain ⟨n, gi, cg, ch⟩ := s
  exact ⟨n, GI_row (fun k hk => e k (by omega)) gi, CG_row gi.2.1 (fun k hk => e k (by omega)) cg, CH_row (fun k _ hk => e k hk) ch⟩
theorem SA_h {B : Int} {a : Nat} {h h' : HH} {g : Nat → Int32} (e : ∀ q, a ≤ q → q < a + 15 → h' q = h q) (s : SA B a h g) : SA B a h' g := by
  obtain ⟨n, gi, cg, ch⟩ := s
  exact ⟨n, gi, CG_fr gi.2.1 e cg, CH_h (e _ (by omega) (by omega)) (e _ (by omega) (by omega)) ch⟩
theorem SA_mono {B B' : Int} {a : Nat} {h : HH} {g : Nat → Int32} (hB : B ≤ B') (s : SA B a h g) : SA B' a h g := by
  obtain ⟨n, gi, cg, ch⟩ := s
  exact ⟨n, GI_mono hB gi, cg, ch⟩
theorem SA_copy {B : Int} {a b : Nat} {h : HH} {g : Nat → Int32} (hab : a + 15 ≤ b ∨ b + 15 ≤ a) (s : SA B b h g) : SA B a (fX0_copyFrom a b h) g := by
  obtain ⟨n, gi, cg, ch⟩ := s
  have C := c_copyG hab h
  exact ⟨n, gi, C.1 n g gi.2.1 cg, C.2.1 g ch⟩
def UC (B : Int) (u : Nat) (h : HH) (k : Nat) (P : Nat → Int32) : Prop := k ≤ 4 ∧ ∃ x, x < 4 ∧ h u 1 = nI x ∧ h u 2 = nI k ∧ ∀ i, i < k → SA B (u + 2 + 15 * ((x + 4 - k + i) % 4)) h (fun y => P (206 * i + y))
theorem UC_h {B : Int} {u k : Nat} {h h' : HH} {P : Nat → Int32} (e : ∀ q, u ≤ q → q < u + 62 → h' q = h q) (s : UC B u h k P) : UC B u h' k P := by
  obtain ⟨hk, x, hx, e1, e2, st⟩ := s
  refine ⟨hk, x, hx, by rw [e u (by omega) (by omega)]; exact e1, by rw [e u (by omega) (by omega)]; exact e2, fun i hi => SA_h (fun q q1 q2 => e q (by omega) (by omega)) (st i hi)⟩
theorem UC_mono {B B' : Int} {u k : Nat} {h : HH} {P : Nat → Int32} (hB : B ≤ B') (s : UC B u h k P) : UC B' u h k P := by
  obtain ⟨hk, x, hx, e1, e2, st⟩ := s
  exact ⟨hk, x, hx, e1, e2, fun i hi => SA_mono hB (st i hi)⟩
theorem jr4 {k : Nat} (h : k < 1000) : jrem (nI k) 4 = nI (k % 4) := jrem_n (b := 4) (by omega) (by decide) (by decide)
theorem c_push {B : Int} {u a k : Nat} {h : HH} {g P : Nat → Int32} (hua : a + 15 ≤ u ∨ u + 62 ≤ a) (us : UC B u h k P) (s : SA B a h g) : UC B u (fX4_push u a h) (if k = 4 then 4 else k + 1) (G_save k g P) ∧ sX4_push u a h ∧ Out u (u + 62) h (fX4_push u a h) := by
  obtain ⟨hk, x, hx, e1, e2, st⟩ := us
  have C := c_copyG (a := u + 2 + 15 * x) (b := a) (by omega) h
  have S0 := SA_copy (a := u + 2 + 15 * x) (by omega) s
  obtain ⟨h1, eh1⟩ : ∃ h1, fX0_copyFrom (u + 2 + 15 * x) a h = h1 := ⟨_, rfl⟩
  rw [eh1] at C S0
  have o1 := C.2.2.2
  have u1 : h1 u = h u := o1 u (by omega)
  obtain ⟨k', ek⟩ : ∃ k', (if k = 4 then 4 else k + 1) = k' := ⟨_, rfl⟩
  have kk : k' ≤ 4 ∧ 1 ≤ k' ∧ (k = 4 → k' = 4) ∧ (k ≠ 4 → k' = k + 1) := by rw [← ek]; split <;> omega
  have jm : jmin (nI k + 1) 4 = nI k' := by
    rw [nI_1]
    refine ti_eq ?_
    rw [ti_jmin, ti_nI (by omega), ti_nI (by omega), t4]
    split <;> omega
  have E : fX4_push u a h = hset (hset h1 u 1 (nI ((x + 1) % 4))) u 2 (nI k') := by
    unfold fX4_push fX4_push_c0 fX4_push_c15 fX4_push_c27
    rw [e1, nclamp (by omega), eh1, hset_s, upd_o (by decide : (2 : Nat) ≠ 1), u1, e1, e2, nI_1, jr4 (by omega), jm]
  have far (q : Nat) (hq : q ≠ u) : fX4_push u a h q = h1 q := by rw [E, hset_o _ _ _ _ hq, hset_o _ _ _ _ hq]
  have S1 : SA B (u + 2 + 15 * x) (fX4_push u a h) g := SA_h (fun q q1 q2 => far q (by omega)) S0
  have old (i : Nat) (hi : i < k) (ne : (x + 4 - k + i) % 4 ≠ x) : SA B (u + 2 + 15 * ((x + 4 - k + i) % 4)) (fX4_push u a h) (fun y => P (206 * i + y)) := SA_h (fun q q1 q2 => (far q (by omega)).trans (o1 q (by omega))) (st i hi)
  rw [ek]
  refine ⟨⟨kk.1, (x + 1) % 4, by omega, ?_, ?_, fun i hi => ?_⟩, ?_, ?_⟩
  · rw [E, hset_s, upd_o (by decide), hset_s, upd_s]
  · rw [E, hset_s, upd_s]
  · by_cases c : k = 4
    · have k4 := kk.2.2.1 c
      by_cases l : i = 3
      · subst l
        rw [show ((x + 1) % 4 + 4 - k' + 3) % 4 = x by omega]
        refine SA_row (fun y hy => ?_) S1
        unfold G_save
        rw [if_pos c, cpf_v, if_pos (by omega), show 206 * 3 + y - 206 * 3 = y by omega]
      · have w := old (i + 1) (by omega) (by omega)
        rw [show ((x + 1) % 4 + 4 - k' + i) % 4 = (x + 4 - k + (i + 1)) % 4 by omega]
        refine SA_row (fun y hy => ?_) w
        unfold G_save
        rw [if_pos c, cpf_v, if_neg (by omega), shp_v, if_pos (by omega), show 206 * i + y + 206 = 206 * (i + 1) + y by omega]
    · have k4 := kk.2.2.2 c
      by_cases l : i = k
      · subst l
        rw [show ((x + 1) % 4 + 4 - k' + i) % 4 = x by omega]
        refine SA_row (fun y hy => ?_) S1
        unfold G_save
        rw [if_neg c, cpf_v, if_pos (by omega), show 206 * i + y - 206 * i = y by omega]
      · have w := old i (by omega) (by omega)
        rw [show ((x + 1) % 4 + 4 - k' + i) % 4 = (x + 4 - k + i) % 4 by omega]
        refine SA_row (fun y hy => ?_) w
        unfold G_save
        rw [if_neg c, cpf_v, if_neg (by omega)]
  · unfold sX4_push sX4_push_c0
    rw [e1, nclamp (by omega)]
    exact ⟨v_of hx (by decide), C.2.2.1⟩
  · rw [E]
    exact out_set (by omega) (by omega) (out_set (by omega) (by omega) (out_mono (by omega) (by omega) o1))
theorem c_pop {B : Int} {u a k : Nat} {h : HH} {P : Nat → Int32} (hua : a + 15 ≤ u ∨ u + 62 ≤ a) (hk0 : 0 < k) (us : UC B u h k P) : UC B u (fX4_pop u a h) (k - 1) P ∧ SA B a (fX4_pop u a h) (fun y => P (206 * (k - 1) + y)) ∧ sX4_pop u a h ∧ (∀ q, q ≠ u → (q < a ∨ a + 15 ≤ q) → fX4_pop u a h q = h q) := by
  obtain ⟨hk, x, hx, e1, e2, st⟩ := us
  have j1 : jrem (nI x + 4 - 1) 4 = nI ((x + 3) % 4) := by
    have : nI x + 4 - 1 = nI (x + 3) := by
      rw [show nI x + 4 = nI (x + 4) from nI_add x 4]
      refine ti_eq ?_
      rw [ti_sub (by rw [t1, ti_nI (by omega)]; omega) (by rw [t1, ti_nI (by omega)]; omega), t1, ti_nI (by omega), ti_nI (by omega)]
      omega
    rw [this, jr4 (by omega)]
  have k1 : nI k - 1 = nI (k - 1) := by
    refine ti_eq ?_
    rw [ti_sub (by rw [t1, ti_nI (by omega)]; omega) (by rw [t1, ti_nI (by omega)]; omega), t1, ti_nI (by omega), ti_nI (by omega)]
    omega
  obtain ⟨h1, eh1⟩ : ∃ h1, hset (hset h u 1 (nI ((x + 3) % 4))) u 2 (nI (k - 1)) = h1 := ⟨_, rfl⟩
  have r1 : h1 u 1 = nI ((x + 3) % 4) := by rw [← eh1, hset_s, upd_o (by decide), hset_s, upd_s]
  have r2 : h1 u 2 = nI (k - 1) := by rw [← eh1, hset_s, upd_s]
  have far (q : Nat) (hq : q ≠ u) : h1 q = h q := by rw [← eh1, hset_o _ _ _ _ hq, hset_o _ _ _ _ hq]
  have lt : (x + 3) % 4 < 4 := Nat.mod_lt _ (by decide)
  have C := c_copyG (a := a) (b := u + 2 + 15 * ((x + 3) % 4)) (by omega) h1
  have E : fX4_pop u a h = fX0_copyFrom a (u + 2 + 15 * ((x + 3) % 4)) h1 ∧ sX4_pop u a h := by
    unfold fX4_pop fX4_pop_c0 fX4_pop_c16 fX4_pop_c30 sX4_pop sX4_pop_c0 sX4_pop_c16 sX4_pop_c30
    have q2 : hset h u 1 (nI ((x + 3) % 4)) u 2 = nI k := by rw [hset_s, upd_o (by decide), e2]
    rw [e1, j1, q2, k1, eh1, r1, nclamp (by omega)]
    exact ⟨rfl, v_of lt (by decide), C.2.2.1⟩
  have o1 := C.2.2.2
  have s1 := st (k - 1) (by omega)
  rw [show (x + 4 - k + (k - 1)) % 4 = (x + 3) % 4 by omega] at s1
  have S := SA_copy (a := a) (b := u + 2 + 15 * ((x + 3) % 4)) (by omega) (SA_h (h' := h1) (fun q q1 q2 => far q (by omega)) s1)
  rw [E.1]
  refine ⟨⟨by omega, (x + 3) % 4, lt, by rw [o1 u (by omega)]; exact r1, by rw [o1 u (by omega)]; exact r2, fun i hi => ?_⟩, S, E.2, fun q q1 q2 => by rw [o1 q q2, far q q1]⟩
  have w := st i (by omega)
  rw [show ((x + 3) % 4 + 4 - (k - 1) + i) % 4 = (x + 4 - k + i) % 4 by omega]
  exact SA_h (fun q q1 q2 => by rw [o1 q (by omega), far q (by omega)]) w
