/-! the search: what it finds -/
abbrev Bs : Type := Option (Int32 × Nat × (Nat → Nat))
def P_fin (t : Nat) (g : Nat → Int32) : Int32 := P_all (P_end (feeds g) (mp g t))
def wgh (t : Nat) (g : Nat → Int32) (l : Nat) (pre : Nat → Nat) (b : Bs) : Bs :=
  if l = 0 then b else match b with
  | none => some (P_fin t g, l, pre)
  | some (r, l', f) => if P_fin t g ≤ r then some (r, l', f) else some (P_fin t g, l, pre)
def sfold (F : Nat → Bs → Bs) : List Nat → Bs → Bs
  | [], b => b
  | k :: L, b => sfold F L (F k b)
def prs (pre : Nat → Nat) (l k : Nat) : Nat → Nat := fun i => if i = l then k else pre i
def Srch (n t : Nat) : Nat → (Nat → Int32) → Nat → (Nat → Nat) → Bs → Bs
  | 0, g, l, pre, b => wgh t g l pre b
  | e + 1, g, l, pre, b => if mp g t 7 ≤ 0 then wgh t g l pre b else if okl n t g = [] then wgh t g l pre b else sfold (fun k b => Srch n t e (G_comes t (k / 25) (nI (k % 25)) g) (l + 1) (prs pre l k) b) (okl n t g) b
theorem Srch_0 {n t l : Nat} {g : Nat → Int32} {pre : Nat → Nat} {b : Bs} : Srch n t 0 g l pre b = wgh t g l pre b := rfl
theorem Srch_s {n t e l : Nat} {g : Nat → Int32} {pre : Nat → Nat} {b : Bs} : Srch n t (e + 1) g l pre b = if mp g t 7 ≤ 0 then wgh t g l pre b else if okl n t g = [] then wgh t g l pre b else sfold (fun k b => Srch n t e (G_comes t (k / 25) (nI (k % 25)) g) (l + 1) (prs pre l k) b) (okl n t g) b := rfl
/-- what the row is in a search -/
def SG (B : Int) (n t : Nat) (g : Nat → Int32) : Prop := 2 ≤ n ∧ n ≤ 4 ∧ g 0 = nI n ∧ t < n ∧ g 3 = nI t ∧ (1 ≤ (g 2).toInt ∧ (g 2).toInt ≤ (g 1).toInt ∧ 1 ≤ (g 1).toInt ∧ (g 1).toInt ≤ 12) ∧ (∃ st, st < n ∧ g 4 = nI st) ∧ (∀ p, p < n → PI B (mp g p)) ∧ LI g ∧ SP2 g ∧ UO n g ∧ ∃ q, q ≤ 30 ∧ g 85 = nI q
theorem SG_gi {B : Int} {n t : Nat} {g : Nat → Int32} (sg : SG B n t g) (h7 : 0 < (mp g t 7).toInt) : GI B n g := by
  obtain ⟨a1, a2, a3, a4, a5, ⟨a6, a7, a8, a9⟩, a10, a11, a12, a13, a14, a15⟩ := sg
  exact ⟨a1, a2, a3, ⟨a6, by omega, a8, a9⟩, a10, Or.inl ⟨a7, t, a4, a5, h7⟩, a11, a12, a13, a14, a15⟩
theorem SG_of {B : Int} {n t : Nat} {g : Nat → Int32} (gi : GI B n g) (ht : t < n) (h3 : g 3 = nI t) (hr : (g 2).toInt ≤ (g 1).toInt) : SG B n t g := by
  obtain ⟨a1, a2, a3, a4, a5, _, a7, a8, a9, a10, a11⟩ := gi
  exact ⟨a1, a2, a3, ht, h3, ⟨a4.1, hr, a4.2.2.1, a4.2.2.2⟩, a5, a7, a8, a9, a10, a11⟩
theorem ok_why {n t k : Nat} {g : Nat → Int32} (h : G_ok n t g k = true) : G_why n t g (k / 25) (nI (k % 25)) = 0 := by
  unfold G_ok at h
  split at h
  · assumption
  · cases h
theorem SG_comes {B : Int} {n t k : Nat} {g : Nat → Int32} (hB : B ≤ 70000000) (sg : SG B n t g) (h7 : 0 < (mp g t 7).toInt) (hk : k < 300) (ok : G_ok n t g k = true) : SG (B + 40) n t (G_comes t (k / 25) (nI (k % 25)) g) := by
  have gi := SG_gi sg h7
  obtain ⟨a1, a2, a3, a4, a5, a6, a10, a11, a12, a13, a14, a15⟩ := sg
  have C := comes_inv hB gi a4 a5 h7 a6.2.1 (by omega) (by omega) (ok_why ok)
  refine ⟨a1, a2, by rw [comes_lo (by decide)]; exact a3, a4, by rw [comes_lo (by decide)]; exact a5, by rw [comes_lo (by decide), comes_lo (by decide)]; exact a6, C.2.2.2.2, C.1, C.2.1, C.2.2.1, C.2.2.2.1, ?_⟩
  rw [comes_hi (by omega) (by omega) (by omega)]
  exact a15
theorem SG_over {B : Int} {n t : Nat} {g : Nat → Int32} (sg : SG B n t g) : G_over g = false := by
  unfold G_over
  rw [if_pos (ti_le.mpr sg.2.2.2.2.2.1.2.1)]
theorem SG_ok {B : Int} {n t : Nat} {g : Nat → Int32} (sg : SG B n t g) : OKg n t g := by
  have ov := SG_over sg
  obtain ⟨a1, a2, a3, a4, a5, a6, a10, a11, a12, a13, a14, a15⟩ := sg
  refine ⟨a2, a4, a3, fun _ => a5, ?_, fun s hs => (a13 s hs).2⟩
  rw [ov, a5, if_neg (nI_m1 (by omega))]
theorem OKg_tr {n t : Nat} {gT g : Nat → Int32} (tr : TR gT g) (ok : OKg n t g) : OKg n t gT := by
  obtain ⟨t1, t2, t3⟩ := tr
  obtain ⟨a1, a2, a3, a4, a5, a6⟩ := ok
  have ov : G_over gT = G_over g := by
    unfold G_over
    rw [t1 2 (by decide), t1 1 (by decide)]
  refine ⟨a1, a2, by rw [t1 0 (by decide)]; exact a3, by rw [ov, t1 3 (by decide)]; exact a4, by rw [ov, t1 3 (by decide)]; exact a5, fun s hs => by rw [(t3 s hs).1]; exact a6 s hs⟩
theorem okl_tr {n t : Nat} {gT g : Nat → Int32} (hn : n ≤ 4) (ht : t < 4) (tr : TR gT g) : okl n t gT = okl n t g := okfrom_ext hn ht tr 300 0 (by decide)
theorem ok_9 {n t k : Nat} {g : Nat → Int32} (hn : n ≤ 4) (ht : t < n) (ok : G_ok n t g k = true) (z : k / 25 = 9) : k % 25 < 8 ∧ P_has (mp g t) (nI (k % 25)) = false := by
  obtain ⟨_, _, w3, w4⟩ := why_ok (ok_why ok)
  rw [z] at w3 w4
  exact ⟨ch_9 (by omega) w3, own_none hn (can_9 w4) t ht⟩
theorem okfrom_mem {n t : Nat} {g : Nat → Int32} : ∀ (d k x : Nat), x ∈ okfrom n t g d k → k ≤ x ∧ x < k + d ∧ G_ok n t g x = true
  | 0, _, _, h => by cases h
  | d + 1, k, x, h => by
    have h : x ∈ (if G_ok n t g k = true then k :: okfrom n t g d (k + 1) else okfrom n t g d (k + 1)) := h
    by_cases c : G_ok n t g k = true
    · rw [if_pos c] at h
      rcases List.mem_cons.mp h with e | h
      · subst e
        exact ⟨Nat.le_refl _, by omega, c⟩
      · have := okfrom_mem d (k + 1) x h
        exact ⟨by omega, by omega, this.2.2⟩
    · rw [if_neg c] at h
      have := okfrom_mem d (k + 1) x h
      exact ⟨by omega, by omega, this.2.2⟩
theorem okl_mem {n t k : Nat} {g : Nat → Int32} (h : k ∈ okl n t g) : k < 300 ∧ G_ok n t g k = true := by
  have := okfrom_mem 300 0 k h
  exact ⟨by omega, this.2.2⟩
theorem okfrom_cons {n t x : Nat} {g : Nat → Int32} {L : List Nat} : ∀ (d k : Nat), okfrom n t g d k = x :: L → ∃ d', k ≤ x ∧ x + 1 + d' = k + d ∧ G_ok n t g x = true ∧ L = okfrom n t g d' (x + 1)
  | 0, _, h => by cases h
  | d + 1, k, h => by
    have h : (if G_ok n t g k = true then k :: okfrom n t g d (k + 1) else okfrom n t g d (k + 1)) = x :: L := h
    by_cases c : G_ok n t g k = true
    · rw [if_pos c] at h
      injection h with e1 e2
      subst e1
      exact ⟨d, Nat.le_refl _, by omega, c, e2.symm⟩
    · rw [if_neg c] at h
      obtain ⟨d', b1, b2, b3, b4⟩ := okfrom_cons d (k + 1) h
      exact ⟨d', by omega, by omega, b3, b4⟩
/-- the first code of what is found is one of the first row's -/
theorem sfold_P {P : Bs → Prop} {F : Nat → Bs → Bs} : ∀ (L : List Nat) (b : Bs), (∀ k, k ∈ L → ∀ b, P b → P (F k b)) → P b → P (sfold F L b)
  | [], _, _, h => h
  | k :: L, b, hF, h => sfold_P L (F k b) (fun k' hk' => hF k' (List.mem_cons_of_mem _ hk')) (hF k List.mem_cons_self b h)
def Bok (Q : Nat → Prop) (b : Bs) : Prop := ∀ r l f, b = some (r, l, f) → 1 ≤ l ∧ l ≤ 3 ∧ Q (f 0) ∧ ∀ i, i < l → f i < 300
theorem wgh_ok {Q : Nat → Prop} {t l : Nat} {g : Nat → Int32} {pre : Nat → Nat} {b : Bs} (hl : l ≤ 3) (h : 1 ≤ l → Q (pre 0) ∧ ∀ i, i < l → pre i < 300) (hb : Bok Q b) : Bok Q (wgh t g l pre b) := by
  unfold wgh
  by_cases c : l = 0
  · rw [if_pos c]
    exact hb
  · rw [if_neg c]
    have W := h (by omega)
    match b, hb with
    | none, _ =>
      intro r l' f e
      injection e with e
      injection e with e1 e2
      injection e2 with e2 e3
      subst e2 e3
      exact ⟨by omega, hl, W⟩
    | some (r, l', f), hb =>
      show Bok Q (if P_fin t g ≤ r then some (r, l', f) else some (P_fin t g, l, pre))
      by_cases c2 : P_fin t g ≤ r
      · rw [if_pos c2]
        exact hb
      · rw [if_neg c2]
        intro r' l'' f' e
        injection e with e
        injection e with e1 e2
        injection e2 with e2 e3
        subst e2 e3
        exact ⟨by omega, hl, W⟩
theorem Srch_ok {Q : Nat → Prop} {n t : Nat} : ∀ (e l : Nat) (g : Nat → Int32) (pre : Nat → Nat) (b : Bs), l + e ≤ 3 → (1 ≤ l → Q (pre 0) ∧ ∀ i, i < l → pre i < 300) → (l = 0 → ∀ k, k ∈ okl n t g → Q k) → Bok Q b → Bok Q (Srch n t e g l pre b)
  | 0, l, g, pre, b, hl, h, _, hb => wgh_ok (by omega) h hb
  | e + 1, l, g, pre, b, hl, h, h0, hb => by
    rw [Srch_s]
    by_cases c1 : mp g t 7 ≤ 0
    · rw [if_pos c1]
      exact wgh_ok (by omega) h hb
    · rw [if_neg c1]
      by_cases c2 : okl n t g = []
      · rw [if_pos c2]
        exact wgh_ok (by omega) h hb
      · rw [if_neg c2]
        refine sfold_P _ _ (fun k hk b hb => Srch_ok e (l + 1) _ _ _ (by omega) (fun _ => ?_) (fun z => absurd z (by omega)) hb) hb
        have hk3 := (okl_mem hk).1
        refine ⟨?_, fun i hi => ?_⟩
        · unfold prs
          by_cases z : 0 = l
          · rw [if_pos z]
            exact h0 z.symm k hk
          · rw [if_neg z]
            exact (h (by omega)).1
        · unfold prs
          by_cases z : i = l
          · rw [if_pos z]
            exact hk3
          · rw [if_neg z]
            exact (h (by omega)).2 i (by omega)
