section KL
variable {p : Program} {l : Launch} {e : Env} {R : Room} {s : State} {m : MethodId} {args : Array Value} {below : List Frame} {meth : Method} {c : Code} {H : Heap} {locs : List Loc} {cells slots : Nat} {Q : State → Prop}
variable {cc : ByteArray} {pc : Nat} {ls : Array Slot} {rest : List Value} {D : va_G} {tys : List (ClassId × FieldType)} {A0 : Nat → Prop}
theorem kl_new (hexec : p.tables.exec = Jvm.exec) (hb : c.code = cc) {own C : String} {T : u_T} {N ci index : Nat} (hts : ∀ w ∈ lwG, w.before args s = true) (hin : ∀ w ∈ u_ws C T N, w ∈ lwG) (ty : Nat → FieldType) (hty : ∀ k, k < N → parseFieldDescriptor (T k).2.2.1 = some (ty k)) (hown : s.vm.findClass own = some m.cls) (hcl : (Cond.classLink own index C).before args s = true) (hinst : (Cond.instantiable C N).before args s = true) (hini : (Cond.initialized C).before args s = true)
    (hK : va_K D vwCl tys s) (hc : vwCl[ci]? = some (C, T, N)) {fs : List Value} (hfs : ∀ j, j < N → defaultValue (ty j) = vp_V fs j) (hcells : cells + 1 ≤ R.cells) (hslots : slots + N ≤ R.slots) (hdg : decode cc pc = .ok (.new index, 3))
    (kk : ∀ (H1 : Heap), H1.size = H.size + 1 → (∀ q : Nat, q < H.size → H1[q]? = H[q]?) → va_at D vwCl (H.size, .inr (ci, fs)) H1 → W p l e R s m args below meth c H1 locs (cells + 1) (slots + N) Q (F0 m (pc + 3) ls (.ref H.size :: rest))) : W p l e R s m args below meth c H locs cells slots Q (F0 m pc ls rest) := by
  have hKn := hK.1 ci _ hc
  refine W.newcK hexec hb hown hcl hinst hini rfl hdg hcells hslots hKn.2.1 rfl fun H1 kC hkC e1 z1 o1 => ?_
  exact kk H1 z1 o1 ⟨_, hc, (u_born ty hts hin hKn hkC e1 hty).to hfs⟩
theorem kq_v {X' : Cx} {st0 : List Value} {mc ms : Nat} {av : Array Value} {h' : HH} (hr : va_Run p l e R s m args below meth c H locs cells slots mc ms (F0 m pc ls st0) rest (QM X' h' av) (fun q => xz X' ≤ q)) (hS : va_S A0 s.heap H locs) (hA : ∀ q, xz X' ≤ q → A0 q)
    (kk : ∀ (H1 : Heap) (locs1 : List Loc), WH X' h' H1 → H.size ≤ H1.size → (∀ q : Nat, q < H.size → ¬ xz X' ≤ q → H1[q]? = H[q]?) → va_S A0 s.heap H1 locs1 → W p l e R s m args below meth c H1 locs1 (cells + mc) (slots + ms) Q (F0 m (pc + 3) ls rest)) : W p l e R s m args below meth c H locs cells slots Q (F0 m pc ls st0) := by
  intro T hT Xs
  obtain ⟨v0, st₀, t, T', L, h0, X', hL, e1, e2, ⟨hv, hws, hz, hk⟩, st⟩ := hr T hT Xs
  cases hv
  rw [h0] at hz hk
  obtain ⟨t2, a1, b1⟩ := kk T'.heap (locs ++ L) (by rw [e1]; exact hws) (by rw [e1]; exact hz) (fun q h1 h2 => by rw [e1]; exact hk q h1 h2)
    ⟨Nat.le_trans hS.1 (by rw [e1]; exact hz), fun q h1 h2 => by rw [e1, hk q (Nat.lt_of_lt_of_le h1 hS.1) (fun z => h2 (hA q z))]; exact hS.2.1 q h1 h2, fun q hq => by
      rcases List.mem_append.mp hq with h | h
      · exact hS.2.2 q h
      · exact hA _ (hL q h)⟩ T' rfl X'
  exact ⟨t2, st t2 a1, b1⟩
end KL
theorem ST1.narrow {own : String} {ix : Nat} {n : String} {N : Nat} {f : Nat → Int32} {t : Nat} {A B : Nat → Prop} {s : State} (h : ST1 own ix n N f t A s) (hAB : ∀ q, B q → A q) : ST1 own ix n N f t B s := ⟨h.1, h.2.1.narrow hAB, h.2.2.narrow hAB⟩
theorem KX.narrow {A B : Nat → Prop} {s : State} (h : KX A s) (hAB : ∀ q, B q → A q) : KX B s := ⟨h.1.narrow hAB, h.2.1.narrow hAB, h.2.2⟩
theorem KS.narrow {D : va_G} {kc : Nat → ClassId} {L L2 : Lay} {z z2 : Nat} {tt : Nat → Nat} {s : State} (h : KS (D, kc, L, z, tt) s) (hz : z ≤ z2) (hz2 : z2 ≤ s.heap.size) : KS (D, kc, L2, z2, tt) s := by
  have hAB : ∀ q, z2 ≤ q → z ≤ q := fun q hq => Nat.le_trans hz hq
  obtain ⟨hK, ⟨a0, a1, a2, a3, a4, a5, a6⟩, -, hX⟩ := h
  exact ⟨hK, ⟨a0.narrow hAB, a1.narrow hAB, a2.narrow hAB, a3.narrow hAB, a4.narrow hAB, a5.narrow hAB, a6.narrow hAB⟩, hz2, hX.narrow hAB⟩
theorem shsBd_kc (D : va_G) (kc : Nat → ClassId) (L L2 : Lay) (z z2 : Nat) (tt : Nat → Nat) (a : Nat) : shsBd (D, kc, L, z, tt) a = shsBd (D, kc, L2, z2, tt) a := rfl
theorem shsMo_kc (D : va_G) (kc : Nat → ClassId) (L L2 : Lay) (z z2 : Nat) (tt : Nat → Nat) (a : Nat) : shsMo (D, kc, L, z, tt) a = shsMo (D, kc, L2, z2, tt) a := rfl
set_option maxRecDepth 100000 in
set_option maxHeartbeats 4000000 in
theorem whole_start_open (hp : PureOK) {p : Program} {e : Env} {s : State} {m : MethodId} {below : List Frame} {meth : Method} {c : Code} (l : Launch) (hflags : l.flags = flags0) {b L : Nat} {xs : Nat → Int32} (hL : L ≤ 2048) (C0 : lw_At p s m meth c b L xs) : W p l e room_1 s m #[Value.ref b] below meth c s.heap [] 0 0 (lw_Z below #[Value.ref b] s) (entryFrame m ([Value.ref b] : List Value).toArray 7) := by
  obtain ⟨hx, hb, hr, hml, hown, hts, hX, hbl, hlocks, hgv⟩ := id C0
  have hst : l.stackTraces = false := by unfold Launch.stackTraces; rw [hflags]; decide +kernel
  have hg : ∀ w ∈ lwG, w.before #[Value.ref b] s = true := fun w h => hts w (lwG_tbl h)
  obtain ⟨D, kc, tt, hctx⟩ := ctx_of hts hgv
  obtain ⟨z, hz⟩ : ∃ z, z = s.heap.size := ⟨_, rfl⟩
  rw [← hz] at hctx
  generalize hl1 : shsBd (D, kc, (fun _ => none), 0, tt) z = l1
  obtain ⟨L1, hL1⟩ : ∃ L1, L1 = lay1 l1 z := ⟨_, rfl⟩
  have hlen1 : l1.length = 110 := by rw [← hl1]; rfl
  have hO1 : IsBd (D, kc, L1, z, tt) z := isBd_of (fun i _ => by
    rw [shsBd_kc D kc L1 (fun _ => none) z 0 tt z, hl1]
    show L1 (z + i) = _
    rw [hL1]; exact lay1_at)
  have hLay1 : ∀ q f, L1 q = some f → z ≤ q ∧ (shsBd (D, kc, L1, z, tt) z)[q - z]? = some f := fun q f h => by
    rw [hL1] at h
    rw [shsBd_kc D kc L1 (fun _ => none) z 0 tt z, hl1]
    exact lay1_of h
  have hS : va_S (fun q => z ≤ q) s.heap s.heap [] := va_S.rf
  have hl := lv_entry ([.ref b]) (n := 7) (Nat.le_of_ble_eq_true rfl)
  rw [lg_entry_eq]
  generalize (lg_sl ([.ref b]) ++ List.replicate (7 - (lg_sl ([.ref b])).length) Slot.unset).toArray = ls at hl ⊢
  have hl : lv_has ls 7 [(0, .ref b)] := hl
  have hK := (hctx (fun _ => none)).1.1
  refine kl_new (D := D) (ci := 5) (T := TX5) (N := 4) (fs := [.null, .null, .null, .null]) hx hb hg inG5 tyX5 tyX5_ok hown (hg _ q1_16) (hg _ q1_17) (hg _ q1_1) hK rfl fs_X5 (Nat.le_of_ble_eq_true rfl) (Nat.le_of_ble_eq_true rfl) dL_law_0 (fun H1 z1 o1 e1 => ?_)
  have hS : va_S (fun q => z ≤ q) s.heap H1 [] := ⟨by rw [z1]; exact Nat.le_succ _, fun q h1 _ => o1 q h1, fun q hq => by cases hq⟩
  rw [← hz] at z1 e1 ⊢
  refine lv_dup hx hb dL_law_3 rfl ?_
  refine kq_v (X' := (D, kc, L1, z, tt)) (va_runI (As := []) (rest := [.ref z]) ⟨hx, hb, hml, hown, hg⟩ (kX5_init l D kc L1 tt z hO1 hLay1 (hp z (z + 110) (z + 116) 0 xs (Nat.le_refl _) (Nat.le_refl _) (Nat.zero_le _)).1) (cwI 0 hg (gI q1_20) rfl rfl rfl (hg _ q1_1) (hg _ q1_18) (hg _ q1_19) rfl (by decide +kernel) ⟨Nat.le_of_ble_eq_true rfl, Nat.le_of_ble_eq_true rfl⟩) ⟨PM.blind, fun U hU hw => ⟨rfl, by rw [hU, z1], by rw [hU]; exact e1, (hctx L1).2.warm hw, (hctx L1).1.go hw (by rw [hU]; exact hS)⟩⟩ rfl rfl hl.1 rfl (lv_room (Nat.le_of_ble_eq_true rfl)) dL_law_4 ⟨Nat.le_of_ble_eq_true rfl, Nat.le_of_ble_eq_true rfl⟩) hS (fun q h => h) (fun H2 locs hW2 hz2 hk2 hS => ?_)
  refine lv_astore_n (lv' := [(1, .ref z), (0, .ref b)]) hx hb dL_law_7 rfl hl (by decide) rfl (fun ls hl => ?_)
  have hzH2 : z + 110 ≤ H2.size := by
    have h9 := (hW2 (z + 109) (shI (D, kc, L1, z, tt) 40) hO1.2.2.2.2).2.lt
    have h10 : z + 109 < H2.size := h9
    omega
  obtain ⟨mA, hmA⟩ : ∃ mA, mA = H2.size := ⟨_, rfl⟩
  generalize hl2 : shsMo (D, kc, (fun _ => none), 0, tt) mA = l2
  obtain ⟨L2, hL2⟩ : ∃ L2, L2 = lay1 l2 mA := ⟨_, rfl⟩
  have hlen2 : l2.length = 6 := by rw [← hl2]; rfl
  have hO2 : IsMo (D, kc, L2, mA, tt) mA := isMo_of (fun i _ => by
    rw [shsMo_kc D kc L2 (fun _ => none) mA 0 tt mA, hl2]
    show L2 (mA + i) = _
    rw [hL2]; exact lay1_at)
  have hLay2 : ∀ q f, L2 q = some f → mA ≤ q ∧ (shsMo (D, kc, L2, mA, tt) mA)[q - mA]? = some f := fun q f h => by
    rw [hL2] at h
    rw [shsMo_kc D kc L2 (fun _ => none) mA 0 tt mA, hl2]
    exact lay1_of h
  refine kl_new (D := D) (ci := 6) (T := TX6) (N := 10) (fs := [.null, .null, .null, .int 0, .int 0, .null, .null, .int 0, .int 0, .long 0]) hx hb hg inG6 tyX6 tyX6_ok hown (hg _ q4_17) (hg _ q4_18) (hg _ q1_7) hK rfl fs_X6 (Nat.le_of_ble_eq_true rfl) (Nat.le_of_ble_eq_true rfl) dL_law_8 (fun H3 z3 o3 e3 => ?_)
  have hS : va_S (fun q => z ≤ q) s.heap H3 locs := ⟨by rw [z3]; exact Nat.le_trans hS.1 (Nat.le_succ _), fun q h1 h2 => (o3 q (Nat.lt_of_lt_of_le h1 hS.1)).trans (hS.2.1 q h1 h2), hS.2.2⟩
  rw [← hmA] at z3 e3 o3 ⊢
  refine lv_dup hx hb dL_law_11 rfl ?_
  refine kq_v (X' := (D, kc, L2, mA, tt)) (va_runI (As := []) (rest := [.ref mA]) ⟨hx, hb, hml, hown, hg⟩ (kX6_init l D kc L2 tt mA hO2 hLay2 (hp z mA (mA + 6) 0 xs (by omega) (Nat.le_refl _) (Nat.zero_le _)).2.1) (cwI 0 hg (gI q4_21) rfl rfl rfl (hg _ q1_7) (hg _ q4_19) (hg _ q4_20) rfl (by decide +kernel) ⟨Nat.le_of_ble_eq_true rfl, Nat.le_of_ble_eq_true rfl⟩) ⟨PM.blind, fun U hU hw => ⟨rfl, by rw [hU, z3], by rw [hU]; exact e3, (hctx L2).2.warm hw, KS.narrow ((hctx L2).1.go hw (by rw [hU]; exact hS)) (by omega) (by rw [hU, z3]; exact Nat.le_succ _)⟩⟩ rfl rfl hl.1 rfl (lv_room (Nat.le_of_ble_eq_true rfl)) dL_law_12 ⟨Nat.le_of_ble_eq_true rfl, Nat.le_of_ble_eq_true rfl⟩) hS (fun q (h : mA ≤ q) => Nat.le_trans (show z ≤ mA by omega) h) (fun H4 locs hW4 hz4 hk4 hS => ?_)
  refine lv_astore_n (lv' := [(2, .ref mA), (1, .ref z), (0, .ref b)]) hx hb dL_law_15 rfl hl (by decide) rfl (fun ls hl => ?_)
  have hzH4 : mA + 6 ≤ H4.size := by
    have h9 := (hW4 (mA + 5) (shI (D, kc, L2, mA, tt) 4) hO2.2.2.2.2.2).2.lt
    have h10 : mA + 5 < H4.size := h9
    omega
  obtain ⟨oA, hoA⟩ : ∃ oA, oA = H4.size := ⟨_, rfl⟩
  refine lv_iconst (v := 1) hx hb dL_law_16 (by decide) ?_
  refine va_newaK (N := 1) (atype := .long) hx hb (hg (.arrayClass .long) (by decide +kernel)) rfl dL_law_17 rfl (by decide) (by decide) (Nat.le_of_ble_eq_true rfl) (Nat.le_of_ble_eq_true rfl) (Nat.le_of_ble_eq_true rfl) hoA.symm (fun H5 cA e5 z5 o5 hAr hNm => ?_)
  have hcA : cA = kc 4 := Option.some.inj (hNm.symm.trans ((hctx (fun _ => none)).1.1.2 4 _ rfl).2)
  subst hcA
  have hS : va_S (fun q => z ≤ q) s.heap H5 locs := ⟨by rw [z5, hoA]; exact Nat.le_trans hS.1 (Nat.le_succ _), fun q h1 h2 => (o5 q (by rw [hoA]; exact Nat.lt_of_lt_of_le h1 hS.1)).trans (hS.2.1 q h1 h2), hS.2.2⟩
  refine W.eq (g2 := F0 m 19 ls [.ref oA]) rfl ?_
  refine lv_astore_n (lv' := [(3, .ref oA), (2, .ref mA), (1, .ref z), (0, .ref b)]) hx hb dL_law_19 rfl hl (by decide) rfl (fun ls hl => ?_)
  refine lv_iconst (v := 0) hx hb dL_law_20 (by decide) ?_
  refine lv_istore (lv' := [(4, .int 0), (3, .ref oA), (2, .ref mA), (1, .ref z), (0, .ref b)]) hx hb dL_law_21 hl (by decide) rfl (fun ls hl => ?_)
  obtain ⟨L3, hL3⟩ : ∃ L3, L3 = lay3 l1 l2 [shJ (D, kc, (fun _ => none), 0, tt) 1] z mA oA := ⟨_, rfl⟩
  have hb1 : ∀ i, i < 110 → L3 (z + i) = l1[i]? := fun i hi => by
    rw [hL3]
    show (if z + i < mA then _ else _) = _
    rw [if_pos (by omega)]
    exact lay1_at
  have hb2 : ∀ i, i < 6 → L3 (mA + i) = l2[i]? := fun i hi => by
    rw [hL3]
    show (if mA + i < mA then _ else if mA + i < oA then _ else _) = _
    rw [if_neg (by omega), if_pos (by omega)]
    exact lay1_at
  have hb3 : L3 oA = some (shJ (D, kc, L3, z, tt) 1) := by
    rw [hL3]
    show (if oA < mA then _ else if oA < oA then _ else lay1 _ oA (oA + 0)) = _
    rw [if_neg (by omega), if_neg (by omega), lay1_at]
    rfl
  have hW : WH (D, kc, L3, z, tt) (hIni z mA oA) H5 := by
    intro q f hq
    have hq : L3 q = some f := hq
    rw [hL3] at hq
    unfold lay3 at hq
    unfold hIni
    by_cases c1 : q < mA
    · rw [if_pos c1] at hq ⊢
      have h1 := lay1_of hq
      refine ⟨h1.1, ?_⟩
      have h2 := (hW2 q f (by show L1 q = some f; rw [hL1]; exact hq)).2
      exact ((h2.kept (o3 q c1)).kept (hk4 q (by rw [z3]; omega) (by show ¬ mA ≤ q; omega))).kept (o5 q (by omega))
    · rw [if_neg c1] at hq ⊢
      by_cases c2 : q < oA
      · rw [if_pos c2] at hq ⊢
        refine ⟨by show z ≤ q; omega, ?_⟩
        have h2 := (hW4 q f (by show L2 q = some f; rw [hL2]; exact hq)).2
        exact h2.kept (o5 q c2)
      · rw [if_neg c2] at hq ⊢
        obtain ⟨h1, h2⟩ := lay1_of hq
        have h3 : q - oA < 1 := (List.getElem?_eq_some_iff.mp h2).1
        have h4 : q = oA := by omega
        subst h4
        rw [Nat.sub_self] at h2
        cases h2
        refine ⟨by show z ≤ q; omega, ?_⟩
        show H5[q]? = some (vp_cell (kc 4) (1, .inr (.inl _)))
        rw [e5, vp_cell_l]
        rw [arrV_ext]
        intro k hk
        show Value.long 0 = Value.long (LJ 0 0)
        exact congrArg Value.long (by decide +kernel)
  exact xL_law_c23 (X := (D, kc, L3, z, tt)) (a := z) (r2 := mA) (r3 := oA) (xs := xs) hst ⟨hx, hb, hr, hlocks, hml, hown, hg, (hctx L3).1, hX, hbl, hz, isBd_of (fun i hi => by rw [shsBd_kc D kc L3 (fun _ => none) z 0 tt z, hl1]; exact hb1 i hi), isMo_of (fun i hi => by rw [shsMo_kc D kc L3 (fun _ => none) z 0 tt mA, hl2]; exact hb2 i hi), hb3⟩ 513 0 (hIni z mA oA) H5 locs ls _ _ (Nat.le_of_ble_eq_true rfl) (Nat.le_of_ble_eq_true rfl) (lv_sub hl [4, 3, 2, 1, 0] rfl) hW hS (hp z mA oA L xs (by omega) (by omega) hL).2.2
