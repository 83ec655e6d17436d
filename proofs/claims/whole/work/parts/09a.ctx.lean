/-! what the Statement gives of the start -/
theorem st1_of {s : State} {args : Array Value} {own n : String} {ix : Nat} {N : Nat} {f : Nat → Int32} {A : Nat → Prop} (hN : N < 2 ^ 31) (hnest : (Cond.fieldLinkNest own ix "VillageBoard" n "[I" "VillageBoard").before args s = true) (hlay : (Cond.laysStatic "VillageBoard" n "[I").before args s = true) (hini : (Cond.initialized "VillageBoard").before args s = true) (harr : (Cond.arrayOf (.static "VillageBoard" n "[I") .int).before args s = true) (hlen : (Cond.eq (.length (.static "VillageBoard" n "[I")) (.int (Int32.ofNat N))).before args s = true) (hel : ∀ j : Nat, j < N → (Cond.eq (.elem (.static "VillageBoard" n "[I") (.int (Int32.ofNat j))) (.int (f j))).before args s = true) (hA : ∀ a : Nat, a < s.heap.size → ¬ A a) : ∃ t, ST1 own ix n N f t A s := by
  obtain ⟨t, h1, h2⟩ := va_Tof (f := fun j => .int (f j)) hN harr (va_eqt hlen) (fun j hj => va_eqt (hel j hj)) hA
  exact ⟨t, va_Nw.of rfl hnest, va_Zof hlay hini h1 hA, h2⟩
abbrev flS : List Cond := flatC (Jvm.Cond.and given_1 narrow_1)
theorem fl_e0 : ∀ j, j < 12 → Cond.eq (.elem (.static "VillageBoard" "SUPPLY" "[I") (.int (Int32.ofNat j))) (.int (tSUPPLY j)) ∈ flS := by decide +kernel
theorem fl_l0 : Cond.eq (.length (.static "VillageBoard" "SUPPLY" "[I")) (.int (Int32.ofNat 12)) ∈ flS := by decide +kernel
theorem fl_a0 : Cond.arrayOf (.static "VillageBoard" "SUPPLY" "[I") .int ∈ flS := by decide +kernel
theorem fl_e1 : ∀ j, j < 12 → Cond.eq (.elem (.static "VillageBoard" "PLACES" "[I") (.int (Int32.ofNat j))) (.int (tPLACES j)) ∈ flS := by decide +kernel
theorem fl_l1 : Cond.eq (.length (.static "VillageBoard" "PLACES" "[I")) (.int (Int32.ofNat 12)) ∈ flS := by decide +kernel
theorem fl_a1 : Cond.arrayOf (.static "VillageBoard" "PLACES" "[I") .int ∈ flS := by decide +kernel
theorem fl_e2 : ∀ j, j < 12 → Cond.eq (.elem (.static "VillageBoard" "FIRST_CHOICE" "[I") (.int (Int32.ofNat j))) (.int (tFIRST_CHOICE j)) ∈ flS := by decide +kernel
theorem fl_l2 : Cond.eq (.length (.static "VillageBoard" "FIRST_CHOICE" "[I")) (.int (Int32.ofNat 12)) ∈ flS := by decide +kernel
theorem fl_a2 : Cond.arrayOf (.static "VillageBoard" "FIRST_CHOICE" "[I") .int ∈ flS := by decide +kernel
theorem fl_e3 : ∀ j, j < 12 → Cond.eq (.elem (.static "VillageBoard" "LAST_CHOICE" "[I") (.int (Int32.ofNat j))) (.int (tLAST_CHOICE j)) ∈ flS := by decide +kernel
theorem fl_l3 : Cond.eq (.length (.static "VillageBoard" "LAST_CHOICE" "[I")) (.int (Int32.ofNat 12)) ∈ flS := by decide +kernel
theorem fl_a3 : Cond.arrayOf (.static "VillageBoard" "LAST_CHOICE" "[I") .int ∈ flS := by decide +kernel
theorem fl_e4 : ∀ j, j < 9 → Cond.eq (.elem (.static "VillageBoard" "WOOD_PRICE" "[I") (.int (Int32.ofNat j))) (.int (tWOOD_PRICE j)) ∈ flS := by decide +kernel
theorem fl_l4 : Cond.eq (.length (.static "VillageBoard" "WOOD_PRICE" "[I")) (.int (Int32.ofNat 9)) ∈ flS := by decide +kernel
theorem fl_a4 : Cond.arrayOf (.static "VillageBoard" "WOOD_PRICE" "[I") .int ∈ flS := by decide +kernel
theorem fl_e5 : ∀ j, j < 9 → Cond.eq (.elem (.static "VillageBoard" "CLAY_PRICE" "[I") (.int (Int32.ofNat j))) (.int (tCLAY_PRICE j)) ∈ flS := by decide +kernel
theorem fl_l5 : Cond.eq (.length (.static "VillageBoard" "CLAY_PRICE" "[I")) (.int (Int32.ofNat 9)) ∈ flS := by decide +kernel
theorem fl_a5 : Cond.arrayOf (.static "VillageBoard" "CLAY_PRICE" "[I") .int ∈ flS := by decide +kernel
theorem fl_e6 : ∀ j, j < 8 → Cond.eq (.elem (.static "VillageBoard" "BUILDING_POINTS" "[I") (.int (Int32.ofNat j))) (.int (tBUILDING_POINTS j)) ∈ flS := by decide +kernel
theorem fl_l6 : Cond.eq (.length (.static "VillageBoard" "BUILDING_POINTS" "[I")) (.int (Int32.ofNat 8)) ∈ flS := by decide +kernel
theorem fl_a6 : Cond.arrayOf (.static "VillageBoard" "BUILDING_POINTS" "[I") .int ∈ flS := by decide +kernel
theorem fl_u : Cond.isRef (.static Bundle.tN "UNASSIGNED_STACK" Bundle.steD) ∈ flS := by decide +kernel
theorem fl_s : Cond.isRef (.static Bundle.tN "SUPPRESSED_SENTINEL" Bundle.listD) ∈ flS := by decide +kernel
theorem fl_n1 : Cond.not (.castable "java/lang/IllegalStateException" "java/lang/IndexOutOfBoundsException") ∈ flS := by decide +kernel
theorem fl_n2 : Cond.not (.castable "java/lang/IllegalArgumentException" "java/lang/IndexOutOfBoundsException") ∈ flS := by decide +kernel
theorem vkR_of {s : State} {args : Array Value} {own tx : String} {k : Nat} (h : (Cond.stringRef own k tx).before args s = true) : ∃ sa, vk_R own k tx sa s := by
  have hcur : ∃ cur, s.vm.findClass own = some cur := by
    have h1 := h
    simp only [Cond.before, Cond.holds, Cond.value] at h1
    cases hc : s.vm.findClass own with
    | none => simp [hc] at h1
    | some cur => exact ⟨cur, rfl⟩
  obtain ⟨cur, hcur⟩ := hcur
  obtain ⟨k9, cf, i, a, -, -, -, -, -, he⟩ := Cond.stringRef_spec hcur h
  exact ⟨a, vk_R.of h he⟩
theorem lwG_tbl {w : Cond} (h : w ∈ lwG) : w ∈ lw_tbl := (List.mem_filter.mp h).1
theorem arr_of {s : State} {args : Array Value} {ty : FieldType} (h : (Cond.arrayClass ty).before args s = true) (hn : ∀ C, ty ≠ .object C) : ∃ cA, ArrOfT s cA ty ∧ va_RA s cA ty := by
  obtain ⟨c, k, comp, h1, h2, h3⟩ := Cond.arrayClass_spec h
  refine ⟨c, fun n z => ⟨fun k h => (by cases h), k, h2, comp, h3⟩, ?_⟩
  cases ty with
  | object C => exact absurd rfl (hn C)
  | _ => exact h1
theorem arrO_of {s : State} {C : String} (h : va_AO C s) : ∃ cA, ArrOfT s cA (.object C) ∧ va_RA s cA (.object C) := by
  obtain ⟨comp, c, k, h1, -, h3, h4, h5⟩ := Cond.arrayOver_spec h
  exact ⟨c, fun n z => ⟨fun k h => (by cases h), k, h3, comp, h4⟩, k, comp, h3, h4, h1, h5⟩
theorem arrA_of {s : State} {t : FieldType} (h : va_AOA t s) : ∃ cA, ArrOfT s cA (.array t) ∧ va_RA s cA (.array t) := by
  obtain ⟨comp, c, k, h1, -, h3, h4, h5⟩ := arrayOverA_spec h
  exact ⟨c, fun n z => ⟨fun k h => (by cases h), k, h3, comp, h4⟩, h5⟩
set_option maxRecDepth 100000 in
set_option maxHeartbeats 4000000 in
theorem ctx_of {s : State} {args : Array Value} (hts : ∀ w ∈ lw_tbl, w.before args s = true) (hgv : (Jvm.Cond.and given_1 narrow_1).before args s = true) : ∃ (D : va_G) (kc : Nat → ClassId) (tt : Nat → Nat), ∀ L : Lay, KS (D, kc, L, s.heap.size, tt) s ∧ KC (D, kc, L, s.heap.size, tt) s := by
  have hs := flat_of_before _ hgv
  have hg : ∀ w ∈ lwG, w.before args s = true := fun w h => hts w (lwG_tbl h)
  have hA : ∀ a : Nat, a < s.heap.size → ¬ s.heap.size ≤ a := fun a h => Nat.not_le.mpr h
  obtain ⟨c0, i0, hKn0⟩ := u_known (C := RX0) (T := TX0) (N := 10) (n := 10) hg inG0 (hg _ q1_25)
  obtain ⟨c1, i1, hKn1⟩ := u_known (C := RX1) (T := TX1) (N := 3) (n := 3) hg inG1 (hg _ q1_33)
  obtain ⟨c2, i2, hKn2⟩ := u_known (C := RX2) (T := TX2) (N := 7) (n := 7) hg inG2 (hg _ q1_50)
  obtain ⟨c3, i3, hKn3⟩ := u_known (C := RX3) (T := TX3) (N := 9) (n := 9) hg inG3 (hg _ q1_145)
  obtain ⟨c4, i4, hKn4⟩ := u_known (C := RX4) (T := TX4) (N := 3) (n := 3) hg inG4 (hg _ q1_125)
  obtain ⟨c5, i5, hKn5⟩ := u_known (C := RX5) (T := TX5) (N := 4) (n := 4) hg inG5 (hg _ q1_17)
  obtain ⟨c6, i6, hKn6⟩ := u_known (C := RX6) (T := TX6) (N := 10) (n := 10) hg inG6 (hg _ q4_18)
  have hAO1 : va_AO "VillageBoard$Player" s := va_AO.of (hts _ q1_31)
  have hAO2 : va_AO "VillageBoard$Game" s := va_AO.of (hts _ q1_131)
  have hAO3 : va_AOA .int s := (hts _ q1_155)
  obtain ⟨b0, hb0⟩ := arr_of (ty := .int) (hg _ q1_49) (fun C h => by cases h)
  obtain ⟨b1, hb1⟩ := arrO_of hAO1
  obtain ⟨b2, hb2⟩ := arrO_of hAO2
  obtain ⟨b3, hb3⟩ := arrA_of hAO3
  obtain ⟨b4, hb4⟩ := arr_of (ty := .long) (hg _ q5_126) (fun C h => by cases h)
  obtain ⟨t0, hT0⟩ := st1_of (f := tSUPPLY) (A := fun q => s.heap.size ≤ q) (by decide) (hts _ q1_200) (hts _ q1_201) (hts _ (lwG_tbl q1_1)) (hs _ fl_a0) (hs _ fl_l0) (fun j hj => hs _ (fl_e0 j hj)) hA
  obtain ⟨t1, hT1⟩ := st1_of (f := tPLACES) (A := fun q => s.heap.size ≤ q) (by decide) (hts _ q2_15) (hts _ q2_16) (hts _ (lwG_tbl q1_1)) (hs _ fl_a1) (hs _ fl_l1) (fun j hj => hs _ (fl_e1 j hj)) hA
  obtain ⟨t2, hT2⟩ := st1_of (f := tFIRST_CHOICE) (A := fun q => s.heap.size ≤ q) (by decide) (hts _ q2_17) (hts _ q2_18) (hts _ (lwG_tbl q1_1)) (hs _ fl_a2) (hs _ fl_l2) (fun j hj => hs _ (fl_e2 j hj)) hA
  obtain ⟨t3, hT3⟩ := st1_of (f := tLAST_CHOICE) (A := fun q => s.heap.size ≤ q) (by decide) (hts _ q2_19) (hts _ q2_20) (hts _ (lwG_tbl q1_1)) (hs _ fl_a3) (hs _ fl_l3) (fun j hj => hs _ (fl_e3 j hj)) hA
  obtain ⟨t4, hT4⟩ := st1_of (f := tWOOD_PRICE) (A := fun q => s.heap.size ≤ q) (by decide) (hts _ q2_36) (hts _ q2_37) (hts _ (lwG_tbl q1_1)) (hs _ fl_a4) (hs _ fl_l4) (fun j hj => hs _ (fl_e4 j hj)) hA
  obtain ⟨t5, hT5⟩ := st1_of (f := tCLAY_PRICE) (A := fun q => s.heap.size ≤ q) (by decide) (hts _ q2_38) (hts _ q2_39) (hts _ (lwG_tbl q1_1)) (hs _ fl_a5) (hs _ fl_l5) (fun j hj => hs _ (fl_e5 j hj)) hA
  obtain ⟨t6, hT6⟩ := st1_of (f := tBUILDING_POINTS) (A := fun q => s.heap.size ≤ q) (by decide) (hts _ q2_93) (hts _ q2_94) (hts _ (lwG_tbl q1_1)) (hs _ fl_a6) (hs _ fl_l6) (fun j hj => hs _ (fl_e6 j hj)) hA
  refine ⟨(fun k => if k = 0 then c0 else if k = 1 then c1 else if k = 2 then c2 else if k = 3 then c3 else if k = 4 then c4 else if k = 5 then c5 else c6, fun k => if k = 0 then i0 else if k = 1 then i1 else if k = 2 then i2 else if k = 3 then i3 else if k = 4 then i4 else if k = 5 then i5 else i6), fun k => if k = 0 then b0 else if k = 1 then b1 else if k = 2 then b2 else if k = 3 then b3 else b4, fun k => if k = 0 then t0 else if k = 1 then t1 else if k = 2 then t2 else if k = 3 then t3 else if k = 4 then t4 else if k = 5 then t5 else t6, fun L => ?_⟩
  have hK : va_K ((fun k => if k = 0 then c0 else if k = 1 then c1 else if k = 2 then c2 else if k = 3 then c3 else if k = 4 then c4 else if k = 5 then c5 else c6, fun k => if k = 0 then i0 else if k = 1 then i1 else if k = 2 then i2 else if k = 3 then i3 else if k = 4 then i4 else if k = 5 then i5 else i6) : va_G) vwCl [(b0, .int), (b1, .object "VillageBoard$Player"), (b2, .object "VillageBoard$Game"), (b3, .array .int), (b4, .long)] s := by
    refine ⟨fun k q hq => ?_, fun k q hq => ?_⟩
    · match k, hq with
      | 0, hq => cases hq; exact hKn0
      | 1, hq => cases hq; exact hKn1
      | 2, hq => cases hq; exact hKn2
      | 3, hq => cases hq; exact hKn3
      | 4, hq => cases hq; exact hKn4
      | 5, hq => cases hq; exact hKn5
      | 6, hq => cases hq; exact hKn6
      | k + 7, hq => simp [vwCl] at hq
    · match k, hq with
      | 0, hq => cases hq; exact hb0
      | 1, hq => cases hq; exact hb1
      | 2, hq => cases hq; exact hb2
      | 3, hq => cases hq; exact hb3
      | 4, hq => cases hq; exact hb4
      | k + 5, hq => simp at hq
  have hX : KX (fun q => s.heap.size ≤ q) s := ⟨vx_Zqof (hts _ q3_2) (hg _ q1_8) (hs _ fl_u) hA, vx_Zqof (hts _ q3_4) (hg _ q1_8) (hs _ fl_s) hA, vkR_of (hts _ q3_16), vkR_of (hts _ q3_69), vkR_of (hts _ q3_100),
    ⟨va_Nw.of rfl (hts _ q2_219), va_Nw.of rfl (hts _ q2_221), va_Nw.of rfl (hts _ q2_223)⟩, ⟨va_Nw.of rfl (hts _ q2_217), va_Nw.of rfl (hts _ q3_62), va_Nw.of rfl (hts _ q3_93)⟩, va_Nc.of (hs _ fl_n1), va_Nc.of (hs _ fl_n2)⟩
  exact ⟨⟨hK, ⟨hT0, hT1, hT2, hT3, hT4, hT5, hT6⟩, Nat.le_refl _, hX⟩, hK, hAO1, hAO2, hAO3, va_Nw.of rfl (hts _ q1_34), va_Nw.of rfl (hts _ q1_51), va_Nw.of rfl (hts _ q1_153)⟩
/-- a list of shapes lies from an address on -/
def LayAt (X : Cx) (a : Nat) (l : List Sh) : Prop := ∀ i, i < l.length → xL X (a + i) = l[i]?
theorem LayAt.cut {X : Cx} {a d : Nat} {l l2 : List Sh} (h : LayAt X a l) (hs : ∀ i, i < l2.length → l[d + i]? = l2[i]?) (hd : d + l2.length ≤ l.length) : LayAt X (a + d) l2 := fun i hi => by rw [← hs i hi, Nat.add_assoc]; exact h (d + i) (by omega)
theorem sub_Gm_Hi_5 (X : Cx) (a : Nat) : ∀ i, i < 2 → (shsGm X a)[5 + i]? = (shsHi X (a + 5))[i]? := fun i hi => match i, hi with | 0, _ => rfl | 1, _ => rfl | i + 2, hi => absurd hi (by omega)
theorem sub_Gm_Pl_7 (X : Cx) (a : Nat) : ∀ i, i < 2 → (shsGm X a)[7 + i]? = (shsPl X (a + 7))[i]? := fun i hi => match i, hi with | 0, _ => rfl | 1, _ => rfl | i + 2, hi => absurd hi (by omega)
theorem sub_Gm_Pl_9 (X : Cx) (a : Nat) : ∀ i, i < 2 → (shsGm X a)[9 + i]? = (shsPl X (a + 9))[i]? := fun i hi => match i, hi with | 0, _ => rfl | 1, _ => rfl | i + 2, hi => absurd hi (by omega)
theorem sub_Gm_Pl_11 (X : Cx) (a : Nat) : ∀ i, i < 2 → (shsGm X a)[11 + i]? = (shsPl X (a + 11))[i]? := fun i hi => match i, hi with | 0, _ => rfl | 1, _ => rfl | i + 2, hi => absurd hi (by omega)
theorem sub_Gm_Pl_13 (X : Cx) (a : Nat) : ∀ i, i < 2 → (shsGm X a)[13 + i]? = (shsPl X (a + 13))[i]? := fun i hi => match i, hi with | 0, _ => rfl | 1, _ => rfl | i + 2, hi => absurd hi (by omega)
theorem sub_Un_Gm_2 (X : Cx) (a : Nat) : ∀ i, i < 15 → (shsUn X a)[2 + i]? = (shsGm X (a + 2))[i]? := fun i hi => match i, hi with | 0, _ => rfl | 1, _ => rfl | 2, _ => rfl | 3, _ => rfl | 4, _ => rfl | 5, _ => rfl | 6, _ => rfl | 7, _ => rfl | 8, _ => rfl | 9, _ => rfl | 10, _ => rfl | 11, _ => rfl | 12, _ => rfl | 13, _ => rfl | 14, _ => rfl | i + 15, hi => absurd hi (by omega)
theorem sub_Un_Gm_17 (X : Cx) (a : Nat) : ∀ i, i < 15 → (shsUn X a)[17 + i]? = (shsGm X (a + 17))[i]? := fun i hi => match i, hi with | 0, _ => rfl | 1, _ => rfl | 2, _ => rfl | 3, _ => rfl | 4, _ => rfl | 5, _ => rfl | 6, _ => rfl | 7, _ => rfl | 8, _ => rfl | 9, _ => rfl | 10, _ => rfl | 11, _ => rfl | 12, _ => rfl | 13, _ => rfl | 14, _ => rfl | i + 15, hi => absurd hi (by omega)
theorem sub_Un_Gm_32 (X : Cx) (a : Nat) : ∀ i, i < 15 → (shsUn X a)[32 + i]? = (shsGm X (a + 32))[i]? := fun i hi => match i, hi with | 0, _ => rfl | 1, _ => rfl | 2, _ => rfl | 3, _ => rfl | 4, _ => rfl | 5, _ => rfl | 6, _ => rfl | 7, _ => rfl | 8, _ => rfl | 9, _ => rfl | 10, _ => rfl | 11, _ => rfl | 12, _ => rfl | 13, _ => rfl | 14, _ => rfl | i + 15, hi => absurd hi (by omega)
theorem sub_Un_Gm_47 (X : Cx) (a : Nat) : ∀ i, i < 15 → (shsUn X a)[47 + i]? = (shsGm X (a + 47))[i]? := fun i hi => match i, hi with | 0, _ => rfl | 1, _ => rfl | 2, _ => rfl | 3, _ => rfl | 4, _ => rfl | 5, _ => rfl | 6, _ => rfl | 7, _ => rfl | 8, _ => rfl | 9, _ => rfl | 10, _ => rfl | 11, _ => rfl | 12, _ => rfl | 13, _ => rfl | 14, _ => rfl | i + 15, hi => absurd hi (by omega)
theorem sub_Se_Gm_1 (X : Cx) (a : Nat) : ∀ i, i < 15 → (shsSe X a)[1 + i]? = (shsGm X (a + 1))[i]? := fun i hi => match i, hi with | 0, _ => rfl | 1, _ => rfl | 2, _ => rfl | 3, _ => rfl | 4, _ => rfl | 5, _ => rfl | 6, _ => rfl | 7, _ => rfl | 8, _ => rfl | 9, _ => rfl | 10, _ => rfl | 11, _ => rfl | 12, _ => rfl | 13, _ => rfl | 14, _ => rfl | i + 15, hi => absurd hi (by omega)
theorem sub_Se_Pl_17 (X : Cx) (a : Nat) : ∀ i, i < 2 → (shsSe X a)[17 + i]? = (shsPl X (a + 17))[i]? := fun i hi => match i, hi with | 0, _ => rfl | 1, _ => rfl | i + 2, hi => absurd hi (by omega)
theorem sub_Se_Pl_25 (X : Cx) (a : Nat) : ∀ i, i < 2 → (shsSe X a)[25 + i]? = (shsPl X (a + 25))[i]? := fun i hi => match i, hi with | 0, _ => rfl | 1, _ => rfl | i + 2, hi => absurd hi (by omega)
theorem sub_Se_Pl_27 (X : Cx) (a : Nat) : ∀ i, i < 2 → (shsSe X a)[27 + i]? = (shsPl X (a + 27))[i]? := fun i hi => match i, hi with | 0, _ => rfl | 1, _ => rfl | i + 2, hi => absurd hi (by omega)
theorem sub_Se_Pl_29 (X : Cx) (a : Nat) : ∀ i, i < 2 → (shsSe X a)[29 + i]? = (shsPl X (a + 29))[i]? := fun i hi => match i, hi with | 0, _ => rfl | 1, _ => rfl | i + 2, hi => absurd hi (by omega)
theorem sub_Bd_Gm_1 (X : Cx) (a : Nat) : ∀ i, i < 15 → (shsBd X a)[1 + i]? = (shsGm X (a + 1))[i]? := fun i hi => match i, hi with | 0, _ => rfl | 1, _ => rfl | 2, _ => rfl | 3, _ => rfl | 4, _ => rfl | 5, _ => rfl | 6, _ => rfl | 7, _ => rfl | 8, _ => rfl | 9, _ => rfl | 10, _ => rfl | 11, _ => rfl | 12, _ => rfl | 13, _ => rfl | 14, _ => rfl | i + 15, hi => absurd hi (by omega)
theorem sub_Bd_Un_16 (X : Cx) (a : Nat) : ∀ i, i < 62 → (shsBd X a)[16 + i]? = (shsUn X (a + 16))[i]? := fun i hi => match i, hi with | 0, _ => rfl | 1, _ => rfl | 2, _ => rfl | 3, _ => rfl | 4, _ => rfl | 5, _ => rfl | 6, _ => rfl | 7, _ => rfl | 8, _ => rfl | 9, _ => rfl | 10, _ => rfl | 11, _ => rfl | 12, _ => rfl | 13, _ => rfl | 14, _ => rfl | 15, _ => rfl | 16, _ => rfl | 17, _ => rfl | 18, _ => rfl | 19, _ => rfl | 20, _ => rfl | 21, _ => rfl | 22, _ => rfl | 23, _ => rfl | 24, _ => rfl | 25, _ => rfl | 26, _ => rfl | 27, _ => rfl | 28, _ => rfl | 29, _ => rfl | 30, _ => rfl | 31, _ => rfl | 32, _ => rfl | 33, _ => rfl | 34, _ => rfl | 35, _ => rfl | 36, _ => rfl | 37, _ => rfl | 38, _ => rfl | 39, _ => rfl | 40, _ => rfl | 41, _ => rfl | 42, _ => rfl | 43, _ => rfl | 44, _ => rfl | 45, _ => rfl | 46, _ => rfl | 47, _ => rfl | 48, _ => rfl | 49, _ => rfl | 50, _ => rfl | 51, _ => rfl | 52, _ => rfl | 53, _ => rfl | 54, _ => rfl | 55, _ => rfl | 56, _ => rfl | 57, _ => rfl | 58, _ => rfl | 59, _ => rfl | 60, _ => rfl | 61, _ => rfl | i + 62, hi => absurd hi (by omega)
theorem sub_Bd_Se_78 (X : Cx) (a : Nat) : ∀ i, i < 31 → (shsBd X a)[78 + i]? = (shsSe X (a + 78))[i]? := fun i hi => match i, hi with | 0, _ => rfl | 1, _ => rfl | 2, _ => rfl | 3, _ => rfl | 4, _ => rfl | 5, _ => rfl | 6, _ => rfl | 7, _ => rfl | 8, _ => rfl | 9, _ => rfl | 10, _ => rfl | 11, _ => rfl | 12, _ => rfl | 13, _ => rfl | 14, _ => rfl | 15, _ => rfl | 16, _ => rfl | 17, _ => rfl | 18, _ => rfl | 19, _ => rfl | 20, _ => rfl | 21, _ => rfl | 22, _ => rfl | 23, _ => rfl | 24, _ => rfl | 25, _ => rfl | 26, _ => rfl | 27, _ => rfl | 28, _ => rfl | 29, _ => rfl | 30, _ => rfl | i + 31, hi => absurd hi (by omega)
theorem isPl_of {X : Cx} {a : Nat} (h : LayAt X a (shsPl X a)) : IsPl X a := ⟨h 0 (Nat.le_of_ble_eq_true rfl), h 1 (Nat.le_of_ble_eq_true rfl)⟩
theorem isHi_of {X : Cx} {a : Nat} (h : LayAt X a (shsHi X a)) : IsHi X a := ⟨h 0 (Nat.le_of_ble_eq_true rfl), h 1 (Nat.le_of_ble_eq_true rfl)⟩
theorem isGm_of {X : Cx} {a : Nat} (h : LayAt X a (shsGm X a)) : IsGm X a := ⟨h 0 (Nat.le_of_ble_eq_true rfl), h 1 (Nat.le_of_ble_eq_true rfl), h 2 (Nat.le_of_ble_eq_true rfl), h 3 (Nat.le_of_ble_eq_true rfl), h 4 (Nat.le_of_ble_eq_true rfl), isHi_of (a := a + 5) (h.cut (d := 5) (l2 := shsHi X (a + 5)) (sub_Gm_Hi_5 X a) (Nat.le_of_ble_eq_true rfl)), fun k hk => match k, hk with | 0, _ => isPl_of (a := a + 7) (h.cut (d := 7) (l2 := shsPl X (a + 7)) (sub_Gm_Pl_7 X a) (Nat.le_of_ble_eq_true rfl)) | 1, _ => isPl_of (a := a + 9) (h.cut (d := 9) (l2 := shsPl X (a + 9)) (sub_Gm_Pl_9 X a) (Nat.le_of_ble_eq_true rfl)) | 2, _ => isPl_of (a := a + 11) (h.cut (d := 11) (l2 := shsPl X (a + 11)) (sub_Gm_Pl_11 X a) (Nat.le_of_ble_eq_true rfl)) | 3, _ => isPl_of (a := a + 13) (h.cut (d := 13) (l2 := shsPl X (a + 13)) (sub_Gm_Pl_13 X a) (Nat.le_of_ble_eq_true rfl)) | k + 4, hk => absurd hk (by omega)⟩
theorem isUn_of {X : Cx} {a : Nat} (h : LayAt X a (shsUn X a)) : IsUn X a := ⟨h 0 (Nat.le_of_ble_eq_true rfl), h 1 (Nat.le_of_ble_eq_true rfl), fun k hk => match k, hk with | 0, _ => isGm_of (a := a + 2) (h.cut (d := 2) (l2 := shsGm X (a + 2)) (sub_Un_Gm_2 X a) (Nat.le_of_ble_eq_true rfl)) | 1, _ => isGm_of (a := a + 17) (h.cut (d := 17) (l2 := shsGm X (a + 17)) (sub_Un_Gm_17 X a) (Nat.le_of_ble_eq_true rfl)) | 2, _ => isGm_of (a := a + 32) (h.cut (d := 32) (l2 := shsGm X (a + 32)) (sub_Un_Gm_32 X a) (Nat.le_of_ble_eq_true rfl)) | 3, _ => isGm_of (a := a + 47) (h.cut (d := 47) (l2 := shsGm X (a + 47)) (sub_Un_Gm_47 X a) (Nat.le_of_ble_eq_true rfl)) | k + 4, hk => absurd hk (by omega)⟩
theorem isSe_of {X : Cx} {a : Nat} (h : LayAt X a (shsSe X a)) : IsSe X a := ⟨h 0 (Nat.le_of_ble_eq_true rfl), isGm_of (a := a + 1) (h.cut (d := 1) (l2 := shsGm X (a + 1)) (sub_Se_Gm_1 X a) (Nat.le_of_ble_eq_true rfl)), h 16 (Nat.le_of_ble_eq_true rfl), isPl_of (a := a + 17) (h.cut (d := 17) (l2 := shsPl X (a + 17)) (sub_Se_Pl_17 X a) (Nat.le_of_ble_eq_true rfl)), h 19 (Nat.le_of_ble_eq_true rfl), fun k hk => match k, hk with | 0, _ => h 20 (Nat.le_of_ble_eq_true rfl) | 1, _ => h 21 (Nat.le_of_ble_eq_true rfl) | 2, _ => h 22 (Nat.le_of_ble_eq_true rfl) | k + 3, hk => absurd hk (by omega), h 23 (Nat.le_of_ble_eq_true rfl), h 24 (Nat.le_of_ble_eq_true rfl), fun k hk => match k, hk with | 0, _ => isPl_of (a := a + 25) (h.cut (d := 25) (l2 := shsPl X (a + 25)) (sub_Se_Pl_25 X a) (Nat.le_of_ble_eq_true rfl)) | 1, _ => isPl_of (a := a + 27) (h.cut (d := 27) (l2 := shsPl X (a + 27)) (sub_Se_Pl_27 X a) (Nat.le_of_ble_eq_true rfl)) | 2, _ => isPl_of (a := a + 29) (h.cut (d := 29) (l2 := shsPl X (a + 29)) (sub_Se_Pl_29 X a) (Nat.le_of_ble_eq_true rfl)) | k + 3, hk => absurd hk (by omega)⟩
theorem isBd_of {X : Cx} {a : Nat} (h : LayAt X a (shsBd X a)) : IsBd X a := ⟨h 0 (Nat.le_of_ble_eq_true rfl), isGm_of (a := a + 1) (h.cut (d := 1) (l2 := shsGm X (a + 1)) (sub_Bd_Gm_1 X a) (Nat.le_of_ble_eq_true rfl)), isUn_of (a := a + 16) (h.cut (d := 16) (l2 := shsUn X (a + 16)) (sub_Bd_Un_16 X a) (Nat.le_of_ble_eq_true rfl)), isSe_of (a := a + 78) (h.cut (d := 78) (l2 := shsSe X (a + 78)) (sub_Bd_Se_78 X a) (Nat.le_of_ble_eq_true rfl)), h 109 (Nat.le_of_ble_eq_true rfl)⟩
theorem isMo_of {X : Cx} {a : Nat} (h : LayAt X a (shsMo X a)) : IsMo X a := ⟨h 0 (Nat.le_of_ble_eq_true rfl), h 1 (Nat.le_of_ble_eq_true rfl), h 2 (Nat.le_of_ble_eq_true rfl), h 3 (Nat.le_of_ble_eq_true rfl), h 4 (Nat.le_of_ble_eq_true rfl), h 5 (Nat.le_of_ble_eq_true rfl)⟩
theorem shsBd_len (X : Cx) (a : Nat) : (shsBd X a).length = 110 := rfl
theorem shsMo_len (X : Cx) (a : Nat) : (shsMo X a).length = 6 := rfl
/-- shapes from an address on, none elsewhere -/
def lay1 (l : List Sh) (a : Nat) : Lay := fun q => if a ≤ q then l[q - a]? else none
theorem lay1_at {l : List Sh} {a i : Nat} : lay1 l a (a + i) = l[i]? := by
  unfold lay1
  rw [if_pos (Nat.le_add_right _ _), Nat.add_sub_cancel_left]
theorem lay1_of {l : List Sh} {a q : Nat} {f : Sh} (h : lay1 l a q = some f) : a ≤ q ∧ l[q - a]? = some f := by
  unfold lay1 at h
  split at h
  · exact ⟨by assumption, h⟩
  · cases h
def lay3 (l1 l2 l3 : List Sh) (a1 a2 a3 : Nat) : Lay := fun q => if q < a2 then lay1 l1 a1 q else if q < a3 then lay1 l2 a2 q else lay1 l3 a3 q
/-- the heap behind the three constructions -/
def hIni (z mA oA : Nat) : HH := fun q => if q < mA then fX0_begin (z + 1) 2 6 (fun _ _ => 0) q else if q < oA then fX6_begins mA 2 6 (fun _ _ => 0) q else fun _ => 0
/-- WHAT IS LEFT: a statement on numbers alone -/
def PureOK : Prop := ∀ (z mA oA L : Nat) (xs : Nat → Int32), z + 110 ≤ mA → mA + 6 ≤ oA → L ≤ 2048 →
  sX0_begin (z + 1) 2 6 (fun _ _ => 0) ∧ sX6_begins mA 2 6 (fun _ _ => 0) ∧ sL_law_c23 z mA oA L xs 513 0 (hIni z mA oA)
