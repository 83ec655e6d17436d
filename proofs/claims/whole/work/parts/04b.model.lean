/-- more rounds than any search needs -/
def fuelS : Nat := 100000000
-- VillageBoardModel.placesOf(I)I
abbrev rmX6_placesOf : Room := ({ frames := 0, cells := 0, slots := 0, locals := 0 } : Room)
abbrev vX6_placesOf : List Cond := Cond.code yX6_placesOf cX6_placesOf 1 (some .int) :: lwG
theorem wX6_placesOf {R : Room} {s : State} {args : Array Value} {idx : Nat} (hg : ∀ w ∈ lwG, w.before args s = true) (hl : Cond.methodLink RX6 idx yX6_placesOf ∈ lwG) (hR : rmX6_placesOf.frames + 1 ≤ R.frames ∧ 8 + (1 + 11) + rmX6_placesOf.locals ≤ R.locals) : CallB R s args RX6 idx yX6_placesOf cX6_placesOf 1 (some .int) vX6_placesOf rmX6_placesOf 0 0 1 ∧ (Cond.static yX6_placesOf).before args s = true := cwS 1 hg (gS hl q4_119 q1_7 q4_120) rfl rfl rfl (by decide +kernel) hR
def fX6_placesOf_c17 : Int32 := 2
set_option maxRecDepth 100000 in
set_option maxHeartbeats 4000000 in
theorem xX6_placesOf_c17 {p : Program} {l : Launch} {e : Env} {s : State} {m : MethodId} {args : Array Value} {below : List Frame} {meth : Method} {c : Code} {X : Cx} (C0 : CT p s m args meth c X cX6_placesOf 1 (some .int) RX6) (h : HH) (H : Heap) (locs : List Loc) (ls : Array Slot) (res : Int32) (hl : lv_has ls 1 []) (hW : WH X h H) (hS : va_S (xA X) s.heap H locs) (hres : fX6_placesOf_c17 = res) : W p l e rmX6_placesOf s m args below meth c H locs 0 0 (MQ below (QI X res h) args s 0 0 (xA X)) (F0 m 17 ls []) := by
  obtain ⟨hx, hb, hr, hlk, hml, hown, hts, hK⟩ := id C0
  refine lv_iconst (v := 2) hx hb dX6_placesOf_17 (by decide) ?_
  refine lv_goto (tgt := 22) hx hb dX6_placesOf_18 (by decide) ?_
  subst hres
  exact kr_i hx hb hr hlk hK hW hS dX6_placesOf_22
def fX6_placesOf_c0 (x0 : Int32) : Int32 := if x0 = 4 then fX6_placesOf_c17 else (if x0 = 9 then fX6_placesOf_c17 else (if x0 = 11 then fX6_placesOf_c17 else 1))
set_option maxRecDepth 100000 in
set_option maxHeartbeats 4000000 in
theorem xX6_placesOf_c0 {p : Program} {l : Launch} {e : Env} {s : State} {m : MethodId} {args : Array Value} {below : List Frame} {meth : Method} {c : Code} {X : Cx} (C0 : CT p s m args meth c X cX6_placesOf 1 (some .int) RX6) (x0 : Int32) (h : HH) (H : Heap) (locs : List Loc) (ls : Array Slot) (res : Int32) (hl : lv_has ls 1 [(0, .int x0)]) (hW : WH X h H) (hS : va_S (xA X) s.heap H locs) (hres : fX6_placesOf_c0 x0 = res) : W p l e rmX6_placesOf s m args below meth c H locs 0 0 (MQ below (QI X res h) args s 0 0 (xA X)) (F0 m 0 ls []) := by
  obtain ⟨hx, hb, hr, hlk, hml, hown, hts, hK⟩ := id C0
  refine lv_iload_n hx hb dX6_placesOf_0 rfl (lv_at hl 0 rfl) ?_
  refine lv_iconst (v := 4) hx hb dX6_placesOf_1 (by decide) ?_
  refine lv_icmp_eq (tgt := 17) hx hb dX6_placesOf_2 (by decide) (fun c1 => ?_) (fun c1 => ?_)
  · have hres := (if_pos c1).symm.trans hres
    exact xX6_placesOf_c17 C0 h _ _ _ _ (lv_sub hl [] rfl) hW hS hres
  · have hres := (if_neg c1).symm.trans hres
    refine lv_iload_n hx hb dX6_placesOf_5 rfl (lv_at hl 0 rfl) ?_
    refine lv_bipush (v := 9) hx hb dX6_placesOf_6 (by decide) ?_
    refine lv_icmp_eq (tgt := 17) hx hb dX6_placesOf_8 (by decide) (fun c2 => ?_) (fun c2 => ?_)
    · have hres := (if_pos c2).symm.trans hres
      exact xX6_placesOf_c17 C0 h _ _ _ _ (lv_sub hl [] rfl) hW hS hres
    · have hres := (if_neg c2).symm.trans hres
      refine lv_iload_n hx hb dX6_placesOf_11 rfl (lv_at hl 0 rfl) ?_
      refine lv_bipush (v := 11) hx hb dX6_placesOf_12 (by decide) ?_
      refine lv_icmp_ne (tgt := 21) hx hb dX6_placesOf_14 (by decide) (fun c3 => ?_) (fun c3 => ?_)
      · have hres := (if_neg c3).symm.trans hres
        refine lv_iconst (v := 1) hx hb dX6_placesOf_21 (by decide) ?_
        subst hres
        exact kr_i hx hb hr hlk hK hW hS dX6_placesOf_22
      · have hres := (if_pos c3).symm.trans hres
        exact xX6_placesOf_c17 C0 h _ _ _ _ (lv_sub hl [] rfl) hW hS hres
def fX6_placesOf (x0 : Int32) : Int32 := fX6_placesOf_c0 x0
set_option maxRecDepth 100000 in
set_option maxHeartbeats 4000000 in
theorem kX6_placesOf (l : Launch) (X : Cx) (h : HH) (x0 : Int32) : Met l yX6_placesOf vX6_placesOf rmX6_placesOf (va_Pc [.int x0] (fun U => WS X h U)) (QI X (fX6_placesOf x0) h) 0 0 (xA X) := by
  refine Met.ofW (cc := cX6_placesOf) (maxL := 1) (ret := some .int) (by decide) rfl ?_
  intro p e s m args below meth c s₁ B hml hv
  obtain ⟨rfl, hW, hK⟩ := hv
  have hl := lv_entry ([.int x0]) (n := 1) (Nat.le_of_ble_eq_true rfl)
  rw [lg_entry_eq]
  generalize (lg_sl ([.int x0]) ++ List.replicate (1 - (lg_sl ([.int x0])).length) Slot.unset).toArray = ls at hl ⊢
  have hl : lv_has ls 1 [(0, .int x0)] := hl
  exact xX6_placesOf_c0 ⟨B.exec, B.bytes, B.returns, B.notSynchronized, hml, findClass_of_methodNamed B.named, fun w hw => atoms_spec (ws := vX6_placesOf) B.pre w (List.mem_cons_of_mem _ hw), hK⟩ x0 h _ _ ls _ (lv_sub hl [0] rfl) hW va_S.rf rfl
-- VillageBoardModel.isChoice(II)Z
abbrev rmX6_isChoice : Room := ({ frames := 1, cells := 0, slots := 0, locals := 22 } : Room)
abbrev vX6_isChoice : List Cond := Cond.code yX6_isChoice cX6_isChoice 2 (some .boolean) :: lwG
theorem wX6_isChoice {R : Room} {s : State} {args : Array Value} {idx : Nat} (hg : ∀ w ∈ lwG, w.before args s = true) (hl : Cond.methodLink RX6 idx yX6_isChoice ∈ lwG) (hR : rmX6_isChoice.frames + 1 ≤ R.frames ∧ 8 + (2 + 11) + rmX6_isChoice.locals ≤ R.locals) : CallB R s args RX6 idx yX6_isChoice cX6_isChoice 2 (some .boolean) vX6_isChoice rmX6_isChoice 0 0 2 ∧ (Cond.static yX6_isChoice).before args s = true := cwS 2 hg (gS hl q4_122 q1_7 q4_123) rfl rfl rfl (by decide +kernel) hR
def fX6_isChoice_c72 (x1 : Int32) : Bool := if x1 = 0 then true else false
set_option maxRecDepth 100000 in
set_option maxHeartbeats 4000000 in
theorem xX6_isChoice_c72 {p : Program} {l : Launch} {e : Env} {s : State} {m : MethodId} {args : Array Value} {below : List Frame} {meth : Method} {c : Code} {X : Cx} (C0 : CT p s m args meth c X cX6_isChoice 2 (some .boolean) RX6) (x1 : Int32) (h : HH) (H : Heap) (locs : List Loc) (ls : Array Slot) (res : Bool) (hl : lv_has ls 2 [(1, .int x1)]) (hW : WH X h H) (hS : va_S (xA X) s.heap H locs) (hres : fX6_isChoice_c72 x1 = res) : W p l e rmX6_isChoice s m args below meth c H locs 0 0 (MQ below (QI X (bI res) h) args s 0 0 (xA X)) (F0 m 72 ls []) := by
  obtain ⟨hx, hb, hr, hlk, hml, hown, hts, hK⟩ := id C0
  refine lv_iload_n hx hb dX6_isChoice_72 rfl (lv_at hl 0 rfl) ?_
  refine lv_if_ne (tgt := 80) hx hb dX6_isChoice_73 (by decide) (fun c4 => ?_) (fun c4 => ?_)
  · have hres := (if_neg c4).symm.trans hres
    refine lv_iconst (v := 0) hx hb dX6_isChoice_80 (by decide) ?_
    subst hres
    exact kr_z (v := false) hx hb hr hlk hK hW hS dX6_isChoice_81
  · have hres := (if_pos c4).symm.trans hres
    refine lv_iconst (v := 1) hx hb dX6_isChoice_76 (by decide) ?_
    refine lv_goto (tgt := 81) hx hb dX6_isChoice_77 (by decide) ?_
    subst hres
    exact kr_z (v := true) hx hb hr hlk hK hW hS dX6_isChoice_81
def fX6_isChoice_c0 (x0 : Int32) (x1 : Int32) : Bool := if x0 = 8 then (fX6_within x1 1 3) else (if x0 = 9 then (fX6_within x1 0 7) else (if x0 = 10 then (fX6_isChoice_c72 x1) else (if x0 = 11 then (if (bI (fX6_within x1 0 24)) = 0 then false else (if (x1 / 5) = (jrem x1 5) then false else true)) else (fX6_isChoice_c72 x1))))
set_option maxRecDepth 100000 in
set_option maxHeartbeats 4000000 in
theorem xX6_isChoice_c0 {p : Program} {l : Launch} {e : Env} {s : State} {m : MethodId} {args : Array Value} {below : List Frame} {meth : Method} {c : Code} {X : Cx} (C0 : CT p s m args meth c X cX6_isChoice 2 (some .boolean) RX6) (x0 : Int32) (x1 : Int32) (h : HH) (H : Heap) (locs : List Loc) (ls : Array Slot) (res : Bool) (hl : lv_has ls 2 [(0, .int x0), (1, .int x1)]) (hW : WH X h H) (hS : va_S (xA X) s.heap H locs) (hres : fX6_isChoice_c0 x0 x1 = res) : W p l e rmX6_isChoice s m args below meth c H locs 0 0 (MQ below (QI X (bI res) h) args s 0 0 (xA X)) (F0 m 0 ls []) := by
  obtain ⟨hx, hb, hr, hlk, hml, hown, hts, hK⟩ := id C0
  refine lv_iload_n hx hb dX6_isChoice_0 rfl (lv_at hl 0 rfl) ?_
  by_cases c1 : x0 = 8
  · have hres := (if_pos c1).symm.trans hres
    refine ksw_in (tgt := 32) hx hb 8 c1 dX6_isChoice_1 (by decide) (by decide) rfl (by decide) ?_
    refine lv_iload_n hx hb dX6_isChoice_32 rfl (lv_at hl 1 rfl) ?_
    refine lv_iconst (v := 1) hx hb dX6_isChoice_33 (by decide) ?_
    refine lv_iconst (v := 3) hx hb dX6_isChoice_34 (by decide) ?_
    refine kS_i (As := [.int x1, .int 1, .int 3]) (rest := []) ⟨hx, hb, hml, hown, hts⟩ (kX6_within l X h x1 1 3) (wX6_within hts q4_96 ⟨Nat.le_of_ble_eq_true rfl, Nat.le_of_ble_eq_true rfl⟩) hK hW hS rfl hl.1 rfl (Nat.le_of_ble_eq_true rfl) dX6_isChoice_35 ⟨Nat.zero_le _, Nat.zero_le _⟩ (fun H locs hW hS => ?_)
    subst hres
    exact kr_z (v := fX6_within x1 1 3) hx hb hr hlk hK hW hS dX6_isChoice_38
  · have hres := (if_neg c1).symm.trans hres
    by_cases c2 : x0 = 9
    · have hres := (if_pos c2).symm.trans hres
      refine ksw_in (tgt := 39) hx hb 9 c2 dX6_isChoice_1 (by decide) (by decide) rfl (by decide) ?_
      refine lv_iload_n hx hb dX6_isChoice_39 rfl (lv_at hl 1 rfl) ?_
      refine lv_iconst (v := 0) hx hb dX6_isChoice_40 (by decide) ?_
      refine lv_bipush (v := 7) hx hb dX6_isChoice_41 (by decide) ?_
      refine kS_i (As := [.int x1, .int 0, .int 7]) (rest := []) ⟨hx, hb, hml, hown, hts⟩ (kX6_within l X h x1 0 7) (wX6_within hts q4_96 ⟨Nat.le_of_ble_eq_true rfl, Nat.le_of_ble_eq_true rfl⟩) hK hW hS rfl hl.1 rfl (Nat.le_of_ble_eq_true rfl) dX6_isChoice_43 ⟨Nat.zero_le _, Nat.zero_le _⟩ (fun H locs hW hS => ?_)
      subst hres
      exact kr_z (v := fX6_within x1 0 7) hx hb hr hlk hK hW hS dX6_isChoice_46
    · have hres := (if_neg c2).symm.trans hres
      by_cases c3 : x0 = 10
      · have hres := (if_pos c3).symm.trans hres
        refine ksw_in (tgt := 72) hx hb 10 c3 dX6_isChoice_1 (by decide) (by decide) rfl (by decide) ?_
        exact xX6_isChoice_c72 C0 x1 h _ _ _ _ (lv_sub hl [1] rfl) hW hS hres
      · have hres := (if_neg c3).symm.trans hres
        by_cases c5 : x0 = 11
        · have hres := (if_pos c5).symm.trans hres
          refine ksw_in (tgt := 47) hx hb 11 c5 dX6_isChoice_1 (by decide) (by decide) rfl (by decide) ?_
          refine lv_iload_n hx hb dX6_isChoice_47 rfl (lv_at hl 1 rfl) ?_
          refine lv_iconst (v := 0) hx hb dX6_isChoice_48 (by decide) ?_
          refine lv_bipush (v := 24) hx hb dX6_isChoice_49 (by decide) ?_
          refine kS_i (As := [.int x1, .int 0, .int 24]) (rest := []) ⟨hx, hb, hml, hown, hts⟩ (kX6_within l X h x1 0 24) (wX6_within hts q4_96 ⟨Nat.le_of_ble_eq_true rfl, Nat.le_of_ble_eq_true rfl⟩) hK hW hS rfl hl.1 rfl (Nat.le_of_ble_eq_true rfl) dX6_isChoice_51 ⟨Nat.zero_le _, Nat.zero_le _⟩ (fun H locs hW hS => ?_)
          refine lv_if_eq (tgt := 70) hx hb dX6_isChoice_54 (by decide) (fun c6 => ?_) (fun c6 => ?_)
          · have hres := (if_pos c6).symm.trans hres
            refine lv_iconst (v := 0) hx hb dX6_isChoice_70 (by decide) ?_
            subst hres
            exact kr_z (v := false) hx hb hr hlk hK hW hS dX6_isChoice_71
          · have hres := (if_neg c6).symm.trans hres
            refine lv_iload_n hx hb dX6_isChoice_57 rfl (lv_at hl 1 rfl) ?_
            refine lv_iconst (v := 5) hx hb dX6_isChoice_58 (by decide) ?_
            refine lv_idiv hx hb dX6_isChoice_59 (by decide) ?_
            refine lv_iload_n hx hb dX6_isChoice_60 rfl (lv_at hl 1 rfl) ?_
            refine lv_iconst (v := 5) hx hb dX6_isChoice_61 (by decide) ?_
            refine kb_irem hx hb dX6_isChoice_62 (by decide) ?_
            refine lv_icmp_eq (tgt := 70) hx hb dX6_isChoice_63 (by decide) (fun c7 => ?_) (fun c7 => ?_)
            · have hres := (if_pos c7).symm.trans hres
              refine lv_iconst (v := 0) hx hb dX6_isChoice_70 (by decide) ?_
              subst hres
              exact kr_z (v := false) hx hb hr hlk hK hW hS dX6_isChoice_71
            · have hres := (if_neg c7).symm.trans hres
              refine lv_iconst (v := 1) hx hb dX6_isChoice_66 (by decide) ?_
              refine lv_goto (tgt := 71) hx hb dX6_isChoice_67 (by decide) ?_
              subst hres
              exact kr_z (v := true) hx hb hr hlk hK hW hS dX6_isChoice_71
        · have hres := (if_neg c5).symm.trans hres
          refine lv_tableOut (tgt := 72) hx hb dX6_isChoice_1 (by have := lv_neT (a := 8) c1 (by decide); have := lv_neT (a := 9) c2 (by decide); have := lv_neT (a := 10) c3 (by decide); have := lv_neT (a := 11) c5 (by decide); omega) (by decide) ?_
          exact xX6_isChoice_c72 C0 x1 h _ _ _ _ (lv_sub hl [1] rfl) hW hS hres
def fX6_isChoice (x0 : Int32) (x1 : Int32) : Bool := fX6_isChoice_c0 x0 x1
set_option maxRecDepth 100000 in
set_option maxHeartbeats 4000000 in
theorem kX6_isChoice (l : Launch) (X : Cx) (h : HH) (x0 : Int32) (x1 : Int32) : Met l yX6_isChoice vX6_isChoice rmX6_isChoice (va_Pc [.int x0, .int x1] (fun U => WS X h U)) (QI X (bI (fX6_isChoice x0 x1)) h) 0 0 (xA X) := by
  refine Met.ofW (cc := cX6_isChoice) (maxL := 2) (ret := some .boolean) (by decide) rfl ?_
  intro p e s m args below meth c s₁ B hml hv
  obtain ⟨rfl, hW, hK⟩ := hv
  have hl := lv_entry ([.int x0, .int x1]) (n := 2) (Nat.le_of_ble_eq_true rfl)
  rw [lg_entry_eq]
  generalize (lg_sl ([.int x0, .int x1]) ++ List.replicate (2 - (lg_sl ([.int x0, .int x1])).length) Slot.unset).toArray = ls at hl ⊢
  have hl : lv_has ls 2 [(0, .int x0), (1, .int x1)] := hl
  exact xX6_isChoice_c0 ⟨B.exec, B.bytes, B.returns, B.notSynchronized, hml, findClass_of_methodNamed B.named, fun w hw => atoms_spec (ws := vX6_isChoice) B.pre w (List.mem_cons_of_mem _ hw), hK⟩ x0 x1 h _ _ ls _ (lv_sub hl [0, 1] rfl) hW va_S.rf rfl
-- VillageBoardModel.canPay(II)Z
abbrev rmX6_canPay : Room := ({ frames := 4, cells := 0, slots := 0, locals := 90 } : Room)
abbrev vX6_canPay : List Cond := Cond.code yX6_canPay cX6_canPay 3 (some .boolean) :: lwG
theorem wX6_canPay {R : Room} {s : State} {args : Array Value} {own : String} {idx : Nat} (hg : ∀ w ∈ lwG, w.before args s = true) (hl : Cond.methodLink own idx yX6_canPay ∈ lwG) (hR : rmX6_canPay.frames + 1 ≤ R.frames ∧ 8 + (3 + 11) + rmX6_canPay.locals ≤ R.locals) : CallW R s args own RX6 idx yX6_canPay cX6_canPay 3 (some .boolean) vX6_canPay rmX6_canPay 0 0 2 := cwV 2 hg (gV hl q4_130 q0_27 q1_7 q4_131) rfl rfl rfl (by decide +kernel) hR
def fX6_canPay_c0 (a : Nat) (x1 : Int32) (x2 : Int32) (h : HH) : Bool := if (fX6_get a x1 0 h) < (fX6_costOf a x1 x2 0 h) then false else (if (fX6_get a x1 1 h) < (fX6_costOf a x1 x2 1 h) then false else true)
def sX6_canPay_c0 (a : Nat) (x1 : Int32) (x2 : Int32) (h : HH) : Prop := (sX6_get a x1 0 h) ∧ ((sX6_costOf a x1 x2 0 h) ∧ (((fX6_get a x1 0 h) < (fX6_costOf a x1 x2 0 h) → True) ∧ (¬ ((fX6_get a x1 0 h) < (fX6_costOf a x1 x2 0 h)) → ((sX6_get a x1 1 h) ∧ (sX6_costOf a x1 x2 1 h)))))
set_option maxRecDepth 100000 in
set_option maxHeartbeats 4000000 in
theorem xX6_canPay_c0 {p : Program} {l : Launch} {e : Env} {s : State} {m : MethodId} {args : Array Value} {below : List Frame} {meth : Method} {c : Code} {X : Cx} {a : Nat} (hO : IsMo X a) (C0 : CT p s m args meth c X cX6_canPay 3 (some .boolean) RX6) (x1 : Int32) (x2 : Int32) (h : HH) (H : Heap) (locs : List Loc) (ls : Array Slot) (res : Bool) (hl : lv_has ls 3 [(0, .ref a), (1, .int x1), (2, .int x2)]) (hW : WH X h H) (hS : va_S (xA X) s.heap H locs) (hs : sX6_canPay_c0 a x1 x2 h) (hres : fX6_canPay_c0 a x1 x2 h = res) : W p l e rmX6_canPay s m args below meth c H locs 0 0 (MQ below (QI X (bI res) h) args s 0 0 (xA X)) (F0 m 0 ls []) := by
  obtain ⟨hx, hb, hr, hlk, hml, hown, hts, hK⟩ := id C0
  refine lv_aload_n hx hb dX6_canPay_0 rfl (lv_at hl 0 rfl) ?_
  refine lv_iload_n hx hb dX6_canPay_1 rfl (lv_at hl 1 rfl) ?_
  refine lv_iconst (v := 0) hx hb dX6_canPay_2 (by decide) ?_
  obtain ⟨hc1, hs⟩ := hs
  refine kV_i (As := [.int x1, .int 0]) (rest := []) ⟨hx, hb, hml, hown, hts⟩ (kX6_get l X h a x1 0 hO hc1) (wX6_get hts q4_41 ⟨Nat.le_of_ble_eq_true rfl, Nat.le_of_ble_eq_true rfl⟩) hK hW hS (va_recv hK.1 (hW.one hO.1) (ci := 6) (q0 := 0) rfl rfl) rfl hl.1 rfl (Nat.le_of_ble_eq_true rfl) dX6_canPay_3 ⟨Nat.zero_le _, Nat.zero_le _⟩ (fun H locs hW hS => ?_)
  refine lv_aload_n hx hb dX6_canPay_6 rfl (lv_at hl 0 rfl) ?_
  refine lv_iload_n hx hb dX6_canPay_7 rfl (lv_at hl 1 rfl) ?_
  refine lv_iload_n hx hb dX6_canPay_8 rfl (lv_at hl 2 rfl) ?_
  refine lv_iconst (v := 0) hx hb dX6_canPay_9 (by decide) ?_
  obtain ⟨hc2, hs⟩ := hs
  refine kV_i (As := [.int x1, .int x2, .int 0]) (rest := [.int (fX6_get a x1 0 h)]) ⟨hx, hb, hml, hown, hts⟩ (kX6_costOf l X h a x1 x2 0 hO hc2) (wX6_costOf hts q4_132 ⟨Nat.le_of_ble_eq_true rfl, Nat.le_of_ble_eq_true rfl⟩) hK hW hS (va_recv hK.1 (hW.one hO.1) (ci := 6) (q0 := 0) rfl rfl) rfl hl.1 rfl (Nat.le_of_ble_eq_true rfl) dX6_canPay_10 ⟨Nat.zero_le _, Nat.zero_le _⟩ (fun H locs hW hS => ?_)
  refine lv_icmp_lt (tgt := 36) hx hb dX6_canPay_13 (by decide) (fun c3 => ?_) (fun c3 => ?_)
  · have hres := (if_pos c3).symm.trans hres
    have hs := And.left hs c3
    refine lv_iconst (v := 0) hx hb dX6_canPay_36 (by decide) ?_
    subst hres
    exact kr_z (v := false) hx hb hr hlk hK hW hS dX6_canPay_37
  · have hres := (if_neg c3).symm.trans hres
    have hs := And.right hs c3
    refine lv_aload_n hx hb dX6_canPay_16 rfl (lv_at hl 0 rfl) ?_
    refine lv_iload_n hx hb dX6_canPay_17 rfl (lv_at hl 1 rfl) ?_
    refine lv_iconst (v := 1) hx hb dX6_canPay_18 (by decide) ?_
    obtain ⟨hc4, hs⟩ := hs
    refine kV_i (As := [.int x1, .int 1]) (rest := []) ⟨hx, hb, hml, hown, hts⟩ (kX6_get l X h a x1 1 hO hc4) (wX6_get hts q4_41 ⟨Nat.le_of_ble_eq_true rfl, Nat.le_of_ble_eq_true rfl⟩) hK hW hS (va_recv hK.1 (hW.one hO.1) (ci := 6) (q0 := 0) rfl rfl) rfl hl.1 rfl (Nat.le_of_ble_eq_true rfl) dX6_canPay_19 ⟨Nat.zero_le _, Nat.zero_le _⟩ (fun H locs hW hS => ?_)
    refine lv_aload_n hx hb dX6_canPay_22 rfl (lv_at hl 0 rfl) ?_
    refine lv_iload_n hx hb dX6_canPay_23 rfl (lv_at hl 1 rfl) ?_
    refine lv_iload_n hx hb dX6_canPay_24 rfl (lv_at hl 2 rfl) ?_
    refine lv_iconst (v := 1) hx hb dX6_canPay_25 (by decide) ?_
    have hc5 := hs
    refine kV_i (As := [.int x1, .int x2, .int 1]) (rest := [.int (fX6_get a x1 1 h)]) ⟨hx, hb, hml, hown, hts⟩ (kX6_costOf l X h a x1 x2 1 hO hc5) (wX6_costOf hts q4_132 ⟨Nat.le_of_ble_eq_true rfl, Nat.le_of_ble_eq_true rfl⟩) hK hW hS (va_recv hK.1 (hW.one hO.1) (ci := 6) (q0 := 0) rfl rfl) rfl hl.1 rfl (Nat.le_of_ble_eq_true rfl) dX6_canPay_26 ⟨Nat.zero_le _, Nat.zero_le _⟩ (fun H locs hW hS => ?_)
    refine lv_icmp_lt (tgt := 36) hx hb dX6_canPay_29 (by decide) (fun c6 => ?_) (fun c6 => ?_)
    · have hres := (if_pos c6).symm.trans hres
      refine lv_iconst (v := 0) hx hb dX6_canPay_36 (by decide) ?_
      subst hres
      exact kr_z (v := false) hx hb hr hlk hK hW hS dX6_canPay_37
    · have hres := (if_neg c6).symm.trans hres
      refine lv_iconst (v := 1) hx hb dX6_canPay_32 (by decide) ?_
      refine lv_goto (tgt := 37) hx hb dX6_canPay_33 (by decide) ?_
      subst hres
      exact kr_z (v := true) hx hb hr hlk hK hW hS dX6_canPay_37
def fX6_canPay (a : Nat) (x1 : Int32) (x2 : Int32) (h : HH) : Bool := fX6_canPay_c0 a x1 x2 h
def sX6_canPay (a : Nat) (x1 : Int32) (x2 : Int32) (h : HH) : Prop := sX6_canPay_c0 a x1 x2 h
set_option maxRecDepth 100000 in
set_option maxHeartbeats 4000000 in
theorem kX6_canPay (l : Launch) (X : Cx) (h : HH) (a : Nat) (x1 : Int32) (x2 : Int32) (hO : IsMo X a) (hs : sX6_canPay a x1 x2 h) : Met l yX6_canPay vX6_canPay rmX6_canPay (va_Pc [.ref a, .int x1, .int x2] (fun U => WS X h U)) (QI X (bI (fX6_canPay a x1 x2 h)) h) 0 0 (xA X) := by
  refine Met.ofW (cc := cX6_canPay) (maxL := 3) (ret := some .boolean) (by decide) rfl ?_
  intro p e s m args below meth c s₁ B hml hv
  obtain ⟨rfl, hW, hK⟩ := hv
  have hl := lv_entry ([.ref a, .int x1, .int x2]) (n := 3) (Nat.le_of_ble_eq_true rfl)
  rw [lg_entry_eq]
  generalize (lg_sl ([.ref a, .int x1, .int x2]) ++ List.replicate (3 - (lg_sl ([.ref a, .int x1, .int x2])).length) Slot.unset).toArray = ls at hl ⊢
  have hl : lv_has ls 3 [(0, .ref a), (1, .int x1), (2, .int x2)] := hl
  exact xX6_canPay_c0 hO ⟨B.exec, B.bytes, B.returns, B.notSynchronized, hml, findClass_of_methodNamed B.named, fun w hw => atoms_spec (ws := vX6_canPay) B.pre w (List.mem_cons_of_mem _ hw), hK⟩ x1 x2 h _ _ ls _ (lv_sub hl [0, 1, 2] rfl) hW va_S.rf hs rfl
-- VillageBoardModel.canAct(III)Z
abbrev rmX6_canAct : Room := ({ frames := 5, cells := 0, slots := 0, locals := 112 } : Room)
abbrev vX6_canAct : List Cond := Cond.code yX6_canAct cX6_canAct 4 (some .boolean) :: lwG
theorem wX6_canAct {R : Room} {s : State} {args : Array Value} {own : String} {idx : Nat} (hg : ∀ w ∈ lwG, w.before args s = true) (hl : Cond.methodLink own idx yX6_canAct ∈ lwG) (hR : rmX6_canAct.frames + 1 ≤ R.frames ∧ 8 + (4 + 11) + rmX6_canAct.locals ≤ R.locals) : CallW R s args own RX6 idx yX6_canAct cX6_canAct 4 (some .boolean) vX6_canAct rmX6_canAct 0 0 3 := cwV 3 hg (gV hl q4_126 q0_26 q1_7 q4_127) rfl rfl rfl (by decide +kernel) hR
def fX6_canAct_c103 (a : Nat) (xs0 : Int32) (xs1 : Int32) (xs2 : Int32) (h : HH) : Bool := if (xs1 + xs0) ≤ xs2 then false else true
set_option maxRecDepth 100000 in
set_option maxHeartbeats 4000000 in
theorem xX6_canAct_c103 {p : Program} {l : Launch} {e : Env} {s : State} {m : MethodId} {args : Array Value} {below : List Frame} {meth : Method} {c : Code} {X : Cx} {a : Nat} (hO : IsMo X a) (C0 : CT p s m args meth c X cX6_canAct 4 (some .boolean) RX6) (xs0 : Int32) (xs1 : Int32) (xs2 : Int32) (h : HH) (H : Heap) (locs : List Loc) (ls : Array Slot) (res : Bool) (hl : lv_has ls 4 []) (hW : WH X h H) (hS : va_S (xA X) s.heap H locs) (hres : fX6_canAct_c103 a xs0 xs1 xs2 h = res) : W p l e rmX6_canAct s m args below meth c H locs 0 0 (MQ below (QI X (bI res) h) args s 0 0 (xA X)) (F0 m 103 ls [.int xs0, .int xs1, .int xs2]) := by
  obtain ⟨hx, hb, hr, hlk, hml, hown, hts, hK⟩ := id C0
  refine lv_iadd hx hb dX6_canAct_103 ?_
  refine lv_icmp_ge (tgt := 111) hx hb dX6_canAct_104 (by decide) (fun c13 => ?_) (fun c13 => ?_)
  · have hres := (if_pos c13).symm.trans hres
    refine lv_iconst (v := 0) hx hb dX6_canAct_111 (by decide) ?_
    subst hres
    exact kr_z (v := false) hx hb hr hlk hK hW hS dX6_canAct_112
  · have hres := (if_neg c13).symm.trans hres
    refine lv_iconst (v := 1) hx hb dX6_canAct_107 (by decide) ?_
    refine lv_goto (tgt := 112) hx hb dX6_canAct_108 (by decide) ?_
    subst hres
    exact kr_z (v := true) hx hb hr hlk hK hW hS dX6_canAct_112
def fX6_canAct_c0 (a : Nat) (x1 : Int32) (x2 : Int32) (x3 : Int32) (h : HH) : Bool := if x2 = 6 then (if 5 ≤ (fX6_get a x1 8 h) then false else (if (bI (fX6_canPay a x1 (-1) h)) = 0 then false else true)) else (if x2 = 7 then (if 5 ≤ (fX6_get a x1 5 h) then false else (if (bI (fX6_has a x1 4 h)) = 0 then (fX6_canAct_c103 a 0 (fX6_get a x1 8 h) (fX6_get a x1 5 h) h) else (fX6_canAct_c103 a 1 (fX6_get a x1 8 h) (fX6_get a x1 5 h) h))) else (if x2 = 8 then (if (fX6_get a x1 2 h) < x3 then false else true) else (if x2 = 9 then (if (fX6_ownerOf a x3 h) = (-1) then (if (bI (fX6_canPay a x1 x3 h)) = 0 then false else true) else false) else (if x2 = 10 then true else (if x2 = 11 then (if (fX6_get a x1 (x3 / 5) h) < 2 then false else true) else true)))))
def sX6_canAct_c0 (a : Nat) (x1 : Int32) (x2 : Int32) (x3 : Int32) (h : HH) : Prop := (x2 = 6 → ((sX6_get a x1 8 h) ∧ ((5 ≤ (fX6_get a x1 8 h) → True) ∧ (¬ (5 ≤ (fX6_get a x1 8 h)) → (sX6_canPay a x1 (-1) h))))) ∧ (¬ (x2 = 6) → ((x2 = 7 → ((sX6_get a x1 5 h) ∧ ((5 ≤ (fX6_get a x1 5 h) → True) ∧ (¬ (5 ≤ (fX6_get a x1 5 h)) → ((sX6_get a x1 5 h) ∧ ((sX6_get a x1 8 h) ∧ (sX6_has a x1 4 h))))))) ∧ (¬ (x2 = 7) → ((x2 = 8 → (sX6_get a x1 2 h)) ∧ (¬ (x2 = 8) → ((x2 = 9 → ((sX6_ownerOf a x3 h) ∧ (((fX6_ownerOf a x3 h) = (-1) → (sX6_canPay a x1 x3 h)) ∧ (¬ ((fX6_ownerOf a x3 h) = (-1)) → True)))) ∧ (¬ (x2 = 9) → ((x2 = 10 → True) ∧ (¬ (x2 = 10) → ((x2 = 11 → (sX6_get a x1 (x3 / 5) h)) ∧ (¬ (x2 = 11) → True)))))))))))
set_option maxRecDepth 100000 in
set_option maxHeartbeats 4000000 in
theorem xX6_canAct_c0 {p : Program} {l : Launch} {e : Env} {s : State} {m : MethodId} {args : Array Value} {below : List Frame} {meth : Method} {c : Code} {X : Cx} {a : Nat} (hO : IsMo X a) (C0 : CT p s m args meth c X cX6_canAct 4 (some .boolean) RX6) (x1 : Int32) (x2 : Int32) (x3 : Int32) (h : HH) (H : Heap) (locs : List Loc) (ls : Array Slot) (res : Bool) (hl : lv_has ls 4 [(0, .ref a), (1, .int x1), (2, .int x2), (3, .int x3)]) (hW : WH X h H) (hS : va_S (xA X) s.heap H locs) (hs : sX6_canAct_c0 a x1 x2 x3 h) (hres : fX6_canAct_c0 a x1 x2 x3 h = res) : W p l e rmX6_canAct s m args below meth c H locs 0 0 (MQ below (QI X (bI res) h) args s 0 0 (xA X)) (F0 m 0 ls []) := by
  obtain ⟨hx, hb, hr, hlk, hml, hown, hts, hK⟩ := id C0
  refine lv_iload_n hx hb dX6_canAct_0 rfl (lv_at hl 2 rfl) ?_
  by_cases c1 : x2 = 6
  · have hres := (if_pos c1).symm.trans hres
    have hs := And.left hs c1
    refine ksw_in (tgt := 40) hx hb 6 c1 dX6_canAct_1 (by decide) (by decide) rfl (by decide) ?_
    refine lv_aload_n hx hb dX6_canAct_40 rfl (lv_at hl 0 rfl) ?_
    refine lv_iload_n hx hb dX6_canAct_41 rfl (lv_at hl 1 rfl) ?_
    refine lv_bipush (v := 8) hx hb dX6_canAct_42 (by decide) ?_
    obtain ⟨hc2, hs⟩ := hs
    refine kV_i (As := [.int x1, .int 8]) (rest := []) ⟨hx, hb, hml, hown, hts⟩ (kX6_get l X h a x1 8 hO hc2) (wX6_get hts q4_41 ⟨Nat.le_of_ble_eq_true rfl, Nat.le_of_ble_eq_true rfl⟩) hK hW hS (va_recv hK.1 (hW.one hO.1) (ci := 6) (q0 := 0) rfl rfl) rfl hl.1 rfl (Nat.le_of_ble_eq_true rfl) dX6_canAct_44 ⟨Nat.zero_le _, Nat.zero_le _⟩ (fun H locs hW hS => ?_)
    refine lv_iconst (v := 5) hx hb dX6_canAct_47 (by decide) ?_
    refine lv_icmp_ge (tgt := 64) hx hb dX6_canAct_48 (by decide) (fun c3 => ?_) (fun c3 => ?_)
    · have hres := (if_pos c3).symm.trans hres
      have hs := And.left hs c3
      refine lv_iconst (v := 0) hx hb dX6_canAct_64 (by decide) ?_
      subst hres
      exact kr_z (v := false) hx hb hr hlk hK hW hS dX6_canAct_65
    · have hres := (if_neg c3).symm.trans hres
      have hs := And.right hs c3
      refine lv_aload_n hx hb dX6_canAct_51 rfl (lv_at hl 0 rfl) ?_
      refine lv_iload_n hx hb dX6_canAct_52 rfl (lv_at hl 1 rfl) ?_
      refine lv_iconst (v := (-1)) hx hb dX6_canAct_53 (by decide) ?_
      have hc4 := hs
      refine kV_i (As := [.int x1, .int (-1)]) (rest := []) ⟨hx, hb, hml, hown, hts⟩ (kX6_canPay l X h a x1 (-1) hO hc4) (wX6_canPay hts q4_128 ⟨Nat.le_of_ble_eq_true rfl, Nat.le_of_ble_eq_true rfl⟩) hK hW hS (va_recv hK.1 (hW.one hO.1) (ci := 6) (q0 := 0) rfl rfl) rfl hl.1 rfl (Nat.le_of_ble_eq_true rfl) dX6_canAct_54 ⟨Nat.zero_le _, Nat.zero_le _⟩ (fun H locs hW hS => ?_)
      refine lv_if_eq (tgt := 64) hx hb dX6_canAct_57 (by decide) (fun c5 => ?_) (fun c5 => ?_)
      · have hres := (if_pos c5).symm.trans hres
        refine lv_iconst (v := 0) hx hb dX6_canAct_64 (by decide) ?_
        subst hres
        exact kr_z (v := false) hx hb hr hlk hK hW hS dX6_canAct_65
      · have hres := (if_neg c5).symm.trans hres
        refine lv_iconst (v := 1) hx hb dX6_canAct_60 (by decide) ?_
        refine lv_goto (tgt := 65) hx hb dX6_canAct_61 (by decide) ?_
        subst hres
        exact kr_z (v := true) hx hb hr hlk hK hW hS dX6_canAct_65
  · have hres := (if_neg c1).symm.trans hres
    have hs := And.right hs c1
    by_cases c6 : x2 = 7
    · have hres := (if_pos c6).symm.trans hres
      have hs := And.left hs c6
      refine ksw_in (tgt := 66) hx hb 7 c6 dX6_canAct_1 (by decide) (by decide) rfl (by decide) ?_
      refine lv_aload_n hx hb dX6_canAct_66 rfl (lv_at hl 0 rfl) ?_
      refine lv_iload_n hx hb dX6_canAct_67 rfl (lv_at hl 1 rfl) ?_
      refine lv_iconst (v := 5) hx hb dX6_canAct_68 (by decide) ?_
      obtain ⟨hc7, hs⟩ := hs
      refine kV_i (As := [.int x1, .int 5]) (rest := []) ⟨hx, hb, hml, hown, hts⟩ (kX6_get l X h a x1 5 hO hc7) (wX6_get hts q4_41 ⟨Nat.le_of_ble_eq_true rfl, Nat.le_of_ble_eq_true rfl⟩) hK hW hS (va_recv hK.1 (hW.one hO.1) (ci := 6) (q0 := 0) rfl rfl) rfl hl.1 rfl (Nat.le_of_ble_eq_true rfl) dX6_canAct_69 ⟨Nat.zero_le _, Nat.zero_le _⟩ (fun H locs hW hS => ?_)
      refine lv_iconst (v := 5) hx hb dX6_canAct_72 (by decide) ?_
      refine lv_icmp_ge (tgt := 111) hx hb dX6_canAct_73 (by decide) (fun c8 => ?_) (fun c8 => ?_)
      · have hres := (if_pos c8).symm.trans hres
        have hs := And.left hs c8
        refine lv_iconst (v := 0) hx hb dX6_canAct_111 (by decide) ?_
        subst hres
        exact kr_z (v := false) hx hb hr hlk hK hW hS dX6_canAct_112
      · have hres := (if_neg c8).symm.trans hres
        have hs := And.right hs c8
        refine lv_aload_n hx hb dX6_canAct_76 rfl (lv_at hl 0 rfl) ?_
        refine lv_iload_n hx hb dX6_canAct_77 rfl (lv_at hl 1 rfl) ?_
        refine lv_iconst (v := 5) hx hb dX6_canAct_78 (by decide) ?_
        obtain ⟨hc9, hs⟩ := hs
        refine kV_i (As := [.int x1, .int 5]) (rest := []) ⟨hx, hb, hml, hown, hts⟩ (kX6_get l X h a x1 5 hO hc9) (wX6_get hts q4_41 ⟨Nat.le_of_ble_eq_true rfl, Nat.le_of_ble_eq_true rfl⟩) hK hW hS (va_recv hK.1 (hW.one hO.1) (ci := 6) (q0 := 0) rfl rfl) rfl hl.1 rfl (Nat.le_of_ble_eq_true rfl) dX6_canAct_79 ⟨Nat.zero_le _, Nat.zero_le _⟩ (fun H locs hW hS => ?_)
        refine lv_aload_n hx hb dX6_canAct_82 rfl (lv_at hl 0 rfl) ?_
        refine lv_iload_n hx hb dX6_canAct_83 rfl (lv_at hl 1 rfl) ?_
        refine lv_bipush (v := 8) hx hb dX6_canAct_84 (by decide) ?_
        obtain ⟨hc10, hs⟩ := hs
        refine kV_i (As := [.int x1, .int 8]) (rest := [.int (fX6_get a x1 5 h)]) ⟨hx, hb, hml, hown, hts⟩ (kX6_get l X h a x1 8 hO hc10) (wX6_get hts q4_41 ⟨Nat.le_of_ble_eq_true rfl, Nat.le_of_ble_eq_true rfl⟩) hK hW hS (va_recv hK.1 (hW.one hO.1) (ci := 6) (q0 := 0) rfl rfl) rfl hl.1 rfl (Nat.le_of_ble_eq_true rfl) dX6_canAct_86 ⟨Nat.zero_le _, Nat.zero_le _⟩ (fun H locs hW hS => ?_)
        refine lv_aload_n hx hb dX6_canAct_89 rfl (lv_at hl 0 rfl) ?_
        refine lv_iload_n hx hb dX6_canAct_90 rfl (lv_at hl 1 rfl) ?_
        refine lv_iconst (v := 4) hx hb dX6_canAct_91 (by decide) ?_
        have hc11 := hs
        refine kV_i (As := [.int x1, .int 4]) (rest := [.int (fX6_get a x1 8 h), .int (fX6_get a x1 5 h)]) ⟨hx, hb, hml, hown, hts⟩ (kX6_has l X h a x1 4 hO hc11) (wX6_has hts q4_37 ⟨Nat.le_of_ble_eq_true rfl, Nat.le_of_ble_eq_true rfl⟩) hK hW hS (va_recv hK.1 (hW.one hO.1) (ci := 6) (q0 := 0) rfl rfl) rfl hl.1 rfl (Nat.le_of_ble_eq_true rfl) dX6_canAct_92 ⟨Nat.zero_le _, Nat.zero_le _⟩ (fun H locs hW hS => ?_)
        refine lv_if_eq (tgt := 102) hx hb dX6_canAct_95 (by decide) (fun c12 => ?_) (fun c12 => ?_)
        · have hres := (if_pos c12).symm.trans hres
          refine lv_iconst (v := 0) hx hb dX6_canAct_102 (by decide) ?_
          exact xX6_canAct_c103 hO C0 0 (fX6_get a x1 8 h) (fX6_get a x1 5 h) h _ _ _ _ (lv_sub hl [] rfl) hW hS hres
        · have hres := (if_neg c12).symm.trans hres
          refine lv_iconst (v := 1) hx hb dX6_canAct_98 (by decide) ?_
          refine lv_goto (tgt := 103) hx hb dX6_canAct_99 (by decide) ?_
          exact xX6_canAct_c103 hO C0 1 (fX6_get a x1 8 h) (fX6_get a x1 5 h) h _ _ _ _ (lv_sub hl [] rfl) hW hS hres
    · have hres := (if_neg c6).symm.trans hres
      have hs := And.right hs c6
      by_cases c14 : x2 = 8
      · have hres := (if_pos c14).symm.trans hres
        have hs := And.left hs c14
        refine ksw_in (tgt := 113) hx hb 8 c14 dX6_canAct_1 (by decide) (by decide) rfl (by decide) ?_
        refine lv_aload_n hx hb dX6_canAct_113 rfl (lv_at hl 0 rfl) ?_
        refine lv_iload_n hx hb dX6_canAct_114 rfl (lv_at hl 1 rfl) ?_
        refine lv_iconst (v := 2) hx hb dX6_canAct_115 (by decide) ?_
        have hc15 := hs
        refine kV_i (As := [.int x1, .int 2]) (rest := []) ⟨hx, hb, hml, hown, hts⟩ (kX6_get l X h a x1 2 hO hc15) (wX6_get hts q4_41 ⟨Nat.le_of_ble_eq_true rfl, Nat.le_of_ble_eq_true rfl⟩) hK hW hS (va_recv hK.1 (hW.one hO.1) (ci := 6) (q0 := 0) rfl rfl) rfl hl.1 rfl (Nat.le_of_ble_eq_true rfl) dX6_canAct_116 ⟨Nat.zero_le _, Nat.zero_le _⟩ (fun H locs hW hS => ?_)
        refine lv_iload_n hx hb dX6_canAct_119 rfl (lv_at hl 3 rfl) ?_
        refine lv_icmp_lt (tgt := 127) hx hb dX6_canAct_120 (by decide) (fun c16 => ?_) (fun c16 => ?_)
        · have hres := (if_pos c16).symm.trans hres
          refine lv_iconst (v := 0) hx hb dX6_canAct_127 (by decide) ?_
          subst hres
          exact kr_z (v := false) hx hb hr hlk hK hW hS dX6_canAct_128
        · have hres := (if_neg c16).symm.trans hres
          refine lv_iconst (v := 1) hx hb dX6_canAct_123 (by decide) ?_
          refine lv_goto (tgt := 128) hx hb dX6_canAct_124 (by decide) ?_
          subst hres
          exact kr_z (v := true) hx hb hr hlk hK hW hS dX6_canAct_128
      · have hres := (if_neg c14).symm.trans hres
        have hs := And.right hs c14
        by_cases c17 : x2 = 9
        · have hres := (if_pos c17).symm.trans hres
          have hs := And.left hs c17
          refine ksw_in (tgt := 129) hx hb 9 c17 dX6_canAct_1 (by decide) (by decide) rfl (by decide) ?_
          refine lv_aload_n hx hb dX6_canAct_129 rfl (lv_at hl 0 rfl) ?_
          refine lv_iload_n hx hb dX6_canAct_130 rfl (lv_at hl 3 rfl) ?_
          obtain ⟨hc18, hs⟩ := hs
          refine kV_i (As := [.int x3]) (rest := []) ⟨hx, hb, hml, hown, hts⟩ (kX6_ownerOf l X h a x3 hO hc18) (wX6_ownerOf hts q4_142 ⟨Nat.le_of_ble_eq_true rfl, Nat.le_of_ble_eq_true rfl⟩) hK hW hS (va_recv hK.1 (hW.one hO.1) (ci := 6) (q0 := 0) rfl rfl) rfl hl.1 rfl (Nat.le_of_ble_eq_true rfl) dX6_canAct_131 ⟨Nat.zero_le _, Nat.zero_le _⟩ (fun H locs hW hS => ?_)
          refine lv_iconst (v := (-1)) hx hb dX6_canAct_134 (by decide) ?_
          refine lv_icmp_ne (tgt := 151) hx hb dX6_canAct_135 (by decide) (fun c19 => ?_) (fun c19 => ?_)
          · have hres := (if_neg c19).symm.trans hres
            have hs := And.right hs c19
            refine lv_iconst (v := 0) hx hb dX6_canAct_151 (by decide) ?_
            subst hres
            exact kr_z (v := false) hx hb hr hlk hK hW hS dX6_canAct_152
          · have hres := (if_pos c19).symm.trans hres
            have hs := And.left hs c19
            refine lv_aload_n hx hb dX6_canAct_138 rfl (lv_at hl 0 rfl) ?_
            refine lv_iload_n hx hb dX6_canAct_139 rfl (lv_at hl 1 rfl) ?_
            refine lv_iload_n hx hb dX6_canAct_140 rfl (lv_at hl 3 rfl) ?_
            have hc20 := hs
            refine kV_i (As := [.int x1, .int x3]) (rest := []) ⟨hx, hb, hml, hown, hts⟩ (kX6_canPay l X h a x1 x3 hO hc20) (wX6_canPay hts q4_128 ⟨Nat.le_of_ble_eq_true rfl, Nat.le_of_ble_eq_true rfl⟩) hK hW hS (va_recv hK.1 (hW.one hO.1) (ci := 6) (q0 := 0) rfl rfl) rfl hl.1 rfl (Nat.le_of_ble_eq_true rfl) dX6_canAct_141 ⟨Nat.zero_le _, Nat.zero_le _⟩ (fun H locs hW hS => ?_)
            refine lv_if_eq (tgt := 151) hx hb dX6_canAct_144 (by decide) (fun c21 => ?_) (fun c21 => ?_)
            · have hres := (if_pos c21).symm.trans hres
              refine lv_iconst (v := 0) hx hb dX6_canAct_151 (by decide) ?_
              subst hres
              exact kr_z (v := false) hx hb hr hlk hK hW hS dX6_canAct_152
            · have hres := (if_neg c21).symm.trans hres
              refine lv_iconst (v := 1) hx hb dX6_canAct_147 (by decide) ?_
              refine lv_goto (tgt := 152) hx hb dX6_canAct_148 (by decide) ?_
              subst hres
              exact kr_z (v := true) hx hb hr hlk hK hW hS dX6_canAct_152
        · have hres := (if_neg c17).symm.trans hres
          have hs := And.right hs c17
          by_cases c22 : x2 = 10
          · have hres := (if_pos c22).symm.trans hres
            have hs := And.left hs c22
            refine ksw_in (tgt := 171) hx hb 10 c22 dX6_canAct_1 (by decide) (by decide) rfl (by decide) ?_
            refine lv_iconst (v := 1) hx hb dX6_canAct_171 (by decide) ?_
            subst hres
            exact kr_z (v := true) hx hb hr hlk hK hW hS dX6_canAct_172
          · have hres := (if_neg c22).symm.trans hres
            have hs := And.right hs c22
            by_cases c23 : x2 = 11
            · have hres := (if_pos c23).symm.trans hres
              have hs := And.left hs c23
              refine ksw_in (tgt := 153) hx hb 11 c23 dX6_canAct_1 (by decide) (by decide) rfl (by decide) ?_
              refine lv_aload_n hx hb dX6_canAct_153 rfl (lv_at hl 0 rfl) ?_
              refine lv_iload_n hx hb dX6_canAct_154 rfl (lv_at hl 1 rfl) ?_
              refine lv_iload_n hx hb dX6_canAct_155 rfl (lv_at hl 3 rfl) ?_
              refine lv_iconst (v := 5) hx hb dX6_canAct_156 (by decide) ?_
              refine lv_idiv hx hb dX6_canAct_157 (by decide) ?_
              have hc24 := hs
              refine kV_i (As := [.int x1, .int (x3 / 5)]) (rest := []) ⟨hx, hb, hml, hown, hts⟩ (kX6_get l X h a x1 (x3 / 5) hO hc24) (wX6_get hts q4_41 ⟨Nat.le_of_ble_eq_true rfl, Nat.le_of_ble_eq_true rfl⟩) hK hW hS (va_recv hK.1 (hW.one hO.1) (ci := 6) (q0 := 0) rfl rfl) rfl hl.1 rfl (Nat.le_of_ble_eq_true rfl) dX6_canAct_158 ⟨Nat.zero_le _, Nat.zero_le _⟩ (fun H locs hW hS => ?_)
              refine lv_iconst (v := 2) hx hb dX6_canAct_161 (by decide) ?_
              refine lv_icmp_lt (tgt := 169) hx hb dX6_canAct_162 (by decide) (fun c25 => ?_) (fun c25 => ?_)
              · have hres := (if_pos c25).symm.trans hres
                refine lv_iconst (v := 0) hx hb dX6_canAct_169 (by decide) ?_
                subst hres
                exact kr_z (v := false) hx hb hr hlk hK hW hS dX6_canAct_170
              · have hres := (if_neg c25).symm.trans hres
                refine lv_iconst (v := 1) hx hb dX6_canAct_165 (by decide) ?_
                refine lv_goto (tgt := 170) hx hb dX6_canAct_166 (by decide) ?_
                subst hres
                exact kr_z (v := true) hx hb hr hlk hK hW hS dX6_canAct_170
            · have hres := (if_neg c23).symm.trans hres
              have hs := And.right hs c23
              refine lv_tableOut (tgt := 171) hx hb dX6_canAct_1 (by have := lv_neT (a := 6) c1 (by decide); have := lv_neT (a := 7) c6 (by decide); have := lv_neT (a := 8) c14 (by decide); have := lv_neT (a := 9) c17 (by decide); have := lv_neT (a := 10) c22 (by decide); have := lv_neT (a := 11) c23 (by decide); omega) (by decide) ?_
              refine lv_iconst (v := 1) hx hb dX6_canAct_171 (by decide) ?_
              subst hres
              exact kr_z (v := true) hx hb hr hlk hK hW hS dX6_canAct_172
def fX6_canAct (a : Nat) (x1 : Int32) (x2 : Int32) (x3 : Int32) (h : HH) : Bool := fX6_canAct_c0 a x1 x2 x3 h
def sX6_canAct (a : Nat) (x1 : Int32) (x2 : Int32) (x3 : Int32) (h : HH) : Prop := sX6_canAct_c0 a x1 x2 x3 h
set_option maxRecDepth 100000 in
set_option maxHeartbeats 4000000 in
theorem kX6_canAct (l : Launch) (X : Cx) (h : HH) (a : Nat) (x1 : Int32) (x2 : Int32) (x3 : Int32) (hO : IsMo X a) (hs : sX6_canAct a x1 x2 x3 h) : Met l yX6_canAct vX6_canAct rmX6_canAct (va_Pc [.ref a, .int x1, .int x2, .int x3] (fun U => WS X h U)) (QI X (bI (fX6_canAct a x1 x2 x3 h)) h) 0 0 (xA X) := by
  refine Met.ofW (cc := cX6_canAct) (maxL := 4) (ret := some .boolean) (by decide) rfl ?_
  intro p e s m args below meth c s₁ B hml hv
  obtain ⟨rfl, hW, hK⟩ := hv
  have hl := lv_entry ([.ref a, .int x1, .int x2, .int x3]) (n := 4) (Nat.le_of_ble_eq_true rfl)
  rw [lg_entry_eq]
  generalize (lg_sl ([.ref a, .int x1, .int x2, .int x3]) ++ List.replicate (4 - (lg_sl ([.ref a, .int x1, .int x2, .int x3])).length) Slot.unset).toArray = ls at hl ⊢
  have hl : lv_has ls 4 [(0, .ref a), (1, .int x1), (2, .int x2), (3, .int x3)] := hl
  exact xX6_canAct_c0 hO ⟨B.exec, B.bytes, B.returns, B.notSynchronized, hml, findClass_of_methodNamed B.named, fun w hw => atoms_spec (ws := vX6_canAct) B.pre w (List.mem_cons_of_mem _ hw), hK⟩ x1 x2 x3 h _ _ ls _ (lv_sub hl [0, 1, 2, 3] rfl) hW va_S.rf hs rfl
-- VillageBoardModel.why(II)I
abbrev rmX6_why : Room := ({ frames := 6, cells := 0, slots := 0, locals := 135 } : Room)
abbrev vX6_why : List Cond := Cond.code yX6_why cX6_why 3 (some .int) :: lwG
theorem wX6_why {R : Room} {s : State} {args : Array Value} {own : String} {idx : Nat} (hg : ∀ w ∈ lwG, w.before args s = true) (hl : Cond.methodLink own idx yX6_why ∈ lwG) (hR : rmX6_why.frames + 1 ≤ R.frames ∧ 8 + (3 + 11) + rmX6_why.locals ≤ R.locals) : CallW R s args own RX6 idx yX6_why cX6_why 3 (some .int) vX6_why rmX6_why 0 0 2 := cwV 2 hg (gV hl q4_112 q0_24 q1_7 q4_113) rfl rfl rfl (by decide +kernel) hR
def fX6_why_c46 (a : Nat) (x1 : Int32) (x2 : Int32) (h : HH) : Int32 := if (bI (fX6_isChoice x1 x2)) = 0 then 4 else (if (bI (fX6_canAct a (h (a + 1) 3) x1 x2 h)) = 0 then 5 else 0)
def sX6_why_c46 (a : Nat) (x1 : Int32) (x2 : Int32) (h : HH) : Prop := ((bI (fX6_isChoice x1 x2)) = 0 → True) ∧ (¬ ((bI (fX6_isChoice x1 x2)) = 0) → (sX6_canAct a (h (a + 1) 3) x1 x2 h))
set_option maxRecDepth 100000 in
set_option maxHeartbeats 4000000 in
theorem xX6_why_c46 {p : Program} {l : Launch} {e : Env} {s : State} {m : MethodId} {args : Array Value} {below : List Frame} {meth : Method} {c : Code} {X : Cx} {a : Nat} (hO : IsMo X a) (C0 : CT p s m args meth c X cX6_why 3 (some .int) RX6) (x1 : Int32) (x2 : Int32) (h : HH) (H : Heap) (locs : List Loc) (ls : Array Slot) (res : Int32) (hl : lv_has ls 3 [(0, .ref a), (1, .int x1), (2, .int x2)]) (hW : WH X h H) (hS : va_S (xA X) s.heap H locs) (hs : sX6_why_c46 a x1 x2 h) (hres : fX6_why_c46 a x1 x2 h = res) : W p l e rmX6_why s m args below meth c H locs 0 0 (MQ below (QI X res h) args s 0 0 (xA X)) (F0 m 46 ls []) := by
  obtain ⟨hx, hb, hr, hlk, hml, hown, hts, hK⟩ := id C0
  refine lv_iload_n hx hb dX6_why_46 rfl (lv_at hl 1 rfl) ?_
  refine lv_iload_n hx hb dX6_why_47 rfl (lv_at hl 2 rfl) ?_
  refine kS_i (As := [.int x1, .int x2]) (rest := []) ⟨hx, hb, hml, hown, hts⟩ (kX6_isChoice l X h x1 x2) (wX6_isChoice hts q4_121 ⟨Nat.le_of_ble_eq_true rfl, Nat.le_of_ble_eq_true rfl⟩) hK hW hS rfl hl.1 rfl (Nat.le_of_ble_eq_true rfl) dX6_why_48 ⟨Nat.zero_le _, Nat.zero_le _⟩ (fun H locs hW hS => ?_)
  refine lv_if_ne (tgt := 58) hx hb dX6_why_51 (by decide) (fun c5 => ?_) (fun c5 => ?_)
  · have hres := (if_neg c5).symm.trans hres
    have hs := And.right hs c5
    refine lv_aload_n hx hb dX6_why_58 rfl (lv_at hl 0 rfl) ?_
    refine lv_aload_n hx hb dX6_why_59 rfl (lv_at hl 0 rfl) ?_
    refine g6_0 hx hb hts hown hK hW hO.1 (hts _ q4_49) dX6_why_60 ?_
    refine lv_iconst (v := 3) hx hb dX6_why_63 (by decide) ?_
    refine kb_iald hx hb hK hW hO.2.1 (k := 3) (by decide) (vpd (by decide)) dX6_why_64 ?_
    refine lv_iload_n hx hb dX6_why_65 rfl (lv_at hl 1 rfl) ?_
    refine lv_iload_n hx hb dX6_why_66 rfl (lv_at hl 2 rfl) ?_
    have hc6 := hs
    refine kV_i (As := [.int (h (a + 1) 3), .int x1, .int x2]) (rest := []) ⟨hx, hb, hml, hown, hts⟩ (kX6_canAct l X h a (h (a + 1) 3) x1 x2 hO hc6) (wX6_canAct hts q4_124 ⟨Nat.le_of_ble_eq_true rfl, Nat.le_of_ble_eq_true rfl⟩) hK hW hS (va_recv hK.1 (hW.one hO.1) (ci := 6) (q0 := 0) rfl rfl) rfl hl.1 rfl (Nat.le_of_ble_eq_true rfl) dX6_why_67 ⟨Nat.zero_le _, Nat.zero_le _⟩ (fun H locs hW hS => ?_)
    refine lv_if_eq (tgt := 77) hx hb dX6_why_70 (by decide) (fun c7 => ?_) (fun c7 => ?_)
    · have hres := (if_pos c7).symm.trans hres
      refine lv_iconst (v := 5) hx hb dX6_why_77 (by decide) ?_
      subst hres
      exact kr_i hx hb hr hlk hK hW hS dX6_why_78
    · have hres := (if_neg c7).symm.trans hres
      refine lv_iconst (v := 0) hx hb dX6_why_73 (by decide) ?_
      refine lv_goto (tgt := 78) hx hb dX6_why_74 (by decide) ?_
      subst hres
      exact kr_i hx hb hr hlk hK hW hS dX6_why_78
  · have hres := (if_pos c5).symm.trans hres
    have hs := And.left hs c5
    refine lv_iconst (v := 4) hx hb dX6_why_54 (by decide) ?_
    refine lv_goto (tgt := 78) hx hb dX6_why_55 (by decide) ?_
    subst hres
    exact kr_i hx hb hr hlk hK hW hS dX6_why_78
def fX6_why_c0 (a : Nat) (x1 : Int32) (x2 : Int32) (h : HH) : Int32 := if (bI (fX6_isOver a h)) = 0 then (if (h (a + 1) ((fX6_spaceAt x1 1).toNatClampNeg)) = (fX6_placesOf x1) then 2 else (if x1 = 7 then (if 2 ≤ (h (a + 1) 2) then (fX6_why_c46 a x1 x2 h) else 3) else (fX6_why_c46 a x1 x2 h))) else 1
def sX6_why_c0 (a : Nat) (x1 : Int32) (x2 : Int32) (h : HH) : Prop := ((bI (fX6_isOver a h)) = 0 → ((vp_in (fX6_spaceAt x1 1) 206) ∧ (((h (a + 1) ((fX6_spaceAt x1 1).toNatClampNeg)) = (fX6_placesOf x1) → True) ∧ (¬ ((h (a + 1) ((fX6_spaceAt x1 1).toNatClampNeg)) = (fX6_placesOf x1)) → ((x1 = 7 → ((2 ≤ (h (a + 1) 2) → (sX6_why_c46 a x1 x2 h)) ∧ (¬ (2 ≤ (h (a + 1) 2)) → True))) ∧ (¬ (x1 = 7) → (sX6_why_c46 a x1 x2 h))))))) ∧ (¬ ((bI (fX6_isOver a h)) = 0) → True)
set_option maxRecDepth 100000 in
set_option maxHeartbeats 4000000 in
theorem xX6_why_c0 {p : Program} {l : Launch} {e : Env} {s : State} {m : MethodId} {args : Array Value} {below : List Frame} {meth : Method} {c : Code} {X : Cx} {a : Nat} (hO : IsMo X a) (C0 : CT p s m args meth c X cX6_why 3 (some .int) RX6) (x1 : Int32) (x2 : Int32) (h : HH) (H : Heap) (locs : List Loc) (ls : Array Slot) (res : Int32) (hl : lv_has ls 3 [(0, .ref a), (1, .int x1), (2, .int x2)]) (hW : WH X h H) (hS : va_S (xA X) s.heap H locs) (hs : sX6_why_c0 a x1 x2 h) (hres : fX6_why_c0 a x1 x2 h = res) : W p l e rmX6_why s m args below meth c H locs 0 0 (MQ below (QI X res h) args s 0 0 (xA X)) (F0 m 0 ls []) := by
  obtain ⟨hx, hb, hr, hlk, hml, hown, hts, hK⟩ := id C0
  refine lv_aload_n hx hb dX6_why_0 rfl (lv_at hl 0 rfl) ?_
  refine kV_i (As := []) (rest := []) ⟨hx, hb, hml, hown, hts⟩ (kX6_isOver l X h a hO) (wX6_isOver hts q4_114 ⟨Nat.le_of_ble_eq_true rfl, Nat.le_of_ble_eq_true rfl⟩) hK hW hS (va_recv hK.1 (hW.one hO.1) (ci := 6) (q0 := 0) rfl rfl) rfl hl.1 rfl (Nat.le_of_ble_eq_true rfl) dX6_why_1 ⟨Nat.zero_le _, Nat.zero_le _⟩ (fun H locs hW hS => ?_)
  refine lv_if_eq (tgt := 9) hx hb dX6_why_4 (by decide) (fun c1 => ?_) (fun c1 => ?_)
  · have hres := (if_pos c1).symm.trans hres
    have hs := And.left hs c1
    refine lv_aload_n hx hb dX6_why_9 rfl (lv_at hl 0 rfl) ?_
    refine g6_0 hx hb hts hown hK hW hO.1 (hts _ q4_49) dX6_why_10 ?_
    refine lv_iload_n hx hb dX6_why_13 rfl (lv_at hl 1 rfl) ?_
    refine lv_iconst (v := 1) hx hb dX6_why_14 (by decide) ?_
    refine kS_i (As := [.int x1, .int 1]) (rest := [.ref (a + 1)]) ⟨hx, hb, hml, hown, hts⟩ (kX6_spaceAt l X h x1 1) (wX6_spaceAt hts q4_34 ⟨Nat.le_of_ble_eq_true rfl, Nat.le_of_ble_eq_true rfl⟩) hK hW hS rfl hl.1 rfl (Nat.le_of_ble_eq_true rfl) dX6_why_15 ⟨Nat.zero_le _, Nat.zero_le _⟩ (fun H locs hW hS => ?_)
    obtain ⟨hi2, hs⟩ := hs
    refine kb_iald hx hb hK hW hO.2.1 (k := (fX6_spaceAt x1 1).toNatClampNeg) rfl hi2 dX6_why_18 ?_
    refine lv_iload_n hx hb dX6_why_19 rfl (lv_at hl 1 rfl) ?_
    refine kS_i (As := [.int x1]) (rest := [.int (h (a + 1) ((fX6_spaceAt x1 1).toNatClampNeg))]) ⟨hx, hb, hml, hown, hts⟩ (kX6_placesOf l X h x1) (wX6_placesOf hts q4_118 ⟨Nat.le_of_ble_eq_true rfl, Nat.le_of_ble_eq_true rfl⟩) hK hW hS rfl hl.1 rfl (Nat.le_of_ble_eq_true rfl) dX6_why_20 ⟨Nat.zero_le _, Nat.zero_le _⟩ (fun H locs hW hS => ?_)
    refine lv_icmp_ne (tgt := 28) hx hb dX6_why_23 (by decide) (fun c3 => ?_) (fun c3 => ?_)
    · have hres := (if_neg c3).symm.trans hres
      have hs := And.right hs c3
      refine lv_iload_n hx hb dX6_why_28 rfl (lv_at hl 1 rfl) ?_
      refine lv_bipush (v := 7) hx hb dX6_why_29 (by decide) ?_
      refine lv_icmp_ne (tgt := 46) hx hb dX6_why_31 (by decide) (fun c4 => ?_) (fun c4 => ?_)
      · have hres := (if_neg c4).symm.trans hres
        have hs := And.right hs c4
        exact xX6_why_c46 hO C0 x1 x2 h _ _ _ _ (lv_sub hl [0, 1, 2] rfl) hW hS hs hres
      · have hres := (if_pos c4).symm.trans hres
        have hs := And.left hs c4
        refine lv_aload_n hx hb dX6_why_34 rfl (lv_at hl 0 rfl) ?_
        refine g6_0 hx hb hts hown hK hW hO.1 (hts _ q4_49) dX6_why_35 ?_
        refine lv_iconst (v := 2) hx hb dX6_why_38 (by decide) ?_
        refine kb_iald hx hb hK hW hO.2.1 (k := 2) (by decide) (vpd (by decide)) dX6_why_39 ?_
        refine lv_iconst (v := 2) hx hb dX6_why_40 (by decide) ?_
        refine lv_icmp_ge (tgt := 46) hx hb dX6_why_41 (by decide) (fun c8 => ?_) (fun c8 => ?_)
        · have hres := (if_pos c8).symm.trans hres
          have hs := And.left hs c8
          exact xX6_why_c46 hO C0 x1 x2 h _ _ _ _ (lv_sub hl [0, 1, 2] rfl) hW hS hs hres
        · have hres := (if_neg c8).symm.trans hres
          have hs := And.right hs c8
          refine lv_iconst (v := 3) hx hb dX6_why_44 (by decide) ?_
          subst hres
          exact kr_i hx hb hr hlk hK hW hS dX6_why_45
    · have hres := (if_pos c3).symm.trans hres
      have hs := And.left hs c3
      refine lv_iconst (v := 2) hx hb dX6_why_26 (by decide) ?_
      subst hres
      exact kr_i hx hb hr hlk hK hW hS dX6_why_27
  · have hres := (if_neg c1).symm.trans hres
    have hs := And.right hs c1
    refine lv_iconst (v := 1) hx hb dX6_why_7 (by decide) ?_
    subst hres
    exact kr_i hx hb hr hlk hK hW hS dX6_why_8
def fX6_why (a : Nat) (x1 : Int32) (x2 : Int32) (h : HH) : Int32 := fX6_why_c0 a x1 x2 h
def sX6_why (a : Nat) (x1 : Int32) (x2 : Int32) (h : HH) : Prop := sX6_why_c0 a x1 x2 h
set_option maxRecDepth 100000 in
set_option maxHeartbeats 4000000 in
theorem kX6_why (l : Launch) (X : Cx) (h : HH) (a : Nat) (x1 : Int32) (x2 : Int32) (hO : IsMo X a) (hs : sX6_why a x1 x2 h) : Met l yX6_why vX6_why rmX6_why (va_Pc [.ref a, .int x1, .int x2] (fun U => WS X h U)) (QI X (fX6_why a x1 x2 h) h) 0 0 (xA X) := by
  refine Met.ofW (cc := cX6_why) (maxL := 3) (ret := some .int) (by decide) rfl ?_
  intro p e s m args below meth c s₁ B hml hv
  obtain ⟨rfl, hW, hK⟩ := hv
  have hl := lv_entry ([.ref a, .int x1, .int x2]) (n := 3) (Nat.le_of_ble_eq_true rfl)
  rw [lg_entry_eq]
  generalize (lg_sl ([.ref a, .int x1, .int x2]) ++ List.replicate (3 - (lg_sl ([.ref a, .int x1, .int x2])).length) Slot.unset).toArray = ls at hl ⊢
  have hl : lv_has ls 3 [(0, .ref a), (1, .int x1), (2, .int x2)] := hl
  exact xX6_why_c0 hO ⟨B.exec, B.bytes, B.returns, B.notSynchronized, hml, findClass_of_methodNamed B.named, fun w hw => atoms_spec (ws := vX6_why) B.pre w (List.mem_cons_of_mem _ hw), hK⟩ x1 x2 h _ _ ls _ (lv_sub hl [0, 1, 2] rfl) hW va_S.rf hs rfl
-- VillageBoardModel.pays(II)V
abbrev rmX6_pays : Room := ({ frames := 4, cells := 0, slots := 0, locals := 90 } : Room)
abbrev vX6_pays : List Cond := Cond.code yX6_pays cX6_pays 5 none :: lwG
theorem wX6_pays {R : Room} {s : State} {args : Array Value} {own : String} {idx : Nat} (hg : ∀ w ∈ lwG, w.before args s = true) (hl : Cond.methodLink own idx yX6_pays ∈ lwG) (hR : rmX6_pays.frames + 1 ≤ R.frames ∧ 8 + (5 + 11) + rmX6_pays.locals ≤ R.locals) : CallW R s args own RX6 idx yX6_pays cX6_pays 5 none vX6_pays rmX6_pays 0 0 2 := cwV 2 hg (gV hl q4_172 q0_35 q1_7 q4_173) rfl rfl rfl (by decide +kernel) hR
def fX6_pays_c31 (a : Nat) (xs0 : Int32) (xs1 : Int32) (xs2 : Int32) (h : HH) : HH := fX6_gets a xs2 xs1 xs0 h
def sX6_pays_c31 (a : Nat) (xs0 : Int32) (xs1 : Int32) (xs2 : Int32) (h : HH) : Prop := sX6_gets a xs2 xs1 xs0 h
set_option maxRecDepth 100000 in
set_option maxHeartbeats 4000000 in
theorem xX6_pays_c31 {p : Program} {l : Launch} {e : Env} {s : State} {m : MethodId} {args : Array Value} {below : List Frame} {meth : Method} {c : Code} {X : Cx} {a : Nat} (hO : IsMo X a) (C0 : CT p s m args meth c X cX6_pays 5 none RX6) (xs0 : Int32) (xs1 : Int32) (xs2 : Int32) (h : HH) (H : Heap) (locs : List Loc) (ls : Array Slot) (res : HH) (hl : lv_has ls 5 []) (hW : WH X h H) (hS : va_S (xA X) s.heap H locs) (hs : sX6_pays_c31 a xs0 xs1 xs2 h) (hres : fX6_pays_c31 a xs0 xs1 xs2 h = res) : W p l e rmX6_pays s m args below meth c H locs 0 0 (MQ below (QV X res) args s 0 0 (xA X)) (F0 m 31 ls [.int xs0, .int xs1, .int xs2, .ref a]) := by
  obtain ⟨hx, hb, hr, hlk, hml, hown, hts, hK⟩ := id C0
  have hc4 := hs
  refine kV_v (As := [.int xs2, .int xs1, .int xs0]) (rest := []) ⟨hx, hb, hml, hown, hts⟩ (kX6_gets l X h a xs2 xs1 xs0 hO hc4) (wX6_gets hts q4_45 ⟨Nat.le_of_ble_eq_true rfl, Nat.le_of_ble_eq_true rfl⟩) hK hW hS (va_recv hK.1 (hW.one hO.1) (ci := 6) (q0 := 0) rfl rfl) rfl hl.1 rfl (Nat.le_of_ble_eq_true rfl) dX6_pays_31 ⟨Nat.zero_le _, Nat.zero_le _⟩ (fun H locs hW hS => ?_)
  subst hres
  exact kr_v hx hb hr hlk hK hW hS dX6_pays_34
def fX6_pays_c0 (a : Nat) (x1 : Int32) (x2 : Int32) (h : HH) : HH := fX6_pays_c31 a (-(fX6_costOf a x1 x2 1 h)) 1 x1 (fX6_gets a x1 0 (-(fX6_costOf a x1 x2 0 h)) h)
def sX6_pays_c0 (a : Nat) (x1 : Int32) (x2 : Int32) (h : HH) : Prop := (sX6_costOf a x1 x2 0 h) ∧ ((sX6_costOf a x1 x2 1 h) ∧ ((sX6_gets a x1 0 (-(fX6_costOf a x1 x2 0 h)) h) ∧ (sX6_pays_c31 a (-(fX6_costOf a x1 x2 1 h)) 1 x1 (fX6_gets a x1 0 (-(fX6_costOf a x1 x2 0 h)) h))))
set_option maxRecDepth 100000 in
set_option maxHeartbeats 4000000 in
theorem xX6_pays_c0 {p : Program} {l : Launch} {e : Env} {s : State} {m : MethodId} {args : Array Value} {below : List Frame} {meth : Method} {c : Code} {X : Cx} {a : Nat} (hO : IsMo X a) (C0 : CT p s m args meth c X cX6_pays 5 none RX6) (x1 : Int32) (x2 : Int32) (h : HH) (H : Heap) (locs : List Loc) (ls : Array Slot) (res : HH) (hl : lv_has ls 5 [(0, .ref a), (1, .int x1), (2, .int x2)]) (hW : WH X h H) (hS : va_S (xA X) s.heap H locs) (hs : sX6_pays_c0 a x1 x2 h) (hres : fX6_pays_c0 a x1 x2 h = res) : W p l e rmX6_pays s m args below meth c H locs 0 0 (MQ below (QV X res) args s 0 0 (xA X)) (F0 m 0 ls []) := by
  obtain ⟨hx, hb, hr, hlk, hml, hown, hts, hK⟩ := id C0
  refine lv_aload_n hx hb dX6_pays_0 rfl (lv_at hl 0 rfl) ?_
  refine lv_iload_n hx hb dX6_pays_1 rfl (lv_at hl 1 rfl) ?_
  refine lv_iload_n hx hb dX6_pays_2 rfl (lv_at hl 2 rfl) ?_
  refine lv_iconst (v := 0) hx hb dX6_pays_3 (by decide) ?_
  obtain ⟨hc1, hs⟩ := hs
  refine kV_i (As := [.int x1, .int x2, .int 0]) (rest := []) ⟨hx, hb, hml, hown, hts⟩ (kX6_costOf l X h a x1 x2 0 hO hc1) (wX6_costOf hts q4_132 ⟨Nat.le_of_ble_eq_true rfl, Nat.le_of_ble_eq_true rfl⟩) hK hW hS (va_recv hK.1 (hW.one hO.1) (ci := 6) (q0 := 0) rfl rfl) rfl hl.1 rfl (Nat.le_of_ble_eq_true rfl) dX6_pays_4 ⟨Nat.zero_le _, Nat.zero_le _⟩ (fun H locs hW hS => ?_)
  refine lv_istore_n (lv' := [(3, .int (fX6_costOf a x1 x2 0 h)), (0, .ref a), (1, .int x1), (2, .int x2)]) hx hb dX6_pays_7 rfl hl (by decide) rfl (fun ls hl => ?_)
  refine lv_aload_n hx hb dX6_pays_8 rfl (lv_at hl 1 rfl) ?_
  refine lv_iload_n hx hb dX6_pays_9 rfl (lv_at hl 2 rfl) ?_
  refine lv_iload_n hx hb dX6_pays_10 rfl (lv_at hl 3 rfl) ?_
  refine lv_iconst (v := 1) hx hb dX6_pays_11 (by decide) ?_
  obtain ⟨hc2, hs⟩ := hs
  refine kV_i (As := [.int x1, .int x2, .int 1]) (rest := []) ⟨hx, hb, hml, hown, hts⟩ (kX6_costOf l X h a x1 x2 1 hO hc2) (wX6_costOf hts q4_132 ⟨Nat.le_of_ble_eq_true rfl, Nat.le_of_ble_eq_true rfl⟩) hK hW hS (va_recv hK.1 (hW.one hO.1) (ci := 6) (q0 := 0) rfl rfl) rfl hl.1 rfl (Nat.le_of_ble_eq_true rfl) dX6_pays_12 ⟨Nat.zero_le _, Nat.zero_le _⟩ (fun H locs hW hS => ?_)
  refine lv_istore (lv' := [(4, .int (fX6_costOf a x1 x2 1 h)), (3, .int (fX6_costOf a x1 x2 0 h)), (0, .ref a), (1, .int x1), (2, .int x2)]) hx hb dX6_pays_15 hl (by decide) rfl (fun ls hl => ?_)
  refine lv_aload_n hx hb dX6_pays_17 rfl (lv_at hl 2 rfl) ?_
  refine lv_iload_n hx hb dX6_pays_18 rfl (lv_at hl 3 rfl) ?_
  refine lv_iconst (v := 0) hx hb dX6_pays_19 (by decide) ?_
  refine lv_iload_n hx hb dX6_pays_20 rfl (lv_at hl 1 rfl) ?_
  refine lv_ineg hx hb dX6_pays_21 ?_
  obtain ⟨hc3, hs⟩ := hs
  refine kV_v (As := [.int x1, .int 0, .int (-(fX6_costOf a x1 x2 0 h))]) (rest := []) ⟨hx, hb, hml, hown, hts⟩ (kX6_gets l X h a x1 0 (-(fX6_costOf a x1 x2 0 h)) hO hc3) (wX6_gets hts q4_45 ⟨Nat.le_of_ble_eq_true rfl, Nat.le_of_ble_eq_true rfl⟩) hK hW hS (va_recv hK.1 (hW.one hO.1) (ci := 6) (q0 := 0) rfl rfl) rfl hl.1 rfl (Nat.le_of_ble_eq_true rfl) dX6_pays_22 ⟨Nat.zero_le _, Nat.zero_le _⟩ (fun H locs hW hS => ?_)
  refine lv_aload_n hx hb dX6_pays_25 rfl (lv_at hl 2 rfl) ?_
  refine lv_iload_n hx hb dX6_pays_26 rfl (lv_at hl 3 rfl) ?_
  refine lv_iconst (v := 1) hx hb dX6_pays_27 (by decide) ?_
  refine lv_iload hx hb dX6_pays_28 (lv_at hl 0 rfl) ?_
  refine lv_ineg hx hb dX6_pays_30 ?_
  exact xX6_pays_c31 hO C0 (-(fX6_costOf a x1 x2 1 h)) 1 x1 (fX6_gets a x1 0 (-(fX6_costOf a x1 x2 0 h)) h) _ _ _ _ (lv_sub hl [] rfl) hW hS hs hres
def fX6_pays (a : Nat) (x1 : Int32) (x2 : Int32) (h : HH) : HH := fX6_pays_c0 a x1 x2 h
def sX6_pays (a : Nat) (x1 : Int32) (x2 : Int32) (h : HH) : Prop := sX6_pays_c0 a x1 x2 h
set_option maxRecDepth 100000 in
set_option maxHeartbeats 4000000 in
theorem kX6_pays (l : Launch) (X : Cx) (h : HH) (a : Nat) (x1 : Int32) (x2 : Int32) (hO : IsMo X a) (hs : sX6_pays a x1 x2 h) : Met l yX6_pays vX6_pays rmX6_pays (va_Pc [.ref a, .int x1, .int x2] (fun U => WS X h U)) (QV X (fX6_pays a x1 x2 h)) 0 0 (xA X) := by
  refine Met.ofW (cc := cX6_pays) (maxL := 5) (ret := none) (by decide) rfl ?_
  intro p e s m args below meth c s₁ B hml hv
  obtain ⟨rfl, hW, hK⟩ := hv
  have hl := lv_entry ([.ref a, .int x1, .int x2]) (n := 5) (Nat.le_of_ble_eq_true rfl)
  rw [lg_entry_eq]
  generalize (lg_sl ([.ref a, .int x1, .int x2]) ++ List.replicate (5 - (lg_sl ([.ref a, .int x1, .int x2])).length) Slot.unset).toArray = ls at hl ⊢
  have hl : lv_has ls 5 [(0, .ref a), (1, .int x1), (2, .int x2)] := hl
  exact xX6_pays_c0 hO ⟨B.exec, B.bytes, B.returns, B.notSynchronized, hml, findClass_of_methodNamed B.named, fun w hw => atoms_spec (ws := vX6_pays) B.pre w (List.mem_cons_of_mem _ hw), hK⟩ x1 x2 h _ _ ls _ (lv_sub hl [0, 1, 2] rfl) hW va_S.rf hs rfl
-- VillageBoardModel.takes(III)V
abbrev rmX6_takes : Room := ({ frames := 2, cells := 0, slots := 0, locals := 44 } : Room)
abbrev vX6_takes : List Cond := Cond.code yX6_takes cX6_takes 4 none :: lwG
theorem wX6_takes {R : Room} {s : State} {args : Array Value} {own : String} {idx : Nat} (hg : ∀ w ∈ lwG, w.before args s = true) (hl : Cond.methodLink own idx yX6_takes ∈ lwG) (hR : rmX6_takes.frames + 1 ≤ R.frames ∧ 8 + (4 + 11) + rmX6_takes.locals ≤ R.locals) : CallW R s args own RX6 idx yX6_takes cX6_takes 4 none vX6_takes rmX6_takes 0 0 3 := cwV 3 hg (gV hl q4_168 q0_34 q1_7 q4_169) rfl rfl rfl (by decide +kernel) hR
def fX6_takes_c0 (a : Nat) (x1 : Int32) (x2 : Int32) (x3 : Int32) (h : HH) : HH := hset (fX6_gets a x1 x3 (h (a + 1) ((fX6_spaceAt x2 0).toNatClampNeg)) h) (a + 1) ((fX6_spaceAt x2 0).toNatClampNeg) 0
def sX6_takes_c0 (a : Nat) (x1 : Int32) (x2 : Int32) (x3 : Int32) (h : HH) : Prop := (vp_in (fX6_spaceAt x2 0) 206) ∧ ((sX6_gets a x1 x3 (h (a + 1) ((fX6_spaceAt x2 0).toNatClampNeg)) h) ∧ (vp_in (fX6_spaceAt x2 0) 206))
set_option maxRecDepth 100000 in
set_option maxHeartbeats 4000000 in
theorem xX6_takes_c0 {p : Program} {l : Launch} {e : Env} {s : State} {m : MethodId} {args : Array Value} {below : List Frame} {meth : Method} {c : Code} {X : Cx} {a : Nat} (hO : IsMo X a) (C0 : CT p s m args meth c X cX6_takes 4 none RX6) (x1 : Int32) (x2 : Int32) (x3 : Int32) (h : HH) (H : Heap) (locs : List Loc) (ls : Array Slot) (res : HH) (hl : lv_has ls 4 [(0, .ref a), (1, .int x1), (2, .int x2), (3, .int x3)]) (hW : WH X h H) (hS : va_S (xA X) s.heap H locs) (hs : sX6_takes_c0 a x1 x2 x3 h) (hres : fX6_takes_c0 a x1 x2 x3 h = res) : W p l e rmX6_takes s m args below meth c H locs 0 0 (MQ below (QV X res) args s 0 0 (xA X)) (F0 m 0 ls []) := by
  obtain ⟨hx, hb, hr, hlk, hml, hown, hts, hK⟩ := id C0
  refine lv_aload_n hx hb dX6_takes_0 rfl (lv_at hl 0 rfl) ?_
  refine lv_iload_n hx hb dX6_takes_1 rfl (lv_at hl 1 rfl) ?_
  refine lv_iload_n hx hb dX6_takes_2 rfl (lv_at hl 3 rfl) ?_
  refine lv_aload_n hx hb dX6_takes_3 rfl (lv_at hl 0 rfl) ?_
  refine g6_0 hx hb hts hown hK hW hO.1 (hts _ q4_49) dX6_takes_4 ?_
  refine lv_iload_n hx hb dX6_takes_7 rfl (lv_at hl 2 rfl) ?_
  refine lv_iconst (v := 0) hx hb dX6_takes_8 (by decide) ?_
  refine kS_i (As := [.int x2, .int 0]) (rest := [.ref (a + 1), .int x3, .int x1, .ref a]) ⟨hx, hb, hml, hown, hts⟩ (kX6_spaceAt l X h x2 0) (wX6_spaceAt hts q4_34 ⟨Nat.le_of_ble_eq_true rfl, Nat.le_of_ble_eq_true rfl⟩) hK hW hS rfl hl.1 rfl (Nat.le_of_ble_eq_true rfl) dX6_takes_9 ⟨Nat.zero_le _, Nat.zero_le _⟩ (fun H locs hW hS => ?_)
  obtain ⟨hi1, hs⟩ := hs
  refine kb_iald hx hb hK hW hO.2.1 (k := (fX6_spaceAt x2 0).toNatClampNeg) rfl hi1 dX6_takes_12 ?_
  obtain ⟨hc2, hs⟩ := hs
  refine kV_v (As := [.int x1, .int x3, .int (h (a + 1) ((fX6_spaceAt x2 0).toNatClampNeg))]) (rest := []) ⟨hx, hb, hml, hown, hts⟩ (kX6_gets l X h a x1 x3 (h (a + 1) ((fX6_spaceAt x2 0).toNatClampNeg)) hO hc2) (wX6_gets hts q4_45 ⟨Nat.le_of_ble_eq_true rfl, Nat.le_of_ble_eq_true rfl⟩) hK hW hS (va_recv hK.1 (hW.one hO.1) (ci := 6) (q0 := 0) rfl rfl) rfl hl.1 rfl (Nat.le_of_ble_eq_true rfl) dX6_takes_13 ⟨Nat.zero_le _, Nat.zero_le _⟩ (fun H locs hW hS => ?_)
  refine lv_aload_n hx hb dX6_takes_16 rfl (lv_at hl 0 rfl) ?_
  refine g6_0 hx hb hts hown hK hW hO.1 (hts _ q4_49) dX6_takes_17 ?_
  refine lv_iload_n hx hb dX6_takes_20 rfl (lv_at hl 2 rfl) ?_
  refine lv_iconst (v := 0) hx hb dX6_takes_21 (by decide) ?_
  refine kS_i (As := [.int x2, .int 0]) (rest := [.ref (a + 1)]) ⟨hx, hb, hml, hown, hts⟩ (kX6_spaceAt l X (fX6_gets a x1 x3 (h (a + 1) ((fX6_spaceAt x2 0).toNatClampNeg)) h) x2 0) (wX6_spaceAt hts q4_34 ⟨Nat.le_of_ble_eq_true rfl, Nat.le_of_ble_eq_true rfl⟩) hK hW hS rfl hl.1 rfl (Nat.le_of_ble_eq_true rfl) dX6_takes_22 ⟨Nat.zero_le _, Nat.zero_le _⟩ (fun H locs hW hS => ?_)
  refine lv_iconst (v := 0) hx hb dX6_takes_25 (by decide) ?_
  have hi3 := hs
  refine kb_iast hx hb hK hW hS hO.2.1 (k := (fX6_spaceAt x2 0).toNatClampNeg) rfl hi3 dX6_takes_26 (fun H locs hW hS => ?_)
  subst hres
  exact kr_v hx hb hr hlk hK hW hS dX6_takes_27
def fX6_takes (a : Nat) (x1 : Int32) (x2 : Int32) (x3 : Int32) (h : HH) : HH := fX6_takes_c0 a x1 x2 x3 h
def sX6_takes (a : Nat) (x1 : Int32) (x2 : Int32) (x3 : Int32) (h : HH) : Prop := sX6_takes_c0 a x1 x2 x3 h
set_option maxRecDepth 100000 in
set_option maxHeartbeats 4000000 in
theorem kX6_takes (l : Launch) (X : Cx) (h : HH) (a : Nat) (x1 : Int32) (x2 : Int32) (x3 : Int32) (hO : IsMo X a) (hs : sX6_takes a x1 x2 x3 h) : Met l yX6_takes vX6_takes rmX6_takes (va_Pc [.ref a, .int x1, .int x2, .int x3] (fun U => WS X h U)) (QV X (fX6_takes a x1 x2 x3 h)) 0 0 (xA X) := by
  refine Met.ofW (cc := cX6_takes) (maxL := 4) (ret := none) (by decide) rfl ?_
  intro p e s m args below meth c s₁ B hml hv
  obtain ⟨rfl, hW, hK⟩ := hv
  have hl := lv_entry ([.ref a, .int x1, .int x2, .int x3]) (n := 4) (Nat.le_of_ble_eq_true rfl)
  rw [lg_entry_eq]
  generalize (lg_sl ([.ref a, .int x1, .int x2, .int x3]) ++ List.replicate (4 - (lg_sl ([.ref a, .int x1, .int x2, .int x3])).length) Slot.unset).toArray = ls at hl ⊢
  have hl : lv_has ls 4 [(0, .ref a), (1, .int x1), (2, .int x2), (3, .int x3)] := hl
  exact xX6_takes_c0 hO ⟨B.exec, B.bytes, B.returns, B.notSynchronized, hml, findClass_of_methodNamed B.named, fun w hw => atoms_spec (ws := vX6_takes) B.pre w (List.mem_cons_of_mem _ hw), hK⟩ x1 x2 x3 h _ _ ls _ (lv_sub hl [0, 1, 2, 3] rfl) hW va_S.rf hs rfl
-- VillageBoardModel.actsElse(III)V
abbrev rmX6_actsElse : Room := ({ frames := 5, cells := 0, slots := 0, locals := 114 } : Room)
abbrev vX6_actsElse : List Cond := Cond.code yX6_actsElse cX6_actsElse 4 none :: lwG
theorem wX6_actsElse {R : Room} {s : State} {args : Array Value} {own : String} {idx : Nat} (hg : ∀ w ∈ lwG, w.before args s = true) (hl : Cond.methodLink own idx yX6_actsElse ∈ lwG) (hR : rmX6_actsElse.frames + 1 ≤ R.frames ∧ 8 + (4 + 11) + rmX6_actsElse.locals ≤ R.locals) : CallW R s args own RX6 idx yX6_actsElse cX6_actsElse 4 none vX6_actsElse rmX6_actsElse 0 0 3 := cwV 3 hg (gV hl q4_176 q0_36 q1_7 q4_177) rfl rfl rfl (by decide +kernel) hR
def fX6_actsElse_c44 (a : Nat) (xs0 : Int32) (xs1 : Int32) (xs2 : Int32) (h : HH) : HH := fX6_gets a xs2 xs1 xs0 h
def sX6_actsElse_c44 (a : Nat) (xs0 : Int32) (xs1 : Int32) (xs2 : Int32) (h : HH) : Prop := sX6_gets a xs2 xs1 xs0 h
set_option maxRecDepth 100000 in
set_option maxHeartbeats 4000000 in
theorem xX6_actsElse_c44 {p : Program} {l : Launch} {e : Env} {s : State} {m : MethodId} {args : Array Value} {below : List Frame} {meth : Method} {c : Code} {X : Cx} {a : Nat} (hO : IsMo X a) (C0 : CT p s m args meth c X cX6_actsElse 4 none RX6) (xs0 : Int32) (xs1 : Int32) (xs2 : Int32) (h : HH) (H : Heap) (locs : List Loc) (ls : Array Slot) (res : HH) (hl : lv_has ls 4 []) (hW : WH X h H) (hS : va_S (xA X) s.heap H locs) (hs : sX6_actsElse_c44 a xs0 xs1 xs2 h) (hres : fX6_actsElse_c44 a xs0 xs1 xs2 h = res) : W p l e rmX6_actsElse s m args below meth c H locs 0 0 (MQ below (QV X res) args s 0 0 (xA X)) (F0 m 44 ls [.int xs0, .int xs1, .int xs2, .ref a]) := by
  obtain ⟨hx, hb, hr, hlk, hml, hown, hts, hK⟩ := id C0
  have hc3 := hs
  refine kV_v (As := [.int xs2, .int xs1, .int xs0]) (rest := []) ⟨hx, hb, hml, hown, hts⟩ (kX6_gets l X h a xs2 xs1 xs0 hO hc3) (wX6_gets hts q4_45 ⟨Nat.le_of_ble_eq_true rfl, Nat.le_of_ble_eq_true rfl⟩) hK hW hS (va_recv hK.1 (hW.one hO.1) (ci := 6) (q0 := 0) rfl rfl) rfl hl.1 rfl (Nat.le_of_ble_eq_true rfl) dX6_actsElse_44 ⟨Nat.zero_le _, Nat.zero_le _⟩ (fun H locs hW hS => ?_)
  refine lv_goto (tgt := 138) hx hb dX6_actsElse_47 (by decide) ?_
  subst hres
  exact kr_v hx hb hr hlk hK hW hS dX6_actsElse_138
def fX6_actsElse_c75 (a : Nat) (x3 : Int32) (xs0 : Int32) (xs1 : Int32) (xs2 : Int32) (h : HH) : HH := fX6_gets a xs2 xs1 (xs0 * x3) h
def sX6_actsElse_c75 (a : Nat) (x3 : Int32) (xs0 : Int32) (xs1 : Int32) (xs2 : Int32) (h : HH) : Prop := sX6_gets a xs2 xs1 (xs0 * x3) h
set_option maxRecDepth 100000 in
set_option maxHeartbeats 4000000 in
theorem xX6_actsElse_c75 {p : Program} {l : Launch} {e : Env} {s : State} {m : MethodId} {args : Array Value} {below : List Frame} {meth : Method} {c : Code} {X : Cx} {a : Nat} (hO : IsMo X a) (C0 : CT p s m args meth c X cX6_actsElse 4 none RX6) (x3 : Int32) (xs0 : Int32) (xs1 : Int32) (xs2 : Int32) (h : HH) (H : Heap) (locs : List Loc) (ls : Array Slot) (res : HH) (hl : lv_has ls 4 [(3, .int x3)]) (hW : WH X h H) (hS : va_S (xA X) s.heap H locs) (hs : sX6_actsElse_c75 a x3 xs0 xs1 xs2 h) (hres : fX6_actsElse_c75 a x3 xs0 xs1 xs2 h = res) : W p l e rmX6_actsElse s m args below meth c H locs 0 0 (MQ below (QV X res) args s 0 0 (xA X)) (F0 m 75 ls [.int xs0, .int xs1, .int xs2, .ref a]) := by
  obtain ⟨hx, hb, hr, hlk, hml, hown, hts, hK⟩ := id C0
  refine lv_iload_n hx hb dX6_actsElse_75 rfl (lv_at hl 0 rfl) ?_
  refine lv_imul hx hb dX6_actsElse_76 ?_
  have hc8 := hs
  refine kV_v (As := [.int xs2, .int xs1, .int (xs0 * x3)]) (rest := []) ⟨hx, hb, hml, hown, hts⟩ (kX6_gets l X h a xs2 xs1 (xs0 * x3) hO hc8) (wX6_gets hts q4_45 ⟨Nat.le_of_ble_eq_true rfl, Nat.le_of_ble_eq_true rfl⟩) hK hW hS (va_recv hK.1 (hW.one hO.1) (ci := 6) (q0 := 0) rfl rfl) rfl hl.1 rfl (Nat.le_of_ble_eq_true rfl) dX6_actsElse_77 ⟨Nat.zero_le _, Nat.zero_le _⟩ (fun H locs hW hS => ?_)
  refine lv_goto (tgt := 138) hx hb dX6_actsElse_80 (by decide) ?_
  subst hres
  exact kr_v hx hb hr hlk hK hW hS dX6_actsElse_138
def fX6_actsElse_c64 (a : Nat) (x3 : Int32) (xs0 : Int32) (xs1 : Int32) (xs3 : Int32) (xs4 : Int32) (h : HH) : HH := if (bI (fX6_has a xs1 xs0 h)) = 0 then (fX6_actsElse_c75 a x3 3 xs3 xs4 h) else (fX6_actsElse_c75 a x3 5 xs3 xs4 h)
def sX6_actsElse_c64 (a : Nat) (x3 : Int32) (xs0 : Int32) (xs1 : Int32) (xs3 : Int32) (xs4 : Int32) (h : HH) : Prop := (sX6_has a xs1 xs0 h) ∧ (((bI (fX6_has a xs1 xs0 h)) = 0 → (sX6_actsElse_c75 a x3 3 xs3 xs4 h)) ∧ (¬ ((bI (fX6_has a xs1 xs0 h)) = 0) → (sX6_actsElse_c75 a x3 5 xs3 xs4 h)))
set_option maxRecDepth 100000 in
set_option maxHeartbeats 4000000 in
theorem xX6_actsElse_c64 {p : Program} {l : Launch} {e : Env} {s : State} {m : MethodId} {args : Array Value} {below : List Frame} {meth : Method} {c : Code} {X : Cx} {a : Nat} (hO : IsMo X a) (C0 : CT p s m args meth c X cX6_actsElse 4 none RX6) (x3 : Int32) (xs0 : Int32) (xs1 : Int32) (xs3 : Int32) (xs4 : Int32) (h : HH) (H : Heap) (locs : List Loc) (ls : Array Slot) (res : HH) (hl : lv_has ls 4 [(3, .int x3)]) (hW : WH X h H) (hS : va_S (xA X) s.heap H locs) (hs : sX6_actsElse_c64 a x3 xs0 xs1 xs3 xs4 h) (hres : fX6_actsElse_c64 a x3 xs0 xs1 xs3 xs4 h = res) : W p l e rmX6_actsElse s m args below meth c H locs 0 0 (MQ below (QV X res) args s 0 0 (xA X)) (F0 m 64 ls [.int xs0, .int xs1, .ref a, .int xs3, .int xs4, .ref a]) := by
  obtain ⟨hx, hb, hr, hlk, hml, hown, hts, hK⟩ := id C0
  obtain ⟨hc6, hs⟩ := hs
  refine kV_i (As := [.int xs1, .int xs0]) (rest := [.int xs3, .int xs4, .ref a]) ⟨hx, hb, hml, hown, hts⟩ (kX6_has l X h a xs1 xs0 hO hc6) (wX6_has hts q4_37 ⟨Nat.le_of_ble_eq_true rfl, Nat.le_of_ble_eq_true rfl⟩) hK hW hS (va_recv hK.1 (hW.one hO.1) (ci := 6) (q0 := 0) rfl rfl) rfl hl.1 rfl (Nat.le_of_ble_eq_true rfl) dX6_actsElse_64 ⟨Nat.zero_le _, Nat.zero_le _⟩ (fun H locs hW hS => ?_)
  refine lv_if_eq (tgt := 74) hx hb dX6_actsElse_67 (by decide) (fun c7 => ?_) (fun c7 => ?_)
  · have hres := (if_pos c7).symm.trans hres
    have hs := And.left hs c7
    refine lv_iconst (v := 3) hx hb dX6_actsElse_74 (by decide) ?_
    exact xX6_actsElse_c75 hO C0 x3 3 xs3 xs4 h _ _ _ _ (lv_sub hl [0] rfl) hW hS hs hres
  · have hres := (if_neg c7).symm.trans hres
    have hs := And.right hs c7
    refine lv_iconst (v := 5) hx hb dX6_actsElse_70 (by decide) ?_
    refine lv_goto (tgt := 75) hx hb dX6_actsElse_71 (by decide) ?_
    exact xX6_actsElse_c75 hO C0 x3 5 xs3 xs4 h _ _ _ _ (lv_sub hl [0] rfl) hW hS hs hres
def fX6_actsElse_c96 (a : Nat) (xs0 : Int32) (xs1 : Int32) (xs2 : Int32) (h : HH) : HH := fX6_gets a xs2 xs1 xs0 h
def sX6_actsElse_c96 (a : Nat) (xs0 : Int32) (xs1 : Int32) (xs2 : Int32) (h : HH) : Prop := sX6_gets a xs2 xs1 xs0 h
set_option maxRecDepth 100000 in
set_option maxHeartbeats 4000000 in
theorem xX6_actsElse_c96 {p : Program} {l : Launch} {e : Env} {s : State} {m : MethodId} {args : Array Value} {below : List Frame} {meth : Method} {c : Code} {X : Cx} {a : Nat} (hO : IsMo X a) (C0 : CT p s m args meth c X cX6_actsElse 4 none RX6) (xs0 : Int32) (xs1 : Int32) (xs2 : Int32) (h : HH) (H : Heap) (locs : List Loc) (ls : Array Slot) (res : HH) (hl : lv_has ls 4 []) (hW : WH X h H) (hS : va_S (xA X) s.heap H locs) (hs : sX6_actsElse_c96 a xs0 xs1 xs2 h) (hres : fX6_actsElse_c96 a xs0 xs1 xs2 h = res) : W p l e rmX6_actsElse s m args below meth c H locs 0 0 (MQ below (QV X res) args s 0 0 (xA X)) (F0 m 96 ls [.int xs0, .int xs1, .int xs2, .ref a]) := by
  obtain ⟨hx, hb, hr, hlk, hml, hown, hts, hK⟩ := id C0
  have hc11 := hs
  refine kV_v (As := [.int xs2, .int xs1, .int xs0]) (rest := []) ⟨hx, hb, hml, hown, hts⟩ (kX6_gets l X h a xs2 xs1 xs0 hO hc11) (wX6_gets hts q4_45 ⟨Nat.le_of_ble_eq_true rfl, Nat.le_of_ble_eq_true rfl⟩) hK hW hS (va_recv hK.1 (hW.one hO.1) (ci := 6) (q0 := 0) rfl rfl) rfl hl.1 rfl (Nat.le_of_ble_eq_true rfl) dX6_actsElse_96 ⟨Nat.zero_le _, Nat.zero_le _⟩ (fun H locs hW hS => ?_)
  refine lv_goto (tgt := 138) hx hb dX6_actsElse_99 (by decide) ?_
  subst hres
  exact kr_v hx hb hr hlk hK hW hS dX6_actsElse_138
def fX6_actsElse_c135 (a : Nat) (xs0 : Int32) (xs1 : Int32) (xs2 : Int32) (h : HH) : HH := fX6_gets a xs2 xs1 xs0 h
def sX6_actsElse_c135 (a : Nat) (xs0 : Int32) (xs1 : Int32) (xs2 : Int32) (h : HH) : Prop := sX6_gets a xs2 xs1 xs0 h
set_option maxRecDepth 100000 in
set_option maxHeartbeats 4000000 in
theorem xX6_actsElse_c135 {p : Program} {l : Launch} {e : Env} {s : State} {m : MethodId} {args : Array Value} {below : List Frame} {meth : Method} {c : Code} {X : Cx} {a : Nat} (hO : IsMo X a) (C0 : CT p s m args meth c X cX6_actsElse 4 none RX6) (xs0 : Int32) (xs1 : Int32) (xs2 : Int32) (h : HH) (H : Heap) (locs : List Loc) (ls : Array Slot) (res : HH) (hl : lv_has ls 4 []) (hW : WH X h H) (hS : va_S (xA X) s.heap H locs) (hs : sX6_actsElse_c135 a xs0 xs1 xs2 h) (hres : fX6_actsElse_c135 a xs0 xs1 xs2 h = res) : W p l e rmX6_actsElse s m args below meth c H locs 0 0 (MQ below (QV X res) args s 0 0 (xA X)) (F0 m 135 ls [.int xs0, .int xs1, .int xs2, .ref a]) := by
  obtain ⟨hx, hb, hr, hlk, hml, hown, hts, hK⟩ := id C0
  have hc15 := hs
  refine kV_v (As := [.int xs2, .int xs1, .int xs0]) (rest := []) ⟨hx, hb, hml, hown, hts⟩ (kX6_gets l X h a xs2 xs1 xs0 hO hc15) (wX6_gets hts q4_45 ⟨Nat.le_of_ble_eq_true rfl, Nat.le_of_ble_eq_true rfl⟩) hK hW hS (va_recv hK.1 (hW.one hO.1) (ci := 6) (q0 := 0) rfl rfl) rfl hl.1 rfl (Nat.le_of_ble_eq_true rfl) dX6_actsElse_135 ⟨Nat.zero_le _, Nat.zero_le _⟩ (fun H locs hW hS => ?_)
  subst hres
  exact kr_v hx hb hr hlk hK hW hS dX6_actsElse_138
def fX6_actsElse_c0 (a : Nat) (x1 : Int32) (x2 : Int32) (x3 : Int32) (h : HH) : HH := if x2 = 7 then (fX6_actsElse_c44 a 1 6 x1 (fX6_gets a x1 5 1 h)) else (if x2 = 8 then (fX6_actsElse_c64 a x3 0 x1 4 x1 (fX6_gets a x1 2 (-x3) h)) else (if x2 = 9 then (fX6_actsElse_c96 a (1 <<< (x3 &&& 31)) 10 x1 (fX6_pays a x1 x3 h)) else (if x2 = 10 then (hset (fX6_gets a x1 2 1 h) (a + 1) 4 x1) else (fX6_actsElse_c135 a 1 (jrem x3 5) x1 (fX6_gets a x1 (x3 / 5) (-2) h)))))
def sX6_actsElse_c0 (a : Nat) (x1 : Int32) (x2 : Int32) (x3 : Int32) (h : HH) : Prop := (x2 = 7 → ((sX6_gets a x1 5 1 h) ∧ (sX6_actsElse_c44 a 1 6 x1 (fX6_gets a x1 5 1 h)))) ∧ (¬ (x2 = 7) → ((x2 = 8 → ((sX6_gets a x1 2 (-x3) h) ∧ (sX6_actsElse_c64 a x3 0 x1 4 x1 (fX6_gets a x1 2 (-x3) h)))) ∧ (¬ (x2 = 8) → ((x2 = 9 → ((sX6_pays a x1 x3 h) ∧ (sX6_actsElse_c96 a (1 <<< (x3 &&& 31)) 10 x1 (fX6_pays a x1 x3 h)))) ∧ (¬ (x2 = 9) → ((x2 = 10 → (sX6_gets a x1 2 1 h)) ∧ (¬ (x2 = 10) → ((sX6_gets a x1 (x3 / 5) (-2) h) ∧ (sX6_actsElse_c135 a 1 (jrem x3 5) x1 (fX6_gets a x1 (x3 / 5) (-2) h))))))))))
set_option maxRecDepth 100000 in
set_option maxHeartbeats 4000000 in
theorem xX6_actsElse_c0 {p : Program} {l : Launch} {e : Env} {s : State} {m : MethodId} {args : Array Value} {below : List Frame} {meth : Method} {c : Code} {X : Cx} {a : Nat} (hO : IsMo X a) (C0 : CT p s m args meth c X cX6_actsElse 4 none RX6) (x1 : Int32) (x2 : Int32) (x3 : Int32) (h : HH) (H : Heap) (locs : List Loc) (ls : Array Slot) (res : HH) (hl : lv_has ls 4 [(0, .ref a), (1, .int x1), (2, .int x2), (3, .int x3)]) (hW : WH X h H) (hS : va_S (xA X) s.heap H locs) (hs : sX6_actsElse_c0 a x1 x2 x3 h) (hres : fX6_actsElse_c0 a x1 x2 x3 h = res) : W p l e rmX6_actsElse s m args below meth c H locs 0 0 (MQ below (QV X res) args s 0 0 (xA X)) (F0 m 0 ls []) := by
  obtain ⟨hx, hb, hr, hlk, hml, hown, hts, hK⟩ := id C0
  refine lv_iload_n hx hb dX6_actsElse_0 rfl (lv_at hl 2 rfl) ?_
  by_cases c1 : x2 = 7
  · have hres := (if_pos c1).symm.trans hres
    have hs := And.left hs c1
    refine ksw_in (tgt := 32) hx hb 7 c1 dX6_actsElse_1 (by decide) (by decide) rfl (by decide) ?_
    refine lv_aload_n hx hb dX6_actsElse_32 rfl (lv_at hl 0 rfl) ?_
    refine lv_iload_n hx hb dX6_actsElse_33 rfl (lv_at hl 1 rfl) ?_
    refine lv_iconst (v := 5) hx hb dX6_actsElse_34 (by decide) ?_
    refine lv_iconst (v := 1) hx hb dX6_actsElse_35 (by decide) ?_
    obtain ⟨hc2, hs⟩ := hs
    refine kV_v (As := [.int x1, .int 5, .int 1]) (rest := []) ⟨hx, hb, hml, hown, hts⟩ (kX6_gets l X h a x1 5 1 hO hc2) (wX6_gets hts q4_45 ⟨Nat.le_of_ble_eq_true rfl, Nat.le_of_ble_eq_true rfl⟩) hK hW hS (va_recv hK.1 (hW.one hO.1) (ci := 6) (q0 := 0) rfl rfl) rfl hl.1 rfl (Nat.le_of_ble_eq_true rfl) dX6_actsElse_36 ⟨Nat.zero_le _, Nat.zero_le _⟩ (fun H locs hW hS => ?_)
    refine lv_aload_n hx hb dX6_actsElse_39 rfl (lv_at hl 0 rfl) ?_
    refine lv_iload_n hx hb dX6_actsElse_40 rfl (lv_at hl 1 rfl) ?_
    refine lv_bipush (v := 6) hx hb dX6_actsElse_41 (by decide) ?_
    refine lv_iconst (v := 1) hx hb dX6_actsElse_43 (by decide) ?_
    exact xX6_actsElse_c44 hO C0 1 6 x1 (fX6_gets a x1 5 1 h) _ _ _ _ (lv_sub hl [] rfl) hW hS hs hres
  · have hres := (if_neg c1).symm.trans hres
    have hs := And.right hs c1
    by_cases c4 : x2 = 8
    · have hres := (if_pos c4).symm.trans hres
      have hs := And.left hs c4
      refine ksw_in (tgt := 50) hx hb 8 c4 dX6_actsElse_1 (by decide) (by decide) rfl (by decide) ?_
      refine lv_aload_n hx hb dX6_actsElse_50 rfl (lv_at hl 0 rfl) ?_
      refine lv_iload_n hx hb dX6_actsElse_51 rfl (lv_at hl 1 rfl) ?_
      refine lv_iconst (v := 2) hx hb dX6_actsElse_52 (by decide) ?_
      refine lv_iload_n hx hb dX6_actsElse_53 rfl (lv_at hl 3 rfl) ?_
      refine lv_ineg hx hb dX6_actsElse_54 ?_
      obtain ⟨hc5, hs⟩ := hs
      refine kV_v (As := [.int x1, .int 2, .int (-x3)]) (rest := []) ⟨hx, hb, hml, hown, hts⟩ (kX6_gets l X h a x1 2 (-x3) hO hc5) (wX6_gets hts q4_45 ⟨Nat.le_of_ble_eq_true rfl, Nat.le_of_ble_eq_true rfl⟩) hK hW hS (va_recv hK.1 (hW.one hO.1) (ci := 6) (q0 := 0) rfl rfl) rfl hl.1 rfl (Nat.le_of_ble_eq_true rfl) dX6_actsElse_55 ⟨Nat.zero_le _, Nat.zero_le _⟩ (fun H locs hW hS => ?_)
      refine lv_aload_n hx hb dX6_actsElse_58 rfl (lv_at hl 0 rfl) ?_
      refine lv_iload_n hx hb dX6_actsElse_59 rfl (lv_at hl 1 rfl) ?_
      refine lv_iconst (v := 4) hx hb dX6_actsElse_60 (by decide) ?_
      refine lv_aload_n hx hb dX6_actsElse_61 rfl (lv_at hl 0 rfl) ?_
      refine lv_iload_n hx hb dX6_actsElse_62 rfl (lv_at hl 1 rfl) ?_
      refine lv_iconst (v := 0) hx hb dX6_actsElse_63 (by decide) ?_
      exact xX6_actsElse_c64 hO C0 x3 0 x1 4 x1 (fX6_gets a x1 2 (-x3) h) _ _ _ _ (lv_sub hl [3] rfl) hW hS hs hres
    · have hres := (if_neg c4).symm.trans hres
      have hs := And.right hs c4
      by_cases c9 : x2 = 9
      · have hres := (if_pos c9).symm.trans hres
        have hs := And.left hs c9
        refine ksw_in (tgt := 83) hx hb 9 c9 dX6_actsElse_1 (by decide) (by decide) rfl (by decide) ?_
        refine lv_aload_n hx hb dX6_actsElse_83 rfl (lv_at hl 0 rfl) ?_
        refine lv_iload_n hx hb dX6_actsElse_84 rfl (lv_at hl 1 rfl) ?_
        refine lv_iload_n hx hb dX6_actsElse_85 rfl (lv_at hl 3 rfl) ?_
        obtain ⟨hc10, hs⟩ := hs
        refine kV_v (As := [.int x1, .int x3]) (rest := []) ⟨hx, hb, hml, hown, hts⟩ (kX6_pays l X h a x1 x3 hO hc10) (wX6_pays hts q4_170 ⟨Nat.le_of_ble_eq_true rfl, Nat.le_of_ble_eq_true rfl⟩) hK hW hS (va_recv hK.1 (hW.one hO.1) (ci := 6) (q0 := 0) rfl rfl) rfl hl.1 rfl (Nat.le_of_ble_eq_true rfl) dX6_actsElse_86 ⟨Nat.zero_le _, Nat.zero_le _⟩ (fun H locs hW hS => ?_)
        refine lv_aload_n hx hb dX6_actsElse_89 rfl (lv_at hl 0 rfl) ?_
        refine lv_iload_n hx hb dX6_actsElse_90 rfl (lv_at hl 1 rfl) ?_
        refine lv_bipush (v := 10) hx hb dX6_actsElse_91 (by decide) ?_
        refine lv_iconst (v := 1) hx hb dX6_actsElse_93 (by decide) ?_
        refine lv_iload_n hx hb dX6_actsElse_94 rfl (lv_at hl 3 rfl) ?_
        refine lv_ishl hx hb dX6_actsElse_95 ?_
        exact xX6_actsElse_c96 hO C0 (1 <<< (x3 &&& 31)) 10 x1 (fX6_pays a x1 x3 h) _ _ _ _ (lv_sub hl [] rfl) hW hS hs hres
      · have hres := (if_neg c9).symm.trans hres
        have hs := And.right hs c9
        by_cases c12 : x2 = 10
        · have hres := (if_pos c12).symm.trans hres
          have hs := And.left hs c12
          refine ksw_in (tgt := 102) hx hb 10 c12 dX6_actsElse_1 (by decide) (by decide) rfl (by decide) ?_
          refine lv_aload_n hx hb dX6_actsElse_102 rfl (lv_at hl 0 rfl) ?_
          refine lv_iload_n hx hb dX6_actsElse_103 rfl (lv_at hl 1 rfl) ?_
          refine lv_iconst (v := 2) hx hb dX6_actsElse_104 (by decide) ?_
          refine lv_iconst (v := 1) hx hb dX6_actsElse_105 (by decide) ?_
          have hc13 := hs
          refine kV_v (As := [.int x1, .int 2, .int 1]) (rest := []) ⟨hx, hb, hml, hown, hts⟩ (kX6_gets l X h a x1 2 1 hO hc13) (wX6_gets hts q4_45 ⟨Nat.le_of_ble_eq_true rfl, Nat.le_of_ble_eq_true rfl⟩) hK hW hS (va_recv hK.1 (hW.one hO.1) (ci := 6) (q0 := 0) rfl rfl) rfl hl.1 rfl (Nat.le_of_ble_eq_true rfl) dX6_actsElse_106 ⟨Nat.zero_le _, Nat.zero_le _⟩ (fun H locs hW hS => ?_)
          refine lv_aload_n hx hb dX6_actsElse_109 rfl (lv_at hl 0 rfl) ?_
          refine g6_0 hx hb hts hown hK hW hO.1 (hts _ q4_49) dX6_actsElse_110 ?_
          refine lv_iconst (v := 4) hx hb dX6_actsElse_113 (by decide) ?_
          refine lv_iload_n hx hb dX6_actsElse_114 rfl (lv_at hl 1 rfl) ?_
          refine kb_iast hx hb hK hW hS hO.2.1 (k := 4) (by decide) (vpd (by decide)) dX6_actsElse_115 (fun H locs hW hS => ?_)
          refine lv_goto (tgt := 138) hx hb dX6_actsElse_116 (by decide) ?_
          subst hres
          exact kr_v hx hb hr hlk hK hW hS dX6_actsElse_138
        · have hres := (if_neg c12).symm.trans hres
          have hs := And.right hs c12
          refine lv_tableOut (tgt := 119) hx hb dX6_actsElse_1 (by have := lv_neT (a := 7) c1 (by decide); have := lv_neT (a := 8) c4 (by decide); have := lv_neT (a := 9) c9 (by decide); have := lv_neT (a := 10) c12 (by decide); omega) (by decide) ?_
          refine lv_aload_n hx hb dX6_actsElse_119 rfl (lv_at hl 0 rfl) ?_
          refine lv_iload_n hx hb dX6_actsElse_120 rfl (lv_at hl 1 rfl) ?_
          refine lv_iload_n hx hb dX6_actsElse_121 rfl (lv_at hl 3 rfl) ?_
          refine lv_iconst (v := 5) hx hb dX6_actsElse_122 (by decide) ?_
          refine lv_idiv hx hb dX6_actsElse_123 (by decide) ?_
          refine lv_bipush (v := (-2)) hx hb dX6_actsElse_124 (by decide) ?_
          obtain ⟨hc14, hs⟩ := hs
          refine kV_v (As := [.int x1, .int (x3 / 5), .int (-2)]) (rest := []) ⟨hx, hb, hml, hown, hts⟩ (kX6_gets l X h a x1 (x3 / 5) (-2) hO hc14) (wX6_gets hts q4_45 ⟨Nat.le_of_ble_eq_true rfl, Nat.le_of_ble_eq_true rfl⟩) hK hW hS (va_recv hK.1 (hW.one hO.1) (ci := 6) (q0 := 0) rfl rfl) rfl hl.1 rfl (Nat.le_of_ble_eq_true rfl) dX6_actsElse_126 ⟨Nat.zero_le _, Nat.zero_le _⟩ (fun H locs hW hS => ?_)
          refine lv_aload_n hx hb dX6_actsElse_129 rfl (lv_at hl 0 rfl) ?_
          refine lv_iload_n hx hb dX6_actsElse_130 rfl (lv_at hl 1 rfl) ?_
          refine lv_iload_n hx hb dX6_actsElse_131 rfl (lv_at hl 3 rfl) ?_
          refine lv_iconst (v := 5) hx hb dX6_actsElse_132 (by decide) ?_
          refine kb_irem hx hb dX6_actsElse_133 (by decide) ?_
          refine lv_iconst (v := 1) hx hb dX6_actsElse_134 (by decide) ?_
          exact xX6_actsElse_c135 hO C0 1 (jrem x3 5) x1 (fX6_gets a x1 (x3 / 5) (-2) h) _ _ _ _ (lv_sub hl [] rfl) hW hS hs hres
def fX6_actsElse (a : Nat) (x1 : Int32) (x2 : Int32) (x3 : Int32) (h : HH) : HH := fX6_actsElse_c0 a x1 x2 x3 h
def sX6_actsElse (a : Nat) (x1 : Int32) (x2 : Int32) (x3 : Int32) (h : HH) : Prop := sX6_actsElse_c0 a x1 x2 x3 h
set_option maxRecDepth 100000 in
set_option maxHeartbeats 4000000 in
theorem kX6_actsElse (l : Launch) (X : Cx) (h : HH) (a : Nat) (x1 : Int32) (x2 : Int32) (x3 : Int32) (hO : IsMo X a) (hs : sX6_actsElse a x1 x2 x3 h) : Met l yX6_actsElse vX6_actsElse rmX6_actsElse (va_Pc [.ref a, .int x1, .int x2, .int x3] (fun U => WS X h U)) (QV X (fX6_actsElse a x1 x2 x3 h)) 0 0 (xA X) := by
  refine Met.ofW (cc := cX6_actsElse) (maxL := 4) (ret := none) (by decide) rfl ?_
  intro p e s m args below meth c s₁ B hml hv
  obtain ⟨rfl, hW, hK⟩ := hv
  have hl := lv_entry ([.ref a, .int x1, .int x2, .int x3]) (n := 4) (Nat.le_of_ble_eq_true rfl)
  rw [lg_entry_eq]
  generalize (lg_sl ([.ref a, .int x1, .int x2, .int x3]) ++ List.replicate (4 - (lg_sl ([.ref a, .int x1, .int x2, .int x3])).length) Slot.unset).toArray = ls at hl ⊢
  have hl : lv_has ls 4 [(0, .ref a), (1, .int x1), (2, .int x2), (3, .int x3)] := hl
  exact xX6_actsElse_c0 hO ⟨B.exec, B.bytes, B.returns, B.notSynchronized, hml, findClass_of_methodNamed B.named, fun w hw => atoms_spec (ws := vX6_actsElse) B.pre w (List.mem_cons_of_mem _ hw), hK⟩ x1 x2 x3 h _ _ ls _ (lv_sub hl [0, 1, 2, 3] rfl) hW va_S.rf hs rfl
-- VillageBoardModel.acts(III)V
abbrev rmX6_acts : Room := ({ frames := 6, cells := 0, slots := 0, locals := 137 } : Room)
abbrev vX6_acts : List Cond := Cond.code yX6_acts cX6_acts 4 none :: lwG
theorem wX6_acts {R : Room} {s : State} {args : Array Value} {own : String} {idx : Nat} (hg : ∀ w ∈ lwG, w.before args s = true) (hl : Cond.methodLink own idx yX6_acts ∈ lwG) (hR : rmX6_acts.frames + 1 ≤ R.frames ∧ 8 + (4 + 11) + rmX6_acts.locals ≤ R.locals) : CallW R s args own RX6 idx yX6_acts cX6_acts 4 none vX6_acts rmX6_acts 0 0 3 := cwV 3 hg (gV hl q4_164 q0_33 q1_7 q4_165) rfl rfl rfl (by decide +kernel) hR
def fX6_acts_c68 (a : Nat) (xs0 : Int32) (xs1 : Int32) (xs2 : Int32) (h : HH) : HH := fX6_gets a xs2 xs1 xs0 h
def sX6_acts_c68 (a : Nat) (xs0 : Int32) (xs1 : Int32) (xs2 : Int32) (h : HH) : Prop := sX6_gets a xs2 xs1 xs0 h
set_option maxRecDepth 100000 in
set_option maxHeartbeats 4000000 in
theorem xX6_acts_c68 {p : Program} {l : Launch} {e : Env} {s : State} {m : MethodId} {args : Array Value} {below : List Frame} {meth : Method} {c : Code} {X : Cx} {a : Nat} (hO : IsMo X a) (C0 : CT p s m args meth c X cX6_acts 4 none RX6) (xs0 : Int32) (xs1 : Int32) (xs2 : Int32) (h : HH) (H : Heap) (locs : List Loc) (ls : Array Slot) (res : HH) (hl : lv_has ls 4 []) (hW : WH X h H) (hS : va_S (xA X) s.heap H locs) (hs : sX6_acts_c68 a xs0 xs1 xs2 h) (hres : fX6_acts_c68 a xs0 xs1 xs2 h = res) : W p l e rmX6_acts s m args below meth c H locs 0 0 (MQ below (QV X res) args s 0 0 (xA X)) (F0 m 68 ls [.int xs0, .int xs1, .int xs2, .ref a]) := by
  obtain ⟨hx, hb, hr, hlk, hml, hown, hts, hK⟩ := id C0
  have hc5 := hs
  refine kV_v (As := [.int xs2, .int xs1, .int xs0]) (rest := []) ⟨hx, hb, hml, hown, hts⟩ (kX6_gets l X h a xs2 xs1 xs0 hO hc5) (wX6_gets hts q4_45 ⟨Nat.le_of_ble_eq_true rfl, Nat.le_of_ble_eq_true rfl⟩) hK hW hS (va_recv hK.1 (hW.one hO.1) (ci := 6) (q0 := 0) rfl rfl) rfl hl.1 rfl (Nat.le_of_ble_eq_true rfl) dX6_acts_68 ⟨Nat.zero_le _, Nat.zero_le _⟩ (fun H locs hW hS => ?_)
  refine lv_goto (tgt := 148) hx hb dX6_acts_71 (by decide) ?_
  subst hres
  exact kr_v hx hb hr hlk hK hW hS dX6_acts_148
def fX6_acts_c57 (a : Nat) (xs0 : Int32) (xs1 : Int32) (xs3 : Int32) (xs4 : Int32) (h : HH) : HH := if (bI (fX6_has a xs1 xs0 h)) = 0 then (fX6_acts_c68 a 0 xs3 xs4 h) else (fX6_acts_c68 a 1 xs3 xs4 h)
def sX6_acts_c57 (a : Nat) (xs0 : Int32) (xs1 : Int32) (xs3 : Int32) (xs4 : Int32) (h : HH) : Prop := (sX6_has a xs1 xs0 h) ∧ (((bI (fX6_has a xs1 xs0 h)) = 0 → (sX6_acts_c68 a 0 xs3 xs4 h)) ∧ (¬ ((bI (fX6_has a xs1 xs0 h)) = 0) → (sX6_acts_c68 a 1 xs3 xs4 h)))
set_option maxRecDepth 100000 in
set_option maxHeartbeats 4000000 in
theorem xX6_acts_c57 {p : Program} {l : Launch} {e : Env} {s : State} {m : MethodId} {args : Array Value} {below : List Frame} {meth : Method} {c : Code} {X : Cx} {a : Nat} (hO : IsMo X a) (C0 : CT p s m args meth c X cX6_acts 4 none RX6) (xs0 : Int32) (xs1 : Int32) (xs3 : Int32) (xs4 : Int32) (h : HH) (H : Heap) (locs : List Loc) (ls : Array Slot) (res : HH) (hl : lv_has ls 4 []) (hW : WH X h H) (hS : va_S (xA X) s.heap H locs) (hs : sX6_acts_c57 a xs0 xs1 xs3 xs4 h) (hres : fX6_acts_c57 a xs0 xs1 xs3 xs4 h = res) : W p l e rmX6_acts s m args below meth c H locs 0 0 (MQ below (QV X res) args s 0 0 (xA X)) (F0 m 57 ls [.int xs0, .int xs1, .ref a, .int xs3, .int xs4, .ref a]) := by
  obtain ⟨hx, hb, hr, hlk, hml, hown, hts, hK⟩ := id C0
  obtain ⟨hc3, hs⟩ := hs
  refine kV_i (As := [.int xs1, .int xs0]) (rest := [.int xs3, .int xs4, .ref a]) ⟨hx, hb, hml, hown, hts⟩ (kX6_has l X h a xs1 xs0 hO hc3) (wX6_has hts q4_37 ⟨Nat.le_of_ble_eq_true rfl, Nat.le_of_ble_eq_true rfl⟩) hK hW hS (va_recv hK.1 (hW.one hO.1) (ci := 6) (q0 := 0) rfl rfl) rfl hl.1 rfl (Nat.le_of_ble_eq_true rfl) dX6_acts_57 ⟨Nat.zero_le _, Nat.zero_le _⟩ (fun H locs hW hS => ?_)
  refine lv_if_eq (tgt := 67) hx hb dX6_acts_60 (by decide) (fun c4 => ?_) (fun c4 => ?_)
  · have hres := (if_pos c4).symm.trans hres
    have hs := And.left hs c4
    refine lv_iconst (v := 0) hx hb dX6_acts_67 (by decide) ?_
    exact xX6_acts_c68 hO C0 0 xs3 xs4 h _ _ _ _ (lv_sub hl [] rfl) hW hS hs hres
  · have hres := (if_neg c4).symm.trans hres
    have hs := And.right hs c4
    refine lv_iconst (v := 1) hx hb dX6_acts_63 (by decide) ?_
    refine lv_goto (tgt := 68) hx hb dX6_acts_64 (by decide) ?_
    exact xX6_acts_c68 hO C0 1 xs3 xs4 h _ _ _ _ (lv_sub hl [] rfl) hW hS hs hres
def fX6_acts_c135 (a : Nat) (xs0 : Int32) (xs1 : Int32) (xs2 : Int32) (h : HH) : HH := fX6_gets a xs2 xs1 xs0 h
def sX6_acts_c135 (a : Nat) (xs0 : Int32) (xs1 : Int32) (xs2 : Int32) (h : HH) : Prop := sX6_gets a xs2 xs1 xs0 h
set_option maxRecDepth 100000 in
set_option maxHeartbeats 4000000 in
theorem xX6_acts_c135 {p : Program} {l : Launch} {e : Env} {s : State} {m : MethodId} {args : Array Value} {below : List Frame} {meth : Method} {c : Code} {X : Cx} {a : Nat} (hO : IsMo X a) (C0 : CT p s m args meth c X cX6_acts 4 none RX6) (xs0 : Int32) (xs1 : Int32) (xs2 : Int32) (h : HH) (H : Heap) (locs : List Loc) (ls : Array Slot) (res : HH) (hl : lv_has ls 4 []) (hW : WH X h H) (hS : va_S (xA X) s.heap H locs) (hs : sX6_acts_c135 a xs0 xs1 xs2 h) (hres : fX6_acts_c135 a xs0 xs1 xs2 h = res) : W p l e rmX6_acts s m args below meth c H locs 0 0 (MQ below (QV X res) args s 0 0 (xA X)) (F0 m 135 ls [.int xs0, .int xs1, .int xs2, .ref a]) := by
  obtain ⟨hx, hb, hr, hlk, hml, hown, hts, hK⟩ := id C0
  have hc18 := hs
  refine kV_v (As := [.int xs2, .int xs1, .int xs0]) (rest := []) ⟨hx, hb, hml, hown, hts⟩ (kX6_gets l X h a xs2 xs1 xs0 hO hc18) (wX6_gets hts q4_45 ⟨Nat.le_of_ble_eq_true rfl, Nat.le_of_ble_eq_true rfl⟩) hK hW hS (va_recv hK.1 (hW.one hO.1) (ci := 6) (q0 := 0) rfl rfl) rfl hl.1 rfl (Nat.le_of_ble_eq_true rfl) dX6_acts_135 ⟨Nat.zero_le _, Nat.zero_le _⟩ (fun H locs hW hS => ?_)
  refine lv_goto (tgt := 148) hx hb dX6_acts_138 (by decide) ?_
  subst hres
  exact kr_v hx hb hr hlk hK hW hS dX6_acts_148
def fX6_acts_c0 (a : Nat) (x1 : Int32) (x2 : Int32) (x3 : Int32) (h : HH) : HH := if x2 = 0 then (fX6_acts_c57 a 1 x1 0 x1 (fX6_takes a x1 x2 0 h)) else (if x2 = 1 then (fX6_takes a x1 x2 1 h) else (if x2 = 2 then (fX6_gets a x1 2 1 h) else (if x2 = 3 then (fX6_takes a x1 x2 4 h) else (if x2 = 4 then (fX6_gets a x1 4 2 h) else (if x2 = 5 then (fX6_takes a x1 x2 3 h) else (if x2 = 6 then (fX6_acts_c135 a 1 8 x1 (fX6_pays a x1 (-1) h)) else (fX6_actsElse a x1 x2 x3 h)))))))
def sX6_acts_c0 (a : Nat) (x1 : Int32) (x2 : Int32) (x3 : Int32) (h : HH) : Prop := (x2 = 0 → ((sX6_takes a x1 x2 0 h) ∧ (sX6_acts_c57 a 1 x1 0 x1 (fX6_takes a x1 x2 0 h)))) ∧ (¬ (x2 = 0) → ((x2 = 1 → (sX6_takes a x1 x2 1 h)) ∧ (¬ (x2 = 1) → ((x2 = 2 → (sX6_gets a x1 2 1 h)) ∧ (¬ (x2 = 2) → ((x2 = 3 → (sX6_takes a x1 x2 4 h)) ∧ (¬ (x2 = 3) → ((x2 = 4 → (sX6_gets a x1 4 2 h)) ∧ (¬ (x2 = 4) → ((x2 = 5 → (sX6_takes a x1 x2 3 h)) ∧ (¬ (x2 = 5) → ((x2 = 6 → ((sX6_pays a x1 (-1) h) ∧ (sX6_acts_c135 a 1 8 x1 (fX6_pays a x1 (-1) h)))) ∧ (¬ (x2 = 6) → (sX6_actsElse a x1 x2 x3 h))))))))))))))
set_option maxRecDepth 100000 in
set_option maxHeartbeats 4000000 in
theorem xX6_acts_c0 {p : Program} {l : Launch} {e : Env} {s : State} {m : MethodId} {args : Array Value} {below : List Frame} {meth : Method} {c : Code} {X : Cx} {a : Nat} (hO : IsMo X a) (C0 : CT p s m args meth c X cX6_acts 4 none RX6) (x1 : Int32) (x2 : Int32) (x3 : Int32) (h : HH) (H : Heap) (locs : List Loc) (ls : Array Slot) (res : HH) (hl : lv_has ls 4 [(0, .ref a), (1, .int x1), (2, .int x2), (3, .int x3)]) (hW : WH X h H) (hS : va_S (xA X) s.heap H locs) (hs : sX6_acts_c0 a x1 x2 x3 h) (hres : fX6_acts_c0 a x1 x2 x3 h = res) : W p l e rmX6_acts s m args below meth c H locs 0 0 (MQ below (QV X res) args s 0 0 (xA X)) (F0 m 0 ls []) := by
  obtain ⟨hx, hb, hr, hlk, hml, hown, hts, hK⟩ := id C0
  refine lv_iload_n hx hb dX6_acts_0 rfl (lv_at hl 2 rfl) ?_
  by_cases c1 : x2 = 0
  · have hres := (if_pos c1).symm.trans hres
    have hs := And.left hs c1
    refine ksw_in (tgt := 44) hx hb 0 c1 dX6_acts_1 (by decide) (by decide) rfl (by decide) ?_
    refine lv_aload_n hx hb dX6_acts_44 rfl (lv_at hl 0 rfl) ?_
    refine lv_iload_n hx hb dX6_acts_45 rfl (lv_at hl 1 rfl) ?_
    refine lv_iload_n hx hb dX6_acts_46 rfl (lv_at hl 2 rfl) ?_
    refine lv_iconst (v := 0) hx hb dX6_acts_47 (by decide) ?_
    obtain ⟨hc2, hs⟩ := hs
    refine kV_v (As := [.int x1, .int x2, .int 0]) (rest := []) ⟨hx, hb, hml, hown, hts⟩ (kX6_takes l X h a x1 x2 0 hO hc2) (wX6_takes hts q4_166 ⟨Nat.le_of_ble_eq_true rfl, Nat.le_of_ble_eq_true rfl⟩) hK hW hS (va_recv hK.1 (hW.one hO.1) (ci := 6) (q0 := 0) rfl rfl) rfl hl.1 rfl (Nat.le_of_ble_eq_true rfl) dX6_acts_48 ⟨Nat.zero_le _, Nat.zero_le _⟩ (fun H locs hW hS => ?_)
    refine lv_aload_n hx hb dX6_acts_51 rfl (lv_at hl 0 rfl) ?_
    refine lv_iload_n hx hb dX6_acts_52 rfl (lv_at hl 1 rfl) ?_
    refine lv_iconst (v := 0) hx hb dX6_acts_53 (by decide) ?_
    refine lv_aload_n hx hb dX6_acts_54 rfl (lv_at hl 0 rfl) ?_
    refine lv_iload_n hx hb dX6_acts_55 rfl (lv_at hl 1 rfl) ?_
    refine lv_iconst (v := 1) hx hb dX6_acts_56 (by decide) ?_
    exact xX6_acts_c57 hO C0 1 x1 0 x1 (fX6_takes a x1 x2 0 h) _ _ _ _ (lv_sub hl [] rfl) hW hS hs hres
  · have hres := (if_neg c1).symm.trans hres
    have hs := And.right hs c1
    by_cases c6 : x2 = 1
    · have hres := (if_pos c6).symm.trans hres
      have hs := And.left hs c6
      refine ksw_in (tgt := 74) hx hb 1 c6 dX6_acts_1 (by decide) (by decide) rfl (by decide) ?_
      refine lv_aload_n hx hb dX6_acts_74 rfl (lv_at hl 0 rfl) ?_
      refine lv_iload_n hx hb dX6_acts_75 rfl (lv_at hl 1 rfl) ?_
      refine lv_iload_n hx hb dX6_acts_76 rfl (lv_at hl 2 rfl) ?_
      refine lv_iconst (v := 1) hx hb dX6_acts_77 (by decide) ?_
      have hc7 := hs
      refine kV_v (As := [.int x1, .int x2, .int 1]) (rest := []) ⟨hx, hb, hml, hown, hts⟩ (kX6_takes l X h a x1 x2 1 hO hc7) (wX6_takes hts q4_166 ⟨Nat.le_of_ble_eq_true rfl, Nat.le_of_ble_eq_true rfl⟩) hK hW hS (va_recv hK.1 (hW.one hO.1) (ci := 6) (q0 := 0) rfl rfl) rfl hl.1 rfl (Nat.le_of_ble_eq_true rfl) dX6_acts_78 ⟨Nat.zero_le _, Nat.zero_le _⟩ (fun H locs hW hS => ?_)
      refine lv_goto (tgt := 148) hx hb dX6_acts_81 (by decide) ?_
      subst hres
      exact kr_v hx hb hr hlk hK hW hS dX6_acts_148
    · have hres := (if_neg c6).symm.trans hres
      have hs := And.right hs c6
      by_cases c8 : x2 = 2
      · have hres := (if_pos c8).symm.trans hres
        have hs := And.left hs c8
        refine ksw_in (tgt := 84) hx hb 2 c8 dX6_acts_1 (by decide) (by decide) rfl (by decide) ?_
        refine lv_aload_n hx hb dX6_acts_84 rfl (lv_at hl 0 rfl) ?_
        refine lv_iload_n hx hb dX6_acts_85 rfl (lv_at hl 1 rfl) ?_
        refine lv_iconst (v := 2) hx hb dX6_acts_86 (by decide) ?_
        refine lv_iconst (v := 1) hx hb dX6_acts_87 (by decide) ?_
        have hc9 := hs
        refine kV_v (As := [.int x1, .int 2, .int 1]) (rest := []) ⟨hx, hb, hml, hown, hts⟩ (kX6_gets l X h a x1 2 1 hO hc9) (wX6_gets hts q4_45 ⟨Nat.le_of_ble_eq_true rfl, Nat.le_of_ble_eq_true rfl⟩) hK hW hS (va_recv hK.1 (hW.one hO.1) (ci := 6) (q0 := 0) rfl rfl) rfl hl.1 rfl (Nat.le_of_ble_eq_true rfl) dX6_acts_88 ⟨Nat.zero_le _, Nat.zero_le _⟩ (fun H locs hW hS => ?_)
        refine lv_goto (tgt := 148) hx hb dX6_acts_91 (by decide) ?_
        subst hres
        exact kr_v hx hb hr hlk hK hW hS dX6_acts_148
      · have hres := (if_neg c8).symm.trans hres
        have hs := And.right hs c8
        by_cases c10 : x2 = 3
        · have hres := (if_pos c10).symm.trans hres
          have hs := And.left hs c10
          refine ksw_in (tgt := 94) hx hb 3 c10 dX6_acts_1 (by decide) (by decide) rfl (by decide) ?_
          refine lv_aload_n hx hb dX6_acts_94 rfl (lv_at hl 0 rfl) ?_
          refine lv_iload_n hx hb dX6_acts_95 rfl (lv_at hl 1 rfl) ?_
          refine lv_iload_n hx hb dX6_acts_96 rfl (lv_at hl 2 rfl) ?_
          refine lv_iconst (v := 4) hx hb dX6_acts_97 (by decide) ?_
          have hc11 := hs
          refine kV_v (As := [.int x1, .int x2, .int 4]) (rest := []) ⟨hx, hb, hml, hown, hts⟩ (kX6_takes l X h a x1 x2 4 hO hc11) (wX6_takes hts q4_166 ⟨Nat.le_of_ble_eq_true rfl, Nat.le_of_ble_eq_true rfl⟩) hK hW hS (va_recv hK.1 (hW.one hO.1) (ci := 6) (q0 := 0) rfl rfl) rfl hl.1 rfl (Nat.le_of_ble_eq_true rfl) dX6_acts_98 ⟨Nat.zero_le _, Nat.zero_le _⟩ (fun H locs hW hS => ?_)
          refine lv_goto (tgt := 148) hx hb dX6_acts_101 (by decide) ?_
          subst hres
          exact kr_v hx hb hr hlk hK hW hS dX6_acts_148
        · have hres := (if_neg c10).symm.trans hres
          have hs := And.right hs c10
          by_cases c12 : x2 = 4
          · have hres := (if_pos c12).symm.trans hres
            have hs := And.left hs c12
            refine ksw_in (tgt := 104) hx hb 4 c12 dX6_acts_1 (by decide) (by decide) rfl (by decide) ?_
            refine lv_aload_n hx hb dX6_acts_104 rfl (lv_at hl 0 rfl) ?_
            refine lv_iload_n hx hb dX6_acts_105 rfl (lv_at hl 1 rfl) ?_
            refine lv_iconst (v := 4) hx hb dX6_acts_106 (by decide) ?_
            refine lv_iconst (v := 2) hx hb dX6_acts_107 (by decide) ?_
            have hc13 := hs
            refine kV_v (As := [.int x1, .int 4, .int 2]) (rest := []) ⟨hx, hb, hml, hown, hts⟩ (kX6_gets l X h a x1 4 2 hO hc13) (wX6_gets hts q4_45 ⟨Nat.le_of_ble_eq_true rfl, Nat.le_of_ble_eq_true rfl⟩) hK hW hS (va_recv hK.1 (hW.one hO.1) (ci := 6) (q0 := 0) rfl rfl) rfl hl.1 rfl (Nat.le_of_ble_eq_true rfl) dX6_acts_108 ⟨Nat.zero_le _, Nat.zero_le _⟩ (fun H locs hW hS => ?_)
            refine lv_goto (tgt := 148) hx hb dX6_acts_111 (by decide) ?_
            subst hres
            exact kr_v hx hb hr hlk hK hW hS dX6_acts_148
          · have hres := (if_neg c12).symm.trans hres
            have hs := And.right hs c12
            by_cases c14 : x2 = 5
            · have hres := (if_pos c14).symm.trans hres
              have hs := And.left hs c14
              refine ksw_in (tgt := 114) hx hb 5 c14 dX6_acts_1 (by decide) (by decide) rfl (by decide) ?_
              refine lv_aload_n hx hb dX6_acts_114 rfl (lv_at hl 0 rfl) ?_
              refine lv_iload_n hx hb dX6_acts_115 rfl (lv_at hl 1 rfl) ?_
              refine lv_iload_n hx hb dX6_acts_116 rfl (lv_at hl 2 rfl) ?_
              refine lv_iconst (v := 3) hx hb dX6_acts_117 (by decide) ?_
              have hc15 := hs
              refine kV_v (As := [.int x1, .int x2, .int 3]) (rest := []) ⟨hx, hb, hml, hown, hts⟩ (kX6_takes l X h a x1 x2 3 hO hc15) (wX6_takes hts q4_166 ⟨Nat.le_of_ble_eq_true rfl, Nat.le_of_ble_eq_true rfl⟩) hK hW hS (va_recv hK.1 (hW.one hO.1) (ci := 6) (q0 := 0) rfl rfl) rfl hl.1 rfl (Nat.le_of_ble_eq_true rfl) dX6_acts_118 ⟨Nat.zero_le _, Nat.zero_le _⟩ (fun H locs hW hS => ?_)
              refine lv_goto (tgt := 148) hx hb dX6_acts_121 (by decide) ?_
              subst hres
              exact kr_v hx hb hr hlk hK hW hS dX6_acts_148
            · have hres := (if_neg c14).symm.trans hres
              have hs := And.right hs c14
              by_cases c16 : x2 = 6
              · have hres := (if_pos c16).symm.trans hres
                have hs := And.left hs c16
                refine ksw_in (tgt := 124) hx hb 6 c16 dX6_acts_1 (by decide) (by decide) rfl (by decide) ?_
                refine lv_aload_n hx hb dX6_acts_124 rfl (lv_at hl 0 rfl) ?_
                refine lv_iload_n hx hb dX6_acts_125 rfl (lv_at hl 1 rfl) ?_
                refine lv_iconst (v := (-1)) hx hb dX6_acts_126 (by decide) ?_
                obtain ⟨hc17, hs⟩ := hs
                refine kV_v (As := [.int x1, .int (-1)]) (rest := []) ⟨hx, hb, hml, hown, hts⟩ (kX6_pays l X h a x1 (-1) hO hc17) (wX6_pays hts q4_170 ⟨Nat.le_of_ble_eq_true rfl, Nat.le_of_ble_eq_true rfl⟩) hK hW hS (va_recv hK.1 (hW.one hO.1) (ci := 6) (q0 := 0) rfl rfl) rfl hl.1 rfl (Nat.le_of_ble_eq_true rfl) dX6_acts_127 ⟨Nat.zero_le _, Nat.zero_le _⟩ (fun H locs hW hS => ?_)
                refine lv_aload_n hx hb dX6_acts_130 rfl (lv_at hl 0 rfl) ?_
                refine lv_iload_n hx hb dX6_acts_131 rfl (lv_at hl 1 rfl) ?_
                refine lv_bipush (v := 8) hx hb dX6_acts_132 (by decide) ?_
                refine lv_iconst (v := 1) hx hb dX6_acts_134 (by decide) ?_
                exact xX6_acts_c135 hO C0 1 8 x1 (fX6_pays a x1 (-1) h) _ _ _ _ (lv_sub hl [] rfl) hW hS hs hres
              · have hres := (if_neg c16).symm.trans hres
                have hs := And.right hs c16
                refine lv_tableOut (tgt := 141) hx hb dX6_acts_1 (by have := lv_neT (a := 0) c1 (by decide); have := lv_neT (a := 1) c6 (by decide); have := lv_neT (a := 2) c8 (by decide); have := lv_neT (a := 3) c10 (by decide); have := lv_neT (a := 4) c12 (by decide); have := lv_neT (a := 5) c14 (by decide); have := lv_neT (a := 6) c16 (by decide); omega) (by decide) ?_
                refine lv_aload_n hx hb dX6_acts_141 rfl (lv_at hl 0 rfl) ?_
                refine lv_iload_n hx hb dX6_acts_142 rfl (lv_at hl 1 rfl) ?_
                refine lv_iload_n hx hb dX6_acts_143 rfl (lv_at hl 2 rfl) ?_
                refine lv_iload_n hx hb dX6_acts_144 rfl (lv_at hl 3 rfl) ?_
                have hc19 := hs
                refine kV_v (As := [.int x1, .int x2, .int x3]) (rest := []) ⟨hx, hb, hml, hown, hts⟩ (kX6_actsElse l X h a x1 x2 x3 hO hc19) (wX6_actsElse hts q4_174 ⟨Nat.le_of_ble_eq_true rfl, Nat.le_of_ble_eq_true rfl⟩) hK hW hS (va_recv hK.1 (hW.one hO.1) (ci := 6) (q0 := 0) rfl rfl) rfl hl.1 rfl (Nat.le_of_ble_eq_true rfl) dX6_acts_145 ⟨Nat.zero_le _, Nat.zero_le _⟩ (fun H locs hW hS => ?_)
                subst hres
                exact kr_v hx hb hr hlk hK hW hS dX6_acts_148
def fX6_acts (a : Nat) (x1 : Int32) (x2 : Int32) (x3 : Int32) (h : HH) : HH := fX6_acts_c0 a x1 x2 x3 h
def sX6_acts (a : Nat) (x1 : Int32) (x2 : Int32) (x3 : Int32) (h : HH) : Prop := sX6_acts_c0 a x1 x2 x3 h
set_option maxRecDepth 100000 in
set_option maxHeartbeats 4000000 in
theorem kX6_acts (l : Launch) (X : Cx) (h : HH) (a : Nat) (x1 : Int32) (x2 : Int32) (x3 : Int32) (hO : IsMo X a) (hs : sX6_acts a x1 x2 x3 h) : Met l yX6_acts vX6_acts rmX6_acts (va_Pc [.ref a, .int x1, .int x2, .int x3] (fun U => WS X h U)) (QV X (fX6_acts a x1 x2 x3 h)) 0 0 (xA X) := by
  refine Met.ofW (cc := cX6_acts) (maxL := 4) (ret := none) (by decide) rfl ?_
  intro p e s m args below meth c s₁ B hml hv
  obtain ⟨rfl, hW, hK⟩ := hv
  have hl := lv_entry ([.ref a, .int x1, .int x2, .int x3]) (n := 4) (Nat.le_of_ble_eq_true rfl)
  rw [lg_entry_eq]
  generalize (lg_sl ([.ref a, .int x1, .int x2, .int x3]) ++ List.replicate (4 - (lg_sl ([.ref a, .int x1, .int x2, .int x3])).length) Slot.unset).toArray = ls at hl ⊢
  have hl : lv_has ls 4 [(0, .ref a), (1, .int x1), (2, .int x2), (3, .int x3)] := hl
  exact xX6_acts_c0 hO ⟨B.exec, B.bytes, B.returns, B.notSynchronized, hml, findClass_of_methodNamed B.named, fun w hw => atoms_spec (ws := vX6_acts) B.pre w (List.mem_cons_of_mem _ hw), hK⟩ x1 x2 x3 h _ _ ls _ (lv_sub hl [0, 1, 2, 3] rfl) hW va_S.rf hs rfl
-- VillageBoardModel.comes(II)V
abbrev rmX6_comes : Room := ({ frames := 7, cells := 0, slots := 0, locals := 160 } : Room)
abbrev vX6_comes : List Cond := Cond.code yX6_comes cX6_comes 4 none :: lwG
theorem wX6_comes {R : Room} {s : State} {args : Array Value} {own : String} {idx : Nat} (hg : ∀ w ∈ lwG, w.before args s = true) (hl : Cond.methodLink own idx yX6_comes ∈ lwG) (hR : rmX6_comes.frames + 1 ≤ R.frames ∧ 8 + (4 + 11) + rmX6_comes.locals ≤ R.locals) : CallW R s args own RX6 idx yX6_comes cX6_comes 4 none vX6_comes rmX6_comes 0 0 2 := cwV 2 hg (gV hl q4_160 q0_32 q1_7 q4_161) rfl rfl rfl (by decide +kernel) hR
def fX6_comes_c57 (a : Nat) (xs0 : Int32) (xs1 : Int32) (xs2 : Int32) (h : HH) : HH := fX6_acts a xs2 xs1 xs0 h
def sX6_comes_c57 (a : Nat) (xs0 : Int32) (xs1 : Int32) (xs2 : Int32) (h : HH) : Prop := sX6_acts a xs2 xs1 xs0 h
set_option maxRecDepth 100000 in
set_option maxHeartbeats 4000000 in
theorem xX6_comes_c57 {p : Program} {l : Launch} {e : Env} {s : State} {m : MethodId} {args : Array Value} {below : List Frame} {meth : Method} {c : Code} {X : Cx} {a : Nat} (hO : IsMo X a) (C0 : CT p s m args meth c X cX6_comes 4 none RX6) (xs0 : Int32) (xs1 : Int32) (xs2 : Int32) (h : HH) (H : Heap) (locs : List Loc) (ls : Array Slot) (res : HH) (hl : lv_has ls 4 []) (hW : WH X h H) (hS : va_S (xA X) s.heap H locs) (hs : sX6_comes_c57 a xs0 xs1 xs2 h) (hres : fX6_comes_c57 a xs0 xs1 xs2 h = res) : W p l e rmX6_comes s m args below meth c H locs 0 0 (MQ below (QV X res) args s 0 0 (xA X)) (F0 m 57 ls [.int xs0, .int xs1, .int xs2, .ref a]) := by
  obtain ⟨hx, hb, hr, hlk, hml, hown, hts, hK⟩ := id C0
  have hc6 := hs
  refine kV_v (As := [.int xs2, .int xs1, .int xs0]) (rest := []) ⟨hx, hb, hml, hown, hts⟩ (kX6_acts l X h a xs2 xs1 xs0 hO hc6) (wX6_acts hts q4_162 ⟨Nat.le_of_ble_eq_true rfl, Nat.le_of_ble_eq_true rfl⟩) hK hW hS (va_recv hK.1 (hW.one hO.1) (ci := 6) (q0 := 0) rfl rfl) rfl hl.1 rfl (Nat.le_of_ble_eq_true rfl) dX6_comes_57 ⟨Nat.zero_le _, Nat.zero_le _⟩ (fun H locs hW hS => ?_)
  subst hres
  exact kr_v hx hb hr hlk hK hW hS dX6_comes_60
def fX6_comes_c50 (a : Nat) (x1 : Int32) (x2 : Int32) (x3 : Int32) (xs0 : Int32) (xs1 : Int32) (xs2 : Int32) (h : HH) : HH := fX6_comes_c57 a x2 x1 x3 (fX6_gets a xs2 xs1 xs0 h)
def sX6_comes_c50 (a : Nat) (x1 : Int32) (x2 : Int32) (x3 : Int32) (xs0 : Int32) (xs1 : Int32) (xs2 : Int32) (h : HH) : Prop := (sX6_gets a xs2 xs1 xs0 h) ∧ (sX6_comes_c57 a x2 x1 x3 (fX6_gets a xs2 xs1 xs0 h))
set_option maxRecDepth 100000 in
set_option maxHeartbeats 4000000 in
theorem xX6_comes_c50 {p : Program} {l : Launch} {e : Env} {s : State} {m : MethodId} {args : Array Value} {below : List Frame} {meth : Method} {c : Code} {X : Cx} {a : Nat} (hO : IsMo X a) (C0 : CT p s m args meth c X cX6_comes 4 none RX6) (x1 : Int32) (x2 : Int32) (x3 : Int32) (xs0 : Int32) (xs1 : Int32) (xs2 : Int32) (h : HH) (H : Heap) (locs : List Loc) (ls : Array Slot) (res : HH) (hl : lv_has ls 4 [(0, .ref a), (1, .int x1), (2, .int x2), (3, .int x3)]) (hW : WH X h H) (hS : va_S (xA X) s.heap H locs) (hs : sX6_comes_c50 a x1 x2 x3 xs0 xs1 xs2 h) (hres : fX6_comes_c50 a x1 x2 x3 xs0 xs1 xs2 h = res) : W p l e rmX6_comes s m args below meth c H locs 0 0 (MQ below (QV X res) args s 0 0 (xA X)) (F0 m 50 ls [.int xs0, .int xs1, .int xs2, .ref a]) := by
  obtain ⟨hx, hb, hr, hlk, hml, hown, hts, hK⟩ := id C0
  obtain ⟨hc5, hs⟩ := hs
  refine kV_v (As := [.int xs2, .int xs1, .int xs0]) (rest := []) ⟨hx, hb, hml, hown, hts⟩ (kX6_gets l X h a xs2 xs1 xs0 hO hc5) (wX6_gets hts q4_45 ⟨Nat.le_of_ble_eq_true rfl, Nat.le_of_ble_eq_true rfl⟩) hK hW hS (va_recv hK.1 (hW.one hO.1) (ci := 6) (q0 := 0) rfl rfl) rfl hl.1 rfl (Nat.le_of_ble_eq_true rfl) dX6_comes_50 ⟨Nat.zero_le _, Nat.zero_le _⟩ (fun H locs hW hS => ?_)
  refine lv_aload_n hx hb dX6_comes_53 rfl (lv_at hl 0 rfl) ?_
  refine lv_iload_n hx hb dX6_comes_54 rfl (lv_at hl 3 rfl) ?_
  refine lv_iload_n hx hb dX6_comes_55 rfl (lv_at hl 1 rfl) ?_
  refine lv_iload_n hx hb dX6_comes_56 rfl (lv_at hl 2 rfl) ?_
  exact xX6_comes_c57 hO C0 x2 x1 x3 (fX6_gets a xs2 xs1 xs0 h) _ _ _ _ (lv_sub hl [] rfl) hW hS hs hres
def fX6_comes_c31 (a : Nat) (x1 : Int32) (x2 : Int32) (x3 : Int32) (h : HH) : HH := fX6_comes_c50 a x1 x2 x3 (-1) 7 x3 (hset h (a + 1) ((fX6_spaceAt x1 1).toNatClampNeg) ((h (a + 1) ((fX6_spaceAt x1 1).toNatClampNeg)) + 1))
def sX6_comes_c31 (a : Nat) (x1 : Int32) (x2 : Int32) (x3 : Int32) (h : HH) : Prop := (vp_in (fX6_spaceAt x1 1) 206) ∧ ((vp_in (fX6_spaceAt x1 1) 206) ∧ (sX6_comes_c50 a x1 x2 x3 (-1) 7 x3 (hset h (a + 1) ((fX6_spaceAt x1 1).toNatClampNeg) ((h (a + 1) ((fX6_spaceAt x1 1).toNatClampNeg)) + 1))))
set_option maxRecDepth 100000 in
set_option maxHeartbeats 4000000 in
theorem xX6_comes_c31 {p : Program} {l : Launch} {e : Env} {s : State} {m : MethodId} {args : Array Value} {below : List Frame} {meth : Method} {c : Code} {X : Cx} {a : Nat} (hO : IsMo X a) (C0 : CT p s m args meth c X cX6_comes 4 none RX6) (x1 : Int32) (x2 : Int32) (x3 : Int32) (h : HH) (H : Heap) (locs : List Loc) (ls : Array Slot) (res : HH) (hl : lv_has ls 4 [(0, .ref a), (1, .int x1), (2, .int x2), (3, .int x3)]) (hW : WH X h H) (hS : va_S (xA X) s.heap H locs) (hs : sX6_comes_c31 a x1 x2 x3 h) (hres : fX6_comes_c31 a x1 x2 x3 h = res) : W p l e rmX6_comes s m args below meth c H locs 0 0 (MQ below (QV X res) args s 0 0 (xA X)) (F0 m 31 ls []) := by
  obtain ⟨hx, hb, hr, hlk, hml, hown, hts, hK⟩ := id C0
  refine lv_aload_n hx hb dX6_comes_31 rfl (lv_at hl 0 rfl) ?_
  refine g6_0 hx hb hts hown hK hW hO.1 (hts _ q4_49) dX6_comes_32 ?_
  refine lv_iload_n hx hb dX6_comes_35 rfl (lv_at hl 1 rfl) ?_
  refine lv_iconst (v := 1) hx hb dX6_comes_36 (by decide) ?_
  refine kS_i (As := [.int x1, .int 1]) (rest := [.ref (a + 1)]) ⟨hx, hb, hml, hown, hts⟩ (kX6_spaceAt l X h x1 1) (wX6_spaceAt hts q4_34 ⟨Nat.le_of_ble_eq_true rfl, Nat.le_of_ble_eq_true rfl⟩) hK hW hS rfl hl.1 rfl (Nat.le_of_ble_eq_true rfl) dX6_comes_37 ⟨Nat.zero_le _, Nat.zero_le _⟩ (fun H locs hW hS => ?_)
  refine lv_dup2_11 hx hb dX6_comes_40 rfl rfl ?_
  obtain ⟨hi3, hs⟩ := hs
  refine kb_iald hx hb hK hW hO.2.1 (k := (fX6_spaceAt x1 1).toNatClampNeg) rfl hi3 dX6_comes_41 ?_
  refine lv_iconst (v := 1) hx hb dX6_comes_42 (by decide) ?_
  refine lv_iadd hx hb dX6_comes_43 ?_
  obtain ⟨hi4, hs⟩ := hs
  refine kb_iast hx hb hK hW hS hO.2.1 (k := (fX6_spaceAt x1 1).toNatClampNeg) rfl hi4 dX6_comes_44 (fun H locs hW hS => ?_)
  refine lv_aload_n hx hb dX6_comes_45 rfl (lv_at hl 0 rfl) ?_
  refine lv_iload_n hx hb dX6_comes_46 rfl (lv_at hl 3 rfl) ?_
  refine lv_bipush (v := 7) hx hb dX6_comes_47 (by decide) ?_
  refine lv_iconst (v := (-1)) hx hb dX6_comes_49 (by decide) ?_
  exact xX6_comes_c50 hO C0 x1 x2 x3 (-1) 7 x3 (hset h (a + 1) ((fX6_spaceAt x1 1).toNatClampNeg) ((h (a + 1) ((fX6_spaceAt x1 1).toNatClampNeg)) + 1)) _ _ _ _ (lv_sub hl [0, 1, 2, 3] rfl) hW hS hs hres
def fX6_comes_c0 (a : Nat) (x1 : Int32) (x2 : Int32) (h : HH) : HH := if (h (a + 1) ((fX6_spaceAt x1 1).toNatClampNeg)) = 0 then (fX6_comes_c31 a x1 x2 (h (a + 1) 3) (hset h (a + 1) ((fX6_spaceAt x1 2).toNatClampNeg) (h (a + 1) 3))) else (fX6_comes_c31 a x1 x2 (h (a + 1) 3) h)
def sX6_comes_c0 (a : Nat) (x1 : Int32) (x2 : Int32) (h : HH) : Prop := (vp_in (fX6_spaceAt x1 1) 206) ∧ (((h (a + 1) ((fX6_spaceAt x1 1).toNatClampNeg)) = 0 → ((vp_in (fX6_spaceAt x1 2) 206) ∧ (sX6_comes_c31 a x1 x2 (h (a + 1) 3) (hset h (a + 1) ((fX6_spaceAt x1 2).toNatClampNeg) (h (a + 1) 3))))) ∧ (¬ ((h (a + 1) ((fX6_spaceAt x1 1).toNatClampNeg)) = 0) → (sX6_comes_c31 a x1 x2 (h (a + 1) 3) h)))
set_option maxRecDepth 100000 in
set_option maxHeartbeats 4000000 in
theorem xX6_comes_c0 {p : Program} {l : Launch} {e : Env} {s : State} {m : MethodId} {args : Array Value} {below : List Frame} {meth : Method} {c : Code} {X : Cx} {a : Nat} (hO : IsMo X a) (C0 : CT p s m args meth c X cX6_comes 4 none RX6) (x1 : Int32) (x2 : Int32) (h : HH) (H : Heap) (locs : List Loc) (ls : Array Slot) (res : HH) (hl : lv_has ls 4 [(0, .ref a), (1, .int x1), (2, .int x2)]) (hW : WH X h H) (hS : va_S (xA X) s.heap H locs) (hs : sX6_comes_c0 a x1 x2 h) (hres : fX6_comes_c0 a x1 x2 h = res) : W p l e rmX6_comes s m args below meth c H locs 0 0 (MQ below (QV X res) args s 0 0 (xA X)) (F0 m 0 ls []) := by
  obtain ⟨hx, hb, hr, hlk, hml, hown, hts, hK⟩ := id C0
  refine lv_aload_n hx hb dX6_comes_0 rfl (lv_at hl 0 rfl) ?_
  refine g6_0 hx hb hts hown hK hW hO.1 (hts _ q4_49) dX6_comes_1 ?_
  refine lv_iconst (v := 3) hx hb dX6_comes_4 (by decide) ?_
  refine kb_iald hx hb hK hW hO.2.1 (k := 3) (by decide) (vpd (by decide)) dX6_comes_5 ?_
  refine lv_istore_n (lv' := [(3, .int (h (a + 1) 3)), (0, .ref a), (1, .int x1), (2, .int x2)]) hx hb dX6_comes_6 rfl hl (by decide) rfl (fun ls hl => ?_)
  refine lv_aload_n hx hb dX6_comes_7 rfl (lv_at hl 1 rfl) ?_
  refine g6_0 hx hb hts hown hK hW hO.1 (hts _ q4_49) dX6_comes_8 ?_
  refine lv_iload_n hx hb dX6_comes_11 rfl (lv_at hl 2 rfl) ?_
  refine lv_iconst (v := 1) hx hb dX6_comes_12 (by decide) ?_
  refine kS_i (As := [.int x1, .int 1]) (rest := [.ref (a + 1)]) ⟨hx, hb, hml, hown, hts⟩ (kX6_spaceAt l X h x1 1) (wX6_spaceAt hts q4_34 ⟨Nat.le_of_ble_eq_true rfl, Nat.le_of_ble_eq_true rfl⟩) hK hW hS rfl hl.1 rfl (Nat.le_of_ble_eq_true rfl) dX6_comes_13 ⟨Nat.zero_le _, Nat.zero_le _⟩ (fun H locs hW hS => ?_)
  obtain ⟨hi1, hs⟩ := hs
  refine kb_iald hx hb hK hW hO.2.1 (k := (fX6_spaceAt x1 1).toNatClampNeg) rfl hi1 dX6_comes_16 ?_
  refine lv_if_ne (tgt := 31) hx hb dX6_comes_17 (by decide) (fun c2 => ?_) (fun c2 => ?_)
  · have hres := (if_neg c2).symm.trans hres
    have hs := And.right hs c2
    exact xX6_comes_c31 hO C0 x1 x2 (h (a + 1) 3) h _ _ _ _ (lv_sub hl [1, 2, 3, 0] rfl) hW hS hs hres
  · have hres := (if_pos c2).symm.trans hres
    have hs := And.left hs c2
    refine lv_aload_n hx hb dX6_comes_20 rfl (lv_at hl 1 rfl) ?_
    refine g6_0 hx hb hts hown hK hW hO.1 (hts _ q4_49) dX6_comes_21 ?_
    refine lv_iload_n hx hb dX6_comes_24 rfl (lv_at hl 2 rfl) ?_
    refine lv_iconst (v := 2) hx hb dX6_comes_25 (by decide) ?_
    refine kS_i (As := [.int x1, .int 2]) (rest := [.ref (a + 1)]) ⟨hx, hb, hml, hown, hts⟩ (kX6_spaceAt l X h x1 2) (wX6_spaceAt hts q4_34 ⟨Nat.le_of_ble_eq_true rfl, Nat.le_of_ble_eq_true rfl⟩) hK hW hS rfl hl.1 rfl (Nat.le_of_ble_eq_true rfl) dX6_comes_26 ⟨Nat.zero_le _, Nat.zero_le _⟩ (fun H locs hW hS => ?_)
    refine lv_iload_n hx hb dX6_comes_29 rfl (lv_at hl 0 rfl) ?_
    obtain ⟨hi7, hs⟩ := hs
    refine kb_iast hx hb hK hW hS hO.2.1 (k := (fX6_spaceAt x1 2).toNatClampNeg) rfl hi7 dX6_comes_30 (fun H locs hW hS => ?_)
    exact xX6_comes_c31 hO C0 x1 x2 (h (a + 1) 3) (hset h (a + 1) ((fX6_spaceAt x1 2).toNatClampNeg) (h (a + 1) 3)) _ _ _ _ (lv_sub hl [1, 2, 3, 0] rfl) hW hS hs hres
def fX6_comes (a : Nat) (x1 : Int32) (x2 : Int32) (h : HH) : HH := fX6_comes_c0 a x1 x2 h
def sX6_comes (a : Nat) (x1 : Int32) (x2 : Int32) (h : HH) : Prop := sX6_comes_c0 a x1 x2 h
set_option maxRecDepth 100000 in
set_option maxHeartbeats 4000000 in
theorem kX6_comes (l : Launch) (X : Cx) (h : HH) (a : Nat) (x1 : Int32) (x2 : Int32) (hO : IsMo X a) (hs : sX6_comes a x1 x2 h) : Met l yX6_comes vX6_comes rmX6_comes (va_Pc [.ref a, .int x1, .int x2] (fun U => WS X h U)) (QV X (fX6_comes a x1 x2 h)) 0 0 (xA X) := by
  refine Met.ofW (cc := cX6_comes) (maxL := 4) (ret := none) (by decide) rfl ?_
  intro p e s m args below meth c s₁ B hml hv
  obtain ⟨rfl, hW, hK⟩ := hv
  have hl := lv_entry ([.ref a, .int x1, .int x2]) (n := 4) (Nat.le_of_ble_eq_true rfl)
  rw [lg_entry_eq]
  generalize (lg_sl ([.ref a, .int x1, .int x2]) ++ List.replicate (4 - (lg_sl ([.ref a, .int x1, .int x2])).length) Slot.unset).toArray = ls at hl ⊢
  have hl : lv_has ls 4 [(0, .ref a), (1, .int x1), (2, .int x2)] := hl
  exact xX6_comes_c0 hO ⟨B.exec, B.bytes, B.returns, B.notSynchronized, hml, findClass_of_methodNamed B.named, fun w hw => atoms_spec (ws := vX6_comes) B.pre w (List.mem_cons_of_mem _ hw), hK⟩ x1 x2 h _ _ ls _ (lv_sub hl [0, 1, 2] rfl) hW va_S.rf hs rfl
-- VillageBoardModel.notes(II)V
abbrev rmX6_notes : Room := ({ frames := 0, cells := 0, slots := 0, locals := 0 } : Room)
abbrev vX6_notes : List Cond := Cond.code yX6_notes cX6_notes 4 none :: lwG
theorem wX6_notes {R : Room} {s : State} {args : Array Value} {own : String} {idx : Nat} (hg : ∀ w ∈ lwG, w.before args s = true) (hl : Cond.methodLink own idx yX6_notes ∈ lwG) (hR : rmX6_notes.frames + 1 ≤ R.frames ∧ 8 + (4 + 11) + rmX6_notes.locals ≤ R.locals) : CallW R s args own RX6 idx yX6_notes cX6_notes 4 none vX6_notes rmX6_notes 0 0 2 := cwV 2 hg (gV hl q4_156 q0_31 q1_7 q4_157) rfl rfl rfl (by decide +kernel) hR
def fX6_notes_c117 (a : Nat) (xs0 : Int32) (xs2 : Int32) (h : HH) : HH := hset h (a + 1) xs2.toNatClampNeg ((h (a + 1) xs0.toNatClampNeg) + 1)
def sX6_notes_c117 (a : Nat) (xs0 : Int32) (xs2 : Int32) (h : HH) : Prop := (vp_in xs0 206) ∧ (vp_in xs2 206)
set_option maxRecDepth 100000 in
set_option maxHeartbeats 4000000 in
theorem xX6_notes_c117 {p : Program} {l : Launch} {e : Env} {s : State} {m : MethodId} {args : Array Value} {below : List Frame} {meth : Method} {c : Code} {X : Cx} {a : Nat} (hO : IsMo X a) (C0 : CT p s m args meth c X cX6_notes 4 none RX6) (xs0 : Int32) (xs2 : Int32) (h : HH) (H : Heap) (locs : List Loc) (ls : Array Slot) (res : HH) (hl : lv_has ls 4 []) (hW : WH X h H) (hS : va_S (xA X) s.heap H locs) (hs : sX6_notes_c117 a xs0 xs2 h) (hres : fX6_notes_c117 a xs0 xs2 h = res) : W p l e rmX6_notes s m args below meth c H locs 0 0 (MQ below (QV X res) args s 0 0 (xA X)) (F0 m 117 ls [.int xs0, .ref (a + 1), .int xs2, .ref (a + 1)]) := by
  obtain ⟨hx, hb, hr, hlk, hml, hown, hts, hK⟩ := id C0
  obtain ⟨hi7, hs⟩ := hs
  refine kb_iald hx hb hK hW hO.2.1 (k := xs0.toNatClampNeg) rfl hi7 dX6_notes_117 ?_
  refine lv_iconst (v := 1) hx hb dX6_notes_118 (by decide) ?_
  refine lv_iadd hx hb dX6_notes_119 ?_
  have hi8 := hs
  refine kb_iast hx hb hK hW hS hO.2.1 (k := xs2.toNatClampNeg) rfl hi8 dX6_notes_120 (fun H locs hW hS => ?_)
  subst hres
  exact kr_v hx hb hr hlk hK hW hS dX6_notes_121
def fX6_notes_c90 (a : Nat) (x1 : Int32) (x2 : Int32) (x3 : Int32) (xs0 : Int32) (xs2 : Int32) (h : HH) : HH := fX6_notes_c117 a 85 85 (hset (hset (hset h (a + 1) xs2.toNatClampNeg (h (a + 1) xs0.toNatClampNeg)) (a + 1) ((x3 + 2).toNatClampNeg) x1) (a + 1) ((x3 + 3).toNatClampNeg) x2)
def sX6_notes_c90 (a : Nat) (x1 : Int32) (x2 : Int32) (x3 : Int32) (xs0 : Int32) (xs2 : Int32) (h : HH) : Prop := (vp_in xs0 206) ∧ ((vp_in xs2 206) ∧ ((vp_in (x3 + 2) 206) ∧ ((vp_in (x3 + 3) 206) ∧ (sX6_notes_c117 a 85 85 (hset (hset (hset h (a + 1) xs2.toNatClampNeg (h (a + 1) xs0.toNatClampNeg)) (a + 1) ((x3 + 2).toNatClampNeg) x1) (a + 1) ((x3 + 3).toNatClampNeg) x2)))))
set_option maxRecDepth 100000 in
set_option maxHeartbeats 4000000 in
theorem xX6_notes_c90 {p : Program} {l : Launch} {e : Env} {s : State} {m : MethodId} {args : Array Value} {below : List Frame} {meth : Method} {c : Code} {X : Cx} {a : Nat} (hO : IsMo X a) (C0 : CT p s m args meth c X cX6_notes 4 none RX6) (x1 : Int32) (x2 : Int32) (x3 : Int32) (xs0 : Int32) (xs2 : Int32) (h : HH) (H : Heap) (locs : List Loc) (ls : Array Slot) (res : HH) (hl : lv_has ls 4 [(0, .ref a), (1, .int x1), (2, .int x2), (3, .int x3)]) (hW : WH X h H) (hS : va_S (xA X) s.heap H locs) (hs : sX6_notes_c90 a x1 x2 x3 xs0 xs2 h) (hres : fX6_notes_c90 a x1 x2 x3 xs0 xs2 h = res) : W p l e rmX6_notes s m args below meth c H locs 0 0 (MQ below (QV X res) args s 0 0 (xA X)) (F0 m 90 ls [.int xs0, .ref (a + 1), .int xs2, .ref (a + 1)]) := by
  obtain ⟨hx, hb, hr, hlk, hml, hown, hts, hK⟩ := id C0
  obtain ⟨hi3, hs⟩ := hs
  refine kb_iald hx hb hK hW hO.2.1 (k := xs0.toNatClampNeg) rfl hi3 dX6_notes_90 ?_
  obtain ⟨hi4, hs⟩ := hs
  refine kb_iast hx hb hK hW hS hO.2.1 (k := xs2.toNatClampNeg) rfl hi4 dX6_notes_91 (fun H locs hW hS => ?_)
  refine lv_aload_n hx hb dX6_notes_92 rfl (lv_at hl 0 rfl) ?_
  refine g6_0 hx hb hts hown hK hW hO.1 (hts _ q4_49) dX6_notes_93 ?_
  refine lv_iload_n hx hb dX6_notes_96 rfl (lv_at hl 3 rfl) ?_
  refine lv_iconst (v := 2) hx hb dX6_notes_97 (by decide) ?_
  refine lv_iadd hx hb dX6_notes_98 ?_
  refine lv_iload_n hx hb dX6_notes_99 rfl (lv_at hl 1 rfl) ?_
  obtain ⟨hi5, hs⟩ := hs
  refine kb_iast hx hb hK hW hS hO.2.1 (k := (x3 + 2).toNatClampNeg) rfl hi5 dX6_notes_100 (fun H locs hW hS => ?_)
  refine lv_aload_n hx hb dX6_notes_101 rfl (lv_at hl 0 rfl) ?_
  refine g6_0 hx hb hts hown hK hW hO.1 (hts _ q4_49) dX6_notes_102 ?_
  refine lv_iload_n hx hb dX6_notes_105 rfl (lv_at hl 3 rfl) ?_
  refine lv_iconst (v := 3) hx hb dX6_notes_106 (by decide) ?_
  refine lv_iadd hx hb dX6_notes_107 ?_
  refine lv_iload_n hx hb dX6_notes_108 rfl (lv_at hl 2 rfl) ?_
  obtain ⟨hi6, hs⟩ := hs
  refine kb_iast hx hb hK hW hS hO.2.1 (k := (x3 + 3).toNatClampNeg) rfl hi6 dX6_notes_109 (fun H locs hW hS => ?_)
  refine lv_aload_n hx hb dX6_notes_110 rfl (lv_at hl 0 rfl) ?_
  refine g6_0 hx hb hts hown hK hW hO.1 (hts _ q4_49) dX6_notes_111 ?_
  refine lv_bipush (v := 85) hx hb dX6_notes_114 (by decide) ?_
  refine lv_dup2_11 hx hb dX6_notes_116 rfl rfl ?_
  exact xX6_notes_c117 hO C0 85 85 (hset (hset (hset h (a + 1) xs2.toNatClampNeg (h (a + 1) xs0.toNatClampNeg)) (a + 1) ((x3 + 2).toNatClampNeg) x1) (a + 1) ((x3 + 3).toNatClampNeg) x2) _ _ _ _ (lv_sub hl [] rfl) hW hS hs hres
def fX6_notes_c53 (a : Nat) (x1 : Int32) (x2 : Int32) (h : HH) : HH := fX6_notes_c90 a x1 x2 (86 + (4 * (h (a + 1) 85))) 3 ((86 + (4 * (h (a + 1) 85))) + 1) (hset h (a + 1) ((86 + (4 * (h (a + 1) 85))).toNatClampNeg) (h (a + 1) 2))
def sX6_notes_c53 (a : Nat) (x1 : Int32) (x2 : Int32) (h : HH) : Prop := (vp_in (86 + (4 * (h (a + 1) 85))) 206) ∧ (sX6_notes_c90 a x1 x2 (86 + (4 * (h (a + 1) 85))) 3 ((86 + (4 * (h (a + 1) 85))) + 1) (hset h (a + 1) ((86 + (4 * (h (a + 1) 85))).toNatClampNeg) (h (a + 1) 2)))
set_option maxRecDepth 100000 in
set_option maxHeartbeats 4000000 in
theorem xX6_notes_c53 {p : Program} {l : Launch} {e : Env} {s : State} {m : MethodId} {args : Array Value} {below : List Frame} {meth : Method} {c : Code} {X : Cx} {a : Nat} (hO : IsMo X a) (C0 : CT p s m args meth c X cX6_notes 4 none RX6) (x1 : Int32) (x2 : Int32) (h : HH) (H : Heap) (locs : List Loc) (ls : Array Slot) (res : HH) (hl : lv_has ls 4 [(0, .ref a), (1, .int x1), (2, .int x2)]) (hW : WH X h H) (hS : va_S (xA X) s.heap H locs) (hs : sX6_notes_c53 a x1 x2 h) (hres : fX6_notes_c53 a x1 x2 h = res) : W p l e rmX6_notes s m args below meth c H locs 0 0 (MQ below (QV X res) args s 0 0 (xA X)) (F0 m 53 ls []) := by
  obtain ⟨hx, hb, hr, hlk, hml, hown, hts, hK⟩ := id C0
  refine lv_bipush (v := 86) hx hb dX6_notes_53 (by decide) ?_
  refine lv_iconst (v := 4) hx hb dX6_notes_55 (by decide) ?_
  refine lv_aload_n hx hb dX6_notes_56 rfl (lv_at hl 0 rfl) ?_
  refine g6_0 hx hb hts hown hK hW hO.1 (hts _ q4_49) dX6_notes_57 ?_
  refine lv_bipush (v := 85) hx hb dX6_notes_60 (by decide) ?_
  refine kb_iald hx hb hK hW hO.2.1 (k := 85) (by decide) (vpd (by decide)) dX6_notes_62 ?_
  refine lv_imul hx hb dX6_notes_63 ?_
  refine lv_iadd hx hb dX6_notes_64 ?_
  refine lv_istore_n (lv' := [(3, .int (86 + (4 * (h (a + 1) 85)))), (0, .ref a), (1, .int x1), (2, .int x2)]) hx hb dX6_notes_65 rfl hl (by decide) rfl (fun ls hl => ?_)
  refine lv_aload_n hx hb dX6_notes_66 rfl (lv_at hl 1 rfl) ?_
  refine g6_0 hx hb hts hown hK hW hO.1 (hts _ q4_49) dX6_notes_67 ?_
  refine lv_iload_n hx hb dX6_notes_70 rfl (lv_at hl 0 rfl) ?_
  refine lv_aload_n hx hb dX6_notes_71 rfl (lv_at hl 1 rfl) ?_
  refine g6_0 hx hb hts hown hK hW hO.1 (hts _ q4_49) dX6_notes_72 ?_
  refine lv_iconst (v := 2) hx hb dX6_notes_75 (by decide) ?_
  refine kb_iald hx hb hK hW hO.2.1 (k := 2) (by decide) (vpd (by decide)) dX6_notes_76 ?_
  obtain ⟨hi2, hs⟩ := hs
  refine kb_iast hx hb hK hW hS hO.2.1 (k := (86 + (4 * (h (a + 1) 85))).toNatClampNeg) rfl hi2 dX6_notes_77 (fun H locs hW hS => ?_)
  refine lv_aload_n hx hb dX6_notes_78 rfl (lv_at hl 1 rfl) ?_
  refine g6_0 hx hb hts hown hK hW hO.1 (hts _ q4_49) dX6_notes_79 ?_
  refine lv_iload_n hx hb dX6_notes_82 rfl (lv_at hl 0 rfl) ?_
  refine lv_iconst (v := 1) hx hb dX6_notes_83 (by decide) ?_
  refine lv_iadd hx hb dX6_notes_84 ?_
  refine lv_aload_n hx hb dX6_notes_85 rfl (lv_at hl 1 rfl) ?_
  refine g6_0 hx hb hts hown hK hW hO.1 (hts _ q4_49) dX6_notes_86 ?_
  refine lv_iconst (v := 3) hx hb dX6_notes_89 (by decide) ?_
  exact xX6_notes_c90 hO C0 x1 x2 (86 + (4 * (h (a + 1) 85))) 3 ((86 + (4 * (h (a + 1) 85))) + 1) (hset h (a + 1) ((86 + (4 * (h (a + 1) 85))).toNatClampNeg) (h (a + 1) 2)) _ _ _ _ (lv_sub hl [1, 2, 3, 0] rfl) hW hS hs hres
def fX6_notes_c15 (a : Nat) : Nat → Int32 → Int32 → Int32 → HH → HH
  | 0, x1, x2, x3, h => h
  | n + 1, x1, x2, x3, h => if 202 ≤ x3 then (fX6_notes_c53 a x1 x2 (hset h (a + 1) 85 ((h (a + 1) 85) - 1))) else ((fX6_notes_c15 a n) x1 x2 (x3 + 1) (hset h (a + 1) x3.toNatClampNeg (h (a + 1) ((x3 + 4).toNatClampNeg))))
def sX6_notes_c15 (a : Nat) : Nat → Int32 → Int32 → Int32 → HH → Prop
  | 0, _, _, _, _ => False
  | n + 1, x1, x2, x3, h => (202 ≤ x3 → (sX6_notes_c53 a x1 x2 (hset h (a + 1) 85 ((h (a + 1) 85) - 1)))) ∧ (¬ (202 ≤ x3) → ((vp_in (x3 + 4) 206) ∧ ((vp_in x3 206) ∧ ((sX6_notes_c15 a n) x1 x2 (x3 + 1) (hset h (a + 1) x3.toNatClampNeg (h (a + 1) ((x3 + 4).toNatClampNeg)))))))
set_option maxRecDepth 100000 in
set_option maxHeartbeats 4000000 in
theorem xX6_notes_c15 {p : Program} {l : Launch} {e : Env} {s : State} {m : MethodId} {args : Array Value} {below : List Frame} {meth : Method} {c : Code} {X : Cx} {a : Nat} (hO : IsMo X a) (C0 : CT p s m args meth c X cX6_notes 4 none RX6) : ∀ (n : Nat) (x1 : Int32) (x2 : Int32) (x3 : Int32) (h : HH) (H : Heap) (locs : List Loc) (ls : Array Slot) (res : HH) (hl : lv_has ls 4 [(0, .ref a), (1, .int x1), (2, .int x2), (3, .int x3)]) (hW : WH X h H) (hS : va_S (xA X) s.heap H locs) (hs : sX6_notes_c15 a n x1 x2 x3 h) (hres : fX6_notes_c15 a n x1 x2 x3 h = res), W p l e rmX6_notes s m args below meth c H locs 0 0 (MQ below (QV X res) args s 0 0 (xA X)) (F0 m 15 ls []) := by
  obtain ⟨hx, hb, hr, hlk, hml, hown, hts, hK⟩ := id C0
  intro n
  induction n with
  | zero =>
    intro _ _ _ _ _ _ _ _ _ _ _ hs _
    exact hs.elim
  | succ n ih =>
    intro x1 x2 x3 h H locs ls res hl hW hS hs hres
    refine lv_iload_n hx hb dX6_notes_15 rfl (lv_at hl 3 rfl) ?_
    refine lv_sipush (v := 202) hx hb dX6_notes_16 (by decide) ?_
    refine lv_icmp_ge (tgt := 42) hx hb dX6_notes_19 (by decide) (fun c9 => ?_) (fun c9 => ?_)
    · have hres := (if_pos c9).symm.trans hres
      have hs := And.left hs c9
      refine lv_aload_n hx hb dX6_notes_42 rfl (lv_at hl 0 rfl) ?_
      refine g6_0 hx hb hts hown hK hW hO.1 (hts _ q4_49) dX6_notes_43 ?_
      refine lv_bipush (v := 85) hx hb dX6_notes_46 (by decide) ?_
      refine lv_dup2_11 hx hb dX6_notes_48 rfl rfl ?_
      refine kb_iald hx hb hK hW hO.2.1 (k := 85) (by decide) (vpd (by decide)) dX6_notes_49 ?_
      refine lv_iconst (v := 1) hx hb dX6_notes_50 (by decide) ?_
      refine lv_isub hx hb dX6_notes_51 ?_
      refine kb_iast hx hb hK hW hS hO.2.1 (k := 85) (by decide) (vpd (by decide)) dX6_notes_52 (fun H locs hW hS => ?_)
      exact xX6_notes_c53 hO C0 x1 x2 (hset h (a + 1) 85 ((h (a + 1) 85) - 1)) _ _ _ _ (lv_sub hl [0, 1, 2] rfl) hW hS hs hres
    · have hres := (if_neg c9).symm.trans hres
      have hs := And.right hs c9
      refine lv_aload_n hx hb dX6_notes_22 rfl (lv_at hl 0 rfl) ?_
      refine g6_0 hx hb hts hown hK hW hO.1 (hts _ q4_49) dX6_notes_23 ?_
      refine lv_iload_n hx hb dX6_notes_26 rfl (lv_at hl 3 rfl) ?_
      refine lv_aload_n hx hb dX6_notes_27 rfl (lv_at hl 0 rfl) ?_
      refine g6_0 hx hb hts hown hK hW hO.1 (hts _ q4_49) dX6_notes_28 ?_
      refine lv_iload_n hx hb dX6_notes_31 rfl (lv_at hl 3 rfl) ?_
      refine lv_iconst (v := 4) hx hb dX6_notes_32 (by decide) ?_
      refine lv_iadd hx hb dX6_notes_33 ?_
      obtain ⟨hi10, hs⟩ := hs
      refine kb_iald hx hb hK hW hO.2.1 (k := (x3 + 4).toNatClampNeg) rfl hi10 dX6_notes_34 ?_
      obtain ⟨hi11, hs⟩ := hs
      refine kb_iast hx hb hK hW hS hO.2.1 (k := x3.toNatClampNeg) rfl hi11 dX6_notes_35 (fun H locs hW hS => ?_)
      refine lv_iinc (v := x3 + 1) (lv' := [(3, .int (x3 + 1)), (0, .ref a), (1, .int x1), (2, .int x2)]) hx hb dX6_notes_36 hl (k := 3) rfl rfl (by decide) rfl (fun ls hl => ?_)
      refine lv_goto (tgt := 15) hx hb dX6_notes_39 (by decide) ?_
      exact ih x1 x2 (x3 + 1) (hset h (a + 1) x3.toNatClampNeg (h (a + 1) ((x3 + 4).toNatClampNeg))) _ _ _ _ (lv_sub hl [1, 2, 3, 0] rfl) hW hS hs hres
def fX6_notes_c0 (a : Nat) (x1 : Int32) (x2 : Int32) (h : HH) : HH := if (h (a + 1) 85) = 30 then (fX6_notes_c15 a 117 x1 x2 86 h) else (fX6_notes_c53 a x1 x2 h)
def sX6_notes_c0 (a : Nat) (x1 : Int32) (x2 : Int32) (h : HH) : Prop := ((h (a + 1) 85) = 30 → (sX6_notes_c15 a 117 x1 x2 86 h)) ∧ (¬ ((h (a + 1) 85) = 30) → (sX6_notes_c53 a x1 x2 h))
set_option maxRecDepth 100000 in
set_option maxHeartbeats 4000000 in
theorem xX6_notes_c0 {p : Program} {l : Launch} {e : Env} {s : State} {m : MethodId} {args : Array Value} {below : List Frame} {meth : Method} {c : Code} {X : Cx} {a : Nat} (hO : IsMo X a) (C0 : CT p s m args meth c X cX6_notes 4 none RX6) (x1 : Int32) (x2 : Int32) (h : HH) (H : Heap) (locs : List Loc) (ls : Array Slot) (res : HH) (hl : lv_has ls 4 [(0, .ref a), (1, .int x1), (2, .int x2)]) (hW : WH X h H) (hS : va_S (xA X) s.heap H locs) (hs : sX6_notes_c0 a x1 x2 h) (hres : fX6_notes_c0 a x1 x2 h = res) : W p l e rmX6_notes s m args below meth c H locs 0 0 (MQ below (QV X res) args s 0 0 (xA X)) (F0 m 0 ls []) := by
  obtain ⟨hx, hb, hr, hlk, hml, hown, hts, hK⟩ := id C0
  refine lv_aload_n hx hb dX6_notes_0 rfl (lv_at hl 0 rfl) ?_
  refine g6_0 hx hb hts hown hK hW hO.1 (hts _ q4_49) dX6_notes_1 ?_
  refine lv_bipush (v := 85) hx hb dX6_notes_4 (by decide) ?_
  refine kb_iald hx hb hK hW hO.2.1 (k := 85) (by decide) (vpd (by decide)) dX6_notes_6 ?_
  refine lv_bipush (v := 30) hx hb dX6_notes_7 (by decide) ?_
  refine lv_icmp_ne (tgt := 53) hx hb dX6_notes_9 (by decide) (fun c1 => ?_) (fun c1 => ?_)
  · have hres := (if_neg c1).symm.trans hres
    have hs := And.right hs c1
    exact xX6_notes_c53 hO C0 x1 x2 h _ _ _ _ (lv_sub hl [0, 1, 2] rfl) hW hS hs hres
  · have hres := (if_pos c1).symm.trans hres
    have hs := And.left hs c1
    refine lv_bipush (v := 86) hx hb dX6_notes_12 (by decide) ?_
    refine lv_istore_n (lv' := [(3, .int 86), (0, .ref a), (1, .int x1), (2, .int x2)]) hx hb dX6_notes_14 rfl hl (by decide) rfl (fun ls hl => ?_)
    exact xX6_notes_c15 hO C0 117 x1 x2 86 h _ _ _ _ (lv_sub hl [1, 2, 3, 0] rfl) hW hS hs hres
def fX6_notes (a : Nat) (x1 : Int32) (x2 : Int32) (h : HH) : HH := fX6_notes_c0 a x1 x2 h
def sX6_notes (a : Nat) (x1 : Int32) (x2 : Int32) (h : HH) : Prop := sX6_notes_c0 a x1 x2 h
set_option maxRecDepth 100000 in
set_option maxHeartbeats 4000000 in
theorem kX6_notes (l : Launch) (X : Cx) (h : HH) (a : Nat) (x1 : Int32) (x2 : Int32) (hO : IsMo X a) (hs : sX6_notes a x1 x2 h) : Met l yX6_notes vX6_notes rmX6_notes (va_Pc [.ref a, .int x1, .int x2] (fun U => WS X h U)) (QV X (fX6_notes a x1 x2 h)) 0 0 (xA X) := by
  refine Met.ofW (cc := cX6_notes) (maxL := 4) (ret := none) (by decide) rfl ?_
  intro p e s m args below meth c s₁ B hml hv
  obtain ⟨rfl, hW, hK⟩ := hv
  have hl := lv_entry ([.ref a, .int x1, .int x2]) (n := 4) (Nat.le_of_ble_eq_true rfl)
  rw [lg_entry_eq]
  generalize (lg_sl ([.ref a, .int x1, .int x2]) ++ List.replicate (4 - (lg_sl ([.ref a, .int x1, .int x2])).length) Slot.unset).toArray = ls at hl ⊢
  have hl : lv_has ls 4 [(0, .ref a), (1, .int x1), (2, .int x2)] := hl
  exact xX6_notes_c0 hO ⟨B.exec, B.bytes, B.returns, B.notSynchronized, hml, findClass_of_methodNamed B.named, fun w hw => atoms_spec (ws := vX6_notes) B.pre w (List.mem_cons_of_mem _ hw), hK⟩ x1 x2 h _ _ ls _ (lv_sub hl [0, 1, 2] rfl) hW va_S.rf hs rfl
-- VillageBoardModel.goesOn()V
abbrev rmX6_goesOn : Room := ({ frames := 7, cells := 0, slots := 0, locals := 156 } : Room)
abbrev vX6_goesOn : List Cond := Cond.code yX6_goesOn cX6_goesOn 3 none :: lwG
theorem wX6_goesOn {R : Room} {s : State} {args : Array Value} {own : String} {idx : Nat} (hg : ∀ w ∈ lwG, w.before args s = true) (hl : Cond.methodLink own idx yX6_goesOn ∈ lwG) (hR : rmX6_goesOn.frames + 1 ≤ R.frames ∧ 8 + (3 + 11) + rmX6_goesOn.locals ≤ R.locals) : CallW R s args own RX6 idx yX6_goesOn cX6_goesOn 3 none vX6_goesOn rmX6_goesOn 0 0 0 := cwV 0 hg (gV hl q4_180 q0_37 q1_7 q4_181) rfl rfl rfl (by decide +kernel) hR
def fX6_goesOn_c54 (a : Nat) : Nat → Int32 → HH → HH
  | 0, x1, h => h
  | n + 1, x1, h => if (h (a + 1) 0) ≤ x1 then (if (h (a + 1) 2) = (h (a + 1) 1) then (hset (hset h (a + 1) 2 ((h (a + 1) 2) + 1)) (a + 1) 3 (-1)) else (fX6_startsRound a h)) else ((fX6_goesOn_c54 a n) (x1 + 1) (fX6_endsFor a x1 h))
def sX6_goesOn_c54 (a : Nat) : Nat → Int32 → HH → Prop
  | 0, _, _ => False
  | n + 1, x1, h => ((h (a + 1) 0) ≤ x1 → (((h (a + 1) 2) = (h (a + 1) 1) → True) ∧ (¬ ((h (a + 1) 2) = (h (a + 1) 1)) → (sX6_startsRound a h)))) ∧ (¬ ((h (a + 1) 0) ≤ x1) → ((sX6_endsFor a x1 h) ∧ ((sX6_goesOn_c54 a n) (x1 + 1) (fX6_endsFor a x1 h))))
set_option maxRecDepth 100000 in
set_option maxHeartbeats 4000000 in
theorem xX6_goesOn_c54 {p : Program} {l : Launch} {e : Env} {s : State} {m : MethodId} {args : Array Value} {below : List Frame} {meth : Method} {c : Code} {X : Cx} {a : Nat} (hO : IsMo X a) (C0 : CT p s m args meth c X cX6_goesOn 3 none RX6) : ∀ (n : Nat) (x1 : Int32) (h : HH) (H : Heap) (locs : List Loc) (ls : Array Slot) (res : HH) (hl : lv_has ls 3 [(0, .ref a), (1, .int x1)]) (hW : WH X h H) (hS : va_S (xA X) s.heap H locs) (hs : sX6_goesOn_c54 a n x1 h) (hres : fX6_goesOn_c54 a n x1 h = res), W p l e rmX6_goesOn s m args below meth c H locs 0 0 (MQ below (QV X res) args s 0 0 (xA X)) (F0 m 54 ls []) := by
  obtain ⟨hx, hb, hr, hlk, hml, hown, hts, hK⟩ := id C0
  intro n
  induction n with
  | zero =>
    intro _ _ _ _ _ _ _ _ _ hs _
    exact hs.elim
  | succ n ih =>
    intro x1 h H locs ls res hl hW hS hs hres
    refine lv_iload_n hx hb dX6_goesOn_54 rfl (lv_at hl 1 rfl) ?_
    refine lv_aload_n hx hb dX6_goesOn_55 rfl (lv_at hl 0 rfl) ?_
    refine g6_0 hx hb hts hown hK hW hO.1 (hts _ q4_49) dX6_goesOn_56 ?_
    refine lv_iconst (v := 0) hx hb dX6_goesOn_59 (by decide) ?_
    refine kb_iald hx hb hK hW hO.2.1 (k := 0) (by decide) (vpd (by decide)) dX6_goesOn_60 ?_
    refine lv_icmp_ge (tgt := 75) hx hb dX6_goesOn_61 (by decide) (fun c2 => ?_) (fun c2 => ?_)
    · have hres := (if_pos c2).symm.trans hres
      have hs := And.left hs c2
      refine lv_aload_n hx hb dX6_goesOn_75 rfl (lv_at hl 0 rfl) ?_
      refine g6_0 hx hb hts hown hK hW hO.1 (hts _ q4_49) dX6_goesOn_76 ?_
      refine lv_iconst (v := 2) hx hb dX6_goesOn_79 (by decide) ?_
      refine kb_iald hx hb hK hW hO.2.1 (k := 2) (by decide) (vpd (by decide)) dX6_goesOn_80 ?_
      refine lv_aload_n hx hb dX6_goesOn_81 rfl (lv_at hl 0 rfl) ?_
      refine g6_0 hx hb hts hown hK hW hO.1 (hts _ q4_49) dX6_goesOn_82 ?_
      refine lv_iconst (v := 1) hx hb dX6_goesOn_85 (by decide) ?_
      refine kb_iald hx hb hK hW hO.2.1 (k := 1) (by decide) (vpd (by decide)) dX6_goesOn_86 ?_
      refine lv_icmp_ne (tgt := 110) hx hb dX6_goesOn_87 (by decide) (fun c3 => ?_) (fun c3 => ?_)
      · have hres := (if_neg c3).symm.trans hres
        have hs := And.right hs c3
        refine lv_aload_n hx hb dX6_goesOn_110 rfl (lv_at hl 0 rfl) ?_
        have hc4 := hs
        refine kV_v (As := []) (rest := []) ⟨hx, hb, hml, hown, hts⟩ (kX6_startsRound l X h a hO hc4) (wX6_startsRound hts q4_30 ⟨Nat.le_of_ble_eq_true rfl, Nat.le_of_ble_eq_true rfl⟩) hK hW hS (va_recv hK.1 (hW.one hO.1) (ci := 6) (q0 := 0) rfl rfl) rfl hl.1 rfl (Nat.le_of_ble_eq_true rfl) dX6_goesOn_111 ⟨Nat.zero_le _, Nat.zero_le _⟩ (fun H locs hW hS => ?_)
        subst hres
        exact kr_v hx hb hr hlk hK hW hS dX6_goesOn_114
      · have hres := (if_pos c3).symm.trans hres
        have hs := And.left hs c3
        refine lv_aload_n hx hb dX6_goesOn_90 rfl (lv_at hl 0 rfl) ?_
        refine g6_0 hx hb hts hown hK hW hO.1 (hts _ q4_49) dX6_goesOn_91 ?_
        refine lv_iconst (v := 2) hx hb dX6_goesOn_94 (by decide) ?_
        refine lv_dup2_11 hx hb dX6_goesOn_95 rfl rfl ?_
        refine kb_iald hx hb hK hW hO.2.1 (k := 2) (by decide) (vpd (by decide)) dX6_goesOn_96 ?_
        refine lv_iconst (v := 1) hx hb dX6_goesOn_97 (by decide) ?_
        refine lv_iadd hx hb dX6_goesOn_98 ?_
        refine kb_iast hx hb hK hW hS hO.2.1 (k := 2) (by decide) (vpd (by decide)) dX6_goesOn_99 (fun H locs hW hS => ?_)
        refine lv_aload_n hx hb dX6_goesOn_100 rfl (lv_at hl 0 rfl) ?_
        refine g6_0 hx hb hts hown hK hW hO.1 (hts _ q4_49) dX6_goesOn_101 ?_
        refine lv_iconst (v := 3) hx hb dX6_goesOn_104 (by decide) ?_
        refine lv_iconst (v := (-1)) hx hb dX6_goesOn_105 (by decide) ?_
        refine kb_iast hx hb hK hW hS hO.2.1 (k := 3) (by decide) (vpd (by decide)) dX6_goesOn_106 (fun H locs hW hS => ?_)
        refine lv_goto (tgt := 114) hx hb dX6_goesOn_107 (by decide) ?_
        subst hres
        exact kr_v hx hb hr hlk hK hW hS dX6_goesOn_114
    · have hres := (if_neg c2).symm.trans hres
      have hs := And.right hs c2
      refine lv_aload_n hx hb dX6_goesOn_64 rfl (lv_at hl 0 rfl) ?_
      refine lv_iload_n hx hb dX6_goesOn_65 rfl (lv_at hl 1 rfl) ?_
      obtain ⟨hc5, hs⟩ := hs
      refine kV_v (As := [.int x1]) (rest := []) ⟨hx, hb, hml, hown, hts⟩ (kX6_endsFor l X h a x1 hO hc5) (wX6_endsFor hts q4_182 ⟨Nat.le_of_ble_eq_true rfl, Nat.le_of_ble_eq_true rfl⟩) hK hW hS (va_recv hK.1 (hW.one hO.1) (ci := 6) (q0 := 0) rfl rfl) rfl hl.1 rfl (Nat.le_of_ble_eq_true rfl) dX6_goesOn_66 ⟨Nat.zero_le _, Nat.zero_le _⟩ (fun H locs hW hS => ?_)
      refine lv_iinc (v := x1 + 1) (lv' := [(1, .int (x1 + 1)), (0, .ref a)]) hx hb dX6_goesOn_69 hl (k := 1) rfl rfl (by decide) rfl (fun ls hl => ?_)
      refine lv_goto (tgt := 54) hx hb dX6_goesOn_72 (by decide) ?_
      exact ih (x1 + 1) (fX6_endsFor a x1 h) _ _ _ _ (lv_sub hl [1, 0] rfl) hW hS hs hres
def fX6_goesOn_c2 (a : Nat) : Nat → Int32 → HH → HH
  | 0, x1, h => h
  | n + 1, x1, h => if (h (a + 1) 0) < x1 then (fX6_goesOn_c54 a 5 0 h) else (if (fX6_get a (jrem ((h (a + 1) 3) + x1) (h (a + 1) 0)) 7 h) ≤ 0 then ((fX6_goesOn_c2 a n) (x1 + 1) h) else (hset h (a + 1) 3 (jrem ((h (a + 1) 3) + x1) (h (a + 1) 0))))
def sX6_goesOn_c2 (a : Nat) : Nat → Int32 → HH → Prop
  | 0, _, _ => False
  | n + 1, x1, h => ((h (a + 1) 0) < x1 → (sX6_goesOn_c54 a 5 0 h)) ∧ (¬ ((h (a + 1) 0) < x1) → ((¬ (h (a + 1) 0) = 0) ∧ ((sX6_get a (jrem ((h (a + 1) 3) + x1) (h (a + 1) 0)) 7 h) ∧ (((fX6_get a (jrem ((h (a + 1) 3) + x1) (h (a + 1) 0)) 7 h) ≤ 0 → ((sX6_goesOn_c2 a n) (x1 + 1) h)) ∧ (¬ ((fX6_get a (jrem ((h (a + 1) 3) + x1) (h (a + 1) 0)) 7 h) ≤ 0) → True)))))
set_option maxRecDepth 100000 in
set_option maxHeartbeats 4000000 in
theorem xX6_goesOn_c2 {p : Program} {l : Launch} {e : Env} {s : State} {m : MethodId} {args : Array Value} {below : List Frame} {meth : Method} {c : Code} {X : Cx} {a : Nat} (hO : IsMo X a) (C0 : CT p s m args meth c X cX6_goesOn 3 none RX6) : ∀ (n : Nat) (x1 : Int32) (h : HH) (H : Heap) (locs : List Loc) (ls : Array Slot) (res : HH) (hl : lv_has ls 3 [(0, .ref a), (1, .int x1)]) (hW : WH X h H) (hS : va_S (xA X) s.heap H locs) (hs : sX6_goesOn_c2 a n x1 h) (hres : fX6_goesOn_c2 a n x1 h = res), W p l e rmX6_goesOn s m args below meth c H locs 0 0 (MQ below (QV X res) args s 0 0 (xA X)) (F0 m 2 ls []) := by
  obtain ⟨hx, hb, hr, hlk, hml, hown, hts, hK⟩ := id C0
  intro n
  induction n with
  | zero =>
    intro _ _ _ _ _ _ _ _ _ hs _
    exact hs.elim
  | succ n ih =>
    intro x1 h H locs ls res hl hW hS hs hres
    refine lv_iload_n hx hb dX6_goesOn_2 rfl (lv_at hl 1 rfl) ?_
    refine lv_aload_n hx hb dX6_goesOn_3 rfl (lv_at hl 0 rfl) ?_
    refine g6_0 hx hb hts hown hK hW hO.1 (hts _ q4_49) dX6_goesOn_4 ?_
    refine lv_iconst (v := 0) hx hb dX6_goesOn_7 (by decide) ?_
    refine kb_iald hx hb hK hW hO.2.1 (k := 0) (by decide) (vpd (by decide)) dX6_goesOn_8 ?_
    refine lv_icmp_gt (tgt := 52) hx hb dX6_goesOn_9 (by decide) (fun c1 => ?_) (fun c1 => ?_)
    · have hres := (if_pos c1).symm.trans hres
      have hs := And.left hs c1
      refine lv_iconst (v := 0) hx hb dX6_goesOn_52 (by decide) ?_
      refine lv_istore_n (lv' := [(1, .int 0), (0, .ref a)]) hx hb dX6_goesOn_53 rfl hl (by decide) rfl (fun ls hl => ?_)
      exact xX6_goesOn_c54 hO C0 5 0 h _ _ _ _ (lv_sub hl [1, 0] rfl) hW hS hs hres
    · have hres := (if_neg c1).symm.trans hres
      have hs := And.right hs c1
      refine lv_aload_n hx hb dX6_goesOn_12 rfl (lv_at hl 0 rfl) ?_
      refine g6_0 hx hb hts hown hK hW hO.1 (hts _ q4_49) dX6_goesOn_13 ?_
      refine lv_iconst (v := 3) hx hb dX6_goesOn_16 (by decide) ?_
      refine kb_iald hx hb hK hW hO.2.1 (k := 3) (by decide) (vpd (by decide)) dX6_goesOn_17 ?_
      refine lv_iload_n hx hb dX6_goesOn_18 rfl (lv_at hl 1 rfl) ?_
      refine lv_iadd hx hb dX6_goesOn_19 ?_
      refine lv_aload_n hx hb dX6_goesOn_20 rfl (lv_at hl 0 rfl) ?_
      refine g6_0 hx hb hts hown hK hW hO.1 (hts _ q4_49) dX6_goesOn_21 ?_
      refine lv_iconst (v := 0) hx hb dX6_goesOn_24 (by decide) ?_
      refine kb_iald hx hb hK hW hO.2.1 (k := 0) (by decide) (vpd (by decide)) dX6_goesOn_25 ?_
      obtain ⟨hd6, hs⟩ := hs
      refine kb_irem hx hb dX6_goesOn_26 hd6 ?_
      refine lv_istore_n (lv' := [(2, .int (jrem ((h (a + 1) 3) + x1) (h (a + 1) 0))), (0, .ref a), (1, .int x1)]) hx hb dX6_goesOn_27 rfl hl (by decide) rfl (fun ls hl => ?_)
      refine lv_aload_n hx hb dX6_goesOn_28 rfl (lv_at hl 1 rfl) ?_
      refine lv_iload_n hx hb dX6_goesOn_29 rfl (lv_at hl 0 rfl) ?_
      refine lv_bipush (v := 7) hx hb dX6_goesOn_30 (by decide) ?_
      obtain ⟨hc7, hs⟩ := hs
      refine kV_i (As := [.int (jrem ((h (a + 1) 3) + x1) (h (a + 1) 0)), .int 7]) (rest := []) ⟨hx, hb, hml, hown, hts⟩ (kX6_get l X h a (jrem ((h (a + 1) 3) + x1) (h (a + 1) 0)) 7 hO hc7) (wX6_get hts q4_41 ⟨Nat.le_of_ble_eq_true rfl, Nat.le_of_ble_eq_true rfl⟩) hK hW hS (va_recv hK.1 (hW.one hO.1) (ci := 6) (q0 := 0) rfl rfl) rfl hl.1 rfl (Nat.le_of_ble_eq_true rfl) dX6_goesOn_32 ⟨Nat.zero_le _, Nat.zero_le _⟩ (fun H locs hW hS => ?_)
      refine lv_if_le (tgt := 46) hx hb dX6_goesOn_35 (by decide) (fun c8 => ?_) (fun c8 => ?_)
      · have hres := (if_pos c8).symm.trans hres
        have hs := And.left hs c8
        refine lv_iinc (v := x1 + 1) (lv' := [(1, .int (x1 + 1)), (2, .int (jrem ((h (a + 1) 3) + x1) (h (a + 1) 0))), (0, .ref a)]) hx hb dX6_goesOn_46 hl (k := 2) rfl rfl (by decide) rfl (fun ls hl => ?_)
        refine lv_goto (tgt := 2) hx hb dX6_goesOn_49 (by decide) ?_
        exact ih (x1 + 1) h _ _ _ _ (lv_sub hl [2, 0] rfl) hW hS hs hres
      · have hres := (if_neg c8).symm.trans hres
        have hs := And.right hs c8
        refine lv_aload_n hx hb dX6_goesOn_38 rfl (lv_at hl 1 rfl) ?_
        refine g6_0 hx hb hts hown hK hW hO.1 (hts _ q4_49) dX6_goesOn_39 ?_
        refine lv_iconst (v := 3) hx hb dX6_goesOn_42 (by decide) ?_
        refine lv_iload_n hx hb dX6_goesOn_43 rfl (lv_at hl 0 rfl) ?_
        refine kb_iast hx hb hK hW hS hO.2.1 (k := 3) (by decide) (vpd (by decide)) dX6_goesOn_44 (fun H locs hW hS => ?_)
        subst hres
        exact kr_v hx hb hr hlk hK hW hS dX6_goesOn_45
def fX6_goesOn_c0 (a : Nat) (h : HH) : HH := fX6_goesOn_c2 a 6 1 h
def sX6_goesOn_c0 (a : Nat) (h : HH) : Prop := sX6_goesOn_c2 a 6 1 h
set_option maxRecDepth 100000 in
set_option maxHeartbeats 4000000 in
theorem xX6_goesOn_c0 {p : Program} {l : Launch} {e : Env} {s : State} {m : MethodId} {args : Array Value} {below : List Frame} {meth : Method} {c : Code} {X : Cx} {a : Nat} (hO : IsMo X a) (C0 : CT p s m args meth c X cX6_goesOn 3 none RX6) (h : HH) (H : Heap) (locs : List Loc) (ls : Array Slot) (res : HH) (hl : lv_has ls 3 [(0, .ref a)]) (hW : WH X h H) (hS : va_S (xA X) s.heap H locs) (hs : sX6_goesOn_c0 a h) (hres : fX6_goesOn_c0 a h = res) : W p l e rmX6_goesOn s m args below meth c H locs 0 0 (MQ below (QV X res) args s 0 0 (xA X)) (F0 m 0 ls []) := by
  obtain ⟨hx, hb, hr, hlk, hml, hown, hts, hK⟩ := id C0
  refine lv_iconst (v := 1) hx hb dX6_goesOn_0 (by decide) ?_
  refine lv_istore_n (lv' := [(1, .int 1), (0, .ref a)]) hx hb dX6_goesOn_1 rfl hl (by decide) rfl (fun ls hl => ?_)
  exact xX6_goesOn_c2 hO C0 6 1 h _ _ _ _ (lv_sub hl [1, 0] rfl) hW hS hs hres
def fX6_goesOn (a : Nat) (h : HH) : HH := fX6_goesOn_c0 a h
def sX6_goesOn (a : Nat) (h : HH) : Prop := sX6_goesOn_c0 a h
set_option maxRecDepth 100000 in
set_option maxHeartbeats 4000000 in
theorem kX6_goesOn (l : Launch) (X : Cx) (h : HH) (a : Nat) (hO : IsMo X a) (hs : sX6_goesOn a h) : Met l yX6_goesOn vX6_goesOn rmX6_goesOn (va_Pc [.ref a] (fun U => WS X h U)) (QV X (fX6_goesOn a h)) 0 0 (xA X) := by
  refine Met.ofW (cc := cX6_goesOn) (maxL := 3) (ret := none) (by decide) rfl ?_
  intro p e s m args below meth c s₁ B hml hv
  obtain ⟨rfl, hW, hK⟩ := hv
  have hl := lv_entry ([.ref a]) (n := 3) (Nat.le_of_ble_eq_true rfl)
  rw [lg_entry_eq]
  generalize (lg_sl ([.ref a]) ++ List.replicate (3 - (lg_sl ([.ref a])).length) Slot.unset).toArray = ls at hl ⊢
  have hl : lv_has ls 3 [(0, .ref a)] := hl
  exact xX6_goesOn_c0 hO ⟨B.exec, B.bytes, B.returns, B.notSynchronized, hml, findClass_of_methodNamed B.named, fun w hw => atoms_spec (ws := vX6_goesOn) B.pre w (List.mem_cons_of_mem _ hw), hK⟩ h _ _ ls _ (lv_sub hl [0] rfl) hW va_S.rf hs rfl
-- VillageBoardModel.places(II)V
abbrev rmX6_places : Room := ({ frames := 8, cells := 0, slots := 0, locals := 183 } : Room)
abbrev vX6_places : List Cond := Cond.code yX6_places cX6_places 3 none :: lwG
theorem wX6_places {R : Room} {s : State} {args : Array Value} {own : String} {idx : Nat} (hg : ∀ w ∈ lwG, w.before args s = true) (hl : Cond.methodLink own idx yX6_places ∈ lwG) (hR : rmX6_places.frames + 1 ≤ R.frames ∧ 8 + (3 + 11) + rmX6_places.locals ≤ R.locals) : CallW R s args own RX6 idx yX6_places cX6_places 3 none vX6_places rmX6_places 0 0 2 := cwV 2 hg (gV hl q4_152 q0_30 q1_7 q4_153) rfl rfl rfl (by decide +kernel) hR
def fX6_places_c13 (a : Nat) (h : HH) : HH := fX6_goesOn a h
def sX6_places_c13 (a : Nat) (h : HH) : Prop := sX6_goesOn a h
set_option maxRecDepth 100000 in
set_option maxHeartbeats 4000000 in
theorem xX6_places_c13 {p : Program} {l : Launch} {e : Env} {s : State} {m : MethodId} {args : Array Value} {below : List Frame} {meth : Method} {c : Code} {X : Cx} {a : Nat} (hO : IsMo X a) (C0 : CT p s m args meth c X cX6_places 3 none RX6) (h : HH) (H : Heap) (locs : List Loc) (ls : Array Slot) (res : HH) (hl : lv_has ls 3 []) (hW : WH X h H) (hS : va_S (xA X) s.heap H locs) (hs : sX6_places_c13 a h) (hres : fX6_places_c13 a h = res) : W p l e rmX6_places s m args below meth c H locs 0 0 (MQ below (QV X res) args s 0 0 (xA X)) (F0 m 13 ls [.ref a]) := by
  obtain ⟨hx, hb, hr, hlk, hml, hown, hts, hK⟩ := id C0
  have hc3 := hs
  refine kV_v (As := []) (rest := []) ⟨hx, hb, hml, hown, hts⟩ (kX6_goesOn l X h a hO hc3) (wX6_goesOn hts q4_178 ⟨Nat.le_of_ble_eq_true rfl, Nat.le_of_ble_eq_true rfl⟩) hK hW hS (va_recv hK.1 (hW.one hO.1) (ci := 6) (q0 := 0) rfl rfl) rfl hl.1 rfl (Nat.le_of_ble_eq_true rfl) dX6_places_13 ⟨Nat.zero_le _, Nat.zero_le _⟩ (fun H locs hW hS => ?_)
  subst hres
  exact kr_v hx hb hr hlk hK hW hS dX6_places_16
def fX6_places_c9 (a : Nat) (xs0 : Int32) (xs1 : Int32) (h : HH) : HH := fX6_places_c13 a (fX6_comes a xs1 xs0 h)
def sX6_places_c9 (a : Nat) (xs0 : Int32) (xs1 : Int32) (h : HH) : Prop := (sX6_comes a xs1 xs0 h) ∧ (sX6_places_c13 a (fX6_comes a xs1 xs0 h))
set_option maxRecDepth 100000 in
set_option maxHeartbeats 4000000 in
theorem xX6_places_c9 {p : Program} {l : Launch} {e : Env} {s : State} {m : MethodId} {args : Array Value} {below : List Frame} {meth : Method} {c : Code} {X : Cx} {a : Nat} (hO : IsMo X a) (C0 : CT p s m args meth c X cX6_places 3 none RX6) (xs0 : Int32) (xs1 : Int32) (h : HH) (H : Heap) (locs : List Loc) (ls : Array Slot) (res : HH) (hl : lv_has ls 3 [(0, .ref a)]) (hW : WH X h H) (hS : va_S (xA X) s.heap H locs) (hs : sX6_places_c9 a xs0 xs1 h) (hres : fX6_places_c9 a xs0 xs1 h = res) : W p l e rmX6_places s m args below meth c H locs 0 0 (MQ below (QV X res) args s 0 0 (xA X)) (F0 m 9 ls [.int xs0, .int xs1, .ref a]) := by
  obtain ⟨hx, hb, hr, hlk, hml, hown, hts, hK⟩ := id C0
  obtain ⟨hc2, hs⟩ := hs
  refine kV_v (As := [.int xs1, .int xs0]) (rest := []) ⟨hx, hb, hml, hown, hts⟩ (kX6_comes l X h a xs1 xs0 hO hc2) (wX6_comes hts q4_158 ⟨Nat.le_of_ble_eq_true rfl, Nat.le_of_ble_eq_true rfl⟩) hK hW hS (va_recv hK.1 (hW.one hO.1) (ci := 6) (q0 := 0) rfl rfl) rfl hl.1 rfl (Nat.le_of_ble_eq_true rfl) dX6_places_9 ⟨Nat.zero_le _, Nat.zero_le _⟩ (fun H locs hW hS => ?_)
  refine lv_aload_n hx hb dX6_places_12 rfl (lv_at hl 0 rfl) ?_
  exact xX6_places_c13 hO C0 (fX6_comes a xs1 xs0 h) _ _ _ _ (lv_sub hl [] rfl) hW hS hs hres
def fX6_places_c0 (a : Nat) (x1 : Int32) (x2 : Int32) (h : HH) : HH := fX6_places_c9 a x2 x1 (fX6_notes a x1 x2 h)
def sX6_places_c0 (a : Nat) (x1 : Int32) (x2 : Int32) (h : HH) : Prop := (sX6_notes a x1 x2 h) ∧ (sX6_places_c9 a x2 x1 (fX6_notes a x1 x2 h))
set_option maxRecDepth 100000 in
set_option maxHeartbeats 4000000 in
theorem xX6_places_c0 {p : Program} {l : Launch} {e : Env} {s : State} {m : MethodId} {args : Array Value} {below : List Frame} {meth : Method} {c : Code} {X : Cx} {a : Nat} (hO : IsMo X a) (C0 : CT p s m args meth c X cX6_places 3 none RX6) (x1 : Int32) (x2 : Int32) (h : HH) (H : Heap) (locs : List Loc) (ls : Array Slot) (res : HH) (hl : lv_has ls 3 [(0, .ref a), (1, .int x1), (2, .int x2)]) (hW : WH X h H) (hS : va_S (xA X) s.heap H locs) (hs : sX6_places_c0 a x1 x2 h) (hres : fX6_places_c0 a x1 x2 h = res) : W p l e rmX6_places s m args below meth c H locs 0 0 (MQ below (QV X res) args s 0 0 (xA X)) (F0 m 0 ls []) := by
  obtain ⟨hx, hb, hr, hlk, hml, hown, hts, hK⟩ := id C0
  refine lv_aload_n hx hb dX6_places_0 rfl (lv_at hl 0 rfl) ?_
  refine lv_iload_n hx hb dX6_places_1 rfl (lv_at hl 1 rfl) ?_
  refine lv_iload_n hx hb dX6_places_2 rfl (lv_at hl 2 rfl) ?_
  obtain ⟨hc1, hs⟩ := hs
  refine kV_v (As := [.int x1, .int x2]) (rest := []) ⟨hx, hb, hml, hown, hts⟩ (kX6_notes l X h a x1 x2 hO hc1) (wX6_notes hts q4_154 ⟨Nat.le_of_ble_eq_true rfl, Nat.le_of_ble_eq_true rfl⟩) hK hW hS (va_recv hK.1 (hW.one hO.1) (ci := 6) (q0 := 0) rfl rfl) rfl hl.1 rfl (Nat.le_of_ble_eq_true rfl) dX6_places_3 ⟨Nat.zero_le _, Nat.zero_le _⟩ (fun H locs hW hS => ?_)
  refine lv_aload_n hx hb dX6_places_6 rfl (lv_at hl 0 rfl) ?_
  refine lv_iload_n hx hb dX6_places_7 rfl (lv_at hl 1 rfl) ?_
  refine lv_iload_n hx hb dX6_places_8 rfl (lv_at hl 2 rfl) ?_
  exact xX6_places_c9 hO C0 x2 x1 (fX6_notes a x1 x2 h) _ _ _ _ (lv_sub hl [0] rfl) hW hS hs hres
def fX6_places (a : Nat) (x1 : Int32) (x2 : Int32) (h : HH) : HH := fX6_places_c0 a x1 x2 h
def sX6_places (a : Nat) (x1 : Int32) (x2 : Int32) (h : HH) : Prop := sX6_places_c0 a x1 x2 h
set_option maxRecDepth 100000 in
set_option maxHeartbeats 4000000 in
theorem kX6_places (l : Launch) (X : Cx) (h : HH) (a : Nat) (x1 : Int32) (x2 : Int32) (hO : IsMo X a) (hs : sX6_places a x1 x2 h) : Met l yX6_places vX6_places rmX6_places (va_Pc [.ref a, .int x1, .int x2] (fun U => WS X h U)) (QV X (fX6_places a x1 x2 h)) 0 0 (xA X) := by
  refine Met.ofW (cc := cX6_places) (maxL := 3) (ret := none) (by decide) rfl ?_
  intro p e s m args below meth c s₁ B hml hv
  obtain ⟨rfl, hW, hK⟩ := hv
  have hl := lv_entry ([.ref a, .int x1, .int x2]) (n := 3) (Nat.le_of_ble_eq_true rfl)
  rw [lg_entry_eq]
  generalize (lg_sl ([.ref a, .int x1, .int x2]) ++ List.replicate (3 - (lg_sl ([.ref a, .int x1, .int x2])).length) Slot.unset).toArray = ls at hl ⊢
  have hl : lv_has ls 3 [(0, .ref a), (1, .int x1), (2, .int x2)] := hl
  exact xX6_places_c0 hO ⟨B.exec, B.bytes, B.returns, B.notSynchronized, hml, findClass_of_methodNamed B.named, fun w hw => atoms_spec (ws := vX6_places) B.pre w (List.mem_cons_of_mem _ hw), hK⟩ x1 x2 h _ _ ls _ (lv_sub hl [0, 1, 2] rfl) hW va_S.rf hs rfl
-- VillageBoardModel.skips()V
abbrev rmX6_skips : Room := ({ frames := 8, cells := 0, slots := 0, locals := 178 } : Room)
abbrev vX6_skips : List Cond := Cond.code yX6_skips cX6_skips 1 none :: lwG
theorem wX6_skips {R : Room} {s : State} {args : Array Value} {own : String} {idx : Nat} (hg : ∀ w ∈ lwG, w.before args s = true) (hl : Cond.methodLink own idx yX6_skips ∈ lwG) (hR : rmX6_skips.frames + 1 ≤ R.frames ∧ 8 + (1 + 11) + rmX6_skips.locals ≤ R.locals) : CallW R s args own RX6 idx yX6_skips cX6_skips 1 none vX6_skips rmX6_skips 0 0 0 := cwV 0 hg (gV hl q4_216 q0_45 q1_7 q4_217) rfl rfl rfl (by decide +kernel) hR
def fX6_skips_c24 (a : Nat) (h : HH) : HH := fX6_goesOn a h
def sX6_skips_c24 (a : Nat) (h : HH) : Prop := sX6_goesOn a h
set_option maxRecDepth 100000 in
set_option maxHeartbeats 4000000 in
theorem xX6_skips_c24 {p : Program} {l : Launch} {e : Env} {s : State} {m : MethodId} {args : Array Value} {below : List Frame} {meth : Method} {c : Code} {X : Cx} {a : Nat} (hO : IsMo X a) (C0 : CT p s m args meth c X cX6_skips 1 none RX6) (h : HH) (H : Heap) (locs : List Loc) (ls : Array Slot) (res : HH) (hl : lv_has ls 1 []) (hW : WH X h H) (hS : va_S (xA X) s.heap H locs) (hs : sX6_skips_c24 a h) (hres : fX6_skips_c24 a h = res) : W p l e rmX6_skips s m args below meth c H locs 0 0 (MQ below (QV X res) args s 0 0 (xA X)) (F0 m 24 ls [.ref a]) := by
  obtain ⟨hx, hb, hr, hlk, hml, hown, hts, hK⟩ := id C0
  have hc4 := hs
  refine kV_v (As := []) (rest := []) ⟨hx, hb, hml, hown, hts⟩ (kX6_goesOn l X h a hO hc4) (wX6_goesOn hts q4_178 ⟨Nat.le_of_ble_eq_true rfl, Nat.le_of_ble_eq_true rfl⟩) hK hW hS (va_recv hK.1 (hW.one hO.1) (ci := 6) (q0 := 0) rfl rfl) rfl hl.1 rfl (Nat.le_of_ble_eq_true rfl) dX6_skips_24 ⟨Nat.zero_le _, Nat.zero_le _⟩ (fun H locs hW hS => ?_)
  subst hres
  exact kr_v hx hb hr hlk hK hW hS dX6_skips_27
def fX6_skips_c15 (a : Nat) (xs0 : Int32) (h : HH) : HH := fX6_skips_c24 a (hset h (a + 1) ((fX6_at (h (a + 1) xs0.toNatClampNeg) 7).toNatClampNeg) 0)
def sX6_skips_c15 (a : Nat) (xs0 : Int32) (h : HH) : Prop := (vp_in xs0 206) ∧ ((vp_in (fX6_at (h (a + 1) xs0.toNatClampNeg) 7) 206) ∧ (sX6_skips_c24 a (hset h (a + 1) ((fX6_at (h (a + 1) xs0.toNatClampNeg) 7).toNatClampNeg) 0)))
set_option maxRecDepth 100000 in
set_option maxHeartbeats 4000000 in
theorem xX6_skips_c15 {p : Program} {l : Launch} {e : Env} {s : State} {m : MethodId} {args : Array Value} {below : List Frame} {meth : Method} {c : Code} {X : Cx} {a : Nat} (hO : IsMo X a) (C0 : CT p s m args meth c X cX6_skips 1 none RX6) (xs0 : Int32) (h : HH) (H : Heap) (locs : List Loc) (ls : Array Slot) (res : HH) (hl : lv_has ls 1 [(0, .ref a)]) (hW : WH X h H) (hS : va_S (xA X) s.heap H locs) (hs : sX6_skips_c15 a xs0 h) (hres : fX6_skips_c15 a xs0 h = res) : W p l e rmX6_skips s m args below meth c H locs 0 0 (MQ below (QV X res) args s 0 0 (xA X)) (F0 m 15 ls [.int xs0, .ref (a + 1), .ref (a + 1)]) := by
  obtain ⟨hx, hb, hr, hlk, hml, hown, hts, hK⟩ := id C0
  obtain ⟨hi2, hs⟩ := hs
  refine kb_iald hx hb hK hW hO.2.1 (k := xs0.toNatClampNeg) rfl hi2 dX6_skips_15 ?_
  refine lv_bipush (v := 7) hx hb dX6_skips_16 (by decide) ?_
  refine kS_i (As := [.int (h (a + 1) xs0.toNatClampNeg), .int 7]) (rest := [.ref (a + 1)]) ⟨hx, hb, hml, hown, hts⟩ (kX6_at l X h (h (a + 1) xs0.toNatClampNeg) 7) (wX6_at hts q4_27 ⟨Nat.le_of_ble_eq_true rfl, Nat.le_of_ble_eq_true rfl⟩) hK hW hS rfl hl.1 rfl (Nat.le_of_ble_eq_true rfl) dX6_skips_18 ⟨Nat.zero_le _, Nat.zero_le _⟩ (fun H locs hW hS => ?_)
  refine lv_iconst (v := 0) hx hb dX6_skips_21 (by decide) ?_
  obtain ⟨hi3, hs⟩ := hs
  refine kb_iast hx hb hK hW hS hO.2.1 (k := (fX6_at (h (a + 1) xs0.toNatClampNeg) 7).toNatClampNeg) rfl hi3 dX6_skips_22 (fun H locs hW hS => ?_)
  refine lv_aload_n hx hb dX6_skips_23 rfl (lv_at hl 0 rfl) ?_
  exact xX6_skips_c24 hO C0 (hset h (a + 1) ((fX6_at (h (a + 1) xs0.toNatClampNeg) 7).toNatClampNeg) 0) _ _ _ _ (lv_sub hl [] rfl) hW hS hs hres
def fX6_skips_c0 (a : Nat) (h : HH) : HH := fX6_skips_c15 a 3 (fX6_notes a (-1) 0 h)
def sX6_skips_c0 (a : Nat) (h : HH) : Prop := (sX6_notes a (-1) 0 h) ∧ (sX6_skips_c15 a 3 (fX6_notes a (-1) 0 h))
set_option maxRecDepth 100000 in
set_option maxHeartbeats 4000000 in
theorem xX6_skips_c0 {p : Program} {l : Launch} {e : Env} {s : State} {m : MethodId} {args : Array Value} {below : List Frame} {meth : Method} {c : Code} {X : Cx} {a : Nat} (hO : IsMo X a) (C0 : CT p s m args meth c X cX6_skips 1 none RX6) (h : HH) (H : Heap) (locs : List Loc) (ls : Array Slot) (res : HH) (hl : lv_has ls 1 [(0, .ref a)]) (hW : WH X h H) (hS : va_S (xA X) s.heap H locs) (hs : sX6_skips_c0 a h) (hres : fX6_skips_c0 a h = res) : W p l e rmX6_skips s m args below meth c H locs 0 0 (MQ below (QV X res) args s 0 0 (xA X)) (F0 m 0 ls []) := by
  obtain ⟨hx, hb, hr, hlk, hml, hown, hts, hK⟩ := id C0
  refine lv_aload_n hx hb dX6_skips_0 rfl (lv_at hl 0 rfl) ?_
  refine lv_iconst (v := (-1)) hx hb dX6_skips_1 (by decide) ?_
  refine lv_iconst (v := 0) hx hb dX6_skips_2 (by decide) ?_
  obtain ⟨hc1, hs⟩ := hs
  refine kV_v (As := [.int (-1), .int 0]) (rest := []) ⟨hx, hb, hml, hown, hts⟩ (kX6_notes l X h a (-1) 0 hO hc1) (wX6_notes hts q4_154 ⟨Nat.le_of_ble_eq_true rfl, Nat.le_of_ble_eq_true rfl⟩) hK hW hS (va_recv hK.1 (hW.one hO.1) (ci := 6) (q0 := 0) rfl rfl) rfl hl.1 rfl (Nat.le_of_ble_eq_true rfl) dX6_skips_3 ⟨Nat.zero_le _, Nat.zero_le _⟩ (fun H locs hW hS => ?_)
  refine lv_aload_n hx hb dX6_skips_6 rfl (lv_at hl 0 rfl) ?_
  refine g6_0 hx hb hts hown hK hW hO.1 (hts _ q4_49) dX6_skips_7 ?_
  refine lv_aload_n hx hb dX6_skips_10 rfl (lv_at hl 0 rfl) ?_
  refine g6_0 hx hb hts hown hK hW hO.1 (hts _ q4_49) dX6_skips_11 ?_
  refine lv_iconst (v := 3) hx hb dX6_skips_14 (by decide) ?_
  exact xX6_skips_c15 hO C0 3 (fX6_notes a (-1) 0 h) _ _ _ _ (lv_sub hl [0] rfl) hW hS hs hres
def fX6_skips (a : Nat) (h : HH) : HH := fX6_skips_c0 a h
def sX6_skips (a : Nat) (h : HH) : Prop := sX6_skips_c0 a h
set_option maxRecDepth 100000 in
set_option maxHeartbeats 4000000 in
theorem kX6_skips (l : Launch) (X : Cx) (h : HH) (a : Nat) (hO : IsMo X a) (hs : sX6_skips a h) : Met l yX6_skips vX6_skips rmX6_skips (va_Pc [.ref a] (fun U => WS X h U)) (QV X (fX6_skips a h)) 0 0 (xA X) := by
  refine Met.ofW (cc := cX6_skips) (maxL := 1) (ret := none) (by decide) rfl ?_
  intro p e s m args below meth c s₁ B hml hv
  obtain ⟨rfl, hW, hK⟩ := hv
  have hl := lv_entry ([.ref a]) (n := 1) (Nat.le_of_ble_eq_true rfl)
  rw [lg_entry_eq]
  generalize (lg_sl ([.ref a]) ++ List.replicate (1 - (lg_sl ([.ref a])).length) Slot.unset).toArray = ls at hl ⊢
  have hl : lv_has ls 1 [(0, .ref a)] := hl
  exact xX6_skips_c0 hO ⟨B.exec, B.bytes, B.returns, B.notSynchronized, hml, findClass_of_methodNamed B.named, fun w hw => atoms_spec (ws := vX6_skips) B.pre w (List.mem_cons_of_mem _ hw), hK⟩ h _ _ ls _ (lv_sub hl [0] rfl) hW va_S.rf hs rfl
-- VillageBoardModel.newGame(II)I
abbrev rmX6_newGame : Room := ({ frames := 5, cells := 0, slots := 0, locals := 109 } : Room)
abbrev vX6_newGame : List Cond := Cond.code yX6_newGame cX6_newGame 4 (some .int) :: lwG
theorem wX6_newGame {R : Room} {s : State} {args : Array Value} {own : String} {idx : Nat} (hg : ∀ w ∈ lwG, w.before args s = true) (hl : Cond.methodLink own idx yX6_newGame ∈ lwG) (hR : rmX6_newGame.frames + 1 ≤ R.frames ∧ 8 + (4 + 11) + rmX6_newGame.locals ≤ R.locals) : CallW R s args own RX6 idx yX6_newGame cX6_newGame 4 (some .int) vX6_newGame rmX6_newGame 0 0 2 := cwV 2 hg (gV hl q4_93 q4_94 q1_7 q4_95) rfl rfl rfl (by decide +kernel) hR
def fX6_newGame_c42 (a : Nat) (x1 : Int32) (x2 : Int32) (xs0 : Int32) (h : HH) : Int32 × HH := ((h (a + 1) xs0.toNatClampNeg) - 1, fX6_begins a x1 x2 h)
def sX6_newGame_c42 (a : Nat) (x1 : Int32) (x2 : Int32) (xs0 : Int32) (h : HH) : Prop := (vp_in xs0 206) ∧ (sX6_begins a x1 x2 h)
set_option maxRecDepth 100000 in
set_option maxHeartbeats 4000000 in
theorem xX6_newGame_c42 {p : Program} {l : Launch} {e : Env} {s : State} {m : MethodId} {args : Array Value} {below : List Frame} {meth : Method} {c : Code} {X : Cx} {a : Nat} (hO : IsMo X a) (C0 : CT p s m args meth c X cX6_newGame 4 (some .int) RX6) (x1 : Int32) (x2 : Int32) (xs0 : Int32) (h : HH) (H : Heap) (locs : List Loc) (ls : Array Slot) (res : Int32 × HH) (hl : lv_has ls 4 [(0, .ref a), (1, .int x1), (2, .int x2)]) (hW : WH X h H) (hS : va_S (xA X) s.heap H locs) (hs : sX6_newGame_c42 a x1 x2 xs0 h) (hres : fX6_newGame_c42 a x1 x2 xs0 h = res) : W p l e rmX6_newGame s m args below meth c H locs 0 0 (MQ below (QI X res.1 res.2) args s 0 0 (xA X)) (F0 m 42 ls [.int xs0, .ref (a + 1)]) := by
  obtain ⟨hx, hb, hr, hlk, hml, hown, hts, hK⟩ := id C0
  obtain ⟨hi4, hs⟩ := hs
  refine kb_iald hx hb hK hW hO.2.1 (k := xs0.toNatClampNeg) rfl hi4 dX6_newGame_42 ?_
  refine lv_iconst (v := 1) hx hb dX6_newGame_43 (by decide) ?_
  refine lv_isub hx hb dX6_newGame_44 ?_
  refine lv_istore_n (lv' := [(3, .int ((h (a + 1) xs0.toNatClampNeg) - 1)), (0, .ref a), (1, .int x1), (2, .int x2)]) hx hb dX6_newGame_45 rfl hl (by decide) rfl (fun ls hl => ?_)
  refine lv_aload_n hx hb dX6_newGame_46 rfl (lv_at hl 1 rfl) ?_
  refine lv_iload_n hx hb dX6_newGame_47 rfl (lv_at hl 2 rfl) ?_
  refine lv_iload_n hx hb dX6_newGame_48 rfl (lv_at hl 3 rfl) ?_
  have hc5 := hs
  refine kV_v (As := [.int x1, .int x2]) (rest := []) ⟨hx, hb, hml, hown, hts⟩ (kX6_begins l X h a x1 x2 hO hc5) (wX6_begins hts q4_23 ⟨Nat.le_of_ble_eq_true rfl, Nat.le_of_ble_eq_true rfl⟩) hK hW hS (va_recv hK.1 (hW.one hO.1) (ci := 6) (q0 := 0) rfl rfl) rfl hl.1 rfl (Nat.le_of_ble_eq_true rfl) dX6_newGame_49 ⟨Nat.zero_le _, Nat.zero_le _⟩ (fun H locs hW hS => ?_)
  refine lv_iload_n hx hb dX6_newGame_52 rfl (lv_at hl 0 rfl) ?_
  subst hres
  exact kr_i hx hb hr hlk hK hW hS dX6_newGame_53
def fX6_newGame_c28 (a : Nat) (x1 : Int32) (x2 : Int32) (xs0 : Int32) (h : HH) : Int32 × HH := if xs0 = 0 then (fX6_newGame_c42 a x1 x2 2 (fX6_saves a h)) else ((0, h))
def sX6_newGame_c28 (a : Nat) (x1 : Int32) (x2 : Int32) (xs0 : Int32) (h : HH) : Prop := (xs0 = 0 → ((sX6_saves a h) ∧ (sX6_newGame_c42 a x1 x2 2 (fX6_saves a h)))) ∧ (¬ (xs0 = 0) → True)
set_option maxRecDepth 100000 in
set_option maxHeartbeats 4000000 in
theorem xX6_newGame_c28 {p : Program} {l : Launch} {e : Env} {s : State} {m : MethodId} {args : Array Value} {below : List Frame} {meth : Method} {c : Code} {X : Cx} {a : Nat} (hO : IsMo X a) (C0 : CT p s m args meth c X cX6_newGame 4 (some .int) RX6) (x1 : Int32) (x2 : Int32) (xs0 : Int32) (h : HH) (H : Heap) (locs : List Loc) (ls : Array Slot) (res : Int32 × HH) (hl : lv_has ls 4 [(0, .ref a), (1, .int x1), (2, .int x2)]) (hW : WH X h H) (hS : va_S (xA X) s.heap H locs) (hs : sX6_newGame_c28 a x1 x2 xs0 h) (hres : fX6_newGame_c28 a x1 x2 xs0 h = res) : W p l e rmX6_newGame s m args below meth c H locs 0 0 (MQ below (QI X res.1 res.2) args s 0 0 (xA X)) (F0 m 28 ls [.int xs0]) := by
  obtain ⟨hx, hb, hr, hlk, hml, hown, hts, hK⟩ := id C0
  refine lv_if_eq (tgt := 33) hx hb dX6_newGame_28 (by decide) (fun c2 => ?_) (fun c2 => ?_)
  · have hres := (if_pos c2).symm.trans hres
    have hs := And.left hs c2
    refine lv_aload_n hx hb dX6_newGame_33 rfl (lv_at hl 0 rfl) ?_
    obtain ⟨hc3, hs⟩ := hs
    refine kV_v (As := []) (rest := []) ⟨hx, hb, hml, hown, hts⟩ (kX6_saves l X h a hO hc3) (wX6_saves hts q4_99 ⟨Nat.le_of_ble_eq_true rfl, Nat.le_of_ble_eq_true rfl⟩) hK hW hS (va_recv hK.1 (hW.one hO.1) (ci := 6) (q0 := 0) rfl rfl) rfl hl.1 rfl (Nat.le_of_ble_eq_true rfl) dX6_newGame_34 ⟨Nat.zero_le _, Nat.zero_le _⟩ (fun H locs hW hS => ?_)
    refine lv_aload_n hx hb dX6_newGame_37 rfl (lv_at hl 0 rfl) ?_
    refine g6_0 hx hb hts hown hK hW hO.1 (hts _ q4_49) dX6_newGame_38 ?_
    refine lv_iconst (v := 2) hx hb dX6_newGame_41 (by decide) ?_
    exact xX6_newGame_c42 hO C0 x1 x2 2 (fX6_saves a h) _ _ _ _ (lv_sub hl [0, 1, 2] rfl) hW hS hs hres
  · have hres := (if_neg c2).symm.trans hres
    have hs := And.right hs c2
    refine lv_iconst (v := 0) hx hb dX6_newGame_31 (by decide) ?_
    subst hres
    exact kr_i hx hb hr hlk hK hW hS dX6_newGame_32
def fX6_newGame_c25 (a : Nat) (x1 : Int32) (x2 : Int32) (xs0 : Int32) (h : HH) : Int32 × HH := fX6_newGame_c28 a x1 x2 (bI (fX6_refused a xs0 h).1) ((fX6_refused a xs0 h).2)
def sX6_newGame_c25 (a : Nat) (x1 : Int32) (x2 : Int32) (xs0 : Int32) (h : HH) : Prop := sX6_newGame_c28 a x1 x2 (bI (fX6_refused a xs0 h).1) ((fX6_refused a xs0 h).2)
set_option maxRecDepth 100000 in
set_option maxHeartbeats 4000000 in
theorem xX6_newGame_c25 {p : Program} {l : Launch} {e : Env} {s : State} {m : MethodId} {args : Array Value} {below : List Frame} {meth : Method} {c : Code} {X : Cx} {a : Nat} (hO : IsMo X a) (C0 : CT p s m args meth c X cX6_newGame 4 (some .int) RX6) (x1 : Int32) (x2 : Int32) (xs0 : Int32) (h : HH) (H : Heap) (locs : List Loc) (ls : Array Slot) (res : Int32 × HH) (hl : lv_has ls 4 [(0, .ref a), (1, .int x1), (2, .int x2)]) (hW : WH X h H) (hS : va_S (xA X) s.heap H locs) (hs : sX6_newGame_c25 a x1 x2 xs0 h) (hres : fX6_newGame_c25 a x1 x2 xs0 h = res) : W p l e rmX6_newGame s m args below meth c H locs 0 0 (MQ below (QI X res.1 res.2) args s 0 0 (xA X)) (F0 m 25 ls [.int xs0, .ref a]) := by
  obtain ⟨hx, hb, hr, hlk, hml, hown, hts, hK⟩ := id C0
  refine kV_i (As := [.int xs0]) (rest := []) ⟨hx, hb, hml, hown, hts⟩ (kX6_refused l X h a xs0 hO) (wX6_refused hts q4_88 ⟨Nat.le_of_ble_eq_true rfl, Nat.le_of_ble_eq_true rfl⟩) hK hW hS (va_recv hK.1 (hW.one hO.1) (ci := 6) (q0 := 0) rfl rfl) rfl hl.1 rfl (Nat.le_of_ble_eq_true rfl) dX6_newGame_25 ⟨Nat.zero_le _, Nat.zero_le _⟩ (fun H locs hW hS => ?_)
  exact xX6_newGame_c28 hO C0 x1 x2 (bI (fX6_refused a xs0 h).1) ((fX6_refused a xs0 h).2) _ _ _ _ (lv_sub hl [0, 1, 2] rfl) hW hS hs hres
def fX6_newGame_c24 (a : Nat) (x1 : Int32) (x2 : Int32) (h : HH) : Int32 × HH := fX6_newGame_c25 a x1 x2 1 h
def sX6_newGame_c24 (a : Nat) (x1 : Int32) (x2 : Int32) (h : HH) : Prop := sX6_newGame_c25 a x1 x2 1 h
set_option maxRecDepth 100000 in
set_option maxHeartbeats 4000000 in
theorem xX6_newGame_c24 {p : Program} {l : Launch} {e : Env} {s : State} {m : MethodId} {args : Array Value} {below : List Frame} {meth : Method} {c : Code} {X : Cx} {a : Nat} (hO : IsMo X a) (C0 : CT p s m args meth c X cX6_newGame 4 (some .int) RX6) (x1 : Int32) (x2 : Int32) (h : HH) (H : Heap) (locs : List Loc) (ls : Array Slot) (res : Int32 × HH) (hl : lv_has ls 4 [(0, .ref a), (1, .int x1), (2, .int x2)]) (hW : WH X h H) (hS : va_S (xA X) s.heap H locs) (hs : sX6_newGame_c24 a x1 x2 h) (hres : fX6_newGame_c24 a x1 x2 h = res) : W p l e rmX6_newGame s m args below meth c H locs 0 0 (MQ below (QI X res.1 res.2) args s 0 0 (xA X)) (F0 m 24 ls [.ref a]) := by
  obtain ⟨hx, hb, hr, hlk, hml, hown, hts, hK⟩ := id C0
  refine lv_iconst (v := 1) hx hb dX6_newGame_24 (by decide) ?_
  exact xX6_newGame_c25 hO C0 x1 x2 1 h _ _ _ _ (lv_sub hl [0, 1, 2] rfl) hW hS hs hres
def fX6_newGame_c0 (a : Nat) (x1 : Int32) (x2 : Int32) (h : HH) : Int32 × HH := if (bI (fX6_within x1 2 4)) = 0 then (fX6_newGame_c24 a x1 x2 h) else (if (bI (fX6_within x2 1 12)) = 0 then (fX6_newGame_c24 a x1 x2 h) else (fX6_newGame_c25 a x1 x2 0 h))
def sX6_newGame_c0 (a : Nat) (x1 : Int32) (x2 : Int32) (h : HH) : Prop := ((bI (fX6_within x1 2 4)) = 0 → (sX6_newGame_c24 a x1 x2 h)) ∧ (¬ ((bI (fX6_within x1 2 4)) = 0) → (((bI (fX6_within x2 1 12)) = 0 → (sX6_newGame_c24 a x1 x2 h)) ∧ (¬ ((bI (fX6_within x2 1 12)) = 0) → (sX6_newGame_c25 a x1 x2 0 h))))
set_option maxRecDepth 100000 in
set_option maxHeartbeats 4000000 in
theorem xX6_newGame_c0 {p : Program} {l : Launch} {e : Env} {s : State} {m : MethodId} {args : Array Value} {below : List Frame} {meth : Method} {c : Code} {X : Cx} {a : Nat} (hO : IsMo X a) (C0 : CT p s m args meth c X cX6_newGame 4 (some .int) RX6) (x1 : Int32) (x2 : Int32) (h : HH) (H : Heap) (locs : List Loc) (ls : Array Slot) (res : Int32 × HH) (hl : lv_has ls 4 [(0, .ref a), (1, .int x1), (2, .int x2)]) (hW : WH X h H) (hS : va_S (xA X) s.heap H locs) (hs : sX6_newGame_c0 a x1 x2 h) (hres : fX6_newGame_c0 a x1 x2 h = res) : W p l e rmX6_newGame s m args below meth c H locs 0 0 (MQ below (QI X res.1 res.2) args s 0 0 (xA X)) (F0 m 0 ls []) := by
  obtain ⟨hx, hb, hr, hlk, hml, hown, hts, hK⟩ := id C0
  refine lv_aload_n hx hb dX6_newGame_0 rfl (lv_at hl 0 rfl) ?_
  refine lv_iload_n hx hb dX6_newGame_1 rfl (lv_at hl 1 rfl) ?_
  refine lv_iconst (v := 2) hx hb dX6_newGame_2 (by decide) ?_
  refine lv_iconst (v := 4) hx hb dX6_newGame_3 (by decide) ?_
  refine kS_i (As := [.int x1, .int 2, .int 4]) (rest := [.ref a]) ⟨hx, hb, hml, hown, hts⟩ (kX6_within l X h x1 2 4) (wX6_within hts q4_96 ⟨Nat.le_of_ble_eq_true rfl, Nat.le_of_ble_eq_true rfl⟩) hK hW hS rfl hl.1 rfl (Nat.le_of_ble_eq_true rfl) dX6_newGame_4 ⟨Nat.zero_le _, Nat.zero_le _⟩ (fun H locs hW hS => ?_)
  refine lv_if_eq (tgt := 24) hx hb dX6_newGame_7 (by decide) (fun c1 => ?_) (fun c1 => ?_)
  · have hres := (if_pos c1).symm.trans hres
    have hs := And.left hs c1
    exact xX6_newGame_c24 hO C0 x1 x2 h _ _ _ _ (lv_sub hl [0, 1, 2] rfl) hW hS hs hres
  · have hres := (if_neg c1).symm.trans hres
    have hs := And.right hs c1
    refine lv_iload_n hx hb dX6_newGame_10 rfl (lv_at hl 2 rfl) ?_
    refine lv_iconst (v := 1) hx hb dX6_newGame_11 (by decide) ?_
    refine lv_bipush (v := 12) hx hb dX6_newGame_12 (by decide) ?_
    refine kS_i (As := [.int x2, .int 1, .int 12]) (rest := [.ref a]) ⟨hx, hb, hml, hown, hts⟩ (kX6_within l X h x2 1 12) (wX6_within hts q4_96 ⟨Nat.le_of_ble_eq_true rfl, Nat.le_of_ble_eq_true rfl⟩) hK hW hS rfl hl.1 rfl (Nat.le_of_ble_eq_true rfl) dX6_newGame_14 ⟨Nat.zero_le _, Nat.zero_le _⟩ (fun H locs hW hS => ?_)
    refine lv_if_eq (tgt := 24) hx hb dX6_newGame_17 (by decide) (fun c6 => ?_) (fun c6 => ?_)
    · have hres := (if_pos c6).symm.trans hres
      have hs := And.left hs c6
      exact xX6_newGame_c24 hO C0 x1 x2 h _ _ _ _ (lv_sub hl [0, 1, 2] rfl) hW hS hs hres
    · have hres := (if_neg c6).symm.trans hres
      have hs := And.right hs c6
      refine lv_iconst (v := 0) hx hb dX6_newGame_20 (by decide) ?_
      refine lv_goto (tgt := 25) hx hb dX6_newGame_21 (by decide) ?_
      exact xX6_newGame_c25 hO C0 x1 x2 0 h _ _ _ _ (lv_sub hl [0, 1, 2] rfl) hW hS hs hres
def fX6_newGame (a : Nat) (x1 : Int32) (x2 : Int32) (h : HH) : Int32 × HH := fX6_newGame_c0 a x1 x2 h
def sX6_newGame (a : Nat) (x1 : Int32) (x2 : Int32) (h : HH) : Prop := sX6_newGame_c0 a x1 x2 h
set_option maxRecDepth 100000 in
set_option maxHeartbeats 4000000 in
theorem kX6_newGame (l : Launch) (X : Cx) (h : HH) (a : Nat) (x1 : Int32) (x2 : Int32) (hO : IsMo X a) (hs : sX6_newGame a x1 x2 h) : Met l yX6_newGame vX6_newGame rmX6_newGame (va_Pc [.ref a, .int x1, .int x2] (fun U => WS X h U)) (QI X (fX6_newGame a x1 x2 h).1 (fX6_newGame a x1 x2 h).2) 0 0 (xA X) := by
  refine Met.ofW (cc := cX6_newGame) (maxL := 4) (ret := some .int) (by decide) rfl ?_
  intro p e s m args below meth c s₁ B hml hv
  obtain ⟨rfl, hW, hK⟩ := hv
  have hl := lv_entry ([.ref a, .int x1, .int x2]) (n := 4) (Nat.le_of_ble_eq_true rfl)
  rw [lg_entry_eq]
  generalize (lg_sl ([.ref a, .int x1, .int x2]) ++ List.replicate (4 - (lg_sl ([.ref a, .int x1, .int x2])).length) Slot.unset).toArray = ls at hl ⊢
  have hl : lv_has ls 4 [(0, .ref a), (1, .int x1), (2, .int x2)] := hl
  exact xX6_newGame_c0 hO ⟨B.exec, B.bytes, B.returns, B.notSynchronized, hml, findClass_of_methodNamed B.named, fun w hw => atoms_spec (ws := vX6_newGame) B.pre w (List.mem_cons_of_mem _ hw), hK⟩ x1 x2 h _ _ ls _ (lv_sub hl [0, 1, 2] rfl) hW va_S.rf hs rfl
-- VillageBoardModel.isSpace(I)Z
abbrev rmX6_isSpace : Room := ({ frames := 1, cells := 0, slots := 0, locals := 22 } : Room)
abbrev vX6_isSpace : List Cond := Cond.code yX6_isSpace cX6_isSpace 1 (some .boolean) :: lwG
theorem wX6_isSpace {R : Room} {s : State} {args : Array Value} {idx : Nat} (hg : ∀ w ∈ lwG, w.before args s = true) (hl : Cond.methodLink RX6 idx yX6_isSpace ∈ lwG) (hR : rmX6_isSpace.frames + 1 ≤ R.frames ∧ 8 + (1 + 11) + rmX6_isSpace.locals ≤ R.locals) : CallB R s args RX6 idx yX6_isSpace cX6_isSpace 1 (some .boolean) vX6_isSpace rmX6_isSpace 0 0 1 ∧ (Cond.static yX6_isSpace).before args s = true := cwS 1 hg (gS hl q4_108 q1_7 q4_109) rfl rfl rfl (by decide +kernel) hR
def fX6_isSpace_c0 (x0 : Int32) : Bool := fX6_within x0 0 11
set_option maxRecDepth 100000 in
set_option maxHeartbeats 4000000 in
theorem xX6_isSpace_c0 {p : Program} {l : Launch} {e : Env} {s : State} {m : MethodId} {args : Array Value} {below : List Frame} {meth : Method} {c : Code} {X : Cx} (C0 : CT p s m args meth c X cX6_isSpace 1 (some .boolean) RX6) (x0 : Int32) (h : HH) (H : Heap) (locs : List Loc) (ls : Array Slot) (res : Bool) (hl : lv_has ls 1 [(0, .int x0)]) (hW : WH X h H) (hS : va_S (xA X) s.heap H locs) (hres : fX6_isSpace_c0 x0 = res) : W p l e rmX6_isSpace s m args below meth c H locs 0 0 (MQ below (QI X (bI res) h) args s 0 0 (xA X)) (F0 m 0 ls []) := by
  obtain ⟨hx, hb, hr, hlk, hml, hown, hts, hK⟩ := id C0
  refine lv_iload_n hx hb dX6_isSpace_0 rfl (lv_at hl 0 rfl) ?_
  refine lv_iconst (v := 0) hx hb dX6_isSpace_1 (by decide) ?_
  refine lv_bipush (v := 11) hx hb dX6_isSpace_2 (by decide) ?_
  refine kS_i (As := [.int x0, .int 0, .int 11]) (rest := []) ⟨hx, hb, hml, hown, hts⟩ (kX6_within l X h x0 0 11) (wX6_within hts q4_96 ⟨Nat.le_of_ble_eq_true rfl, Nat.le_of_ble_eq_true rfl⟩) hK hW hS rfl hl.1 rfl (Nat.le_of_ble_eq_true rfl) dX6_isSpace_4 ⟨Nat.zero_le _, Nat.zero_le _⟩ (fun H locs hW hS => ?_)
  subst hres
  exact kr_z (v := fX6_within x0 0 11) hx hb hr hlk hK hW hS dX6_isSpace_7
def fX6_isSpace (x0 : Int32) : Bool := fX6_isSpace_c0 x0
set_option maxRecDepth 100000 in
set_option maxHeartbeats 4000000 in
theorem kX6_isSpace (l : Launch) (X : Cx) (h : HH) (x0 : Int32) : Met l yX6_isSpace vX6_isSpace rmX6_isSpace (va_Pc [.int x0] (fun U => WS X h U)) (QI X (bI (fX6_isSpace x0)) h) 0 0 (xA X) := by
  refine Met.ofW (cc := cX6_isSpace) (maxL := 1) (ret := some .boolean) (by decide) rfl ?_
  intro p e s m args below meth c s₁ B hml hv
  obtain ⟨rfl, hW, hK⟩ := hv
  have hl := lv_entry ([.int x0]) (n := 1) (Nat.le_of_ble_eq_true rfl)
  rw [lg_entry_eq]
  generalize (lg_sl ([.int x0]) ++ List.replicate (1 - (lg_sl ([.int x0])).length) Slot.unset).toArray = ls at hl ⊢
  have hl : lv_has ls 1 [(0, .int x0)] := hl
  exact xX6_isSpace_c0 ⟨B.exec, B.bytes, B.returns, B.notSynchronized, hml, findClass_of_methodNamed B.named, fun w hw => atoms_spec (ws := vX6_isSpace) B.pre w (List.mem_cons_of_mem _ hw), hK⟩ x0 h _ _ ls _ (lv_sub hl [0] rfl) hW va_S.rf rfl
-- VillageBoardModel.reason(II)I
abbrev rmX6_reason : Room := ({ frames := 7, cells := 0, slots := 0, locals := 157 } : Room)
abbrev vX6_reason : List Cond := Cond.code yX6_reason cX6_reason 3 (some .int) :: lwG
theorem wX6_reason {R : Room} {s : State} {args : Array Value} {own : String} {idx : Nat} (hg : ∀ w ∈ lwG, w.before args s = true) (hl : Cond.methodLink own idx yX6_reason ∈ lwG) (hR : rmX6_reason.frames + 1 ≤ R.frames ∧ 8 + (3 + 11) + rmX6_reason.locals ≤ R.locals) : CallW R s args own RX6 idx yX6_reason cX6_reason 3 (some .int) vX6_reason rmX6_reason 0 0 2 := cwV 2 hg (gV hl q4_104 q4_105 q1_7 q4_106) rfl rfl rfl (by decide +kernel) hR
def fX6_reason_c16 (a : Nat) (x1 : Int32) (x2 : Int32) (xs0 : Int32) (h : HH) : Int32 × HH := if xs0 = 0 then ((fX6_why a x1 x2 h, h)) else ((0, h))
def sX6_reason_c16 (a : Nat) (x1 : Int32) (x2 : Int32) (xs0 : Int32) (h : HH) : Prop := (xs0 = 0 → (sX6_why a x1 x2 h)) ∧ (¬ (xs0 = 0) → True)
set_option maxRecDepth 100000 in
set_option maxHeartbeats 4000000 in
theorem xX6_reason_c16 {p : Program} {l : Launch} {e : Env} {s : State} {m : MethodId} {args : Array Value} {below : List Frame} {meth : Method} {c : Code} {X : Cx} {a : Nat} (hO : IsMo X a) (C0 : CT p s m args meth c X cX6_reason 3 (some .int) RX6) (x1 : Int32) (x2 : Int32) (xs0 : Int32) (h : HH) (H : Heap) (locs : List Loc) (ls : Array Slot) (res : Int32 × HH) (hl : lv_has ls 3 [(0, .ref a), (1, .int x1), (2, .int x2)]) (hW : WH X h H) (hS : va_S (xA X) s.heap H locs) (hs : sX6_reason_c16 a x1 x2 xs0 h) (hres : fX6_reason_c16 a x1 x2 xs0 h = res) : W p l e rmX6_reason s m args below meth c H locs 0 0 (MQ below (QI X res.1 res.2) args s 0 0 (xA X)) (F0 m 16 ls [.int xs0]) := by
  obtain ⟨hx, hb, hr, hlk, hml, hown, hts, hK⟩ := id C0
  refine lv_if_eq (tgt := 23) hx hb dX6_reason_16 (by decide) (fun c2 => ?_) (fun c2 => ?_)
  · have hres := (if_pos c2).symm.trans hres
    have hs := And.left hs c2
    refine lv_aload_n hx hb dX6_reason_23 rfl (lv_at hl 0 rfl) ?_
    refine lv_iload_n hx hb dX6_reason_24 rfl (lv_at hl 1 rfl) ?_
    refine lv_iload_n hx hb dX6_reason_25 rfl (lv_at hl 2 rfl) ?_
    have hc3 := hs
    refine kV_i (As := [.int x1, .int x2]) (rest := []) ⟨hx, hb, hml, hown, hts⟩ (kX6_why l X h a x1 x2 hO hc3) (wX6_why hts q4_110 ⟨Nat.le_of_ble_eq_true rfl, Nat.le_of_ble_eq_true rfl⟩) hK hW hS (va_recv hK.1 (hW.one hO.1) (ci := 6) (q0 := 0) rfl rfl) rfl hl.1 rfl (Nat.le_of_ble_eq_true rfl) dX6_reason_26 ⟨Nat.zero_le _, Nat.zero_le _⟩ (fun H locs hW hS => ?_)
    subst hres
    exact kr_i hx hb hr hlk hK hW hS dX6_reason_29
  · have hres := (if_neg c2).symm.trans hres
    have hs := And.right hs c2
    refine lv_iconst (v := 0) hx hb dX6_reason_19 (by decide) ?_
    refine lv_goto (tgt := 29) hx hb dX6_reason_20 (by decide) ?_
    subst hres
    exact kr_i hx hb hr hlk hK hW hS dX6_reason_29
def fX6_reason_c13 (a : Nat) (x1 : Int32) (x2 : Int32) (xs0 : Int32) (h : HH) : Int32 × HH := fX6_reason_c16 a x1 x2 (bI (fX6_refused a xs0 h).1) ((fX6_refused a xs0 h).2)
def sX6_reason_c13 (a : Nat) (x1 : Int32) (x2 : Int32) (xs0 : Int32) (h : HH) : Prop := sX6_reason_c16 a x1 x2 (bI (fX6_refused a xs0 h).1) ((fX6_refused a xs0 h).2)
set_option maxRecDepth 100000 in
set_option maxHeartbeats 4000000 in
theorem xX6_reason_c13 {p : Program} {l : Launch} {e : Env} {s : State} {m : MethodId} {args : Array Value} {below : List Frame} {meth : Method} {c : Code} {X : Cx} {a : Nat} (hO : IsMo X a) (C0 : CT p s m args meth c X cX6_reason 3 (some .int) RX6) (x1 : Int32) (x2 : Int32) (xs0 : Int32) (h : HH) (H : Heap) (locs : List Loc) (ls : Array Slot) (res : Int32 × HH) (hl : lv_has ls 3 [(0, .ref a), (1, .int x1), (2, .int x2)]) (hW : WH X h H) (hS : va_S (xA X) s.heap H locs) (hs : sX6_reason_c13 a x1 x2 xs0 h) (hres : fX6_reason_c13 a x1 x2 xs0 h = res) : W p l e rmX6_reason s m args below meth c H locs 0 0 (MQ below (QI X res.1 res.2) args s 0 0 (xA X)) (F0 m 13 ls [.int xs0, .ref a]) := by
  obtain ⟨hx, hb, hr, hlk, hml, hown, hts, hK⟩ := id C0
  refine kV_i (As := [.int xs0]) (rest := []) ⟨hx, hb, hml, hown, hts⟩ (kX6_refused l X h a xs0 hO) (wX6_refused hts q4_88 ⟨Nat.le_of_ble_eq_true rfl, Nat.le_of_ble_eq_true rfl⟩) hK hW hS (va_recv hK.1 (hW.one hO.1) (ci := 6) (q0 := 0) rfl rfl) rfl hl.1 rfl (Nat.le_of_ble_eq_true rfl) dX6_reason_13 ⟨Nat.zero_le _, Nat.zero_le _⟩ (fun H locs hW hS => ?_)
  exact xX6_reason_c16 hO C0 x1 x2 (bI (fX6_refused a xs0 h).1) ((fX6_refused a xs0 h).2) _ _ _ _ (lv_sub hl [0, 1, 2] rfl) hW hS hs hres
def fX6_reason_c0 (a : Nat) (x1 : Int32) (x2 : Int32) (h : HH) : Int32 × HH := if (bI (fX6_isSpace x1)) = 0 then (fX6_reason_c13 a x1 x2 1 h) else (fX6_reason_c13 a x1 x2 0 h)
def sX6_reason_c0 (a : Nat) (x1 : Int32) (x2 : Int32) (h : HH) : Prop := ((bI (fX6_isSpace x1)) = 0 → (sX6_reason_c13 a x1 x2 1 h)) ∧ (¬ ((bI (fX6_isSpace x1)) = 0) → (sX6_reason_c13 a x1 x2 0 h))
set_option maxRecDepth 100000 in
set_option maxHeartbeats 4000000 in
theorem xX6_reason_c0 {p : Program} {l : Launch} {e : Env} {s : State} {m : MethodId} {args : Array Value} {below : List Frame} {meth : Method} {c : Code} {X : Cx} {a : Nat} (hO : IsMo X a) (C0 : CT p s m args meth c X cX6_reason 3 (some .int) RX6) (x1 : Int32) (x2 : Int32) (h : HH) (H : Heap) (locs : List Loc) (ls : Array Slot) (res : Int32 × HH) (hl : lv_has ls 3 [(0, .ref a), (1, .int x1), (2, .int x2)]) (hW : WH X h H) (hS : va_S (xA X) s.heap H locs) (hs : sX6_reason_c0 a x1 x2 h) (hres : fX6_reason_c0 a x1 x2 h = res) : W p l e rmX6_reason s m args below meth c H locs 0 0 (MQ below (QI X res.1 res.2) args s 0 0 (xA X)) (F0 m 0 ls []) := by
  obtain ⟨hx, hb, hr, hlk, hml, hown, hts, hK⟩ := id C0
  refine lv_aload_n hx hb dX6_reason_0 rfl (lv_at hl 0 rfl) ?_
  refine lv_iload_n hx hb dX6_reason_1 rfl (lv_at hl 1 rfl) ?_
  refine kS_i (As := [.int x1]) (rest := [.ref a]) ⟨hx, hb, hml, hown, hts⟩ (kX6_isSpace l X h x1) (wX6_isSpace hts q4_107 ⟨Nat.le_of_ble_eq_true rfl, Nat.le_of_ble_eq_true rfl⟩) hK hW hS rfl hl.1 rfl (Nat.le_of_ble_eq_true rfl) dX6_reason_2 ⟨Nat.zero_le _, Nat.zero_le _⟩ (fun H locs hW hS => ?_)
  refine lv_if_eq (tgt := 12) hx hb dX6_reason_5 (by decide) (fun c1 => ?_) (fun c1 => ?_)
  · have hres := (if_pos c1).symm.trans hres
    have hs := And.left hs c1
    refine lv_iconst (v := 1) hx hb dX6_reason_12 (by decide) ?_
    exact xX6_reason_c13 hO C0 x1 x2 1 h _ _ _ _ (lv_sub hl [0, 1, 2] rfl) hW hS hs hres
  · have hres := (if_neg c1).symm.trans hres
    have hs := And.right hs c1
    refine lv_iconst (v := 0) hx hb dX6_reason_8 (by decide) ?_
    refine lv_goto (tgt := 13) hx hb dX6_reason_9 (by decide) ?_
    exact xX6_reason_c13 hO C0 x1 x2 0 h _ _ _ _ (lv_sub hl [0, 1, 2] rfl) hW hS hs hres
def fX6_reason (a : Nat) (x1 : Int32) (x2 : Int32) (h : HH) : Int32 × HH := fX6_reason_c0 a x1 x2 h
def sX6_reason (a : Nat) (x1 : Int32) (x2 : Int32) (h : HH) : Prop := sX6_reason_c0 a x1 x2 h
set_option maxRecDepth 100000 in
set_option maxHeartbeats 4000000 in
theorem kX6_reason (l : Launch) (X : Cx) (h : HH) (a : Nat) (x1 : Int32) (x2 : Int32) (hO : IsMo X a) (hs : sX6_reason a x1 x2 h) : Met l yX6_reason vX6_reason rmX6_reason (va_Pc [.ref a, .int x1, .int x2] (fun U => WS X h U)) (QI X (fX6_reason a x1 x2 h).1 (fX6_reason a x1 x2 h).2) 0 0 (xA X) := by
  refine Met.ofW (cc := cX6_reason) (maxL := 3) (ret := some .int) (by decide) rfl ?_
  intro p e s m args below meth c s₁ B hml hv
  obtain ⟨rfl, hW, hK⟩ := hv
  have hl := lv_entry ([.ref a, .int x1, .int x2]) (n := 3) (Nat.le_of_ble_eq_true rfl)
  rw [lg_entry_eq]
  generalize (lg_sl ([.ref a, .int x1, .int x2]) ++ List.replicate (3 - (lg_sl ([.ref a, .int x1, .int x2])).length) Slot.unset).toArray = ls at hl ⊢
  have hl : lv_has ls 3 [(0, .ref a), (1, .int x1), (2, .int x2)] := hl
  exact xX6_reason_c0 hO ⟨B.exec, B.bytes, B.returns, B.notSynchronized, hml, findClass_of_methodNamed B.named, fun w hw => atoms_spec (ws := vX6_reason) B.pre w (List.mem_cons_of_mem _ hw), hK⟩ x1 x2 h _ _ ls _ (lv_sub hl [0, 1, 2] rfl) hW va_S.rf hs rfl
-- VillageBoardModel.place(II)I
abbrev rmX6_place : Room := ({ frames := 9, cells := 0, slots := 0, locals := 205 } : Room)
abbrev vX6_place : List Cond := Cond.code yX6_place cX6_place 3 (some .int) :: lwG
theorem wX6_place {R : Room} {s : State} {args : Array Value} {own : String} {idx : Nat} (hg : ∀ w ∈ lwG, w.before args s = true) (hl : Cond.methodLink own idx yX6_place ∈ lwG) (hR : rmX6_place.frames + 1 ≤ R.frames ∧ 8 + (3 + 11) + rmX6_place.locals ≤ R.locals) : CallW R s args own RX6 idx yX6_place cX6_place 3 (some .int) vX6_place rmX6_place 0 0 2 := cwV 2 hg (gV hl q4_147 q4_148 q1_7 q4_149) rfl rfl rfl (by decide +kernel) hR
def fX6_place_c49 (a : Nat) (xs0 : Int32) (h : HH) : Int32 × HH := (h (a + 1) xs0.toNatClampNeg, h)
def sX6_place_c49 (a : Nat) (xs0 : Int32) (h : HH) : Prop := vp_in xs0 206
set_option maxRecDepth 100000 in
set_option maxHeartbeats 4000000 in
theorem xX6_place_c49 {p : Program} {l : Launch} {e : Env} {s : State} {m : MethodId} {args : Array Value} {below : List Frame} {meth : Method} {c : Code} {X : Cx} {a : Nat} (hO : IsMo X a) (C0 : CT p s m args meth c X cX6_place 3 (some .int) RX6) (xs0 : Int32) (h : HH) (H : Heap) (locs : List Loc) (ls : Array Slot) (res : Int32 × HH) (hl : lv_has ls 3 []) (hW : WH X h H) (hS : va_S (xA X) s.heap H locs) (hs : sX6_place_c49 a xs0 h) (hres : fX6_place_c49 a xs0 h = res) : W p l e rmX6_place s m args below meth c H locs 0 0 (MQ below (QI X res.1 res.2) args s 0 0 (xA X)) (F0 m 49 ls [.int xs0, .ref (a + 1)]) := by
  obtain ⟨hx, hb, hr, hlk, hml, hown, hts, hK⟩ := id C0
  have hi7 := hs
  refine kb_iald hx hb hK hW hO.2.1 (k := xs0.toNatClampNeg) rfl hi7 dX6_place_49 ?_
  subst hres
  exact kr_i hx hb hr hlk hK hW hS dX6_place_50
def fX6_place_c41 (a : Nat) (xs0 : Int32) (xs1 : Int32) (h : HH) : Int32 × HH := fX6_place_c49 a 3 (fX6_places a xs1 xs0 h)
def sX6_place_c41 (a : Nat) (xs0 : Int32) (xs1 : Int32) (h : HH) : Prop := (sX6_places a xs1 xs0 h) ∧ (sX6_place_c49 a 3 (fX6_places a xs1 xs0 h))
set_option maxRecDepth 100000 in
set_option maxHeartbeats 4000000 in
theorem xX6_place_c41 {p : Program} {l : Launch} {e : Env} {s : State} {m : MethodId} {args : Array Value} {below : List Frame} {meth : Method} {c : Code} {X : Cx} {a : Nat} (hO : IsMo X a) (C0 : CT p s m args meth c X cX6_place 3 (some .int) RX6) (xs0 : Int32) (xs1 : Int32) (h : HH) (H : Heap) (locs : List Loc) (ls : Array Slot) (res : Int32 × HH) (hl : lv_has ls 3 [(0, .ref a)]) (hW : WH X h H) (hS : va_S (xA X) s.heap H locs) (hs : sX6_place_c41 a xs0 xs1 h) (hres : fX6_place_c41 a xs0 xs1 h = res) : W p l e rmX6_place s m args below meth c H locs 0 0 (MQ below (QI X res.1 res.2) args s 0 0 (xA X)) (F0 m 41 ls [.int xs0, .int xs1, .ref a]) := by
  obtain ⟨hx, hb, hr, hlk, hml, hown, hts, hK⟩ := id C0
  obtain ⟨hc6, hs⟩ := hs
  refine kV_v (As := [.int xs1, .int xs0]) (rest := []) ⟨hx, hb, hml, hown, hts⟩ (kX6_places l X h a xs1 xs0 hO hc6) (wX6_places hts q4_150 ⟨Nat.le_of_ble_eq_true rfl, Nat.le_of_ble_eq_true rfl⟩) hK hW hS (va_recv hK.1 (hW.one hO.1) (ci := 6) (q0 := 0) rfl rfl) rfl hl.1 rfl (Nat.le_of_ble_eq_true rfl) dX6_place_41 ⟨Nat.zero_le _, Nat.zero_le _⟩ (fun H locs hW hS => ?_)
  refine lv_aload_n hx hb dX6_place_44 rfl (lv_at hl 0 rfl) ?_
  refine g6_0 hx hb hts hown hK hW hO.1 (hts _ q4_49) dX6_place_45 ?_
  refine lv_iconst (v := 3) hx hb dX6_place_48 (by decide) ?_
  exact xX6_place_c49 hO C0 3 (fX6_places a xs1 xs0 h) _ _ _ _ (lv_sub hl [] rfl) hW hS hs hres
def fX6_place_c29 (a : Nat) (x1 : Int32) (x2 : Int32) (xs0 : Int32) (h : HH) : Int32 × HH := if xs0 = 0 then (fX6_place_c41 a x2 x1 (fX6_saves a h)) else ((0, h))
def sX6_place_c29 (a : Nat) (x1 : Int32) (x2 : Int32) (xs0 : Int32) (h : HH) : Prop := (xs0 = 0 → ((sX6_saves a h) ∧ (sX6_place_c41 a x2 x1 (fX6_saves a h)))) ∧ (¬ (xs0 = 0) → True)
set_option maxRecDepth 100000 in
set_option maxHeartbeats 4000000 in
theorem xX6_place_c29 {p : Program} {l : Launch} {e : Env} {s : State} {m : MethodId} {args : Array Value} {below : List Frame} {meth : Method} {c : Code} {X : Cx} {a : Nat} (hO : IsMo X a) (C0 : CT p s m args meth c X cX6_place 3 (some .int) RX6) (x1 : Int32) (x2 : Int32) (xs0 : Int32) (h : HH) (H : Heap) (locs : List Loc) (ls : Array Slot) (res : Int32 × HH) (hl : lv_has ls 3 [(0, .ref a), (1, .int x1), (2, .int x2)]) (hW : WH X h H) (hS : va_S (xA X) s.heap H locs) (hs : sX6_place_c29 a x1 x2 xs0 h) (hres : fX6_place_c29 a x1 x2 xs0 h = res) : W p l e rmX6_place s m args below meth c H locs 0 0 (MQ below (QI X res.1 res.2) args s 0 0 (xA X)) (F0 m 29 ls [.int xs0]) := by
  obtain ⟨hx, hb, hr, hlk, hml, hown, hts, hK⟩ := id C0
  refine lv_if_eq (tgt := 34) hx hb dX6_place_29 (by decide) (fun c4 => ?_) (fun c4 => ?_)
  · have hres := (if_pos c4).symm.trans hres
    have hs := And.left hs c4
    refine lv_aload_n hx hb dX6_place_34 rfl (lv_at hl 0 rfl) ?_
    obtain ⟨hc5, hs⟩ := hs
    refine kV_v (As := []) (rest := []) ⟨hx, hb, hml, hown, hts⟩ (kX6_saves l X h a hO hc5) (wX6_saves hts q4_99 ⟨Nat.le_of_ble_eq_true rfl, Nat.le_of_ble_eq_true rfl⟩) hK hW hS (va_recv hK.1 (hW.one hO.1) (ci := 6) (q0 := 0) rfl rfl) rfl hl.1 rfl (Nat.le_of_ble_eq_true rfl) dX6_place_35 ⟨Nat.zero_le _, Nat.zero_le _⟩ (fun H locs hW hS => ?_)
    refine lv_aload_n hx hb dX6_place_38 rfl (lv_at hl 0 rfl) ?_
    refine lv_iload_n hx hb dX6_place_39 rfl (lv_at hl 1 rfl) ?_
    refine lv_iload_n hx hb dX6_place_40 rfl (lv_at hl 2 rfl) ?_
    exact xX6_place_c41 hO C0 x2 x1 (fX6_saves a h) _ _ _ _ (lv_sub hl [0] rfl) hW hS hs hres
  · have hres := (if_neg c4).symm.trans hres
    have hs := And.right hs c4
    refine lv_iconst (v := 0) hx hb dX6_place_32 (by decide) ?_
    subst hres
    exact kr_i hx hb hr hlk hK hW hS dX6_place_33
def fX6_place_c26 (a : Nat) (x1 : Int32) (x2 : Int32) (xs0 : Int32) (h : HH) : Int32 × HH := fX6_place_c29 a x1 x2 (bI (fX6_refused a xs0 h).1) ((fX6_refused a xs0 h).2)
def sX6_place_c26 (a : Nat) (x1 : Int32) (x2 : Int32) (xs0 : Int32) (h : HH) : Prop := sX6_place_c29 a x1 x2 (bI (fX6_refused a xs0 h).1) ((fX6_refused a xs0 h).2)
set_option maxRecDepth 100000 in
set_option maxHeartbeats 4000000 in
theorem xX6_place_c26 {p : Program} {l : Launch} {e : Env} {s : State} {m : MethodId} {args : Array Value} {below : List Frame} {meth : Method} {c : Code} {X : Cx} {a : Nat} (hO : IsMo X a) (C0 : CT p s m args meth c X cX6_place 3 (some .int) RX6) (x1 : Int32) (x2 : Int32) (xs0 : Int32) (h : HH) (H : Heap) (locs : List Loc) (ls : Array Slot) (res : Int32 × HH) (hl : lv_has ls 3 [(0, .ref a), (1, .int x1), (2, .int x2)]) (hW : WH X h H) (hS : va_S (xA X) s.heap H locs) (hs : sX6_place_c26 a x1 x2 xs0 h) (hres : fX6_place_c26 a x1 x2 xs0 h = res) : W p l e rmX6_place s m args below meth c H locs 0 0 (MQ below (QI X res.1 res.2) args s 0 0 (xA X)) (F0 m 26 ls [.int xs0, .ref a]) := by
  obtain ⟨hx, hb, hr, hlk, hml, hown, hts, hK⟩ := id C0
  refine kV_i (As := [.int xs0]) (rest := []) ⟨hx, hb, hml, hown, hts⟩ (kX6_refused l X h a xs0 hO) (wX6_refused hts q4_88 ⟨Nat.le_of_ble_eq_true rfl, Nat.le_of_ble_eq_true rfl⟩) hK hW hS (va_recv hK.1 (hW.one hO.1) (ci := 6) (q0 := 0) rfl rfl) rfl hl.1 rfl (Nat.le_of_ble_eq_true rfl) dX6_place_26 ⟨Nat.zero_le _, Nat.zero_le _⟩ (fun H locs hW hS => ?_)
  exact xX6_place_c29 hO C0 x1 x2 (bI (fX6_refused a xs0 h).1) ((fX6_refused a xs0 h).2) _ _ _ _ (lv_sub hl [0, 1, 2] rfl) hW hS hs hres
def fX6_place_c0 (a : Nat) (x1 : Int32) (x2 : Int32) (h : HH) : Int32 × HH := if (bI (fX6_isSpace x1)) = 0 then (fX6_place_c26 a x1 x2 1 h) else (if (fX6_why a x1 x2 h) = 0 then (fX6_place_c26 a x1 x2 0 h) else (fX6_place_c26 a x1 x2 2 h))
def sX6_place_c0 (a : Nat) (x1 : Int32) (x2 : Int32) (h : HH) : Prop := ((bI (fX6_isSpace x1)) = 0 → (sX6_place_c26 a x1 x2 1 h)) ∧ (¬ ((bI (fX6_isSpace x1)) = 0) → ((sX6_why a x1 x2 h) ∧ (((fX6_why a x1 x2 h) = 0 → (sX6_place_c26 a x1 x2 0 h)) ∧ (¬ ((fX6_why a x1 x2 h) = 0) → (sX6_place_c26 a x1 x2 2 h)))))
set_option maxRecDepth 100000 in
set_option maxHeartbeats 4000000 in
theorem xX6_place_c0 {p : Program} {l : Launch} {e : Env} {s : State} {m : MethodId} {args : Array Value} {below : List Frame} {meth : Method} {c : Code} {X : Cx} {a : Nat} (hO : IsMo X a) (C0 : CT p s m args meth c X cX6_place 3 (some .int) RX6) (x1 : Int32) (x2 : Int32) (h : HH) (H : Heap) (locs : List Loc) (ls : Array Slot) (res : Int32 × HH) (hl : lv_has ls 3 [(0, .ref a), (1, .int x1), (2, .int x2)]) (hW : WH X h H) (hS : va_S (xA X) s.heap H locs) (hs : sX6_place_c0 a x1 x2 h) (hres : fX6_place_c0 a x1 x2 h = res) : W p l e rmX6_place s m args below meth c H locs 0 0 (MQ below (QI X res.1 res.2) args s 0 0 (xA X)) (F0 m 0 ls []) := by
  obtain ⟨hx, hb, hr, hlk, hml, hown, hts, hK⟩ := id C0
  refine lv_aload_n hx hb dX6_place_0 rfl (lv_at hl 0 rfl) ?_
  refine lv_iload_n hx hb dX6_place_1 rfl (lv_at hl 1 rfl) ?_
  refine kS_i (As := [.int x1]) (rest := [.ref a]) ⟨hx, hb, hml, hown, hts⟩ (kX6_isSpace l X h x1) (wX6_isSpace hts q4_107 ⟨Nat.le_of_ble_eq_true rfl, Nat.le_of_ble_eq_true rfl⟩) hK hW hS rfl hl.1 rfl (Nat.le_of_ble_eq_true rfl) dX6_place_2 ⟨Nat.zero_le _, Nat.zero_le _⟩ (fun H locs hW hS => ?_)
  refine lv_if_ne (tgt := 12) hx hb dX6_place_5 (by decide) (fun c1 => ?_) (fun c1 => ?_)
  · have hres := (if_neg c1).symm.trans hres
    have hs := And.right hs c1
    refine lv_aload_n hx hb dX6_place_12 rfl (lv_at hl 0 rfl) ?_
    refine lv_iload_n hx hb dX6_place_13 rfl (lv_at hl 1 rfl) ?_
    refine lv_iload_n hx hb dX6_place_14 rfl (lv_at hl 2 rfl) ?_
    obtain ⟨hc2, hs⟩ := hs
    refine kV_i (As := [.int x1, .int x2]) (rest := [.ref a]) ⟨hx, hb, hml, hown, hts⟩ (kX6_why l X h a x1 x2 hO hc2) (wX6_why hts q4_110 ⟨Nat.le_of_ble_eq_true rfl, Nat.le_of_ble_eq_true rfl⟩) hK hW hS (va_recv hK.1 (hW.one hO.1) (ci := 6) (q0 := 0) rfl rfl) rfl hl.1 rfl (Nat.le_of_ble_eq_true rfl) dX6_place_15 ⟨Nat.zero_le _, Nat.zero_le _⟩ (fun H locs hW hS => ?_)
    refine lv_if_ne (tgt := 25) hx hb dX6_place_18 (by decide) (fun c3 => ?_) (fun c3 => ?_)
    · have hres := (if_neg c3).symm.trans hres
      have hs := And.right hs c3
      refine lv_iconst (v := 2) hx hb dX6_place_25 (by decide) ?_
      exact xX6_place_c26 hO C0 x1 x2 2 h _ _ _ _ (lv_sub hl [0, 1, 2] rfl) hW hS hs hres
    · have hres := (if_pos c3).symm.trans hres
      have hs := And.left hs c3
      refine lv_iconst (v := 0) hx hb dX6_place_21 (by decide) ?_
      refine lv_goto (tgt := 26) hx hb dX6_place_22 (by decide) ?_
      exact xX6_place_c26 hO C0 x1 x2 0 h _ _ _ _ (lv_sub hl [0, 1, 2] rfl) hW hS hs hres
  · have hres := (if_pos c1).symm.trans hres
    have hs := And.left hs c1
    refine lv_iconst (v := 1) hx hb dX6_place_8 (by decide) ?_
    refine lv_goto (tgt := 26) hx hb dX6_place_9 (by decide) ?_
    exact xX6_place_c26 hO C0 x1 x2 1 h _ _ _ _ (lv_sub hl [0, 1, 2] rfl) hW hS hs hres
def fX6_place (a : Nat) (x1 : Int32) (x2 : Int32) (h : HH) : Int32 × HH := fX6_place_c0 a x1 x2 h
def sX6_place (a : Nat) (x1 : Int32) (x2 : Int32) (h : HH) : Prop := sX6_place_c0 a x1 x2 h
set_option maxRecDepth 100000 in
set_option maxHeartbeats 4000000 in
theorem kX6_place (l : Launch) (X : Cx) (h : HH) (a : Nat) (x1 : Int32) (x2 : Int32) (hO : IsMo X a) (hs : sX6_place a x1 x2 h) : Met l yX6_place vX6_place rmX6_place (va_Pc [.ref a, .int x1, .int x2] (fun U => WS X h U)) (QI X (fX6_place a x1 x2 h).1 (fX6_place a x1 x2 h).2) 0 0 (xA X) := by
  refine Met.ofW (cc := cX6_place) (maxL := 3) (ret := some .int) (by decide) rfl ?_
  intro p e s m args below meth c s₁ B hml hv
  obtain ⟨rfl, hW, hK⟩ := hv
  have hl := lv_entry ([.ref a, .int x1, .int x2]) (n := 3) (Nat.le_of_ble_eq_true rfl)
  rw [lg_entry_eq]
  generalize (lg_sl ([.ref a, .int x1, .int x2]) ++ List.replicate (3 - (lg_sl ([.ref a, .int x1, .int x2])).length) Slot.unset).toArray = ls at hl ⊢
  have hl : lv_has ls 3 [(0, .ref a), (1, .int x1), (2, .int x2)] := hl
  exact xX6_place_c0 hO ⟨B.exec, B.bytes, B.returns, B.notSynchronized, hml, findClass_of_methodNamed B.named, fun w hw => atoms_spec (ws := vX6_place) B.pre w (List.mem_cons_of_mem _ hw), hK⟩ x1 x2 h _ _ ls _ (lv_sub hl [0, 1, 2] rfl) hW va_S.rf hs rfl
-- VillageBoardModel.nextCode(I)I
abbrev rmX6_nextCode : Room := ({ frames := 7, cells := 0, slots := 0, locals := 157 } : Room)
abbrev vX6_nextCode : List Cond := Cond.code yX6_nextCode cX6_nextCode 3 (some .int) :: lwG
theorem wX6_nextCode {R : Room} {s : State} {args : Array Value} {own : String} {idx : Nat} (hg : ∀ w ∈ lwG, w.before args s = true) (hl : Cond.methodLink own idx yX6_nextCode ∈ lwG) (hR : rmX6_nextCode.frames + 1 ≤ R.frames ∧ 8 + (3 + 11) + rmX6_nextCode.locals ≤ R.locals) : CallW R s args own RX6 idx yX6_nextCode cX6_nextCode 3 (some .int) vX6_nextCode rmX6_nextCode 0 0 1 := cwV 1 hg (gV hl q4_212 q0_44 q1_7 q4_213) rfl rfl rfl (by decide +kernel) hR
def fX6_nextCode_c4 (a : Nat) : Nat → Int32 → HH → Int32
  | 0, x2, h => 0
  | n + 1, x2, h => if 300 ≤ x2 then (-1) else (if (fX6_why a (x2 / 25) (jrem x2 25) h) = 0 then x2 else ((fX6_nextCode_c4 a n) (x2 + 1) h))
def sX6_nextCode_c4 (a : Nat) : Nat → Int32 → HH → Prop
  | 0, _, _ => False
  | n + 1, x2, h => (300 ≤ x2 → True) ∧ (¬ (300 ≤ x2) → ((sX6_why a (x2 / 25) (jrem x2 25) h) ∧ (((fX6_why a (x2 / 25) (jrem x2 25) h) = 0 → True) ∧ (¬ ((fX6_why a (x2 / 25) (jrem x2 25) h) = 0) → ((sX6_nextCode_c4 a n) (x2 + 1) h)))))
set_option maxRecDepth 100000 in
set_option maxHeartbeats 4000000 in
theorem xX6_nextCode_c4 {p : Program} {l : Launch} {e : Env} {s : State} {m : MethodId} {args : Array Value} {below : List Frame} {meth : Method} {c : Code} {X : Cx} {a : Nat} (hO : IsMo X a) (C0 : CT p s m args meth c X cX6_nextCode 3 (some .int) RX6) : ∀ (n : Nat) (x2 : Int32) (h : HH) (H : Heap) (locs : List Loc) (ls : Array Slot) (res : Int32) (hl : lv_has ls 3 [(0, .ref a), (2, .int x2)]) (hW : WH X h H) (hS : va_S (xA X) s.heap H locs) (hs : sX6_nextCode_c4 a n x2 h) (hres : fX6_nextCode_c4 a n x2 h = res), W p l e rmX6_nextCode s m args below meth c H locs 0 0 (MQ below (QI X res h) args s 0 0 (xA X)) (F0 m 4 ls []) := by
  obtain ⟨hx, hb, hr, hlk, hml, hown, hts, hK⟩ := id C0
  intro n
  induction n with
  | zero =>
    intro _ _ _ _ _ _ _ _ _ hs _
    exact hs.elim
  | succ n ih =>
    intro x2 h H locs ls res hl hW hS hs hres
    refine lv_iload_n hx hb dX6_nextCode_4 rfl (lv_at hl 1 rfl) ?_
    refine lv_sipush (v := 300) hx hb dX6_nextCode_5 (by decide) ?_
    refine lv_icmp_ge (tgt := 34) hx hb dX6_nextCode_8 (by decide) (fun c1 => ?_) (fun c1 => ?_)
    · have hres := (if_pos c1).symm.trans hres
      have hs := And.left hs c1
      refine lv_iconst (v := (-1)) hx hb dX6_nextCode_34 (by decide) ?_
      subst hres
      exact kr_i hx hb hr hlk hK hW hS dX6_nextCode_35
    · have hres := (if_neg c1).symm.trans hres
      have hs := And.right hs c1
      refine lv_aload_n hx hb dX6_nextCode_11 rfl (lv_at hl 0 rfl) ?_
      refine lv_iload_n hx hb dX6_nextCode_12 rfl (lv_at hl 1 rfl) ?_
      refine lv_bipush (v := 25) hx hb dX6_nextCode_13 (by decide) ?_
      refine lv_idiv hx hb dX6_nextCode_15 (by decide) ?_
      refine lv_iload_n hx hb dX6_nextCode_16 rfl (lv_at hl 1 rfl) ?_
      refine lv_bipush (v := 25) hx hb dX6_nextCode_17 (by decide) ?_
      refine kb_irem hx hb dX6_nextCode_19 (by decide) ?_
      obtain ⟨hc2, hs⟩ := hs
      refine kV_i (As := [.int (x2 / 25), .int (jrem x2 25)]) (rest := []) ⟨hx, hb, hml, hown, hts⟩ (kX6_why l X h a (x2 / 25) (jrem x2 25) hO hc2) (wX6_why hts q4_110 ⟨Nat.le_of_ble_eq_true rfl, Nat.le_of_ble_eq_true rfl⟩) hK hW hS (va_recv hK.1 (hW.one hO.1) (ci := 6) (q0 := 0) rfl rfl) rfl hl.1 rfl (Nat.le_of_ble_eq_true rfl) dX6_nextCode_20 ⟨Nat.zero_le _, Nat.zero_le _⟩ (fun H locs hW hS => ?_)
      refine lv_if_ne (tgt := 28) hx hb dX6_nextCode_23 (by decide) (fun c3 => ?_) (fun c3 => ?_)
      · have hres := (if_neg c3).symm.trans hres
        have hs := And.right hs c3
        refine lv_iinc (v := x2 + 1) (lv' := [(2, .int (x2 + 1)), (0, .ref a)]) hx hb dX6_nextCode_28 hl (k := 1) rfl rfl (by decide) rfl (fun ls hl => ?_)
        refine lv_goto (tgt := 4) hx hb dX6_nextCode_31 (by decide) ?_
        exact ih (x2 + 1) h _ _ _ _ (lv_sub hl [1, 0] rfl) hW hS hs hres
      · have hres := (if_pos c3).symm.trans hres
        have hs := And.left hs c3
        refine lv_iload_n hx hb dX6_nextCode_26 rfl (lv_at hl 1 rfl) ?_
        subst hres
        exact kr_i hx hb hr hlk hK hW hS dX6_nextCode_27
def fX6_nextCode_c0 (a : Nat) (x1 : Int32) (h : HH) : Int32 := fX6_nextCode_c4 a 301 (x1 + 1) h
def sX6_nextCode_c0 (a : Nat) (x1 : Int32) (h : HH) : Prop := sX6_nextCode_c4 a 301 (x1 + 1) h
set_option maxRecDepth 100000 in
set_option maxHeartbeats 4000000 in
theorem xX6_nextCode_c0 {p : Program} {l : Launch} {e : Env} {s : State} {m : MethodId} {args : Array Value} {below : List Frame} {meth : Method} {c : Code} {X : Cx} {a : Nat} (hO : IsMo X a) (C0 : CT p s m args meth c X cX6_nextCode 3 (some .int) RX6) (x1 : Int32) (h : HH) (H : Heap) (locs : List Loc) (ls : Array Slot) (res : Int32) (hl : lv_has ls 3 [(0, .ref a), (1, .int x1)]) (hW : WH X h H) (hS : va_S (xA X) s.heap H locs) (hs : sX6_nextCode_c0 a x1 h) (hres : fX6_nextCode_c0 a x1 h = res) : W p l e rmX6_nextCode s m args below meth c H locs 0 0 (MQ below (QI X res h) args s 0 0 (xA X)) (F0 m 0 ls []) := by
  obtain ⟨hx, hb, hr, hlk, hml, hown, hts, hK⟩ := id C0
  refine lv_iload_n hx hb dX6_nextCode_0 rfl (lv_at hl 1 rfl) ?_
  refine lv_iconst (v := 1) hx hb dX6_nextCode_1 (by decide) ?_
  refine lv_iadd hx hb dX6_nextCode_2 ?_
  refine lv_istore_n (lv' := [(2, .int (x1 + 1)), (0, .ref a), (1, .int x1)]) hx hb dX6_nextCode_3 rfl hl (by decide) rfl (fun ls hl => ?_)
  exact xX6_nextCode_c4 hO C0 301 (x1 + 1) h _ _ _ _ (lv_sub hl [1, 0] rfl) hW hS hs hres
def fX6_nextCode (a : Nat) (x1 : Int32) (h : HH) : Int32 := fX6_nextCode_c0 a x1 h
def sX6_nextCode (a : Nat) (x1 : Int32) (h : HH) : Prop := sX6_nextCode_c0 a x1 h
set_option maxRecDepth 100000 in
set_option maxHeartbeats 4000000 in
theorem kX6_nextCode (l : Launch) (X : Cx) (h : HH) (a : Nat) (x1 : Int32) (hO : IsMo X a) (hs : sX6_nextCode a x1 h) : Met l yX6_nextCode vX6_nextCode rmX6_nextCode (va_Pc [.ref a, .int x1] (fun U => WS X h U)) (QI X (fX6_nextCode a x1 h) h) 0 0 (xA X) := by
  refine Met.ofW (cc := cX6_nextCode) (maxL := 3) (ret := some .int) (by decide) rfl ?_
  intro p e s m args below meth c s₁ B hml hv
  obtain ⟨rfl, hW, hK⟩ := hv
  have hl := lv_entry ([.ref a, .int x1]) (n := 3) (Nat.le_of_ble_eq_true rfl)
  rw [lg_entry_eq]
  generalize (lg_sl ([.ref a, .int x1]) ++ List.replicate (3 - (lg_sl ([.ref a, .int x1])).length) Slot.unset).toArray = ls at hl ⊢
  have hl : lv_has ls 3 [(0, .ref a), (1, .int x1)] := hl
  exact xX6_nextCode_c0 hO ⟨B.exec, B.bytes, B.returns, B.notSynchronized, hml, findClass_of_methodNamed B.named, fun w hw => atoms_spec (ws := vX6_nextCode) B.pre w (List.mem_cons_of_mem _ hw), hK⟩ x1 h _ _ ls _ (lv_sub hl [0, 1] rfl) hW va_S.rf hs rfl
-- VillageBoardModel.skip()I
abbrev rmX6_skip : Room := ({ frames := 9, cells := 0, slots := 0, locals := 198 } : Room)
abbrev vX6_skip : List Cond := Cond.code yX6_skip cX6_skip 1 (some .int) :: lwG
theorem wX6_skip {R : Room} {s : State} {args : Array Value} {own : String} {idx : Nat} (hg : ∀ w ∈ lwG, w.before args s = true) (hl : Cond.methodLink own idx yX6_skip ∈ lwG) (hR : rmX6_skip.frames + 1 ≤ R.frames ∧ 8 + (1 + 11) + rmX6_skip.locals ≤ R.locals) : CallW R s args own RX6 idx yX6_skip cX6_skip 1 (some .int) vX6_skip rmX6_skip 0 0 0 := cwV 0 hg (gV hl q4_207 q4_208 q1_7 q4_209) rfl rfl rfl (by decide +kernel) hR
def fX6_skip_c43 (a : Nat) (xs0 : Int32) (h : HH) : Int32 × HH := (h (a + 1) xs0.toNatClampNeg, h)
def sX6_skip_c43 (a : Nat) (xs0 : Int32) (h : HH) : Prop := vp_in xs0 206
set_option maxRecDepth 100000 in
set_option maxHeartbeats 4000000 in
theorem xX6_skip_c43 {p : Program} {l : Launch} {e : Env} {s : State} {m : MethodId} {args : Array Value} {below : List Frame} {meth : Method} {c : Code} {X : Cx} {a : Nat} (hO : IsMo X a) (C0 : CT p s m args meth c X cX6_skip 1 (some .int) RX6) (xs0 : Int32) (h : HH) (H : Heap) (locs : List Loc) (ls : Array Slot) (res : Int32 × HH) (hl : lv_has ls 1 []) (hW : WH X h H) (hS : va_S (xA X) s.heap H locs) (hs : sX6_skip_c43 a xs0 h) (hres : fX6_skip_c43 a xs0 h = res) : W p l e rmX6_skip s m args below meth c H locs 0 0 (MQ below (QI X res.1 res.2) args s 0 0 (xA X)) (F0 m 43 ls [.int xs0, .ref (a + 1)]) := by
  obtain ⟨hx, hb, hr, hlk, hml, hown, hts, hK⟩ := id C0
  have hi5 := hs
  refine kb_iald hx hb hK hW hO.2.1 (k := xs0.toNatClampNeg) rfl hi5 dX6_skip_43 ?_
  subst hres
  exact kr_i hx hb hr hlk hK hW hS dX6_skip_44
def fX6_skip_c35 (a : Nat) (h : HH) : Int32 × HH := fX6_skip_c43 a 3 (fX6_skips a h)
def sX6_skip_c35 (a : Nat) (h : HH) : Prop := (sX6_skips a h) ∧ (sX6_skip_c43 a 3 (fX6_skips a h))
set_option maxRecDepth 100000 in
set_option maxHeartbeats 4000000 in
theorem xX6_skip_c35 {p : Program} {l : Launch} {e : Env} {s : State} {m : MethodId} {args : Array Value} {below : List Frame} {meth : Method} {c : Code} {X : Cx} {a : Nat} (hO : IsMo X a) (C0 : CT p s m args meth c X cX6_skip 1 (some .int) RX6) (h : HH) (H : Heap) (locs : List Loc) (ls : Array Slot) (res : Int32 × HH) (hl : lv_has ls 1 [(0, .ref a)]) (hW : WH X h H) (hS : va_S (xA X) s.heap H locs) (hs : sX6_skip_c35 a h) (hres : fX6_skip_c35 a h = res) : W p l e rmX6_skip s m args below meth c H locs 0 0 (MQ below (QI X res.1 res.2) args s 0 0 (xA X)) (F0 m 35 ls [.ref a]) := by
  obtain ⟨hx, hb, hr, hlk, hml, hown, hts, hK⟩ := id C0
  obtain ⟨hc4, hs⟩ := hs
  refine kV_v (As := []) (rest := []) ⟨hx, hb, hml, hown, hts⟩ (kX6_skips l X h a hO hc4) (wX6_skips hts q4_214 ⟨Nat.le_of_ble_eq_true rfl, Nat.le_of_ble_eq_true rfl⟩) hK hW hS (va_recv hK.1 (hW.one hO.1) (ci := 6) (q0 := 0) rfl rfl) rfl hl.1 rfl (Nat.le_of_ble_eq_true rfl) dX6_skip_35 ⟨Nat.zero_le _, Nat.zero_le _⟩ (fun H locs hW hS => ?_)
  refine lv_aload_n hx hb dX6_skip_38 rfl (lv_at hl 0 rfl) ?_
  refine g6_0 hx hb hts hown hK hW hO.1 (hts _ q4_49) dX6_skip_39 ?_
  refine lv_iconst (v := 3) hx hb dX6_skip_42 (by decide) ?_
  exact xX6_skip_c43 hO C0 3 (fX6_skips a h) _ _ _ _ (lv_sub hl [] rfl) hW hS hs hres
def fX6_skip_c25 (a : Nat) (xs0 : Int32) (h : HH) : Int32 × HH := if xs0 = 0 then (fX6_skip_c35 a (fX6_saves a h)) else ((0, h))
def sX6_skip_c25 (a : Nat) (xs0 : Int32) (h : HH) : Prop := (xs0 = 0 → ((sX6_saves a h) ∧ (sX6_skip_c35 a (fX6_saves a h)))) ∧ (¬ (xs0 = 0) → True)
set_option maxRecDepth 100000 in
set_option maxHeartbeats 4000000 in
theorem xX6_skip_c25 {p : Program} {l : Launch} {e : Env} {s : State} {m : MethodId} {args : Array Value} {below : List Frame} {meth : Method} {c : Code} {X : Cx} {a : Nat} (hO : IsMo X a) (C0 : CT p s m args meth c X cX6_skip 1 (some .int) RX6) (xs0 : Int32) (h : HH) (H : Heap) (locs : List Loc) (ls : Array Slot) (res : Int32 × HH) (hl : lv_has ls 1 [(0, .ref a)]) (hW : WH X h H) (hS : va_S (xA X) s.heap H locs) (hs : sX6_skip_c25 a xs0 h) (hres : fX6_skip_c25 a xs0 h = res) : W p l e rmX6_skip s m args below meth c H locs 0 0 (MQ below (QI X res.1 res.2) args s 0 0 (xA X)) (F0 m 25 ls [.int xs0]) := by
  obtain ⟨hx, hb, hr, hlk, hml, hown, hts, hK⟩ := id C0
  refine lv_if_eq (tgt := 30) hx hb dX6_skip_25 (by decide) (fun c2 => ?_) (fun c2 => ?_)
  · have hres := (if_pos c2).symm.trans hres
    have hs := And.left hs c2
    refine lv_aload_n hx hb dX6_skip_30 rfl (lv_at hl 0 rfl) ?_
    obtain ⟨hc3, hs⟩ := hs
    refine kV_v (As := []) (rest := []) ⟨hx, hb, hml, hown, hts⟩ (kX6_saves l X h a hO hc3) (wX6_saves hts q4_99 ⟨Nat.le_of_ble_eq_true rfl, Nat.le_of_ble_eq_true rfl⟩) hK hW hS (va_recv hK.1 (hW.one hO.1) (ci := 6) (q0 := 0) rfl rfl) rfl hl.1 rfl (Nat.le_of_ble_eq_true rfl) dX6_skip_31 ⟨Nat.zero_le _, Nat.zero_le _⟩ (fun H locs hW hS => ?_)
    refine lv_aload_n hx hb dX6_skip_34 rfl (lv_at hl 0 rfl) ?_
    exact xX6_skip_c35 hO C0 (fX6_saves a h) _ _ _ _ (lv_sub hl [0] rfl) hW hS hs hres
  · have hres := (if_neg c2).symm.trans hres
    have hs := And.right hs c2
    refine lv_iconst (v := 0) hx hb dX6_skip_28 (by decide) ?_
    subst hres
    exact kr_i hx hb hr hlk hK hW hS dX6_skip_29
def fX6_skip_c22 (a : Nat) (xs0 : Int32) (h : HH) : Int32 × HH := fX6_skip_c25 a (bI (fX6_refused a xs0 h).1) ((fX6_refused a xs0 h).2)
def sX6_skip_c22 (a : Nat) (xs0 : Int32) (h : HH) : Prop := sX6_skip_c25 a (bI (fX6_refused a xs0 h).1) ((fX6_refused a xs0 h).2)
set_option maxRecDepth 100000 in
set_option maxHeartbeats 4000000 in
theorem xX6_skip_c22 {p : Program} {l : Launch} {e : Env} {s : State} {m : MethodId} {args : Array Value} {below : List Frame} {meth : Method} {c : Code} {X : Cx} {a : Nat} (hO : IsMo X a) (C0 : CT p s m args meth c X cX6_skip 1 (some .int) RX6) (xs0 : Int32) (h : HH) (H : Heap) (locs : List Loc) (ls : Array Slot) (res : Int32 × HH) (hl : lv_has ls 1 [(0, .ref a)]) (hW : WH X h H) (hS : va_S (xA X) s.heap H locs) (hs : sX6_skip_c22 a xs0 h) (hres : fX6_skip_c22 a xs0 h = res) : W p l e rmX6_skip s m args below meth c H locs 0 0 (MQ below (QI X res.1 res.2) args s 0 0 (xA X)) (F0 m 22 ls [.int xs0, .ref a]) := by
  obtain ⟨hx, hb, hr, hlk, hml, hown, hts, hK⟩ := id C0
  refine kV_i (As := [.int xs0]) (rest := []) ⟨hx, hb, hml, hown, hts⟩ (kX6_refused l X h a xs0 hO) (wX6_refused hts q4_88 ⟨Nat.le_of_ble_eq_true rfl, Nat.le_of_ble_eq_true rfl⟩) hK hW hS (va_recv hK.1 (hW.one hO.1) (ci := 6) (q0 := 0) rfl rfl) rfl hl.1 rfl (Nat.le_of_ble_eq_true rfl) dX6_skip_22 ⟨Nat.zero_le _, Nat.zero_le _⟩ (fun H locs hW hS => ?_)
  exact xX6_skip_c25 hO C0 (bI (fX6_refused a xs0 h).1) ((fX6_refused a xs0 h).2) _ _ _ _ (lv_sub hl [0] rfl) hW hS hs hres
def fX6_skip_c17 (a : Nat) (h : HH) : Int32 × HH := fX6_skip_c22 a 1 h
def sX6_skip_c17 (a : Nat) (h : HH) : Prop := sX6_skip_c22 a 1 h
set_option maxRecDepth 100000 in
set_option maxHeartbeats 4000000 in
theorem xX6_skip_c17 {p : Program} {l : Launch} {e : Env} {s : State} {m : MethodId} {args : Array Value} {below : List Frame} {meth : Method} {c : Code} {X : Cx} {a : Nat} (hO : IsMo X a) (C0 : CT p s m args meth c X cX6_skip 1 (some .int) RX6) (h : HH) (H : Heap) (locs : List Loc) (ls : Array Slot) (res : Int32 × HH) (hl : lv_has ls 1 [(0, .ref a)]) (hW : WH X h H) (hS : va_S (xA X) s.heap H locs) (hs : sX6_skip_c17 a h) (hres : fX6_skip_c17 a h = res) : W p l e rmX6_skip s m args below meth c H locs 0 0 (MQ below (QI X res.1 res.2) args s 0 0 (xA X)) (F0 m 17 ls [.ref a]) := by
  obtain ⟨hx, hb, hr, hlk, hml, hown, hts, hK⟩ := id C0
  refine lv_iconst (v := 1) hx hb dX6_skip_17 (by decide) ?_
  refine lv_goto (tgt := 22) hx hb dX6_skip_18 (by decide) ?_
  exact xX6_skip_c22 hO C0 1 h _ _ _ _ (lv_sub hl [0] rfl) hW hS hs hres
def fX6_skip_c0 (a : Nat) (h : HH) : Int32 × HH := if (bI (fX6_isOver a h)) = 0 then (if (fX6_nextCode a (-1) h) = (-1) then (fX6_skip_c22 a 0 h) else (fX6_skip_c17 a h)) else (fX6_skip_c17 a h)
def sX6_skip_c0 (a : Nat) (h : HH) : Prop := ((bI (fX6_isOver a h)) = 0 → ((sX6_nextCode a (-1) h) ∧ (((fX6_nextCode a (-1) h) = (-1) → (sX6_skip_c22 a 0 h)) ∧ (¬ ((fX6_nextCode a (-1) h) = (-1)) → (sX6_skip_c17 a h))))) ∧ (¬ ((bI (fX6_isOver a h)) = 0) → (sX6_skip_c17 a h))
set_option maxRecDepth 100000 in
set_option maxHeartbeats 4000000 in
theorem xX6_skip_c0 {p : Program} {l : Launch} {e : Env} {s : State} {m : MethodId} {args : Array Value} {below : List Frame} {meth : Method} {c : Code} {X : Cx} {a : Nat} (hO : IsMo X a) (C0 : CT p s m args meth c X cX6_skip 1 (some .int) RX6) (h : HH) (H : Heap) (locs : List Loc) (ls : Array Slot) (res : Int32 × HH) (hl : lv_has ls 1 [(0, .ref a)]) (hW : WH X h H) (hS : va_S (xA X) s.heap H locs) (hs : sX6_skip_c0 a h) (hres : fX6_skip_c0 a h = res) : W p l e rmX6_skip s m args below meth c H locs 0 0 (MQ below (QI X res.1 res.2) args s 0 0 (xA X)) (F0 m 0 ls []) := by
  obtain ⟨hx, hb, hr, hlk, hml, hown, hts, hK⟩ := id C0
  refine lv_aload_n hx hb dX6_skip_0 rfl (lv_at hl 0 rfl) ?_
  refine lv_aload_n hx hb dX6_skip_1 rfl (lv_at hl 0 rfl) ?_
  refine kV_i (As := []) (rest := [.ref a]) ⟨hx, hb, hml, hown, hts⟩ (kX6_isOver l X h a hO) (wX6_isOver hts q4_114 ⟨Nat.le_of_ble_eq_true rfl, Nat.le_of_ble_eq_true rfl⟩) hK hW hS (va_recv hK.1 (hW.one hO.1) (ci := 6) (q0 := 0) rfl rfl) rfl hl.1 rfl (Nat.le_of_ble_eq_true rfl) dX6_skip_2 ⟨Nat.zero_le _, Nat.zero_le _⟩ (fun H locs hW hS => ?_)
  refine lv_if_ne (tgt := 17) hx hb dX6_skip_5 (by decide) (fun c1 => ?_) (fun c1 => ?_)
  · have hres := (if_neg c1).symm.trans hres
    have hs := And.right hs c1
    exact xX6_skip_c17 hO C0 h _ _ _ _ (lv_sub hl [0] rfl) hW hS hs hres
  · have hres := (if_pos c1).symm.trans hres
    have hs := And.left hs c1
    refine lv_aload_n hx hb dX6_skip_8 rfl (lv_at hl 0 rfl) ?_
    refine lv_iconst (v := (-1)) hx hb dX6_skip_9 (by decide) ?_
    obtain ⟨hc6, hs⟩ := hs
    refine kV_i (As := [.int (-1)]) (rest := [.ref a]) ⟨hx, hb, hml, hown, hts⟩ (kX6_nextCode l X h a (-1) hO hc6) (wX6_nextCode hts q4_210 ⟨Nat.le_of_ble_eq_true rfl, Nat.le_of_ble_eq_true rfl⟩) hK hW hS (va_recv hK.1 (hW.one hO.1) (ci := 6) (q0 := 0) rfl rfl) rfl hl.1 rfl (Nat.le_of_ble_eq_true rfl) dX6_skip_10 ⟨Nat.zero_le _, Nat.zero_le _⟩ (fun H locs hW hS => ?_)
    refine lv_iconst (v := (-1)) hx hb dX6_skip_13 (by decide) ?_
    refine lv_icmp_eq (tgt := 21) hx hb dX6_skip_14 (by decide) (fun c7 => ?_) (fun c7 => ?_)
    · have hres := (if_pos c7).symm.trans hres
      have hs := And.left hs c7
      refine lv_iconst (v := 0) hx hb dX6_skip_21 (by decide) ?_
      exact xX6_skip_c22 hO C0 0 h _ _ _ _ (lv_sub hl [0] rfl) hW hS hs hres
    · have hres := (if_neg c7).symm.trans hres
      have hs := And.right hs c7
      exact xX6_skip_c17 hO C0 h _ _ _ _ (lv_sub hl [0] rfl) hW hS hs hres
def fX6_skip (a : Nat) (h : HH) : Int32 × HH := fX6_skip_c0 a h
def sX6_skip (a : Nat) (h : HH) : Prop := sX6_skip_c0 a h
set_option maxRecDepth 100000 in
set_option maxHeartbeats 4000000 in
theorem kX6_skip (l : Launch) (X : Cx) (h : HH) (a : Nat) (hO : IsMo X a) (hs : sX6_skip a h) : Met l yX6_skip vX6_skip rmX6_skip (va_Pc [.ref a] (fun U => WS X h U)) (QI X (fX6_skip a h).1 (fX6_skip a h).2) 0 0 (xA X) := by
  refine Met.ofW (cc := cX6_skip) (maxL := 1) (ret := some .int) (by decide) rfl ?_
  intro p e s m args below meth c s₁ B hml hv
  obtain ⟨rfl, hW, hK⟩ := hv
  have hl := lv_entry ([.ref a]) (n := 1) (Nat.le_of_ble_eq_true rfl)
  rw [lg_entry_eq]
  generalize (lg_sl ([.ref a]) ++ List.replicate (1 - (lg_sl ([.ref a])).length) Slot.unset).toArray = ls at hl ⊢
  have hl : lv_has ls 1 [(0, .ref a)] := hl
  exact xX6_skip_c0 hO ⟨B.exec, B.bytes, B.returns, B.notSynchronized, hml, findClass_of_methodNamed B.named, fun w hw => atoms_spec (ws := vX6_skip) B.pre w (List.mem_cons_of_mem _ hw), hK⟩ h _ _ ls _ (lv_sub hl [0] rfl) hW va_S.rf hs rfl
-- VillageBoardModel.laysLevel(I)V
abbrev rmX6_laysLevel : Room := ({ frames := 0, cells := 0, slots := 0, locals := 0 } : Room)
abbrev vX6_laysLevel : List Cond := Cond.code yX6_laysLevel cX6_laysLevel 3 none :: lwG
theorem wX6_laysLevel {R : Room} {s : State} {args : Array Value} {own : String} {idx : Nat} (hg : ∀ w ∈ lwG, w.before args s = true) (hl : Cond.methodLink own idx yX6_laysLevel ∈ lwG) (hR : rmX6_laysLevel.frames + 1 ≤ R.frames ∧ 8 + (3 + 11) + rmX6_laysLevel.locals ≤ R.locals) : CallW R s args own RX6 idx yX6_laysLevel cX6_laysLevel 3 none vX6_laysLevel rmX6_laysLevel 0 0 1 := cwV 1 hg (gV hl q4_228 q0_47 q1_7 q4_229) rfl rfl rfl (by decide +kernel) hR
def fX6_laysLevel_c2 (a : Nat) : Nat → Int32 → Int32 → HH → HH
  | 0, x1, x2, h => h
  | n + 1, x1, x2, h => if 85 ≤ x2 then h else ((fX6_laysLevel_c2 a n) x1 (x2 + 1) (hset h (a + 3) (((206 * x1) + x2).toNatClampNeg) (h (a + 1) x2.toNatClampNeg)))
def sX6_laysLevel_c2 (a : Nat) : Nat → Int32 → Int32 → HH → Prop
  | 0, _, _, _ => False
  | n + 1, x1, x2, h => (85 ≤ x2 → True) ∧ (¬ (85 ≤ x2) → ((vp_in x2 206) ∧ ((vp_in ((206 * x1) + x2) 824) ∧ ((sX6_laysLevel_c2 a n) x1 (x2 + 1) (hset h (a + 3) (((206 * x1) + x2).toNatClampNeg) (h (a + 1) x2.toNatClampNeg))))))
set_option maxRecDepth 100000 in
set_option maxHeartbeats 4000000 in
theorem xX6_laysLevel_c2 {p : Program} {l : Launch} {e : Env} {s : State} {m : MethodId} {args : Array Value} {below : List Frame} {meth : Method} {c : Code} {X : Cx} {a : Nat} (hO : IsMo X a) (C0 : CT p s m args meth c X cX6_laysLevel 3 none RX6) : ∀ (n : Nat) (x1 : Int32) (x2 : Int32) (h : HH) (H : Heap) (locs : List Loc) (ls : Array Slot) (res : HH) (hl : lv_has ls 3 [(0, .ref a), (1, .int x1), (2, .int x2)]) (hW : WH X h H) (hS : va_S (xA X) s.heap H locs) (hs : sX6_laysLevel_c2 a n x1 x2 h) (hres : fX6_laysLevel_c2 a n x1 x2 h = res), W p l e rmX6_laysLevel s m args below meth c H locs 0 0 (MQ below (QV X res) args s 0 0 (xA X)) (F0 m 2 ls []) := by
  obtain ⟨hx, hb, hr, hlk, hml, hown, hts, hK⟩ := id C0
  intro n
  induction n with
  | zero =>
    intro _ _ _ _ _ _ _ _ _ _ hs _
    exact hs.elim
  | succ n ih =>
    intro x1 x2 h H locs ls res hl hW hS hs hres
    refine lv_iload_n hx hb dX6_laysLevel_2 rfl (lv_at hl 2 rfl) ?_
    refine lv_bipush (v := 85) hx hb dX6_laysLevel_3 (by decide) ?_
    refine lv_icmp_ge (tgt := 32) hx hb dX6_laysLevel_5 (by decide) (fun c1 => ?_) (fun c1 => ?_)
    · have hres := (if_pos c1).symm.trans hres
      have hs := And.left hs c1
      subst hres
      exact kr_v hx hb hr hlk hK hW hS dX6_laysLevel_32
    · have hres := (if_neg c1).symm.trans hres
      have hs := And.right hs c1
      refine lv_aload_n hx hb dX6_laysLevel_8 rfl (lv_at hl 0 rfl) ?_
      refine g6_2 hx hb hts hown hK hW hO.1 (hts _ q4_51) dX6_laysLevel_9 ?_
      refine lv_sipush (v := 206) hx hb dX6_laysLevel_12 (by decide) ?_
      refine lv_iload_n hx hb dX6_laysLevel_15 rfl (lv_at hl 1 rfl) ?_
      refine lv_imul hx hb dX6_laysLevel_16 ?_
      refine lv_iload_n hx hb dX6_laysLevel_17 rfl (lv_at hl 2 rfl) ?_
      refine lv_iadd hx hb dX6_laysLevel_18 ?_
      refine lv_aload_n hx hb dX6_laysLevel_19 rfl (lv_at hl 0 rfl) ?_
      refine g6_0 hx hb hts hown hK hW hO.1 (hts _ q4_49) dX6_laysLevel_20 ?_
      refine lv_iload_n hx hb dX6_laysLevel_23 rfl (lv_at hl 2 rfl) ?_
      obtain ⟨hi2, hs⟩ := hs
      refine kb_iald hx hb hK hW hO.2.1 (k := x2.toNatClampNeg) rfl hi2 dX6_laysLevel_24 ?_
      obtain ⟨hi3, hs⟩ := hs
      refine kb_iast hx hb hK hW hS hO.2.2.2.1 (k := ((206 * x1) + x2).toNatClampNeg) rfl hi3 dX6_laysLevel_25 (fun H locs hW hS => ?_)
      refine lv_iinc (v := x2 + 1) (lv' := [(2, .int (x2 + 1)), (0, .ref a), (1, .int x1)]) hx hb dX6_laysLevel_26 hl (k := 2) rfl rfl (by decide) rfl (fun ls hl => ?_)
      refine lv_goto (tgt := 2) hx hb dX6_laysLevel_29 (by decide) ?_
      exact ih x1 (x2 + 1) (hset h (a + 3) (((206 * x1) + x2).toNatClampNeg) (h (a + 1) x2.toNatClampNeg)) _ _ _ _ (lv_sub hl [1, 2, 0] rfl) hW hS hs hres
def fX6_laysLevel_c0 (a : Nat) (x1 : Int32) (h : HH) : HH := fX6_laysLevel_c2 a 86 x1 0 h
def sX6_laysLevel_c0 (a : Nat) (x1 : Int32) (h : HH) : Prop := sX6_laysLevel_c2 a 86 x1 0 h
set_option maxRecDepth 100000 in
set_option maxHeartbeats 4000000 in
theorem xX6_laysLevel_c0 {p : Program} {l : Launch} {e : Env} {s : State} {m : MethodId} {args : Array Value} {below : List Frame} {meth : Method} {c : Code} {X : Cx} {a : Nat} (hO : IsMo X a) (C0 : CT p s m args meth c X cX6_laysLevel 3 none RX6) (x1 : Int32) (h : HH) (H : Heap) (locs : List Loc) (ls : Array Slot) (res : HH) (hl : lv_has ls 3 [(0, .ref a), (1, .int x1)]) (hW : WH X h H) (hS : va_S (xA X) s.heap H locs) (hs : sX6_laysLevel_c0 a x1 h) (hres : fX6_laysLevel_c0 a x1 h = res) : W p l e rmX6_laysLevel s m args below meth c H locs 0 0 (MQ below (QV X res) args s 0 0 (xA X)) (F0 m 0 ls []) := by
  obtain ⟨hx, hb, hr, hlk, hml, hown, hts, hK⟩ := id C0
  refine lv_iconst (v := 0) hx hb dX6_laysLevel_0 (by decide) ?_
  refine lv_istore_n (lv' := [(2, .int 0), (0, .ref a), (1, .int x1)]) hx hb dX6_laysLevel_1 rfl hl (by decide) rfl (fun ls hl => ?_)
  exact xX6_laysLevel_c2 hO C0 86 x1 0 h _ _ _ _ (lv_sub hl [1, 2, 0] rfl) hW hS hs hres
def fX6_laysLevel (a : Nat) (x1 : Int32) (h : HH) : HH := fX6_laysLevel_c0 a x1 h
def sX6_laysLevel (a : Nat) (x1 : Int32) (h : HH) : Prop := sX6_laysLevel_c0 a x1 h
set_option maxRecDepth 100000 in
set_option maxHeartbeats 4000000 in
theorem kX6_laysLevel (l : Launch) (X : Cx) (h : HH) (a : Nat) (x1 : Int32) (hO : IsMo X a) (hs : sX6_laysLevel a x1 h) : Met l yX6_laysLevel vX6_laysLevel rmX6_laysLevel (va_Pc [.ref a, .int x1] (fun U => WS X h U)) (QV X (fX6_laysLevel a x1 h)) 0 0 (xA X) := by
  refine Met.ofW (cc := cX6_laysLevel) (maxL := 3) (ret := none) (by decide) rfl ?_
  intro p e s m args below meth c s₁ B hml hv
  obtain ⟨rfl, hW, hK⟩ := hv
  have hl := lv_entry ([.ref a, .int x1]) (n := 3) (Nat.le_of_ble_eq_true rfl)
  rw [lg_entry_eq]
  generalize (lg_sl ([.ref a, .int x1]) ++ List.replicate (3 - (lg_sl ([.ref a, .int x1])).length) Slot.unset).toArray = ls at hl ⊢
  have hl : lv_has ls 3 [(0, .ref a), (1, .int x1)] := hl
  exact xX6_laysLevel_c0 hO ⟨B.exec, B.bytes, B.returns, B.notSynchronized, hml, findClass_of_methodNamed B.named, fun w hw => atoms_spec (ws := vX6_laysLevel) B.pre w (List.mem_cons_of_mem _ hw), hK⟩ x1 h _ _ ls _ (lv_sub hl [0, 1] rfl) hW va_S.rf hs rfl
-- VillageBoardModel.takesLevel(I)V
abbrev rmX6_takesLevel : Room := ({ frames := 0, cells := 0, slots := 0, locals := 0 } : Room)
abbrev vX6_takesLevel : List Cond := Cond.code yX6_takesLevel cX6_takesLevel 3 none :: lwG
theorem wX6_takesLevel {R : Room} {s : State} {args : Array Value} {own : String} {idx : Nat} (hg : ∀ w ∈ lwG, w.before args s = true) (hl : Cond.methodLink own idx yX6_takesLevel ∈ lwG) (hR : rmX6_takesLevel.frames + 1 ≤ R.frames ∧ 8 + (3 + 11) + rmX6_takesLevel.locals ≤ R.locals) : CallW R s args own RX6 idx yX6_takesLevel cX6_takesLevel 3 none vX6_takesLevel rmX6_takesLevel 0 0 1 := cwV 1 hg (gV hl q4_232 q0_48 q1_7 q4_233) rfl rfl rfl (by decide +kernel) hR
def fX6_takesLevel_c2 (a : Nat) : Nat → Int32 → Int32 → HH → HH
  | 0, x1, x2, h => h
  | n + 1, x1, x2, h => if 85 ≤ x2 then h else ((fX6_takesLevel_c2 a n) x1 (x2 + 1) (hset h (a + 1) x2.toNatClampNeg (h (a + 3) (((206 * x1) + x2).toNatClampNeg))))
def sX6_takesLevel_c2 (a : Nat) : Nat → Int32 → Int32 → HH → Prop
  | 0, _, _, _ => False
  | n + 1, x1, x2, h => (85 ≤ x2 → True) ∧ (¬ (85 ≤ x2) → ((vp_in ((206 * x1) + x2) 824) ∧ ((vp_in x2 206) ∧ ((sX6_takesLevel_c2 a n) x1 (x2 + 1) (hset h (a + 1) x2.toNatClampNeg (h (a + 3) (((206 * x1) + x2).toNatClampNeg)))))))
set_option maxRecDepth 100000 in
set_option maxHeartbeats 4000000 in
theorem xX6_takesLevel_c2 {p : Program} {l : Launch} {e : Env} {s : State} {m : MethodId} {args : Array Value} {below : List Frame} {meth : Method} {c : Code} {X : Cx} {a : Nat} (hO : IsMo X a) (C0 : CT p s m args meth c X cX6_takesLevel 3 none RX6) : ∀ (n : Nat) (x1 : Int32) (x2 : Int32) (h : HH) (H : Heap) (locs : List Loc) (ls : Array Slot) (res : HH) (hl : lv_has ls 3 [(0, .ref a), (1, .int x1), (2, .int x2)]) (hW : WH X h H) (hS : va_S (xA X) s.heap H locs) (hs : sX6_takesLevel_c2 a n x1 x2 h) (hres : fX6_takesLevel_c2 a n x1 x2 h = res), W p l e rmX6_takesLevel s m args below meth c H locs 0 0 (MQ below (QV X res) args s 0 0 (xA X)) (F0 m 2 ls []) := by
  obtain ⟨hx, hb, hr, hlk, hml, hown, hts, hK⟩ := id C0
  intro n
  induction n with
  | zero =>
    intro _ _ _ _ _ _ _ _ _ _ hs _
    exact hs.elim
  | succ n ih =>
    intro x1 x2 h H locs ls res hl hW hS hs hres
    refine lv_iload_n hx hb dX6_takesLevel_2 rfl (lv_at hl 2 rfl) ?_
    refine lv_bipush (v := 85) hx hb dX6_takesLevel_3 (by decide) ?_
    refine lv_icmp_ge (tgt := 32) hx hb dX6_takesLevel_5 (by decide) (fun c1 => ?_) (fun c1 => ?_)
    · have hres := (if_pos c1).symm.trans hres
      have hs := And.left hs c1
      subst hres
      exact kr_v hx hb hr hlk hK hW hS dX6_takesLevel_32
    · have hres := (if_neg c1).symm.trans hres
      have hs := And.right hs c1
      refine lv_aload_n hx hb dX6_takesLevel_8 rfl (lv_at hl 0 rfl) ?_
      refine g6_0 hx hb hts hown hK hW hO.1 (hts _ q4_49) dX6_takesLevel_9 ?_
      refine lv_iload_n hx hb dX6_takesLevel_12 rfl (lv_at hl 2 rfl) ?_
      refine lv_aload_n hx hb dX6_takesLevel_13 rfl (lv_at hl 0 rfl) ?_
      refine g6_2 hx hb hts hown hK hW hO.1 (hts _ q4_51) dX6_takesLevel_14 ?_
      refine lv_sipush (v := 206) hx hb dX6_takesLevel_17 (by decide) ?_
      refine lv_iload_n hx hb dX6_takesLevel_20 rfl (lv_at hl 1 rfl) ?_
      refine lv_imul hx hb dX6_takesLevel_21 ?_
      refine lv_iload_n hx hb dX6_takesLevel_22 rfl (lv_at hl 2 rfl) ?_
      refine lv_iadd hx hb dX6_takesLevel_23 ?_
      obtain ⟨hi2, hs⟩ := hs
      refine kb_iald hx hb hK hW hO.2.2.2.1 (k := ((206 * x1) + x2).toNatClampNeg) rfl hi2 dX6_takesLevel_24 ?_
      obtain ⟨hi3, hs⟩ := hs
      refine kb_iast hx hb hK hW hS hO.2.1 (k := x2.toNatClampNeg) rfl hi3 dX6_takesLevel_25 (fun H locs hW hS => ?_)
      refine lv_iinc (v := x2 + 1) (lv' := [(2, .int (x2 + 1)), (0, .ref a), (1, .int x1)]) hx hb dX6_takesLevel_26 hl (k := 2) rfl rfl (by decide) rfl (fun ls hl => ?_)
      refine lv_goto (tgt := 2) hx hb dX6_takesLevel_29 (by decide) ?_
      exact ih x1 (x2 + 1) (hset h (a + 1) x2.toNatClampNeg (h (a + 3) (((206 * x1) + x2).toNatClampNeg))) _ _ _ _ (lv_sub hl [1, 2, 0] rfl) hW hS hs hres
def fX6_takesLevel_c0 (a : Nat) (x1 : Int32) (h : HH) : HH := fX6_takesLevel_c2 a 86 x1 0 h
def sX6_takesLevel_c0 (a : Nat) (x1 : Int32) (h : HH) : Prop := sX6_takesLevel_c2 a 86 x1 0 h
set_option maxRecDepth 100000 in
set_option maxHeartbeats 4000000 in
theorem xX6_takesLevel_c0 {p : Program} {l : Launch} {e : Env} {s : State} {m : MethodId} {args : Array Value} {below : List Frame} {meth : Method} {c : Code} {X : Cx} {a : Nat} (hO : IsMo X a) (C0 : CT p s m args meth c X cX6_takesLevel 3 none RX6) (x1 : Int32) (h : HH) (H : Heap) (locs : List Loc) (ls : Array Slot) (res : HH) (hl : lv_has ls 3 [(0, .ref a), (1, .int x1)]) (hW : WH X h H) (hS : va_S (xA X) s.heap H locs) (hs : sX6_takesLevel_c0 a x1 h) (hres : fX6_takesLevel_c0 a x1 h = res) : W p l e rmX6_takesLevel s m args below meth c H locs 0 0 (MQ below (QV X res) args s 0 0 (xA X)) (F0 m 0 ls []) := by
  obtain ⟨hx, hb, hr, hlk, hml, hown, hts, hK⟩ := id C0
  refine lv_iconst (v := 0) hx hb dX6_takesLevel_0 (by decide) ?_
  refine lv_istore_n (lv' := [(2, .int 0), (0, .ref a), (1, .int x1)]) hx hb dX6_takesLevel_1 rfl hl (by decide) rfl (fun ls hl => ?_)
  exact xX6_takesLevel_c2 hO C0 86 x1 0 h _ _ _ _ (lv_sub hl [1, 2, 0] rfl) hW hS hs hres
def fX6_takesLevel (a : Nat) (x1 : Int32) (h : HH) : HH := fX6_takesLevel_c0 a x1 h
def sX6_takesLevel (a : Nat) (x1 : Int32) (h : HH) : Prop := sX6_takesLevel_c0 a x1 h
set_option maxRecDepth 100000 in
set_option maxHeartbeats 4000000 in
theorem kX6_takesLevel (l : Launch) (X : Cx) (h : HH) (a : Nat) (x1 : Int32) (hO : IsMo X a) (hs : sX6_takesLevel a x1 h) : Met l yX6_takesLevel vX6_takesLevel rmX6_takesLevel (va_Pc [.ref a, .int x1] (fun U => WS X h U)) (QV X (fX6_takesLevel a x1 h)) 0 0 (xA X) := by
  refine Met.ofW (cc := cX6_takesLevel) (maxL := 3) (ret := none) (by decide) rfl ?_
  intro p e s m args below meth c s₁ B hml hv
  obtain ⟨rfl, hW, hK⟩ := hv
  have hl := lv_entry ([.ref a, .int x1]) (n := 3) (Nat.le_of_ble_eq_true rfl)
  rw [lg_entry_eq]
  generalize (lg_sl ([.ref a, .int x1]) ++ List.replicate (3 - (lg_sl ([.ref a, .int x1])).length) Slot.unset).toArray = ls at hl ⊢
  have hl : lv_has ls 3 [(0, .ref a), (1, .int x1)] := hl
  exact xX6_takesLevel_c0 hO ⟨B.exec, B.bytes, B.returns, B.notSynchronized, hml, findClass_of_methodNamed B.named, fun w hw => atoms_spec (ws := vX6_takesLevel) B.pre w (List.mem_cons_of_mem _ hw), hK⟩ x1 h _ _ ls _ (lv_sub hl [0, 1] rfl) hW va_S.rf hs rfl
-- VillageBoardModel.allOf(I)I
abbrev rmX6_allOf : Room := ({ frames := 4, cells := 0, slots := 0, locals := 89 } : Room)
abbrev vX6_allOf : List Cond := Cond.code yX6_allOf cX6_allOf 2 (some .int) :: lwG
theorem wX6_allOf {R : Room} {s : State} {args : Array Value} {own : String} {idx : Nat} (hg : ∀ w ∈ lwG, w.before args s = true) (hl : Cond.methodLink own idx yX6_allOf ∈ lwG) (hR : rmX6_allOf.frames + 1 ≤ R.frames ∧ 8 + (2 + 11) + rmX6_allOf.locals ≤ R.locals) : CallW R s args own RX6 idx yX6_allOf cX6_allOf 2 (some .int) vX6_allOf rmX6_allOf 0 0 1 := cwV 1 hg (gV hl q5_0 q0_50 q1_7 q5_1) rfl rfl rfl (by decide +kernel) hR
def fX6_allOf_c0 (a : Nat) (x1 : Int32) (h : HH) : Int32 := (((((fX6_scoreOf a x1 0 h) + (fX6_scoreOf a x1 1 h)) + (fX6_scoreOf a x1 2 h)) + (fX6_scoreOf a x1 3 h)) + (fX6_scoreOf a x1 4 h)) + (fX6_scoreOf a x1 5 h)
def sX6_allOf_c0 (a : Nat) (x1 : Int32) (h : HH) : Prop := (sX6_scoreOf a x1 0 h) ∧ ((sX6_scoreOf a x1 1 h) ∧ ((sX6_scoreOf a x1 2 h) ∧ ((sX6_scoreOf a x1 3 h) ∧ ((sX6_scoreOf a x1 4 h) ∧ (sX6_scoreOf a x1 5 h)))))
set_option maxRecDepth 100000 in
set_option maxHeartbeats 4000000 in
theorem xX6_allOf_c0 {p : Program} {l : Launch} {e : Env} {s : State} {m : MethodId} {args : Array Value} {below : List Frame} {meth : Method} {c : Code} {X : Cx} {a : Nat} (hO : IsMo X a) (C0 : CT p s m args meth c X cX6_allOf 2 (some .int) RX6) (x1 : Int32) (h : HH) (H : Heap) (locs : List Loc) (ls : Array Slot) (res : Int32) (hl : lv_has ls 2 [(0, .ref a), (1, .int x1)]) (hW : WH X h H) (hS : va_S (xA X) s.heap H locs) (hs : sX6_allOf_c0 a x1 h) (hres : fX6_allOf_c0 a x1 h = res) : W p l e rmX6_allOf s m args below meth c H locs 0 0 (MQ below (QI X res h) args s 0 0 (xA X)) (F0 m 0 ls []) := by
  obtain ⟨hx, hb, hr, hlk, hml, hown, hts, hK⟩ := id C0
  refine lv_aload_n hx hb dX6_allOf_0 rfl (lv_at hl 0 rfl) ?_
  refine lv_iload_n hx hb dX6_allOf_1 rfl (lv_at hl 1 rfl) ?_
  refine lv_iconst (v := 0) hx hb dX6_allOf_2 (by decide) ?_
  obtain ⟨hc1, hs⟩ := hs
  refine kV_i (As := [.int x1, .int 0]) (rest := []) ⟨hx, hb, hml, hown, hts⟩ (kX6_scoreOf l X h a x1 0 hO hc1) (wX6_scoreOf hts q5_2 ⟨Nat.le_of_ble_eq_true rfl, Nat.le_of_ble_eq_true rfl⟩) hK hW hS (va_recv hK.1 (hW.one hO.1) (ci := 6) (q0 := 0) rfl rfl) rfl hl.1 rfl (Nat.le_of_ble_eq_true rfl) dX6_allOf_3 ⟨Nat.zero_le _, Nat.zero_le _⟩ (fun H locs hW hS => ?_)
  refine lv_aload_n hx hb dX6_allOf_6 rfl (lv_at hl 0 rfl) ?_
  refine lv_iload_n hx hb dX6_allOf_7 rfl (lv_at hl 1 rfl) ?_
  refine lv_iconst (v := 1) hx hb dX6_allOf_8 (by decide) ?_
  obtain ⟨hc2, hs⟩ := hs
  refine kV_i (As := [.int x1, .int 1]) (rest := [.int (fX6_scoreOf a x1 0 h)]) ⟨hx, hb, hml, hown, hts⟩ (kX6_scoreOf l X h a x1 1 hO hc2) (wX6_scoreOf hts q5_2 ⟨Nat.le_of_ble_eq_true rfl, Nat.le_of_ble_eq_true rfl⟩) hK hW hS (va_recv hK.1 (hW.one hO.1) (ci := 6) (q0 := 0) rfl rfl) rfl hl.1 rfl (Nat.le_of_ble_eq_true rfl) dX6_allOf_9 ⟨Nat.zero_le _, Nat.zero_le _⟩ (fun H locs hW hS => ?_)
  refine lv_iadd hx hb dX6_allOf_12 ?_
  refine lv_aload_n hx hb dX6_allOf_13 rfl (lv_at hl 0 rfl) ?_
  refine lv_iload_n hx hb dX6_allOf_14 rfl (lv_at hl 1 rfl) ?_
  refine lv_iconst (v := 2) hx hb dX6_allOf_15 (by decide) ?_
  obtain ⟨hc3, hs⟩ := hs
  refine kV_i (As := [.int x1, .int 2]) (rest := [.int ((fX6_scoreOf a x1 0 h) + (fX6_scoreOf a x1 1 h))]) ⟨hx, hb, hml, hown, hts⟩ (kX6_scoreOf l X h a x1 2 hO hc3) (wX6_scoreOf hts q5_2 ⟨Nat.le_of_ble_eq_true rfl, Nat.le_of_ble_eq_true rfl⟩) hK hW hS (va_recv hK.1 (hW.one hO.1) (ci := 6) (q0 := 0) rfl rfl) rfl hl.1 rfl (Nat.le_of_ble_eq_true rfl) dX6_allOf_16 ⟨Nat.zero_le _, Nat.zero_le _⟩ (fun H locs hW hS => ?_)
  refine lv_iadd hx hb dX6_allOf_19 ?_
  refine lv_aload_n hx hb dX6_allOf_20 rfl (lv_at hl 0 rfl) ?_
  refine lv_iload_n hx hb dX6_allOf_21 rfl (lv_at hl 1 rfl) ?_
  refine lv_iconst (v := 3) hx hb dX6_allOf_22 (by decide) ?_
  obtain ⟨hc4, hs⟩ := hs
  refine kV_i (As := [.int x1, .int 3]) (rest := [.int (((fX6_scoreOf a x1 0 h) + (fX6_scoreOf a x1 1 h)) + (fX6_scoreOf a x1 2 h))]) ⟨hx, hb, hml, hown, hts⟩ (kX6_scoreOf l X h a x1 3 hO hc4) (wX6_scoreOf hts q5_2 ⟨Nat.le_of_ble_eq_true rfl, Nat.le_of_ble_eq_true rfl⟩) hK hW hS (va_recv hK.1 (hW.one hO.1) (ci := 6) (q0 := 0) rfl rfl) rfl hl.1 rfl (Nat.le_of_ble_eq_true rfl) dX6_allOf_23 ⟨Nat.zero_le _, Nat.zero_le _⟩ (fun H locs hW hS => ?_)
  refine lv_iadd hx hb dX6_allOf_26 ?_
  refine lv_aload_n hx hb dX6_allOf_27 rfl (lv_at hl 0 rfl) ?_
  refine lv_iload_n hx hb dX6_allOf_28 rfl (lv_at hl 1 rfl) ?_
  refine lv_iconst (v := 4) hx hb dX6_allOf_29 (by decide) ?_
  obtain ⟨hc5, hs⟩ := hs
  refine kV_i (As := [.int x1, .int 4]) (rest := [.int ((((fX6_scoreOf a x1 0 h) + (fX6_scoreOf a x1 1 h)) + (fX6_scoreOf a x1 2 h)) + (fX6_scoreOf a x1 3 h))]) ⟨hx, hb, hml, hown, hts⟩ (kX6_scoreOf l X h a x1 4 hO hc5) (wX6_scoreOf hts q5_2 ⟨Nat.le_of_ble_eq_true rfl, Nat.le_of_ble_eq_true rfl⟩) hK hW hS (va_recv hK.1 (hW.one hO.1) (ci := 6) (q0 := 0) rfl rfl) rfl hl.1 rfl (Nat.le_of_ble_eq_true rfl) dX6_allOf_30 ⟨Nat.zero_le _, Nat.zero_le _⟩ (fun H locs hW hS => ?_)
  refine lv_iadd hx hb dX6_allOf_33 ?_
  refine lv_aload_n hx hb dX6_allOf_34 rfl (lv_at hl 0 rfl) ?_
  refine lv_iload_n hx hb dX6_allOf_35 rfl (lv_at hl 1 rfl) ?_
  refine lv_iconst (v := 5) hx hb dX6_allOf_36 (by decide) ?_
  have hc6 := hs
  refine kV_i (As := [.int x1, .int 5]) (rest := [.int (((((fX6_scoreOf a x1 0 h) + (fX6_scoreOf a x1 1 h)) + (fX6_scoreOf a x1 2 h)) + (fX6_scoreOf a x1 3 h)) + (fX6_scoreOf a x1 4 h))]) ⟨hx, hb, hml, hown, hts⟩ (kX6_scoreOf l X h a x1 5 hO hc6) (wX6_scoreOf hts q5_2 ⟨Nat.le_of_ble_eq_true rfl, Nat.le_of_ble_eq_true rfl⟩) hK hW hS (va_recv hK.1 (hW.one hO.1) (ci := 6) (q0 := 0) rfl rfl) rfl hl.1 rfl (Nat.le_of_ble_eq_true rfl) dX6_allOf_37 ⟨Nat.zero_le _, Nat.zero_le _⟩ (fun H locs hW hS => ?_)
  refine lv_iadd hx hb dX6_allOf_40 ?_
  subst hres
  exact kr_i hx hb hr hlk hK hW hS dX6_allOf_41
def fX6_allOf (a : Nat) (x1 : Int32) (h : HH) : Int32 := fX6_allOf_c0 a x1 h
def sX6_allOf (a : Nat) (x1 : Int32) (h : HH) : Prop := sX6_allOf_c0 a x1 h
set_option maxRecDepth 100000 in
set_option maxHeartbeats 4000000 in
theorem kX6_allOf (l : Launch) (X : Cx) (h : HH) (a : Nat) (x1 : Int32) (hO : IsMo X a) (hs : sX6_allOf a x1 h) : Met l yX6_allOf vX6_allOf rmX6_allOf (va_Pc [.ref a, .int x1] (fun U => WS X h U)) (QI X (fX6_allOf a x1 h) h) 0 0 (xA X) := by
  refine Met.ofW (cc := cX6_allOf) (maxL := 2) (ret := some .int) (by decide) rfl ?_
  intro p e s m args below meth c s₁ B hml hv
  obtain ⟨rfl, hW, hK⟩ := hv
  have hl := lv_entry ([.ref a, .int x1]) (n := 2) (Nat.le_of_ble_eq_true rfl)
  rw [lg_entry_eq]
  generalize (lg_sl ([.ref a, .int x1]) ++ List.replicate (2 - (lg_sl ([.ref a, .int x1])).length) Slot.unset).toArray = ls at hl ⊢
  have hl : lv_has ls 2 [(0, .ref a), (1, .int x1)] := hl
  exact xX6_allOf_c0 hO ⟨B.exec, B.bytes, B.returns, B.notSynchronized, hml, findClass_of_methodNamed B.named, fun w hw => atoms_spec (ws := vX6_allOf) B.pre w (List.mem_cons_of_mem _ hw), hK⟩ x1 h _ _ ls _ (lv_sub hl [0, 1] rfl) hW va_S.rf hs rfl
-- VillageBoardModel.weighs(I)V
abbrev rmX6_weighs : Room := ({ frames := 7, cells := 0, slots := 0, locals := 156 } : Room)
abbrev vX6_weighs : List Cond := Cond.code yX6_weighs cX6_weighs 4 none :: lwG
theorem wX6_weighs {R : Room} {s : State} {args : Array Value} {own : String} {idx : Nat} (hg : ∀ w ∈ lwG, w.before args s = true) (hl : Cond.methodLink own idx yX6_weighs ∈ lwG) (hR : rmX6_weighs.frames + 1 ≤ R.frames ∧ 8 + (4 + 11) + rmX6_weighs.locals ≤ R.locals) : CallW R s args own RX6 idx yX6_weighs cX6_weighs 4 none vX6_weighs rmX6_weighs 0 0 1 := cwV 1 hg (gV hl q4_236 q0_49 q1_7 q4_237) rfl rfl rfl (by decide +kernel) hR
def fX6_weighs_c48 (a : Nat) : Nat → Int32 → Int32 → HH → HH
  | 0, x1, x3, h => h
  | n + 1, x1, x3, h => if x1 ≤ x3 then h else ((fX6_weighs_c48 a n) x1 (x3 + 1) (hset h (a + 5) x3.toNatClampNeg (h (a + 4) x3.toNatClampNeg)))
def sX6_weighs_c48 (a : Nat) : Nat → Int32 → Int32 → HH → Prop
  | 0, _, _, _ => False
  | n + 1, x1, x3, h => (x1 ≤ x3 → True) ∧ (¬ (x1 ≤ x3) → ((vp_in x3 4) ∧ ((vp_in x3 4) ∧ ((sX6_weighs_c48 a n) x1 (x3 + 1) (hset h (a + 5) x3.toNatClampNeg (h (a + 4) x3.toNatClampNeg))))))
set_option maxRecDepth 100000 in
set_option maxHeartbeats 4000000 in
theorem xX6_weighs_c48 {p : Program} {l : Launch} {e : Env} {s : State} {m : MethodId} {args : Array Value} {below : List Frame} {meth : Method} {c : Code} {X : Cx} {a : Nat} (hO : IsMo X a) (C0 : CT p s m args meth c X cX6_weighs 4 none RX6) : ∀ (n : Nat) (x1 : Int32) (x3 : Int32) (h : HH) (H : Heap) (locs : List Loc) (ls : Array Slot) (res : HH) (hl : lv_has ls 4 [(0, .ref a), (1, .int x1), (3, .int x3)]) (hW : WH X h H) (hS : va_S (xA X) s.heap H locs) (hs : sX6_weighs_c48 a n x1 x3 h) (hres : fX6_weighs_c48 a n x1 x3 h = res), W p l e rmX6_weighs s m args below meth c H locs 0 0 (MQ below (QV X res) args s 0 0 (xA X)) (F0 m 48 ls []) := by
  obtain ⟨hx, hb, hr, hlk, hml, hown, hts, hK⟩ := id C0
  intro n
  induction n with
  | zero =>
    intro _ _ _ _ _ _ _ _ _ _ hs _
    exact hs.elim
  | succ n ih =>
    intro x1 x3 h H locs ls res hl hW hS hs hres
    refine lv_iload_n hx hb dX6_weighs_48 rfl (lv_at hl 2 rfl) ?_
    refine lv_iload_n hx hb dX6_weighs_49 rfl (lv_at hl 1 rfl) ?_
    refine lv_icmp_ge (tgt := 71) hx hb dX6_weighs_50 (by decide) (fun c5 => ?_) (fun c5 => ?_)
    · have hres := (if_pos c5).symm.trans hres
      have hs := And.left hs c5
      subst hres
      exact kr_v hx hb hr hlk hK hW hS dX6_weighs_71
    · have hres := (if_neg c5).symm.trans hres
      have hs := And.right hs c5
      refine lv_aload_n hx hb dX6_weighs_53 rfl (lv_at hl 0 rfl) ?_
      refine g6_6 hx hb hts hown hK hW hO.1 (hts _ q4_55) dX6_weighs_54 ?_
      refine lv_iload_n hx hb dX6_weighs_57 rfl (lv_at hl 2 rfl) ?_
      refine lv_aload_n hx hb dX6_weighs_58 rfl (lv_at hl 0 rfl) ?_
      refine g6_5 hx hb hts hown hK hW hO.1 (hts _ q4_54) dX6_weighs_59 ?_
      refine lv_iload_n hx hb dX6_weighs_62 rfl (lv_at hl 2 rfl) ?_
      obtain ⟨hi6, hs⟩ := hs
      refine kb_iald hx hb hK hW hO.2.2.2.2.1 (k := x3.toNatClampNeg) rfl hi6 dX6_weighs_63 ?_
      obtain ⟨hi7, hs⟩ := hs
      refine kb_iast hx hb hK hW hS hO.2.2.2.2.2 (k := x3.toNatClampNeg) rfl hi7 dX6_weighs_64 (fun H locs hW hS => ?_)
      refine lv_iinc (v := x3 + 1) (lv' := [(3, .int (x3 + 1)), (0, .ref a), (1, .int x1)]) hx hb dX6_weighs_65 hl (k := 2) rfl rfl (by decide) rfl (fun ls hl => ?_)
      refine lv_goto (tgt := 48) hx hb dX6_weighs_68 (by decide) ?_
      exact ih x1 (x3 + 1) (hset h (a + 5) x3.toNatClampNeg (h (a + 4) x3.toNatClampNeg)) _ _ _ _ (lv_sub hl [1, 2, 0] rfl) hW hS hs hres
def fX6_weighs_c36 (a : Nat) (x1 : Int32) (x2 : Int32) (h : HH) : HH := fX6_weighs_c48 a 5 x1 0 (hset (hset h a 7 x1) a 8 x2)
def sX6_weighs_c36 (a : Nat) (x1 : Int32) (x2 : Int32) (h : HH) : Prop := sX6_weighs_c48 a 5 x1 0 (hset (hset h a 7 x1) a 8 x2)
set_option maxRecDepth 100000 in
set_option maxHeartbeats 4000000 in
theorem xX6_weighs_c36 {p : Program} {l : Launch} {e : Env} {s : State} {m : MethodId} {args : Array Value} {below : List Frame} {meth : Method} {c : Code} {X : Cx} {a : Nat} (hO : IsMo X a) (C0 : CT p s m args meth c X cX6_weighs 4 none RX6) (x1 : Int32) (x2 : Int32) (h : HH) (H : Heap) (locs : List Loc) (ls : Array Slot) (res : HH) (hl : lv_has ls 4 [(0, .ref a), (1, .int x1), (2, .int x2)]) (hW : WH X h H) (hS : va_S (xA X) s.heap H locs) (hs : sX6_weighs_c36 a x1 x2 h) (hres : fX6_weighs_c36 a x1 x2 h = res) : W p l e rmX6_weighs s m args below meth c H locs 0 0 (MQ below (QV X res) args s 0 0 (xA X)) (F0 m 36 ls []) := by
  obtain ⟨hx, hb, hr, hlk, hml, hown, hts, hK⟩ := id C0
  refine lv_aload_n hx hb dX6_weighs_36 rfl (lv_at hl 0 rfl) ?_
  refine lv_iload_n hx hb dX6_weighs_37 rfl (lv_at hl 1 rfl) ?_
  refine p6_7 hx hb hts hown hK hW hS hO.1 (hts _ q4_56) dX6_weighs_38 (fun H locs hW hS => ?_)
  refine lv_aload_n hx hb dX6_weighs_41 rfl (lv_at hl 0 rfl) ?_
  refine lv_iload_n hx hb dX6_weighs_42 rfl (lv_at hl 2 rfl) ?_
  refine p6_8 hx hb hts hown hK hW hS hO.1 (hts _ q4_57) dX6_weighs_43 (fun H locs hW hS => ?_)
  refine lv_iconst (v := 0) hx hb dX6_weighs_46 (by decide) ?_
  refine lv_istore_n (lv' := [(3, .int 0), (0, .ref a), (1, .int x1), (2, .int x2)]) hx hb dX6_weighs_47 rfl hl (by decide) rfl (fun ls hl => ?_)
  exact xX6_weighs_c48 hO C0 5 x1 0 (hset (hset h a 7 x1) a 8 x2) _ _ _ _ (lv_sub hl [1, 2, 0] rfl) hW hS hs hres
def fX6_weighs_c16 (a : Nat) (x1 : Int32) (xs0 : Int32) (h : HH) : HH := if (h a 7) = 0 then (fX6_weighs_c36 a x1 (fX6_allOf a (h (a + 1) xs0.toNatClampNeg) h) h) else (if (fX6_allOf a (h (a + 1) xs0.toNatClampNeg) h) ≤ (h a 8) then h else (fX6_weighs_c36 a x1 (fX6_allOf a (h (a + 1) xs0.toNatClampNeg) h) h))
def sX6_weighs_c16 (a : Nat) (x1 : Int32) (xs0 : Int32) (h : HH) : Prop := (vp_in xs0 206) ∧ ((sX6_allOf a (h (a + 1) xs0.toNatClampNeg) h) ∧ (((h a 7) = 0 → (sX6_weighs_c36 a x1 (fX6_allOf a (h (a + 1) xs0.toNatClampNeg) h) h)) ∧ (¬ ((h a 7) = 0) → (((fX6_allOf a (h (a + 1) xs0.toNatClampNeg) h) ≤ (h a 8) → True) ∧ (¬ ((fX6_allOf a (h (a + 1) xs0.toNatClampNeg) h) ≤ (h a 8)) → (sX6_weighs_c36 a x1 (fX6_allOf a (h (a + 1) xs0.toNatClampNeg) h) h))))))
set_option maxRecDepth 100000 in
set_option maxHeartbeats 4000000 in
theorem xX6_weighs_c16 {p : Program} {l : Launch} {e : Env} {s : State} {m : MethodId} {args : Array Value} {below : List Frame} {meth : Method} {c : Code} {X : Cx} {a : Nat} (hO : IsMo X a) (C0 : CT p s m args meth c X cX6_weighs 4 none RX6) (x1 : Int32) (xs0 : Int32) (h : HH) (H : Heap) (locs : List Loc) (ls : Array Slot) (res : HH) (hl : lv_has ls 4 [(0, .ref a), (1, .int x1)]) (hW : WH X h H) (hS : va_S (xA X) s.heap H locs) (hs : sX6_weighs_c16 a x1 xs0 h) (hres : fX6_weighs_c16 a x1 xs0 h = res) : W p l e rmX6_weighs s m args below meth c H locs 0 0 (MQ below (QV X res) args s 0 0 (xA X)) (F0 m 16 ls [.int xs0, .ref (a + 1), .ref a]) := by
  obtain ⟨hx, hb, hr, hlk, hml, hown, hts, hK⟩ := id C0
  obtain ⟨hi2, hs⟩ := hs
  refine kb_iald hx hb hK hW hO.2.1 (k := xs0.toNatClampNeg) rfl hi2 dX6_weighs_16 ?_
  obtain ⟨hc3, hs⟩ := hs
  refine kV_i (As := [.int (h (a + 1) xs0.toNatClampNeg)]) (rest := []) ⟨hx, hb, hml, hown, hts⟩ (kX6_allOf l X h a (h (a + 1) xs0.toNatClampNeg) hO hc3) (wX6_allOf hts q4_238 ⟨Nat.le_of_ble_eq_true rfl, Nat.le_of_ble_eq_true rfl⟩) hK hW hS (va_recv hK.1 (hW.one hO.1) (ci := 6) (q0 := 0) rfl rfl) rfl hl.1 rfl (Nat.le_of_ble_eq_true rfl) dX6_weighs_17 ⟨Nat.zero_le _, Nat.zero_le _⟩ (fun H locs hW hS => ?_)
  refine lv_istore_n (lv' := [(2, .int (fX6_allOf a (h (a + 1) xs0.toNatClampNeg) h)), (0, .ref a), (1, .int x1)]) hx hb dX6_weighs_20 rfl hl (by decide) rfl (fun ls hl => ?_)
  refine lv_aload_n hx hb dX6_weighs_21 rfl (lv_at hl 1 rfl) ?_
  refine g6_7 hx hb hts hown hK hW hO.1 (hts _ q4_56) dX6_weighs_22 ?_
  refine lv_if_eq (tgt := 36) hx hb dX6_weighs_25 (by decide) (fun c4 => ?_) (fun c4 => ?_)
  · have hres := (if_pos c4).symm.trans hres
    have hs := And.left hs c4
    exact xX6_weighs_c36 hO C0 x1 (fX6_allOf a (h (a + 1) xs0.toNatClampNeg) h) h _ _ _ _ (lv_sub hl [1, 2, 0] rfl) hW hS hs hres
  · have hres := (if_neg c4).symm.trans hres
    have hs := And.right hs c4
    refine lv_iload_n hx hb dX6_weighs_28 rfl (lv_at hl 0 rfl) ?_
    refine lv_aload_n hx hb dX6_weighs_29 rfl (lv_at hl 1 rfl) ?_
    refine g6_8 hx hb hts hown hK hW hO.1 (hts _ q4_57) dX6_weighs_30 ?_
    refine lv_icmp_le (tgt := 71) hx hb dX6_weighs_33 (by decide) (fun c8 => ?_) (fun c8 => ?_)
    · have hres := (if_pos c8).symm.trans hres
      have hs := And.left hs c8
      subst hres
      exact kr_v hx hb hr hlk hK hW hS dX6_weighs_71
    · have hres := (if_neg c8).symm.trans hres
      have hs := And.right hs c8
      exact xX6_weighs_c36 hO C0 x1 (fX6_allOf a (h (a + 1) xs0.toNatClampNeg) h) h _ _ _ _ (lv_sub hl [1, 2, 0] rfl) hW hS hs hres
def fX6_weighs_c0 (a : Nat) (x1 : Int32) (h : HH) : HH := fX6_weighs_c16 a x1 3 (fX6_endsFor a (h (a + 1) 3) h)
def sX6_weighs_c0 (a : Nat) (x1 : Int32) (h : HH) : Prop := (sX6_endsFor a (h (a + 1) 3) h) ∧ (sX6_weighs_c16 a x1 3 (fX6_endsFor a (h (a + 1) 3) h))
set_option maxRecDepth 100000 in
set_option maxHeartbeats 4000000 in
theorem xX6_weighs_c0 {p : Program} {l : Launch} {e : Env} {s : State} {m : MethodId} {args : Array Value} {below : List Frame} {meth : Method} {c : Code} {X : Cx} {a : Nat} (hO : IsMo X a) (C0 : CT p s m args meth c X cX6_weighs 4 none RX6) (x1 : Int32) (h : HH) (H : Heap) (locs : List Loc) (ls : Array Slot) (res : HH) (hl : lv_has ls 4 [(0, .ref a), (1, .int x1)]) (hW : WH X h H) (hS : va_S (xA X) s.heap H locs) (hs : sX6_weighs_c0 a x1 h) (hres : fX6_weighs_c0 a x1 h = res) : W p l e rmX6_weighs s m args below meth c H locs 0 0 (MQ below (QV X res) args s 0 0 (xA X)) (F0 m 0 ls []) := by
  obtain ⟨hx, hb, hr, hlk, hml, hown, hts, hK⟩ := id C0
  refine lv_aload_n hx hb dX6_weighs_0 rfl (lv_at hl 0 rfl) ?_
  refine lv_aload_n hx hb dX6_weighs_1 rfl (lv_at hl 0 rfl) ?_
  refine g6_0 hx hb hts hown hK hW hO.1 (hts _ q4_49) dX6_weighs_2 ?_
  refine lv_iconst (v := 3) hx hb dX6_weighs_5 (by decide) ?_
  refine kb_iald hx hb hK hW hO.2.1 (k := 3) (by decide) (vpd (by decide)) dX6_weighs_6 ?_
  obtain ⟨hc1, hs⟩ := hs
  refine kV_v (As := [.int (h (a + 1) 3)]) (rest := []) ⟨hx, hb, hml, hown, hts⟩ (kX6_endsFor l X h a (h (a + 1) 3) hO hc1) (wX6_endsFor hts q4_182 ⟨Nat.le_of_ble_eq_true rfl, Nat.le_of_ble_eq_true rfl⟩) hK hW hS (va_recv hK.1 (hW.one hO.1) (ci := 6) (q0 := 0) rfl rfl) rfl hl.1 rfl (Nat.le_of_ble_eq_true rfl) dX6_weighs_7 ⟨Nat.zero_le _, Nat.zero_le _⟩ (fun H locs hW hS => ?_)
  refine lv_aload_n hx hb dX6_weighs_10 rfl (lv_at hl 0 rfl) ?_
  refine lv_aload_n hx hb dX6_weighs_11 rfl (lv_at hl 0 rfl) ?_
  refine g6_0 hx hb hts hown hK hW hO.1 (hts _ q4_49) dX6_weighs_12 ?_
  refine lv_iconst (v := 3) hx hb dX6_weighs_15 (by decide) ?_
  exact xX6_weighs_c16 hO C0 x1 3 (fX6_endsFor a (h (a + 1) 3) h) _ _ _ _ (lv_sub hl [0, 1] rfl) hW hS hs hres
def fX6_weighs (a : Nat) (x1 : Int32) (h : HH) : HH := fX6_weighs_c0 a x1 h
def sX6_weighs (a : Nat) (x1 : Int32) (h : HH) : Prop := sX6_weighs_c0 a x1 h
set_option maxRecDepth 100000 in
set_option maxHeartbeats 4000000 in
theorem kX6_weighs (l : Launch) (X : Cx) (h : HH) (a : Nat) (x1 : Int32) (hO : IsMo X a) (hs : sX6_weighs a x1 h) : Met l yX6_weighs vX6_weighs rmX6_weighs (va_Pc [.ref a, .int x1] (fun U => WS X h U)) (QV X (fX6_weighs a x1 h)) 0 0 (xA X) := by
  refine Met.ofW (cc := cX6_weighs) (maxL := 4) (ret := none) (by decide) rfl ?_
  intro p e s m args below meth c s₁ B hml hv
  obtain ⟨rfl, hW, hK⟩ := hv
  have hl := lv_entry ([.ref a, .int x1]) (n := 4) (Nat.le_of_ble_eq_true rfl)
  rw [lg_entry_eq]
  generalize (lg_sl ([.ref a, .int x1]) ++ List.replicate (4 - (lg_sl ([.ref a, .int x1])).length) Slot.unset).toArray = ls at hl ⊢
  have hl : lv_has ls 4 [(0, .ref a), (1, .int x1)] := hl
  exact xX6_weighs_c0 hO ⟨B.exec, B.bytes, B.returns, B.notSynchronized, hml, findClass_of_methodNamed B.named, fun w hw => atoms_spec (ws := vX6_weighs) B.pre w (List.mem_cons_of_mem _ hw), hK⟩ x1 h _ _ ls _ (lv_sub hl [0, 1] rfl) hW va_S.rf hs rfl
-- VillageBoardModel.searches(I)V
abbrev rmX6_searches : Room := ({ frames := 8, cells := 0, slots := 0, locals := 183 } : Room)
abbrev vX6_searches : List Cond := Cond.code yX6_searches cX6_searches 4 none :: lwG
theorem wX6_searches {R : Room} {s : State} {args : Array Value} {own : String} {idx : Nat} (hg : ∀ w ∈ lwG, w.before args s = true) (hl : Cond.methodLink own idx yX6_searches ∈ lwG) (hR : rmX6_searches.frames + 1 ≤ R.frames ∧ 8 + (4 + 11) + rmX6_searches.locals ≤ R.locals) : CallW R s args own RX6 idx yX6_searches cX6_searches 4 none vX6_searches rmX6_searches 0 0 1 := cwV 1 hg (gV hl q4_224 q0_46 q1_7 q4_225) rfl rfl rfl (by decide +kernel) hR
def fX6_searches_c156 (a : Nat) (k27 : Int32 → Int32 → HH → HH) (x1 : Int32) (x2 : Int32) (h : HH) : HH := k27 x1 x2 h
def sX6_searches_c156 (a : Nat) (K27 : Int32 → Int32 → HH → Prop) (x1 : Int32) (x2 : Int32) (h : HH) : Prop := K27 x1 x2 h
set_option maxRecDepth 100000 in
set_option maxHeartbeats 4000000 in
theorem xX6_searches_c156 {p : Program} {l : Launch} {e : Env} {s : State} {m : MethodId} {args : Array Value} {below : List Frame} {meth : Method} {c : Code} {X : Cx} {a : Nat} (hO : IsMo X a) (C0 : CT p s m args meth c X cX6_searches 4 none RX6) {k27 : Int32 → Int32 → HH → HH} {K27 : Int32 → Int32 → HH → Prop} (hk27 : ∀ (x1 : Int32) (x2 : Int32) (h : HH) (H : Heap) (locs : List Loc) (ls : Array Slot) (res : HH) (hl : lv_has ls 4 [(0, .ref a), (1, .int x1), (2, .int x2)]) (hW : WH X h H) (hS : va_S (xA X) s.heap H locs) (_ : K27 x1 x2 h) (hres : k27 x1 x2 h = res), W p l e rmX6_searches s m args below meth c H locs 0 0 (MQ below (QV X res) args s 0 0 (xA X)) (F0 m 27 ls [])) (x1 : Int32) (x2 : Int32) (h : HH) (H : Heap) (locs : List Loc) (ls : Array Slot) (res : HH) (hl : lv_has ls 4 [(0, .ref a), (1, .int x1), (2, .int x2)]) (hW : WH X h H) (hS : va_S (xA X) s.heap H locs) (hs : sX6_searches_c156 a K27 x1 x2 h) (hres : fX6_searches_c156 a k27 x1 x2 h = res) : W p l e rmX6_searches s m args below meth c H locs 0 0 (MQ below (QV X res) args s 0 0 (xA X)) (F0 m 156 ls []) := by
  obtain ⟨hx, hb, hr, hlk, hml, hown, hts, hK⟩ := id C0
  refine lv_goto (tgt := 27) hx hb dX6_searches_156 (by decide) ?_
  exact hk27 x1 x2 h _ _ _ _ (lv_sub hl [0, 1, 2] rfl) hW hS hs hres
def fX6_searches_c143 (a : Nat) (k27 : Int32 → Int32 → HH → HH) (x1 : Int32) (x2 : Int32) (xs0 : Int32) (h : HH) : HH := fX6_searches_c156 a k27 x1 x2 (fX6_laysLevel a xs0 h)
def sX6_searches_c143 (a : Nat) (K27 : Int32 → Int32 → HH → Prop) (x1 : Int32) (x2 : Int32) (xs0 : Int32) (h : HH) : Prop := (sX6_laysLevel a xs0 h) ∧ (sX6_searches_c156 a K27 x1 x2 (fX6_laysLevel a xs0 h))
set_option maxRecDepth 100000 in
set_option maxHeartbeats 4000000 in
theorem xX6_searches_c143 {p : Program} {l : Launch} {e : Env} {s : State} {m : MethodId} {args : Array Value} {below : List Frame} {meth : Method} {c : Code} {X : Cx} {a : Nat} (hO : IsMo X a) (C0 : CT p s m args meth c X cX6_searches 4 none RX6) {k27 : Int32 → Int32 → HH → HH} {K27 : Int32 → Int32 → HH → Prop} (hk27 : ∀ (x1 : Int32) (x2 : Int32) (h : HH) (H : Heap) (locs : List Loc) (ls : Array Slot) (res : HH) (hl : lv_has ls 4 [(0, .ref a), (1, .int x1), (2, .int x2)]) (hW : WH X h H) (hS : va_S (xA X) s.heap H locs) (_ : K27 x1 x2 h) (hres : k27 x1 x2 h = res), W p l e rmX6_searches s m args below meth c H locs 0 0 (MQ below (QV X res) args s 0 0 (xA X)) (F0 m 27 ls [])) (x1 : Int32) (x2 : Int32) (xs0 : Int32) (h : HH) (H : Heap) (locs : List Loc) (ls : Array Slot) (res : HH) (hl : lv_has ls 4 [(0, .ref a), (1, .int x1), (2, .int x2)]) (hW : WH X h H) (hS : va_S (xA X) s.heap H locs) (hs : sX6_searches_c143 a K27 x1 x2 xs0 h) (hres : fX6_searches_c143 a k27 x1 x2 xs0 h = res) : W p l e rmX6_searches s m args below meth c H locs 0 0 (MQ below (QV X res) args s 0 0 (xA X)) (F0 m 143 ls [.int xs0, .ref a]) := by
  obtain ⟨hx, hb, hr, hlk, hml, hown, hts, hK⟩ := id C0
  obtain ⟨hc18, hs⟩ := hs
  refine kV_v (As := [.int xs0]) (rest := []) ⟨hx, hb, hml, hown, hts⟩ (kX6_laysLevel l X h a xs0 hO hc18) (wX6_laysLevel hts q4_226 ⟨Nat.le_of_ble_eq_true rfl, Nat.le_of_ble_eq_true rfl⟩) hK hW hS (va_recv hK.1 (hW.one hO.1) (ci := 6) (q0 := 0) rfl rfl) rfl hl.1 rfl (Nat.le_of_ble_eq_true rfl) dX6_searches_143 ⟨Nat.zero_le _, Nat.zero_le _⟩ (fun H locs hW hS => ?_)
  refine lv_goto (tgt := 156) hx hb dX6_searches_146 (by decide) ?_
  exact xX6_searches_c156 hO C0 hk27 x1 x2 (fX6_laysLevel a xs0 h) _ _ _ _ (lv_sub hl [0, 1, 2] rfl) hW hS hs hres
def fX6_searches_c126 (a : Nat) (k27 : Int32 → Int32 → HH → HH) (x1 : Int32) (x2 : Int32) (xs0 : Int32) (h : HH) : HH := if xs0 = 0 then (fX6_searches_c156 a k27 x1 x2 (fX6_weighs a (x2 + 1) h)) else (fX6_searches_c143 a k27 x1 (x2 + 1) (x2 + 1) (hset h (a + 4) ((x2 + 1).toNatClampNeg) (-1)))
def sX6_searches_c126 (a : Nat) (K27 : Int32 → Int32 → HH → Prop) (x1 : Int32) (x2 : Int32) (xs0 : Int32) (h : HH) : Prop := (xs0 = 0 → ((sX6_weighs a (x2 + 1) h) ∧ (sX6_searches_c156 a K27 x1 x2 (fX6_weighs a (x2 + 1) h)))) ∧ (¬ (xs0 = 0) → ((vp_in (x2 + 1) 4) ∧ (sX6_searches_c143 a K27 x1 (x2 + 1) (x2 + 1) (hset h (a + 4) ((x2 + 1).toNatClampNeg) (-1)))))
set_option maxRecDepth 100000 in
set_option maxHeartbeats 4000000 in
theorem xX6_searches_c126 {p : Program} {l : Launch} {e : Env} {s : State} {m : MethodId} {args : Array Value} {below : List Frame} {meth : Method} {c : Code} {X : Cx} {a : Nat} (hO : IsMo X a) (C0 : CT p s m args meth c X cX6_searches 4 none RX6) {k27 : Int32 → Int32 → HH → HH} {K27 : Int32 → Int32 → HH → Prop} (hk27 : ∀ (x1 : Int32) (x2 : Int32) (h : HH) (H : Heap) (locs : List Loc) (ls : Array Slot) (res : HH) (hl : lv_has ls 4 [(0, .ref a), (1, .int x1), (2, .int x2)]) (hW : WH X h H) (hS : va_S (xA X) s.heap H locs) (_ : K27 x1 x2 h) (hres : k27 x1 x2 h = res), W p l e rmX6_searches s m args below meth c H locs 0 0 (MQ below (QV X res) args s 0 0 (xA X)) (F0 m 27 ls [])) (x1 : Int32) (x2 : Int32) (xs0 : Int32) (h : HH) (H : Heap) (locs : List Loc) (ls : Array Slot) (res : HH) (hl : lv_has ls 4 [(0, .ref a), (1, .int x1), (2, .int x2)]) (hW : WH X h H) (hS : va_S (xA X) s.heap H locs) (hs : sX6_searches_c126 a K27 x1 x2 xs0 h) (hres : fX6_searches_c126 a k27 x1 x2 xs0 h = res) : W p l e rmX6_searches s m args below meth c H locs 0 0 (MQ below (QV X res) args s 0 0 (xA X)) (F0 m 126 ls [.int xs0]) := by
  obtain ⟨hx, hb, hr, hlk, hml, hown, hts, hK⟩ := id C0
  refine lv_istore_n (lv' := [(3, .int xs0), (0, .ref a), (1, .int x1), (2, .int x2)]) hx hb dX6_searches_126 rfl hl (by decide) rfl (fun ls hl => ?_)
  refine lv_iload_n hx hb dX6_searches_127 rfl (lv_at hl 0 rfl) ?_
  refine lv_if_eq (tgt := 149) hx hb dX6_searches_128 (by decide) (fun c15 => ?_) (fun c15 => ?_)
  · have hres := (if_pos c15).symm.trans hres
    have hs := And.left hs c15
    refine lv_aload_n hx hb dX6_searches_149 rfl (lv_at hl 1 rfl) ?_
    refine lv_iload_n hx hb dX6_searches_150 rfl (lv_at hl 3 rfl) ?_
    refine lv_iconst (v := 1) hx hb dX6_searches_151 (by decide) ?_
    refine lv_iadd hx hb dX6_searches_152 ?_
    obtain ⟨hc16, hs⟩ := hs
    refine kV_v (As := [.int (x2 + 1)]) (rest := []) ⟨hx, hb, hml, hown, hts⟩ (kX6_weighs l X h a (x2 + 1) hO hc16) (wX6_weighs hts q4_234 ⟨Nat.le_of_ble_eq_true rfl, Nat.le_of_ble_eq_true rfl⟩) hK hW hS (va_recv hK.1 (hW.one hO.1) (ci := 6) (q0 := 0) rfl rfl) rfl hl.1 rfl (Nat.le_of_ble_eq_true rfl) dX6_searches_153 ⟨Nat.zero_le _, Nat.zero_le _⟩ (fun H locs hW hS => ?_)
    exact xX6_searches_c156 hO C0 hk27 x1 x2 (fX6_weighs a (x2 + 1) h) _ _ _ _ (lv_sub hl [1, 2, 3] rfl) hW hS hs hres
  · have hres := (if_neg c15).symm.trans hres
    have hs := And.right hs c15
    refine lv_iinc (v := x2 + 1) (lv' := [(2, .int (x2 + 1)), (3, .int xs0), (0, .ref a), (1, .int x1)]) hx hb dX6_searches_131 hl (k := 3) rfl rfl (by decide) rfl (fun ls hl => ?_)
    refine lv_aload_n hx hb dX6_searches_134 rfl (lv_at hl 2 rfl) ?_
    refine g6_5 hx hb hts hown hK hW hO.1 (hts _ q4_54) dX6_searches_135 ?_
    refine lv_iload_n hx hb dX6_searches_138 rfl (lv_at hl 0 rfl) ?_
    refine lv_iconst (v := (-1)) hx hb dX6_searches_139 (by decide) ?_
    obtain ⟨hi17, hs⟩ := hs
    refine kb_iast hx hb hK hW hS hO.2.2.2.2.1 (k := (x2 + 1).toNatClampNeg) rfl hi17 dX6_searches_140 (fun H locs hW hS => ?_)
    refine lv_aload_n hx hb dX6_searches_141 rfl (lv_at hl 2 rfl) ?_
    refine lv_iload_n hx hb dX6_searches_142 rfl (lv_at hl 0 rfl) ?_
    exact xX6_searches_c143 hO C0 hk27 x1 (x2 + 1) (x2 + 1) (hset h (a + 4) ((x2 + 1).toNatClampNeg) (-1)) _ _ _ _ (lv_sub hl [2, 3, 0] rfl) hW hS hs hres
def fX6_searches_c125 (a : Nat) (k27 : Int32 → Int32 → HH → HH) (x1 : Int32) (x2 : Int32) (h : HH) : HH := fX6_searches_c126 a k27 x1 x2 0 h
def sX6_searches_c125 (a : Nat) (K27 : Int32 → Int32 → HH → Prop) (x1 : Int32) (x2 : Int32) (h : HH) : Prop := sX6_searches_c126 a K27 x1 x2 0 h
set_option maxRecDepth 100000 in
set_option maxHeartbeats 4000000 in
theorem xX6_searches_c125 {p : Program} {l : Launch} {e : Env} {s : State} {m : MethodId} {args : Array Value} {below : List Frame} {meth : Method} {c : Code} {X : Cx} {a : Nat} (hO : IsMo X a) (C0 : CT p s m args meth c X cX6_searches 4 none RX6) {k27 : Int32 → Int32 → HH → HH} {K27 : Int32 → Int32 → HH → Prop} (hk27 : ∀ (x1 : Int32) (x2 : Int32) (h : HH) (H : Heap) (locs : List Loc) (ls : Array Slot) (res : HH) (hl : lv_has ls 4 [(0, .ref a), (1, .int x1), (2, .int x2)]) (hW : WH X h H) (hS : va_S (xA X) s.heap H locs) (_ : K27 x1 x2 h) (hres : k27 x1 x2 h = res), W p l e rmX6_searches s m args below meth c H locs 0 0 (MQ below (QV X res) args s 0 0 (xA X)) (F0 m 27 ls [])) (x1 : Int32) (x2 : Int32) (h : HH) (H : Heap) (locs : List Loc) (ls : Array Slot) (res : HH) (hl : lv_has ls 4 [(0, .ref a), (1, .int x1), (2, .int x2)]) (hW : WH X h H) (hS : va_S (xA X) s.heap H locs) (hs : sX6_searches_c125 a K27 x1 x2 h) (hres : fX6_searches_c125 a k27 x1 x2 h = res) : W p l e rmX6_searches s m args below meth c H locs 0 0 (MQ below (QV X res) args s 0 0 (xA X)) (F0 m 125 ls []) := by
  obtain ⟨hx, hb, hr, hlk, hml, hown, hts, hK⟩ := id C0
  refine lv_iconst (v := 0) hx hb dX6_searches_125 (by decide) ?_
  exact xX6_searches_c126 hO C0 hk27 x1 x2 0 h _ _ _ _ (lv_sub hl [0, 1, 2] rfl) hW hS hs hres
def fX6_searches_c103 (a : Nat) (k27 : Int32 → Int32 → HH → HH) (x1 : Int32) (x2 : Int32) (xs0 : Int32) (h : HH) : HH := if (fX6_get a (h (a + 1) xs0.toNatClampNeg) 7 h) ≤ 0 then (fX6_searches_c125 a k27 x1 x2 h) else (if (fX6_nextCode a (-1) h) = (-1) then (fX6_searches_c125 a k27 x1 x2 h) else (fX6_searches_c126 a k27 x1 x2 1 h))
def sX6_searches_c103 (a : Nat) (K27 : Int32 → Int32 → HH → Prop) (x1 : Int32) (x2 : Int32) (xs0 : Int32) (h : HH) : Prop := (vp_in xs0 206) ∧ ((sX6_get a (h (a + 1) xs0.toNatClampNeg) 7 h) ∧ (((fX6_get a (h (a + 1) xs0.toNatClampNeg) 7 h) ≤ 0 → (sX6_searches_c125 a K27 x1 x2 h)) ∧ (¬ ((fX6_get a (h (a + 1) xs0.toNatClampNeg) 7 h) ≤ 0) → ((sX6_nextCode a (-1) h) ∧ (((fX6_nextCode a (-1) h) = (-1) → (sX6_searches_c125 a K27 x1 x2 h)) ∧ (¬ ((fX6_nextCode a (-1) h) = (-1)) → (sX6_searches_c126 a K27 x1 x2 1 h)))))))
set_option maxRecDepth 100000 in
set_option maxHeartbeats 4000000 in
theorem xX6_searches_c103 {p : Program} {l : Launch} {e : Env} {s : State} {m : MethodId} {args : Array Value} {below : List Frame} {meth : Method} {c : Code} {X : Cx} {a : Nat} (hO : IsMo X a) (C0 : CT p s m args meth c X cX6_searches 4 none RX6) {k27 : Int32 → Int32 → HH → HH} {K27 : Int32 → Int32 → HH → Prop} (hk27 : ∀ (x1 : Int32) (x2 : Int32) (h : HH) (H : Heap) (locs : List Loc) (ls : Array Slot) (res : HH) (hl : lv_has ls 4 [(0, .ref a), (1, .int x1), (2, .int x2)]) (hW : WH X h H) (hS : va_S (xA X) s.heap H locs) (_ : K27 x1 x2 h) (hres : k27 x1 x2 h = res), W p l e rmX6_searches s m args below meth c H locs 0 0 (MQ below (QV X res) args s 0 0 (xA X)) (F0 m 27 ls [])) (x1 : Int32) (x2 : Int32) (xs0 : Int32) (h : HH) (H : Heap) (locs : List Loc) (ls : Array Slot) (res : HH) (hl : lv_has ls 4 [(0, .ref a), (1, .int x1), (2, .int x2)]) (hW : WH X h H) (hS : va_S (xA X) s.heap H locs) (hs : sX6_searches_c103 a K27 x1 x2 xs0 h) (hres : fX6_searches_c103 a k27 x1 x2 xs0 h = res) : W p l e rmX6_searches s m args below meth c H locs 0 0 (MQ below (QV X res) args s 0 0 (xA X)) (F0 m 103 ls [.int xs0, .ref (a + 1), .ref a]) := by
  obtain ⟨hx, hb, hr, hlk, hml, hown, hts, hK⟩ := id C0
  obtain ⟨hi19, hs⟩ := hs
  refine kb_iald hx hb hK hW hO.2.1 (k := xs0.toNatClampNeg) rfl hi19 dX6_searches_103 ?_
  refine lv_bipush (v := 7) hx hb dX6_searches_104 (by decide) ?_
  obtain ⟨hc20, hs⟩ := hs
  refine kV_i (As := [.int (h (a + 1) xs0.toNatClampNeg), .int 7]) (rest := []) ⟨hx, hb, hml, hown, hts⟩ (kX6_get l X h a (h (a + 1) xs0.toNatClampNeg) 7 hO hc20) (wX6_get hts q4_41 ⟨Nat.le_of_ble_eq_true rfl, Nat.le_of_ble_eq_true rfl⟩) hK hW hS (va_recv hK.1 (hW.one hO.1) (ci := 6) (q0 := 0) rfl rfl) rfl hl.1 rfl (Nat.le_of_ble_eq_true rfl) dX6_searches_106 ⟨Nat.zero_le _, Nat.zero_le _⟩ (fun H locs hW hS => ?_)
  refine lv_if_le (tgt := 125) hx hb dX6_searches_109 (by decide) (fun c21 => ?_) (fun c21 => ?_)
  · have hres := (if_pos c21).symm.trans hres
    have hs := And.left hs c21
    exact xX6_searches_c125 hO C0 hk27 x1 x2 h _ _ _ _ (lv_sub hl [0, 1, 2] rfl) hW hS hs hres
  · have hres := (if_neg c21).symm.trans hres
    have hs := And.right hs c21
    refine lv_aload_n hx hb dX6_searches_112 rfl (lv_at hl 0 rfl) ?_
    refine lv_iconst (v := (-1)) hx hb dX6_searches_113 (by decide) ?_
    obtain ⟨hc22, hs⟩ := hs
    refine kV_i (As := [.int (-1)]) (rest := []) ⟨hx, hb, hml, hown, hts⟩ (kX6_nextCode l X h a (-1) hO hc22) (wX6_nextCode hts q4_210 ⟨Nat.le_of_ble_eq_true rfl, Nat.le_of_ble_eq_true rfl⟩) hK hW hS (va_recv hK.1 (hW.one hO.1) (ci := 6) (q0 := 0) rfl rfl) rfl hl.1 rfl (Nat.le_of_ble_eq_true rfl) dX6_searches_114 ⟨Nat.zero_le _, Nat.zero_le _⟩ (fun H locs hW hS => ?_)
    refine lv_iconst (v := (-1)) hx hb dX6_searches_117 (by decide) ?_
    refine lv_icmp_eq (tgt := 125) hx hb dX6_searches_118 (by decide) (fun c23 => ?_) (fun c23 => ?_)
    · have hres := (if_pos c23).symm.trans hres
      have hs := And.left hs c23
      exact xX6_searches_c125 hO C0 hk27 x1 x2 h _ _ _ _ (lv_sub hl [0, 1, 2] rfl) hW hS hs hres
    · have hres := (if_neg c23).symm.trans hres
      have hs := And.right hs c23
      refine lv_iconst (v := 1) hx hb dX6_searches_121 (by decide) ?_
      refine lv_goto (tgt := 126) hx hb dX6_searches_122 (by decide) ?_
      exact xX6_searches_c126 hO C0 hk27 x1 x2 1 h _ _ _ _ (lv_sub hl [0, 1, 2] rfl) hW hS hs hres
def fX6_searches_c57 (a : Nat) (k27 : Int32 → Int32 → HH → HH) (x1 : Int32) (x2 : Int32) (xs0 : Int32) (h : HH) : HH := if (h (a + 4) xs0.toNatClampNeg) = (-1) then (k27 x1 (x2 + (-1)) h) else (if x1 ≤ (x2 + 1) then (fX6_searches_c125 a k27 x1 x2 (fX6_comes a ((h (a + 4) x2.toNatClampNeg) / 25) (jrem (h (a + 4) x2.toNatClampNeg) 25) h)) else (fX6_searches_c103 a k27 x1 x2 3 (fX6_comes a ((h (a + 4) x2.toNatClampNeg) / 25) (jrem (h (a + 4) x2.toNatClampNeg) 25) h)))
def sX6_searches_c57 (a : Nat) (K27 : Int32 → Int32 → HH → Prop) (x1 : Int32) (x2 : Int32) (xs0 : Int32) (h : HH) : Prop := (vp_in xs0 4) ∧ (((h (a + 4) xs0.toNatClampNeg) = (-1) → (K27 x1 (x2 + (-1)) h)) ∧ (¬ ((h (a + 4) xs0.toNatClampNeg) = (-1)) → ((vp_in x2 4) ∧ ((vp_in x2 4) ∧ ((sX6_comes a ((h (a + 4) x2.toNatClampNeg) / 25) (jrem (h (a + 4) x2.toNatClampNeg) 25) h) ∧ ((x1 ≤ (x2 + 1) → (sX6_searches_c125 a K27 x1 x2 (fX6_comes a ((h (a + 4) x2.toNatClampNeg) / 25) (jrem (h (a + 4) x2.toNatClampNeg) 25) h))) ∧ (¬ (x1 ≤ (x2 + 1)) → (sX6_searches_c103 a K27 x1 x2 3 (fX6_comes a ((h (a + 4) x2.toNatClampNeg) / 25) (jrem (h (a + 4) x2.toNatClampNeg) 25) h)))))))))
set_option maxRecDepth 100000 in
set_option maxHeartbeats 4000000 in
theorem xX6_searches_c57 {p : Program} {l : Launch} {e : Env} {s : State} {m : MethodId} {args : Array Value} {below : List Frame} {meth : Method} {c : Code} {X : Cx} {a : Nat} (hO : IsMo X a) (C0 : CT p s m args meth c X cX6_searches 4 none RX6) {k27 : Int32 → Int32 → HH → HH} {K27 : Int32 → Int32 → HH → Prop} (hk27 : ∀ (x1 : Int32) (x2 : Int32) (h : HH) (H : Heap) (locs : List Loc) (ls : Array Slot) (res : HH) (hl : lv_has ls 4 [(0, .ref a), (1, .int x1), (2, .int x2)]) (hW : WH X h H) (hS : va_S (xA X) s.heap H locs) (_ : K27 x1 x2 h) (hres : k27 x1 x2 h = res), W p l e rmX6_searches s m args below meth c H locs 0 0 (MQ below (QV X res) args s 0 0 (xA X)) (F0 m 27 ls [])) (x1 : Int32) (x2 : Int32) (xs0 : Int32) (h : HH) (H : Heap) (locs : List Loc) (ls : Array Slot) (res : HH) (hl : lv_has ls 4 [(0, .ref a), (1, .int x1), (2, .int x2)]) (hW : WH X h H) (hS : va_S (xA X) s.heap H locs) (hs : sX6_searches_c57 a K27 x1 x2 xs0 h) (hres : fX6_searches_c57 a k27 x1 x2 xs0 h = res) : W p l e rmX6_searches s m args below meth c H locs 0 0 (MQ below (QV X res) args s 0 0 (xA X)) (F0 m 57 ls [.int xs0, .ref (a + 4)]) := by
  obtain ⟨hx, hb, hr, hlk, hml, hown, hts, hK⟩ := id C0
  obtain ⟨hi9, hs⟩ := hs
  refine kb_iald hx hb hK hW hO.2.2.2.2.1 (k := xs0.toNatClampNeg) rfl hi9 dX6_searches_57 ?_
  refine lv_iconst (v := (-1)) hx hb dX6_searches_58 (by decide) ?_
  refine lv_icmp_ne (tgt := 68) hx hb dX6_searches_59 (by decide) (fun c10 => ?_) (fun c10 => ?_)
  · have hres := (if_neg c10).symm.trans hres
    have hs := And.right hs c10
    refine lv_aload_n hx hb dX6_searches_68 rfl (lv_at hl 0 rfl) ?_
    refine lv_aload_n hx hb dX6_searches_69 rfl (lv_at hl 0 rfl) ?_
    refine g6_5 hx hb hts hown hK hW hO.1 (hts _ q4_54) dX6_searches_70 ?_
    refine lv_iload_n hx hb dX6_searches_73 rfl (lv_at hl 2 rfl) ?_
    obtain ⟨hi11, hs⟩ := hs
    refine kb_iald hx hb hK hW hO.2.2.2.2.1 (k := x2.toNatClampNeg) rfl hi11 dX6_searches_74 ?_
    refine lv_bipush (v := 25) hx hb dX6_searches_75 (by decide) ?_
    refine lv_idiv hx hb dX6_searches_77 (by decide) ?_
    refine lv_aload_n hx hb dX6_searches_78 rfl (lv_at hl 0 rfl) ?_
    refine g6_5 hx hb hts hown hK hW hO.1 (hts _ q4_54) dX6_searches_79 ?_
    refine lv_iload_n hx hb dX6_searches_82 rfl (lv_at hl 2 rfl) ?_
    obtain ⟨hi12, hs⟩ := hs
    refine kb_iald hx hb hK hW hO.2.2.2.2.1 (k := x2.toNatClampNeg) rfl hi12 dX6_searches_83 ?_
    refine lv_bipush (v := 25) hx hb dX6_searches_84 (by decide) ?_
    refine kb_irem hx hb dX6_searches_86 (by decide) ?_
    obtain ⟨hc13, hs⟩ := hs
    refine kV_v (As := [.int ((h (a + 4) x2.toNatClampNeg) / 25), .int (jrem (h (a + 4) x2.toNatClampNeg) 25)]) (rest := []) ⟨hx, hb, hml, hown, hts⟩ (kX6_comes l X h a ((h (a + 4) x2.toNatClampNeg) / 25) (jrem (h (a + 4) x2.toNatClampNeg) 25) hO hc13) (wX6_comes hts q4_158 ⟨Nat.le_of_ble_eq_true rfl, Nat.le_of_ble_eq_true rfl⟩) hK hW hS (va_recv hK.1 (hW.one hO.1) (ci := 6) (q0 := 0) rfl rfl) rfl hl.1 rfl (Nat.le_of_ble_eq_true rfl) dX6_searches_87 ⟨Nat.zero_le _, Nat.zero_le _⟩ (fun H locs hW hS => ?_)
    refine lv_iload_n hx hb dX6_searches_90 rfl (lv_at hl 2 rfl) ?_
    refine lv_iconst (v := 1) hx hb dX6_searches_91 (by decide) ?_
    refine lv_iadd hx hb dX6_searches_92 ?_
    refine lv_iload_n hx hb dX6_searches_93 rfl (lv_at hl 1 rfl) ?_
    refine lv_icmp_ge (tgt := 125) hx hb dX6_searches_94 (by decide) (fun c14 => ?_) (fun c14 => ?_)
    · have hres := (if_pos c14).symm.trans hres
      have hs := And.left hs c14
      exact xX6_searches_c125 hO C0 hk27 x1 x2 (fX6_comes a ((h (a + 4) x2.toNatClampNeg) / 25) (jrem (h (a + 4) x2.toNatClampNeg) 25) h) _ _ _ _ (lv_sub hl [0, 1, 2] rfl) hW hS hs hres
    · have hres := (if_neg c14).symm.trans hres
      have hs := And.right hs c14
      refine lv_aload_n hx hb dX6_searches_97 rfl (lv_at hl 0 rfl) ?_
      refine lv_aload_n hx hb dX6_searches_98 rfl (lv_at hl 0 rfl) ?_
      refine g6_0 hx hb hts hown hK hW hO.1 (hts _ q4_49) dX6_searches_99 ?_
      refine lv_iconst (v := 3) hx hb dX6_searches_102 (by decide) ?_
      exact xX6_searches_c103 hO C0 hk27 x1 x2 3 (fX6_comes a ((h (a + 4) x2.toNatClampNeg) / 25) (jrem (h (a + 4) x2.toNatClampNeg) 25) h) _ _ _ _ (lv_sub hl [0, 1, 2] rfl) hW hS hs hres
  · have hres := (if_pos c10).symm.trans hres
    have hs := And.left hs c10
    refine lv_iinc (v := x2 + (-1)) (lv' := [(2, .int (x2 + (-1))), (0, .ref a), (1, .int x1)]) hx hb dX6_searches_62 hl (k := 2) rfl rfl (by decide) rfl (fun ls hl => ?_)
    refine lv_goto (tgt := 27) hx hb dX6_searches_65 (by decide) ?_
    exact hk27 x1 (x2 + (-1)) h _ _ _ _ (lv_sub hl [1, 2, 0] rfl) hW hS hs hres
def fX6_searches_c47 (a : Nat) (k27 : Int32 → Int32 → HH → HH) (x1 : Int32) (x2 : Int32) (xs0 : Int32) (xs3 : Int32) (h : HH) : HH := fX6_searches_c57 a k27 x1 x2 x2 (hset h (a + 4) xs3.toNatClampNeg (fX6_nextCode a (h (a + 4) xs0.toNatClampNeg) h))
def sX6_searches_c47 (a : Nat) (K27 : Int32 → Int32 → HH → Prop) (x1 : Int32) (x2 : Int32) (xs0 : Int32) (xs3 : Int32) (h : HH) : Prop := (vp_in xs0 4) ∧ ((sX6_nextCode a (h (a + 4) xs0.toNatClampNeg) h) ∧ ((vp_in xs3 4) ∧ (sX6_searches_c57 a K27 x1 x2 x2 (hset h (a + 4) xs3.toNatClampNeg (fX6_nextCode a (h (a + 4) xs0.toNatClampNeg) h)))))
set_option maxRecDepth 100000 in
set_option maxHeartbeats 4000000 in
theorem xX6_searches_c47 {p : Program} {l : Launch} {e : Env} {s : State} {m : MethodId} {args : Array Value} {below : List Frame} {meth : Method} {c : Code} {X : Cx} {a : Nat} (hO : IsMo X a) (C0 : CT p s m args meth c X cX6_searches 4 none RX6) {k27 : Int32 → Int32 → HH → HH} {K27 : Int32 → Int32 → HH → Prop} (hk27 : ∀ (x1 : Int32) (x2 : Int32) (h : HH) (H : Heap) (locs : List Loc) (ls : Array Slot) (res : HH) (hl : lv_has ls 4 [(0, .ref a), (1, .int x1), (2, .int x2)]) (hW : WH X h H) (hS : va_S (xA X) s.heap H locs) (_ : K27 x1 x2 h) (hres : k27 x1 x2 h = res), W p l e rmX6_searches s m args below meth c H locs 0 0 (MQ below (QV X res) args s 0 0 (xA X)) (F0 m 27 ls [])) (x1 : Int32) (x2 : Int32) (xs0 : Int32) (xs3 : Int32) (h : HH) (H : Heap) (locs : List Loc) (ls : Array Slot) (res : HH) (hl : lv_has ls 4 [(0, .ref a), (1, .int x1), (2, .int x2)]) (hW : WH X h H) (hS : va_S (xA X) s.heap H locs) (hs : sX6_searches_c47 a K27 x1 x2 xs0 xs3 h) (hres : fX6_searches_c47 a k27 x1 x2 xs0 xs3 h = res) : W p l e rmX6_searches s m args below meth c H locs 0 0 (MQ below (QV X res) args s 0 0 (xA X)) (F0 m 47 ls [.int xs0, .ref (a + 4), .ref a, .int xs3, .ref (a + 4)]) := by
  obtain ⟨hx, hb, hr, hlk, hml, hown, hts, hK⟩ := id C0
  obtain ⟨hi6, hs⟩ := hs
  refine kb_iald hx hb hK hW hO.2.2.2.2.1 (k := xs0.toNatClampNeg) rfl hi6 dX6_searches_47 ?_
  obtain ⟨hc7, hs⟩ := hs
  refine kV_i (As := [.int (h (a + 4) xs0.toNatClampNeg)]) (rest := [.int xs3, .ref (a + 4)]) ⟨hx, hb, hml, hown, hts⟩ (kX6_nextCode l X h a (h (a + 4) xs0.toNatClampNeg) hO hc7) (wX6_nextCode hts q4_210 ⟨Nat.le_of_ble_eq_true rfl, Nat.le_of_ble_eq_true rfl⟩) hK hW hS (va_recv hK.1 (hW.one hO.1) (ci := 6) (q0 := 0) rfl rfl) rfl hl.1 rfl (Nat.le_of_ble_eq_true rfl) dX6_searches_48 ⟨Nat.zero_le _, Nat.zero_le _⟩ (fun H locs hW hS => ?_)
  obtain ⟨hi8, hs⟩ := hs
  refine kb_iast hx hb hK hW hS hO.2.2.2.2.1 (k := xs3.toNatClampNeg) rfl hi8 dX6_searches_51 (fun H locs hW hS => ?_)
  refine lv_aload_n hx hb dX6_searches_52 rfl (lv_at hl 0 rfl) ?_
  refine g6_5 hx hb hts hown hK hW hO.1 (hts _ q4_54) dX6_searches_53 ?_
  refine lv_iload_n hx hb dX6_searches_56 rfl (lv_at hl 2 rfl) ?_
  exact xX6_searches_c57 hO C0 hk27 x1 x2 x2 (hset h (a + 4) xs3.toNatClampNeg (fX6_nextCode a (h (a + 4) xs0.toNatClampNeg) h)) _ _ _ _ (lv_sub hl [0, 1, 2] rfl) hW hS hs hres
def fX6_searches_c27 (a : Nat) : Nat → Int32 → Int32 → HH → HH
  | 0, x1, x2, h => h
  | n + 1, x1, x2, h => if x2 < 0 then (fX6_takesLevel a 0 h) else (fX6_searches_c47 a (fX6_searches_c27 a n) x1 x2 x2 x2 (fX6_takesLevel a x2 h))
def sX6_searches_c27 (a : Nat) : Nat → Int32 → Int32 → HH → Prop
  | 0, _, _, _ => False
  | n + 1, x1, x2, h => (x2 < 0 → (sX6_takesLevel a 0 h)) ∧ (¬ (x2 < 0) → ((sX6_takesLevel a x2 h) ∧ (sX6_searches_c47 a (sX6_searches_c27 a n) x1 x2 x2 x2 (fX6_takesLevel a x2 h))))
set_option maxRecDepth 100000 in
set_option maxHeartbeats 4000000 in
theorem xX6_searches_c27 {p : Program} {l : Launch} {e : Env} {s : State} {m : MethodId} {args : Array Value} {below : List Frame} {meth : Method} {c : Code} {X : Cx} {a : Nat} (hO : IsMo X a) (C0 : CT p s m args meth c X cX6_searches 4 none RX6) : ∀ (n : Nat) (x1 : Int32) (x2 : Int32) (h : HH) (H : Heap) (locs : List Loc) (ls : Array Slot) (res : HH) (hl : lv_has ls 4 [(0, .ref a), (1, .int x1), (2, .int x2)]) (hW : WH X h H) (hS : va_S (xA X) s.heap H locs) (hs : sX6_searches_c27 a n x1 x2 h) (hres : fX6_searches_c27 a n x1 x2 h = res), W p l e rmX6_searches s m args below meth c H locs 0 0 (MQ below (QV X res) args s 0 0 (xA X)) (F0 m 27 ls []) := by
  obtain ⟨hx, hb, hr, hlk, hml, hown, hts, hK⟩ := id C0
  intro n
  induction n with
  | zero =>
    intro _ _ _ _ _ _ _ _ _ _ hs _
    exact hs.elim
  | succ n ih =>
    intro x1 x2 h H locs ls res hl hW hS hs hres
    refine lv_iload_n hx hb dX6_searches_27 rfl (lv_at hl 2 rfl) ?_
    refine lv_if_lt (tgt := 159) hx hb dX6_searches_28 (by decide) (fun c3 => ?_) (fun c3 => ?_)
    · have hres := (if_pos c3).symm.trans hres
      have hs := And.left hs c3
      refine lv_aload_n hx hb dX6_searches_159 rfl (lv_at hl 0 rfl) ?_
      refine lv_iconst (v := 0) hx hb dX6_searches_160 (by decide) ?_
      have hc4 := hs
      refine kV_v (As := [.int 0]) (rest := []) ⟨hx, hb, hml, hown, hts⟩ (kX6_takesLevel l X h a 0 hO hc4) (wX6_takesLevel hts q4_230 ⟨Nat.le_of_ble_eq_true rfl, Nat.le_of_ble_eq_true rfl⟩) hK hW hS (va_recv hK.1 (hW.one hO.1) (ci := 6) (q0 := 0) rfl rfl) rfl hl.1 rfl (Nat.le_of_ble_eq_true rfl) dX6_searches_161 ⟨Nat.zero_le _, Nat.zero_le _⟩ (fun H locs hW hS => ?_)
      subst hres
      exact kr_v hx hb hr hlk hK hW hS dX6_searches_164
    · have hres := (if_neg c3).symm.trans hres
      have hs := And.right hs c3
      refine lv_aload_n hx hb dX6_searches_31 rfl (lv_at hl 0 rfl) ?_
      refine lv_iload_n hx hb dX6_searches_32 rfl (lv_at hl 2 rfl) ?_
      obtain ⟨hc5, hs⟩ := hs
      refine kV_v (As := [.int x2]) (rest := []) ⟨hx, hb, hml, hown, hts⟩ (kX6_takesLevel l X h a x2 hO hc5) (wX6_takesLevel hts q4_230 ⟨Nat.le_of_ble_eq_true rfl, Nat.le_of_ble_eq_true rfl⟩) hK hW hS (va_recv hK.1 (hW.one hO.1) (ci := 6) (q0 := 0) rfl rfl) rfl hl.1 rfl (Nat.le_of_ble_eq_true rfl) dX6_searches_33 ⟨Nat.zero_le _, Nat.zero_le _⟩ (fun H locs hW hS => ?_)
      refine lv_aload_n hx hb dX6_searches_36 rfl (lv_at hl 0 rfl) ?_
      refine g6_5 hx hb hts hown hK hW hO.1 (hts _ q4_54) dX6_searches_37 ?_
      refine lv_iload_n hx hb dX6_searches_40 rfl (lv_at hl 2 rfl) ?_
      refine lv_aload_n hx hb dX6_searches_41 rfl (lv_at hl 0 rfl) ?_
      refine lv_aload_n hx hb dX6_searches_42 rfl (lv_at hl 0 rfl) ?_
      refine g6_5 hx hb hts hown hK hW hO.1 (hts _ q4_54) dX6_searches_43 ?_
      refine lv_iload_n hx hb dX6_searches_46 rfl (lv_at hl 2 rfl) ?_
      exact xX6_searches_c47 hO C0 ih x1 x2 x2 x2 (fX6_takesLevel a x2 h) _ _ _ _ (lv_sub hl [0, 1, 2] rfl) hW hS hs hres
def fX6_searches_c24 (a : Nat) (x1 : Int32) (x2 : Int32) (xs0 : Int32) (h : HH) : HH := fX6_searches_c27 a fuelS x1 x2 (fX6_laysLevel a xs0 h)
def sX6_searches_c24 (a : Nat) (x1 : Int32) (x2 : Int32) (xs0 : Int32) (h : HH) : Prop := (sX6_laysLevel a xs0 h) ∧ (sX6_searches_c27 a fuelS x1 x2 (fX6_laysLevel a xs0 h))
set_option maxRecDepth 100000 in
set_option maxHeartbeats 4000000 in
theorem xX6_searches_c24 {p : Program} {l : Launch} {e : Env} {s : State} {m : MethodId} {args : Array Value} {below : List Frame} {meth : Method} {c : Code} {X : Cx} {a : Nat} (hO : IsMo X a) (C0 : CT p s m args meth c X cX6_searches 4 none RX6) (x1 : Int32) (x2 : Int32) (xs0 : Int32) (h : HH) (H : Heap) (locs : List Loc) (ls : Array Slot) (res : HH) (hl : lv_has ls 4 [(0, .ref a), (1, .int x1), (2, .int x2)]) (hW : WH X h H) (hS : va_S (xA X) s.heap H locs) (hs : sX6_searches_c24 a x1 x2 xs0 h) (hres : fX6_searches_c24 a x1 x2 xs0 h = res) : W p l e rmX6_searches s m args below meth c H locs 0 0 (MQ below (QV X res) args s 0 0 (xA X)) (F0 m 24 ls [.int xs0, .ref a]) := by
  obtain ⟨hx, hb, hr, hlk, hml, hown, hts, hK⟩ := id C0
  obtain ⟨hc2, hs⟩ := hs
  refine kV_v (As := [.int xs0]) (rest := []) ⟨hx, hb, hml, hown, hts⟩ (kX6_laysLevel l X h a xs0 hO hc2) (wX6_laysLevel hts q4_226 ⟨Nat.le_of_ble_eq_true rfl, Nat.le_of_ble_eq_true rfl⟩) hK hW hS (va_recv hK.1 (hW.one hO.1) (ci := 6) (q0 := 0) rfl rfl) rfl hl.1 rfl (Nat.le_of_ble_eq_true rfl) dX6_searches_24 ⟨Nat.zero_le _, Nat.zero_le _⟩ (fun H locs hW hS => ?_)
  exact xX6_searches_c27 hO C0 fuelS x1 x2 (fX6_laysLevel a xs0 h) _ _ _ _ (lv_sub hl [0, 1, 2] rfl) hW hS hs hres
def fX6_searches_c6 (a : Nat) (x1 : Int32) (h : HH) : HH := if (bI (fX6_isOver a h)) = 0 then (fX6_searches_c24 a x1 0 0 (hset h (a + 4) 0 (-1))) else h
def sX6_searches_c6 (a : Nat) (x1 : Int32) (h : HH) : Prop := ((bI (fX6_isOver a h)) = 0 → (sX6_searches_c24 a x1 0 0 (hset h (a + 4) 0 (-1)))) ∧ (¬ ((bI (fX6_isOver a h)) = 0) → True)
set_option maxRecDepth 100000 in
set_option maxHeartbeats 4000000 in
theorem xX6_searches_c6 {p : Program} {l : Launch} {e : Env} {s : State} {m : MethodId} {args : Array Value} {below : List Frame} {meth : Method} {c : Code} {X : Cx} {a : Nat} (hO : IsMo X a) (C0 : CT p s m args meth c X cX6_searches 4 none RX6) (x1 : Int32) (h : HH) (H : Heap) (locs : List Loc) (ls : Array Slot) (res : HH) (hl : lv_has ls 4 [(0, .ref a), (1, .int x1)]) (hW : WH X h H) (hS : va_S (xA X) s.heap H locs) (hs : sX6_searches_c6 a x1 h) (hres : fX6_searches_c6 a x1 h = res) : W p l e rmX6_searches s m args below meth c H locs 0 0 (MQ below (QV X res) args s 0 0 (xA X)) (F0 m 6 ls [.ref a]) := by
  obtain ⟨hx, hb, hr, hlk, hml, hown, hts, hK⟩ := id C0
  refine kV_i (As := []) (rest := []) ⟨hx, hb, hml, hown, hts⟩ (kX6_isOver l X h a hO) (wX6_isOver hts q4_114 ⟨Nat.le_of_ble_eq_true rfl, Nat.le_of_ble_eq_true rfl⟩) hK hW hS (va_recv hK.1 (hW.one hO.1) (ci := 6) (q0 := 0) rfl rfl) rfl hl.1 rfl (Nat.le_of_ble_eq_true rfl) dX6_searches_6 ⟨Nat.zero_le _, Nat.zero_le _⟩ (fun H locs hW hS => ?_)
  refine lv_if_eq (tgt := 13) hx hb dX6_searches_9 (by decide) (fun c1 => ?_) (fun c1 => ?_)
  · have hres := (if_pos c1).symm.trans hres
    have hs := And.left hs c1
    refine lv_iconst (v := 0) hx hb dX6_searches_13 (by decide) ?_
    refine lv_istore_n (lv' := [(2, .int 0), (0, .ref a), (1, .int x1)]) hx hb dX6_searches_14 rfl hl (by decide) rfl (fun ls hl => ?_)
    refine lv_aload_n hx hb dX6_searches_15 rfl (lv_at hl 1 rfl) ?_
    refine g6_5 hx hb hts hown hK hW hO.1 (hts _ q4_54) dX6_searches_16 ?_
    refine lv_iconst (v := 0) hx hb dX6_searches_19 (by decide) ?_
    refine lv_iconst (v := (-1)) hx hb dX6_searches_20 (by decide) ?_
    refine kb_iast hx hb hK hW hS hO.2.2.2.2.1 (k := 0) (by decide) (vpd (by decide)) dX6_searches_21 (fun H locs hW hS => ?_)
    refine lv_aload_n hx hb dX6_searches_22 rfl (lv_at hl 1 rfl) ?_
    refine lv_iconst (v := 0) hx hb dX6_searches_23 (by decide) ?_
    exact xX6_searches_c24 hO C0 x1 0 0 (hset h (a + 4) 0 (-1)) _ _ _ _ (lv_sub hl [1, 2, 0] rfl) hW hS hs hres
  · have hres := (if_neg c1).symm.trans hres
    have hs := And.right hs c1
    subst hres
    exact kr_v hx hb hr hlk hK hW hS dX6_searches_12
def fX6_searches_c0 (a : Nat) (x1 : Int32) (h : HH) : HH := fX6_searches_c6 a x1 (hset h a 7 0)
def sX6_searches_c0 (a : Nat) (x1 : Int32) (h : HH) : Prop := sX6_searches_c6 a x1 (hset h a 7 0)
set_option maxRecDepth 100000 in
set_option maxHeartbeats 4000000 in
theorem xX6_searches_c0 {p : Program} {l : Launch} {e : Env} {s : State} {m : MethodId} {args : Array Value} {below : List Frame} {meth : Method} {c : Code} {X : Cx} {a : Nat} (hO : IsMo X a) (C0 : CT p s m args meth c X cX6_searches 4 none RX6) (x1 : Int32) (h : HH) (H : Heap) (locs : List Loc) (ls : Array Slot) (res : HH) (hl : lv_has ls 4 [(0, .ref a), (1, .int x1)]) (hW : WH X h H) (hS : va_S (xA X) s.heap H locs) (hs : sX6_searches_c0 a x1 h) (hres : fX6_searches_c0 a x1 h = res) : W p l e rmX6_searches s m args below meth c H locs 0 0 (MQ below (QV X res) args s 0 0 (xA X)) (F0 m 0 ls []) := by
  obtain ⟨hx, hb, hr, hlk, hml, hown, hts, hK⟩ := id C0
  refine lv_aload_n hx hb dX6_searches_0 rfl (lv_at hl 0 rfl) ?_
  refine lv_iconst (v := 0) hx hb dX6_searches_1 (by decide) ?_
  refine p6_7 hx hb hts hown hK hW hS hO.1 (hts _ q4_56) dX6_searches_2 (fun H locs hW hS => ?_)
  refine lv_aload_n hx hb dX6_searches_5 rfl (lv_at hl 0 rfl) ?_
  exact xX6_searches_c6 hO C0 x1 (hset h a 7 0) _ _ _ _ (lv_sub hl [0, 1] rfl) hW hS hs hres
def fX6_searches (a : Nat) (x1 : Int32) (h : HH) : HH := fX6_searches_c0 a x1 h
def sX6_searches (a : Nat) (x1 : Int32) (h : HH) : Prop := sX6_searches_c0 a x1 h
set_option maxRecDepth 100000 in
set_option maxHeartbeats 4000000 in
theorem kX6_searches (l : Launch) (X : Cx) (h : HH) (a : Nat) (x1 : Int32) (hO : IsMo X a) (hs : sX6_searches a x1 h) : Met l yX6_searches vX6_searches rmX6_searches (va_Pc [.ref a, .int x1] (fun U => WS X h U)) (QV X (fX6_searches a x1 h)) 0 0 (xA X) := by
  refine Met.ofW (cc := cX6_searches) (maxL := 4) (ret := none) (by decide) rfl ?_
  intro p e s m args below meth c s₁ B hml hv
  obtain ⟨rfl, hW, hK⟩ := hv
  have hl := lv_entry ([.ref a, .int x1]) (n := 4) (Nat.le_of_ble_eq_true rfl)
  rw [lg_entry_eq]
  generalize (lg_sl ([.ref a, .int x1]) ++ List.replicate (4 - (lg_sl ([.ref a, .int x1])).length) Slot.unset).toArray = ls at hl ⊢
  have hl : lv_has ls 4 [(0, .ref a), (1, .int x1)] := hl
  exact xX6_searches_c0 hO ⟨B.exec, B.bytes, B.returns, B.notSynchronized, hml, findClass_of_methodNamed B.named, fun w hw => atoms_spec (ws := vX6_searches) B.pre w (List.mem_cons_of_mem _ hw), hK⟩ x1 h _ _ ls _ (lv_sub hl [0, 1] rfl) hW va_S.rf hs rfl
-- VillageBoardModel.told(I)I
abbrev rmX6_told : Room := ({ frames := 0, cells := 0, slots := 0, locals := 0 } : Room)
abbrev vX6_told : List Cond := Cond.code yX6_told cX6_told 1 (some .int) :: lwG
theorem wX6_told {R : Room} {s : State} {args : Array Value} {idx : Nat} (hg : ∀ w ∈ lwG, w.before args s = true) (hl : Cond.methodLink RX6 idx yX6_told ∈ lwG) (hR : rmX6_told.frames + 1 ≤ R.frames ∧ 8 + (1 + 11) + rmX6_told.locals ≤ R.locals) : CallB R s args RX6 idx yX6_told cX6_told 1 (some .int) vX6_told rmX6_told 0 0 1 ∧ (Cond.static yX6_told).before args s = true := cwS 1 hg (gS hl q5_86 q1_7 q5_87) rfl rfl rfl (by decide +kernel) hR
def fX6_told_c0 (x0 : Int32) : Int32 := (100 * (x0 / 25)) + (jrem x0 25)
set_option maxRecDepth 100000 in
set_option maxHeartbeats 4000000 in
theorem xX6_told_c0 {p : Program} {l : Launch} {e : Env} {s : State} {m : MethodId} {args : Array Value} {below : List Frame} {meth : Method} {c : Code} {X : Cx} (C0 : CT p s m args meth c X cX6_told 1 (some .int) RX6) (x0 : Int32) (h : HH) (H : Heap) (locs : List Loc) (ls : Array Slot) (res : Int32) (hl : lv_has ls 1 [(0, .int x0)]) (hW : WH X h H) (hS : va_S (xA X) s.heap H locs) (hres : fX6_told_c0 x0 = res) : W p l e rmX6_told s m args below meth c H locs 0 0 (MQ below (QI X res h) args s 0 0 (xA X)) (F0 m 0 ls []) := by
  obtain ⟨hx, hb, hr, hlk, hml, hown, hts, hK⟩ := id C0
  refine lv_bipush (v := 100) hx hb dX6_told_0 (by decide) ?_
  refine lv_iload_n hx hb dX6_told_2 rfl (lv_at hl 0 rfl) ?_
  refine lv_bipush (v := 25) hx hb dX6_told_3 (by decide) ?_
  refine lv_idiv hx hb dX6_told_5 (by decide) ?_
  refine lv_imul hx hb dX6_told_6 ?_
  refine lv_iload_n hx hb dX6_told_7 rfl (lv_at hl 0 rfl) ?_
  refine lv_bipush (v := 25) hx hb dX6_told_8 (by decide) ?_
  refine kb_irem hx hb dX6_told_10 (by decide) ?_
  refine lv_iadd hx hb dX6_told_11 ?_
  subst hres
  exact kr_i hx hb hr hlk hK hW hS dX6_told_12
def fX6_told (x0 : Int32) : Int32 := fX6_told_c0 x0
set_option maxRecDepth 100000 in
set_option maxHeartbeats 4000000 in
theorem kX6_told (l : Launch) (X : Cx) (h : HH) (x0 : Int32) : Met l yX6_told vX6_told rmX6_told (va_Pc [.int x0] (fun U => WS X h U)) (QI X (fX6_told x0) h) 0 0 (xA X) := by
  refine Met.ofW (cc := cX6_told) (maxL := 1) (ret := some .int) (by decide) rfl ?_
  intro p e s m args below meth c s₁ B hml hv
  obtain ⟨rfl, hW, hK⟩ := hv
  have hl := lv_entry ([.int x0]) (n := 1) (Nat.le_of_ble_eq_true rfl)
  rw [lg_entry_eq]
  generalize (lg_sl ([.int x0]) ++ List.replicate (1 - (lg_sl ([.int x0])).length) Slot.unset).toArray = ls at hl ⊢
  have hl : lv_has ls 1 [(0, .int x0)] := hl
  exact xX6_told_c0 ⟨B.exec, B.bytes, B.returns, B.notSynchronized, hml, findClass_of_methodNamed B.named, fun w hw => atoms_spec (ws := vX6_told) B.pre w (List.mem_cons_of_mem _ hw), hK⟩ x0 h _ _ ls _ (lv_sub hl [0] rfl) hW va_S.rf rfl
