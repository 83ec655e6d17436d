-- VillageBoard$History.clear()V
abbrev rmX1_clear : Room := ({ frames := 0, cells := 0, slots := 0, locals := 0 } : Room)
abbrev vX1_clear : List Cond := Cond.code yX1_clear cX1_clear 1 none :: lwG
theorem wX1_clear {R : Room} {s : State} {args : Array Value} {own : String} {idx : Nat} (hg : ∀ w ∈ lwG, w.before args s = true) (hl : Cond.methodLink own idx yX1_clear ∈ lwG) (hR : rmX1_clear.frames + 1 ≤ R.frames ∧ 8 + (1 + 11) + rmX1_clear.locals ≤ R.locals) : CallW R s args own RX1 idx yX1_clear cX1_clear 1 none vX1_clear rmX1_clear 0 0 0 := cwV 0 hg (gV hl q1_189 q1_190 q1_3 q1_191) rfl rfl rfl (by decide +kernel) hR
def fX1_clear_c0 (a : Nat) (h : HH) : HH := hset (hset h a 1 0) a 2 0
set_option maxRecDepth 100000 in
set_option maxHeartbeats 4000000 in
theorem xX1_clear_c0 {p : Program} {l : Launch} {e : Env} {s : State} {m : MethodId} {args : Array Value} {below : List Frame} {meth : Method} {c : Code} {X : Cx} {a : Nat} (hO : IsHi X a) (C0 : CT p s m args meth c X cX1_clear 1 none RX1) (h : HH) (H : Heap) (locs : List Loc) (ls : Array Slot) (res : HH) (hl : lv_has ls 1 [(0, .ref a)]) (hW : WH X h H) (hS : va_S (xA X) s.heap H locs) (hres : fX1_clear_c0 a h = res) : W p l e rmX1_clear s m args below meth c H locs 0 0 (MQ below (QV X res) args s 0 0 (xA X)) (F0 m 0 ls []) := by
  obtain ⟨hx, hb, hr, hlk, hml, hown, hts, hK⟩ := id C0
  refine lv_aload_n hx hb dX1_clear_0 rfl (lv_at hl 0 rfl) ?_
  refine lv_iconst (v := 0) hx hb dX1_clear_1 (by decide) ?_
  refine p1_1 hx hb hts hown hK hW hS hO.1 (hts _ q1_39) dX1_clear_2 (fun H locs hW hS => ?_)
  refine lv_aload_n hx hb dX1_clear_5 rfl (lv_at hl 0 rfl) ?_
  refine lv_iconst (v := 0) hx hb dX1_clear_6 (by decide) ?_
  refine p1_2 hx hb hts hown hK hW hS hO.1 (hts _ q1_40) dX1_clear_7 (fun H locs hW hS => ?_)
  subst hres
  exact kr_v hx hb hr hlk hK hW hS dX1_clear_10
def fX1_clear (a : Nat) (h : HH) : HH := fX1_clear_c0 a h
set_option maxRecDepth 100000 in
set_option maxHeartbeats 4000000 in
theorem kX1_clear (l : Launch) (X : Cx) (h : HH) (a : Nat) (hO : IsHi X a) : Met l yX1_clear vX1_clear rmX1_clear (va_Pc [.ref a] (fun U => WS X h U)) (QV X (fX1_clear a h)) 0 0 (xA X) := by
  refine Met.ofW (cc := cX1_clear) (maxL := 1) (ret := none) (by decide) rfl ?_
  intro p e s m args below meth c s₁ B hml hv
  obtain ⟨rfl, hW, hK⟩ := hv
  have hl := lv_entry ([.ref a]) (n := 1) (Nat.le_of_ble_eq_true rfl)
  rw [lg_entry_eq]
  generalize (lg_sl ([.ref a]) ++ List.replicate (1 - (lg_sl ([.ref a])).length) Slot.unset).toArray = ls at hl ⊢
  have hl : lv_has ls 1 [(0, .ref a)] := hl
  exact xX1_clear_c0 hO ⟨B.exec, B.bytes, B.returns, B.notSynchronized, hml, findClass_of_methodNamed B.named, fun w hw => atoms_spec (ws := vX1_clear) B.pre w (List.mem_cons_of_mem _ hw), hK⟩ h _ _ ls _ (lv_sub hl [0] rfl) hW va_S.rf rfl
-- VillageBoard$History.copyFrom(LVillageBoard$History;)V
abbrev rmX1_copyFrom : Room := ({ frames := 1, cells := 0, slots := 0, locals := 60 } : Room)
abbrev vX1_copyFrom : List Cond := Cond.code yX1_copyFrom cX1_copyFrom 2 none :: lwG
theorem wX1_copyFrom {R : Room} {s : State} {args : Array Value} {own : String} {idx : Nat} (hg : ∀ w ∈ lwG, w.before args s = true) (hl : Cond.methodLink own idx yX1_copyFrom ∈ lwG) (hR : rmX1_copyFrom.frames + 1 ≤ R.frames ∧ 8 + (2 + 11) + rmX1_copyFrom.locals ≤ R.locals) : CallW R s args own RX1 idx yX1_copyFrom cX1_copyFrom 2 none vX1_copyFrom rmX1_copyFrom 0 0 1 := cwV 1 hg (gV hl q2_136 q2_137 q1_3 q2_138) rfl rfl rfl (by decide +kernel) hR
def fX1_copyFrom_c25 (a : Nat) (r1 : Nat) (h : HH) : HH := hset h a 2 (h r1 2)
set_option maxRecDepth 100000 in
set_option maxHeartbeats 4000000 in
theorem xX1_copyFrom_c25 {p : Program} {l : Launch} {e : Env} {s : State} {m : MethodId} {args : Array Value} {below : List Frame} {meth : Method} {c : Code} {X : Cx} {a : Nat} {r1 : Nat} (hO : IsHi X a) (hr1 : IsHi X r1) (C0 : CT p s m args meth c X cX1_copyFrom 2 none RX1) (h : HH) (H : Heap) (locs : List Loc) (ls : Array Slot) (res : HH) (hl : lv_has ls 2 []) (hW : WH X h H) (hS : va_S (xA X) s.heap H locs) (hres : fX1_copyFrom_c25 a r1 h = res) : W p l e rmX1_copyFrom s m args below meth c H locs 0 0 (MQ below (QV X res) args s 0 0 (xA X)) (F0 m 25 ls [.ref r1, .ref a]) := by
  obtain ⟨hx, hb, hr, hlk, hml, hown, hts, hK⟩ := id C0
  refine g1_2 hx hb hts hown hK hW hr1.1 (hts _ q1_40) dX1_copyFrom_25 ?_
  refine p1_2 hx hb hts hown hK hW hS hO.1 (hts _ q1_40) dX1_copyFrom_28 (fun H locs hW hS => ?_)
  subst hres
  exact kr_v hx hb hr hlk hK hW hS dX1_copyFrom_31
def fX1_copyFrom_c17 (a : Nat) (r1 : Nat) (h : HH) : HH := fX1_copyFrom_c25 a r1 (hset h a 1 (h r1 1))
set_option maxRecDepth 100000 in
set_option maxHeartbeats 4000000 in
theorem xX1_copyFrom_c17 {p : Program} {l : Launch} {e : Env} {s : State} {m : MethodId} {args : Array Value} {below : List Frame} {meth : Method} {c : Code} {X : Cx} {a : Nat} {r1 : Nat} (hO : IsHi X a) (hr1 : IsHi X r1) (C0 : CT p s m args meth c X cX1_copyFrom 2 none RX1) (h : HH) (H : Heap) (locs : List Loc) (ls : Array Slot) (res : HH) (hl : lv_has ls 2 [(0, .ref a), (1, .ref r1)]) (hW : WH X h H) (hS : va_S (xA X) s.heap H locs) (hres : fX1_copyFrom_c17 a r1 h = res) : W p l e rmX1_copyFrom s m args below meth c H locs 0 0 (MQ below (QV X res) args s 0 0 (xA X)) (F0 m 17 ls [.ref r1, .ref a]) := by
  obtain ⟨hx, hb, hr, hlk, hml, hown, hts, hK⟩ := id C0
  refine g1_1 hx hb hts hown hK hW hr1.1 (hts _ q1_39) dX1_copyFrom_17 ?_
  refine p1_1 hx hb hts hown hK hW hS hO.1 (hts _ q1_39) dX1_copyFrom_20 (fun H locs hW hS => ?_)
  refine lv_aload_n hx hb dX1_copyFrom_23 rfl (lv_at hl 0 rfl) ?_
  refine lv_aload_n hx hb dX1_copyFrom_24 rfl (lv_at hl 1 rfl) ?_
  exact xX1_copyFrom_c25 hO hr1 C0 (hset h a 1 (h r1 1)) _ _ _ _ (lv_sub hl [] rfl) hW hS hres
def fX1_copyFrom_c0 (a : Nat) (r1 : Nat) (h : HH) : HH := fX1_copyFrom_c17 a r1 (hcpy h (r1 + 1) (a + 1) 0 0 120)
set_option maxRecDepth 100000 in
set_option maxHeartbeats 4000000 in
theorem xX1_copyFrom_c0 {p : Program} {l : Launch} {e : Env} {s : State} {m : MethodId} {args : Array Value} {below : List Frame} {meth : Method} {c : Code} {X : Cx} {a : Nat} {r1 : Nat} (hO : IsHi X a) (hr1 : IsHi X r1) (C0 : CT p s m args meth c X cX1_copyFrom 2 none RX1) (h : HH) (H : Heap) (locs : List Loc) (ls : Array Slot) (res : HH) (hl : lv_has ls 2 [(0, .ref a), (1, .ref r1)]) (hW : WH X h H) (hS : va_S (xA X) s.heap H locs) (hres : fX1_copyFrom_c0 a r1 h = res) : W p l e rmX1_copyFrom s m args below meth c H locs 0 0 (MQ below (QV X res) args s 0 0 (xA X)) (F0 m 0 ls []) := by
  obtain ⟨hx, hb, hr, hlk, hml, hown, hts, hK⟩ := id C0
  refine lv_aload_n hx hb dX1_copyFrom_0 rfl (lv_at hl 1 rfl) ?_
  refine g1_0 hx hb hts hown hK hW hr1.1 (hts _ q1_38) dX1_copyFrom_1 ?_
  refine lv_iconst (v := 0) hx hb dX1_copyFrom_4 (by decide) ?_
  refine lv_aload_n hx hb dX1_copyFrom_5 rfl (lv_at hl 0 rfl) ?_
  refine g1_0 hx hb hts hown hK hW hO.1 (hts _ q1_38) dX1_copyFrom_6 ?_
  refine lv_iconst (v := 0) hx hb dX1_copyFrom_9 (by decide) ?_
  refine lv_bipush (v := 120) hx hb dX1_copyFrom_10 (by decide) ?_
  refine kb_copy (sp' := 0) (dp' := 0) (n' := 120) hx hb (hml.trans hl.1.symm) hown (hts _ q2_139) (hts _ q2_133) (hts _ q2_132) (hts _ q1_12) hK hW hS hr1.2 hO.2 (by decide) (by decide) (by decide) (by decide) (by decide) (by decide) (by decide) (by decide) (Nat.le_of_ble_eq_true rfl) (Nat.le_of_ble_eq_true rfl) dX1_copyFrom_12 (fun H locs hW hS => ?_)
  refine lv_aload_n hx hb dX1_copyFrom_15 rfl (lv_at hl 0 rfl) ?_
  refine lv_aload_n hx hb dX1_copyFrom_16 rfl (lv_at hl 1 rfl) ?_
  exact xX1_copyFrom_c17 hO hr1 C0 (hcpy h (r1 + 1) (a + 1) 0 0 120) _ _ _ _ (lv_sub hl [0, 1] rfl) hW hS hres
def fX1_copyFrom (a : Nat) (r1 : Nat) (h : HH) : HH := fX1_copyFrom_c0 a r1 h
set_option maxRecDepth 100000 in
set_option maxHeartbeats 4000000 in
theorem kX1_copyFrom (l : Launch) (X : Cx) (h : HH) (a : Nat) (r1 : Nat) (hO : IsHi X a) (hr1 : IsHi X r1) : Met l yX1_copyFrom vX1_copyFrom rmX1_copyFrom (va_Pc [.ref a, .ref r1] (fun U => WS X h U)) (QV X (fX1_copyFrom a r1 h)) 0 0 (xA X) := by
  refine Met.ofW (cc := cX1_copyFrom) (maxL := 2) (ret := none) (by decide) rfl ?_
  intro p e s m args below meth c s₁ B hml hv
  obtain ⟨rfl, hW, hK⟩ := hv
  have hl := lv_entry ([.ref a, .ref r1]) (n := 2) (Nat.le_of_ble_eq_true rfl)
  rw [lg_entry_eq]
  generalize (lg_sl ([.ref a, .ref r1]) ++ List.replicate (2 - (lg_sl ([.ref a, .ref r1])).length) Slot.unset).toArray = ls at hl ⊢
  have hl : lv_has ls 2 [(0, .ref a), (1, .ref r1)] := hl
  exact xX1_copyFrom_c0 hO hr1 ⟨B.exec, B.bytes, B.returns, B.notSynchronized, hml, findClass_of_methodNamed B.named, fun w hw => atoms_spec (ws := vX1_copyFrom) B.pre w (List.mem_cons_of_mem _ hw), hK⟩ h _ _ ls _ (lv_sub hl [0, 1] rfl) hW va_S.rf rfl
-- VillageBoard$History.startOf(I)I
abbrev rmX1_startOf : Room := ({ frames := 0, cells := 0, slots := 0, locals := 0 } : Room)
abbrev vX1_startOf : List Cond := Cond.code yX1_startOf cX1_startOf 2 (some .int) :: lwG
theorem wX1_startOf {R : Room} {s : State} {args : Array Value} {own : String} {idx : Nat} (hg : ∀ w ∈ lwG, w.before args s = true) (hl : Cond.methodLink own idx yX1_startOf ∈ lwG) (hR : rmX1_startOf.frames + 1 ≤ R.frames ∧ 8 + (2 + 11) + rmX1_startOf.locals ≤ R.locals) : CallW R s args own RX1 idx yX1_startOf cX1_startOf 2 (some .int) vX1_startOf rmX1_startOf 0 0 1 := cwV 1 hg (gV hl q2_202 q0_11 q1_3 q2_203) rfl rfl rfl (by decide +kernel) hR
def fX1_startOf_c0 (a : Nat) (x1 : Int32) (h : HH) : Int32 := (jrem ((h a 1) + x1) 30) * 4
set_option maxRecDepth 100000 in
set_option maxHeartbeats 4000000 in
theorem xX1_startOf_c0 {p : Program} {l : Launch} {e : Env} {s : State} {m : MethodId} {args : Array Value} {below : List Frame} {meth : Method} {c : Code} {X : Cx} {a : Nat} (hO : IsHi X a) (C0 : CT p s m args meth c X cX1_startOf 2 (some .int) RX1) (x1 : Int32) (h : HH) (H : Heap) (locs : List Loc) (ls : Array Slot) (res : Int32) (hl : lv_has ls 2 [(0, .ref a), (1, .int x1)]) (hW : WH X h H) (hS : va_S (xA X) s.heap H locs) (hres : fX1_startOf_c0 a x1 h = res) : W p l e rmX1_startOf s m args below meth c H locs 0 0 (MQ below (QI X res h) args s 0 0 (xA X)) (F0 m 0 ls []) := by
  obtain ⟨hx, hb, hr, hlk, hml, hown, hts, hK⟩ := id C0
  refine lv_aload_n hx hb dX1_startOf_0 rfl (lv_at hl 0 rfl) ?_
  refine g1_1 hx hb hts hown hK hW hO.1 (hts _ q1_39) dX1_startOf_1 ?_
  refine lv_iload_n hx hb dX1_startOf_4 rfl (lv_at hl 1 rfl) ?_
  refine lv_iadd hx hb dX1_startOf_5 ?_
  refine lv_bipush (v := 30) hx hb dX1_startOf_6 (by decide) ?_
  refine kb_irem hx hb dX1_startOf_8 (by decide) ?_
  refine lv_iconst (v := 4) hx hb dX1_startOf_9 (by decide) ?_
  refine lv_imul hx hb dX1_startOf_10 ?_
  subst hres
  exact kr_i hx hb hr hlk hK hW hS dX1_startOf_11
def fX1_startOf (a : Nat) (x1 : Int32) (h : HH) : Int32 := fX1_startOf_c0 a x1 h
set_option maxRecDepth 100000 in
set_option maxHeartbeats 4000000 in
theorem kX1_startOf (l : Launch) (X : Cx) (h : HH) (a : Nat) (x1 : Int32) (hO : IsHi X a) : Met l yX1_startOf vX1_startOf rmX1_startOf (va_Pc [.ref a, .int x1] (fun U => WS X h U)) (QI X (fX1_startOf a x1 h) h) 0 0 (xA X) := by
  refine Met.ofW (cc := cX1_startOf) (maxL := 2) (ret := some .int) (by decide) rfl ?_
  intro p e s m args below meth c s₁ B hml hv
  obtain ⟨rfl, hW, hK⟩ := hv
  have hl := lv_entry ([.ref a, .int x1]) (n := 2) (Nat.le_of_ble_eq_true rfl)
  rw [lg_entry_eq]
  generalize (lg_sl ([.ref a, .int x1]) ++ List.replicate (2 - (lg_sl ([.ref a, .int x1])).length) Slot.unset).toArray = ls at hl ⊢
  have hl : lv_has ls 2 [(0, .ref a), (1, .int x1)] := hl
  exact xX1_startOf_c0 hO ⟨B.exec, B.bytes, B.returns, B.notSynchronized, hml, findClass_of_methodNamed B.named, fun w hw => atoms_spec (ws := vX1_startOf) B.pre w (List.mem_cons_of_mem _ hw), hK⟩ x1 h _ _ ls _ (lv_sub hl [0, 1] rfl) hW va_S.rf rfl
-- VillageBoard$History.add(IIII)V
abbrev rmX1_add : Room := ({ frames := 1, cells := 0, slots := 0, locals := 21 } : Room)
abbrev vX1_add : List Cond := Cond.code yX1_add cX1_add 6 none :: lwG
theorem wX1_add {R : Room} {s : State} {args : Array Value} {own : String} {idx : Nat} (hg : ∀ w ∈ lwG, w.before args s = true) (hl : Cond.methodLink own idx yX1_add ∈ lwG) (hR : rmX1_add.frames + 1 ≤ R.frames ∧ 8 + (6 + 11) + rmX1_add.locals ≤ R.locals) : CallW R s args own RX1 idx yX1_add cX1_add 6 none vX1_add rmX1_add 0 0 4 := cwV 4 hg (gV hl q3_112 q3_113 q1_3 q3_114) rfl rfl rfl (by decide +kernel) hR
def fX1_add_c50 (a : Nat) (h : HH) : HH := if 30 ≤ (h a 2) then (hset h a 1 (jrem ((h a 1) + 1) 30)) else (hset h a 2 ((h a 2) + 1))
set_option maxRecDepth 100000 in
set_option maxHeartbeats 4000000 in
theorem xX1_add_c50 {p : Program} {l : Launch} {e : Env} {s : State} {m : MethodId} {args : Array Value} {below : List Frame} {meth : Method} {c : Code} {X : Cx} {a : Nat} (hO : IsHi X a) (C0 : CT p s m args meth c X cX1_add 6 none RX1) (h : HH) (H : Heap) (locs : List Loc) (ls : Array Slot) (res : HH) (hl : lv_has ls 6 [(0, .ref a)]) (hW : WH X h H) (hS : va_S (xA X) s.heap H locs) (hres : fX1_add_c50 a h = res) : W p l e rmX1_add s m args below meth c H locs 0 0 (MQ below (QV X res) args s 0 0 (xA X)) (F0 m 50 ls [.ref a]) := by
  obtain ⟨hx, hb, hr, hlk, hml, hown, hts, hK⟩ := id C0
  refine g1_2 hx hb hts hown hK hW hO.1 (hts _ q1_40) dX1_add_50 ?_
  refine lv_bipush (v := 30) hx hb dX1_add_53 (by decide) ?_
  refine lv_icmp_ge (tgt := 71) hx hb dX1_add_55 (by decide) (fun c5 => ?_) (fun c5 => ?_)
  · have hres := (if_pos c5).symm.trans hres
    refine lv_aload_n hx hb dX1_add_71 rfl (lv_at hl 0 rfl) ?_
    refine lv_aload_n hx hb dX1_add_72 rfl (lv_at hl 0 rfl) ?_
    refine g1_1 hx hb hts hown hK hW hO.1 (hts _ q1_39) dX1_add_73 ?_
    refine lv_iconst (v := 1) hx hb dX1_add_76 (by decide) ?_
    refine lv_iadd hx hb dX1_add_77 ?_
    refine lv_bipush (v := 30) hx hb dX1_add_78 (by decide) ?_
    refine kb_irem hx hb dX1_add_80 (by decide) ?_
    refine p1_1 hx hb hts hown hK hW hS hO.1 (hts _ q1_39) dX1_add_81 (fun H locs hW hS => ?_)
    subst hres
    exact kr_v hx hb hr hlk hK hW hS dX1_add_84
  · have hres := (if_neg c5).symm.trans hres
    refine lv_aload_n hx hb dX1_add_58 rfl (lv_at hl 0 rfl) ?_
    refine lv_dup hx hb dX1_add_59 rfl ?_
    refine g1_2 hx hb hts hown hK hW hO.1 (hts _ q1_40) dX1_add_60 ?_
    refine lv_iconst (v := 1) hx hb dX1_add_63 (by decide) ?_
    refine lv_iadd hx hb dX1_add_64 ?_
    refine p1_2 hx hb hts hown hK hW hS hO.1 (hts _ q1_40) dX1_add_65 (fun H locs hW hS => ?_)
    refine lv_goto (tgt := 84) hx hb dX1_add_68 (by decide) ?_
    subst hres
    exact kr_v hx hb hr hlk hK hW hS dX1_add_84
def fX1_add_c0 (a : Nat) (x1 : Int32) (x2 : Int32) (x3 : Int32) (x4 : Int32) (h : HH) : HH := fX1_add_c50 a (hset (hset (hset (hset h (a + 1) ((fX1_startOf a (h a 2) h).toNatClampNeg) x1) (a + 1) (((fX1_startOf a (h a 2) h) + 1).toNatClampNeg) x2) (a + 1) (((fX1_startOf a (h a 2) h) + 2).toNatClampNeg) x3) (a + 1) (((fX1_startOf a (h a 2) h) + 3).toNatClampNeg) x4)
def sX1_add_c0 (a : Nat) (x1 : Int32) (x2 : Int32) (x3 : Int32) (x4 : Int32) (h : HH) : Prop := (vp_in (fX1_startOf a (h a 2) h) 120) ∧ ((vp_in ((fX1_startOf a (h a 2) h) + 1) 120) ∧ ((vp_in ((fX1_startOf a (h a 2) h) + 2) 120) ∧ (vp_in ((fX1_startOf a (h a 2) h) + 3) 120)))
set_option maxRecDepth 100000 in
set_option maxHeartbeats 4000000 in
theorem xX1_add_c0 {p : Program} {l : Launch} {e : Env} {s : State} {m : MethodId} {args : Array Value} {below : List Frame} {meth : Method} {c : Code} {X : Cx} {a : Nat} (hO : IsHi X a) (C0 : CT p s m args meth c X cX1_add 6 none RX1) (x1 : Int32) (x2 : Int32) (x3 : Int32) (x4 : Int32) (h : HH) (H : Heap) (locs : List Loc) (ls : Array Slot) (res : HH) (hl : lv_has ls 6 [(0, .ref a), (1, .int x1), (2, .int x2), (3, .int x3), (4, .int x4)]) (hW : WH X h H) (hS : va_S (xA X) s.heap H locs) (hs : sX1_add_c0 a x1 x2 x3 x4 h) (hres : fX1_add_c0 a x1 x2 x3 x4 h = res) : W p l e rmX1_add s m args below meth c H locs 0 0 (MQ below (QV X res) args s 0 0 (xA X)) (F0 m 0 ls []) := by
  obtain ⟨hx, hb, hr, hlk, hml, hown, hts, hK⟩ := id C0
  refine lv_aload_n hx hb dX1_add_0 rfl (lv_at hl 0 rfl) ?_
  refine lv_aload_n hx hb dX1_add_1 rfl (lv_at hl 0 rfl) ?_
  refine g1_2 hx hb hts hown hK hW hO.1 (hts _ q1_40) dX1_add_2 ?_
  refine kV_i (As := [.int (h a 2)]) (rest := []) ⟨hx, hb, hml, hown, hts⟩ (kX1_startOf l X h a (h a 2) hO) (wX1_startOf hts q2_200 ⟨Nat.le_of_ble_eq_true rfl, Nat.le_of_ble_eq_true rfl⟩) hK hW hS (va_recv hK.1 (hW.one hO.1) (ci := 1) (q0 := 0) rfl rfl) rfl hl.1 rfl (Nat.le_of_ble_eq_true rfl) dX1_add_5 ⟨Nat.zero_le _, Nat.zero_le _⟩ (fun H locs hW hS => ?_)
  refine lv_istore (lv' := [(5, .int (fX1_startOf a (h a 2) h)), (0, .ref a), (1, .int x1), (2, .int x2), (3, .int x3), (4, .int x4)]) hx hb dX1_add_8 hl (by decide) rfl (fun ls hl => ?_)
  refine lv_aload_n hx hb dX1_add_10 rfl (lv_at hl 1 rfl) ?_
  refine g1_0 hx hb hts hown hK hW hO.1 (hts _ q1_38) dX1_add_11 ?_
  refine lv_iload hx hb dX1_add_14 (lv_at hl 0 rfl) ?_
  refine lv_iload_n hx hb dX1_add_16 rfl (lv_at hl 2 rfl) ?_
  obtain ⟨hi1, hs⟩ := hs
  refine kb_iast hx hb hK hW hS hO.2 (k := (fX1_startOf a (h a 2) h).toNatClampNeg) rfl hi1 dX1_add_17 (fun H locs hW hS => ?_)
  refine lv_aload_n hx hb dX1_add_18 rfl (lv_at hl 1 rfl) ?_
  refine g1_0 hx hb hts hown hK hW hO.1 (hts _ q1_38) dX1_add_19 ?_
  refine lv_iload hx hb dX1_add_22 (lv_at hl 0 rfl) ?_
  refine lv_iconst (v := 1) hx hb dX1_add_24 (by decide) ?_
  refine lv_iadd hx hb dX1_add_25 ?_
  refine lv_iload_n hx hb dX1_add_26 rfl (lv_at hl 3 rfl) ?_
  obtain ⟨hi2, hs⟩ := hs
  refine kb_iast hx hb hK hW hS hO.2 (k := ((fX1_startOf a (h a 2) h) + 1).toNatClampNeg) rfl hi2 dX1_add_27 (fun H locs hW hS => ?_)
  refine lv_aload_n hx hb dX1_add_28 rfl (lv_at hl 1 rfl) ?_
  refine g1_0 hx hb hts hown hK hW hO.1 (hts _ q1_38) dX1_add_29 ?_
  refine lv_iload hx hb dX1_add_32 (lv_at hl 0 rfl) ?_
  refine lv_iconst (v := 2) hx hb dX1_add_34 (by decide) ?_
  refine lv_iadd hx hb dX1_add_35 ?_
  refine lv_iload_n hx hb dX1_add_36 rfl (lv_at hl 4 rfl) ?_
  obtain ⟨hi3, hs⟩ := hs
  refine kb_iast hx hb hK hW hS hO.2 (k := ((fX1_startOf a (h a 2) h) + 2).toNatClampNeg) rfl hi3 dX1_add_37 (fun H locs hW hS => ?_)
  refine lv_aload_n hx hb dX1_add_38 rfl (lv_at hl 1 rfl) ?_
  refine g1_0 hx hb hts hown hK hW hO.1 (hts _ q1_38) dX1_add_39 ?_
  refine lv_iload hx hb dX1_add_42 (lv_at hl 0 rfl) ?_
  refine lv_iconst (v := 3) hx hb dX1_add_44 (by decide) ?_
  refine lv_iadd hx hb dX1_add_45 ?_
  refine lv_iload hx hb dX1_add_46 (lv_at hl 5 rfl) ?_
  have hi4 := hs
  refine kb_iast hx hb hK hW hS hO.2 (k := ((fX1_startOf a (h a 2) h) + 3).toNatClampNeg) rfl hi4 dX1_add_48 (fun H locs hW hS => ?_)
  refine lv_aload_n hx hb dX1_add_49 rfl (lv_at hl 1 rfl) ?_
  exact xX1_add_c50 hO C0 (hset (hset (hset (hset h (a + 1) ((fX1_startOf a (h a 2) h).toNatClampNeg) x1) (a + 1) (((fX1_startOf a (h a 2) h) + 1).toNatClampNeg) x2) (a + 1) (((fX1_startOf a (h a 2) h) + 2).toNatClampNeg) x3) (a + 1) (((fX1_startOf a (h a 2) h) + 3).toNatClampNeg) x4) _ _ _ _ (lv_sub hl [1] rfl) hW hS hres
def fX1_add (a : Nat) (x1 : Int32) (x2 : Int32) (x3 : Int32) (x4 : Int32) (h : HH) : HH := fX1_add_c0 a x1 x2 x3 x4 h
def sX1_add (a : Nat) (x1 : Int32) (x2 : Int32) (x3 : Int32) (x4 : Int32) (h : HH) : Prop := sX1_add_c0 a x1 x2 x3 x4 h
set_option maxRecDepth 100000 in
set_option maxHeartbeats 4000000 in
theorem kX1_add (l : Launch) (X : Cx) (h : HH) (a : Nat) (x1 : Int32) (x2 : Int32) (x3 : Int32) (x4 : Int32) (hO : IsHi X a) (hs : sX1_add a x1 x2 x3 x4 h) : Met l yX1_add vX1_add rmX1_add (va_Pc [.ref a, .int x1, .int x2, .int x3, .int x4] (fun U => WS X h U)) (QV X (fX1_add a x1 x2 x3 x4 h)) 0 0 (xA X) := by
  refine Met.ofW (cc := cX1_add) (maxL := 6) (ret := none) (by decide) rfl ?_
  intro p e s m args below meth c s₁ B hml hv
  obtain ⟨rfl, hW, hK⟩ := hv
  have hl := lv_entry ([.ref a, .int x1, .int x2, .int x3, .int x4]) (n := 6) (Nat.le_of_ble_eq_true rfl)
  rw [lg_entry_eq]
  generalize (lg_sl ([.ref a, .int x1, .int x2, .int x3, .int x4]) ++ List.replicate (6 - (lg_sl ([.ref a, .int x1, .int x2, .int x3, .int x4])).length) Slot.unset).toArray = ls at hl ⊢
  have hl : lv_has ls 6 [(0, .ref a), (1, .int x1), (2, .int x2), (3, .int x3), (4, .int x4)] := hl
  exact xX1_add_c0 hO ⟨B.exec, B.bytes, B.returns, B.notSynchronized, hml, findClass_of_methodNamed B.named, fun w hw => atoms_spec (ws := vX1_add) B.pre w (List.mem_cons_of_mem _ hw), hK⟩ x1 x2 x3 x4 h _ _ ls _ (lv_sub hl [0, 1, 2, 3, 4] rfl) hW va_S.rf hs rfl
-- VillageBoard$History.part(II)I
abbrev rmX1_part : Room := ({ frames := 1, cells := 0, slots := 0, locals := 21 } : Room)
abbrev vX1_part : List Cond := Cond.code yX1_part cX1_part 3 (some .int) :: lwG
theorem wX1_part {R : Room} {s : State} {args : Array Value} {own : String} {idx : Nat} (hg : ∀ w ∈ lwG, w.before args s = true) (hl : Cond.methodLink own idx yX1_part ∈ lwG) (hR : rmX1_part.frames + 1 ≤ R.frames ∧ 8 + (3 + 11) + rmX1_part.locals ≤ R.locals) : CallW R s args own RX1 idx yX1_part cX1_part 3 (some .int) vX1_part rmX1_part 0 0 2 := cwV 2 hg (gV hl q2_197 q2_198 q1_3 q2_199) rfl rfl rfl (by decide +kernel) hR
def fX1_part_c0 (a : Nat) (x1 : Int32) (x2 : Int32) (h : HH) : Int32 := h (a + 1) (((fX1_startOf a x1 h) + x2).toNatClampNeg)
def sX1_part_c0 (a : Nat) (x1 : Int32) (x2 : Int32) (h : HH) : Prop := vp_in ((fX1_startOf a x1 h) + x2) 120
set_option maxRecDepth 100000 in
set_option maxHeartbeats 4000000 in
theorem xX1_part_c0 {p : Program} {l : Launch} {e : Env} {s : State} {m : MethodId} {args : Array Value} {below : List Frame} {meth : Method} {c : Code} {X : Cx} {a : Nat} (hO : IsHi X a) (C0 : CT p s m args meth c X cX1_part 3 (some .int) RX1) (x1 : Int32) (x2 : Int32) (h : HH) (H : Heap) (locs : List Loc) (ls : Array Slot) (res : Int32) (hl : lv_has ls 3 [(0, .ref a), (1, .int x1), (2, .int x2)]) (hW : WH X h H) (hS : va_S (xA X) s.heap H locs) (hs : sX1_part_c0 a x1 x2 h) (hres : fX1_part_c0 a x1 x2 h = res) : W p l e rmX1_part s m args below meth c H locs 0 0 (MQ below (QI X res h) args s 0 0 (xA X)) (F0 m 0 ls []) := by
  obtain ⟨hx, hb, hr, hlk, hml, hown, hts, hK⟩ := id C0
  refine lv_aload_n hx hb dX1_part_0 rfl (lv_at hl 0 rfl) ?_
  refine g1_0 hx hb hts hown hK hW hO.1 (hts _ q1_38) dX1_part_1 ?_
  refine lv_aload_n hx hb dX1_part_4 rfl (lv_at hl 0 rfl) ?_
  refine lv_iload_n hx hb dX1_part_5 rfl (lv_at hl 1 rfl) ?_
  refine kV_i (As := [.int x1]) (rest := [.ref (a + 1)]) ⟨hx, hb, hml, hown, hts⟩ (kX1_startOf l X h a x1 hO) (wX1_startOf hts q2_200 ⟨Nat.le_of_ble_eq_true rfl, Nat.le_of_ble_eq_true rfl⟩) hK hW hS (va_recv hK.1 (hW.one hO.1) (ci := 1) (q0 := 0) rfl rfl) rfl hl.1 rfl (Nat.le_of_ble_eq_true rfl) dX1_part_6 ⟨Nat.zero_le _, Nat.zero_le _⟩ (fun H locs hW hS => ?_)
  refine lv_iload_n hx hb dX1_part_9 rfl (lv_at hl 2 rfl) ?_
  refine lv_iadd hx hb dX1_part_10 ?_
  have hi1 := hs
  refine kb_iald hx hb hK hW hO.2 (k := ((fX1_startOf a x1 h) + x2).toNatClampNeg) rfl hi1 dX1_part_11 ?_
  subst hres
  exact kr_i hx hb hr hlk hK hW hS dX1_part_12
def fX1_part (a : Nat) (x1 : Int32) (x2 : Int32) (h : HH) : Int32 := fX1_part_c0 a x1 x2 h
def sX1_part (a : Nat) (x1 : Int32) (x2 : Int32) (h : HH) : Prop := sX1_part_c0 a x1 x2 h
set_option maxRecDepth 100000 in
set_option maxHeartbeats 4000000 in
theorem kX1_part (l : Launch) (X : Cx) (h : HH) (a : Nat) (x1 : Int32) (x2 : Int32) (hO : IsHi X a) (hs : sX1_part a x1 x2 h) : Met l yX1_part vX1_part rmX1_part (va_Pc [.ref a, .int x1, .int x2] (fun U => WS X h U)) (QI X (fX1_part a x1 x2 h) h) 0 0 (xA X) := by
  refine Met.ofW (cc := cX1_part) (maxL := 3) (ret := some .int) (by decide) rfl ?_
  intro p e s m args below meth c s₁ B hml hv
  obtain ⟨rfl, hW, hK⟩ := hv
  have hl := lv_entry ([.ref a, .int x1, .int x2]) (n := 3) (Nat.le_of_ble_eq_true rfl)
  rw [lg_entry_eq]
  generalize (lg_sl ([.ref a, .int x1, .int x2]) ++ List.replicate (3 - (lg_sl ([.ref a, .int x1, .int x2])).length) Slot.unset).toArray = ls at hl ⊢
  have hl : lv_has ls 3 [(0, .ref a), (1, .int x1), (2, .int x2)] := hl
  exact xX1_part_c0 hO ⟨B.exec, B.bytes, B.returns, B.notSynchronized, hml, findClass_of_methodNamed B.named, fun w hw => atoms_spec (ws := vX1_part) B.pre w (List.mem_cons_of_mem _ hw), hK⟩ x1 x2 h _ _ ls _ (lv_sub hl [0, 1, 2] rfl) hW va_S.rf hs rfl
