-- VillageBoard$UndoStack.push(LVillageBoard$Game;)V
abbrev rmX4_push : Room := ({ frames := 3, cells := 0, slots := 0, locals := 103 } : Room)
abbrev vX4_push : List Cond := Cond.code yX4_push cX4_push 2 none :: lwG
theorem wX4_push {R : Room} {s : State} {args : Array Value} {own : String} {idx : Nat} (hg : ∀ w ∈ lwG, w.before args s = true) (hl : Cond.methodLink own idx yX4_push ∈ lwG) (hR : rmX4_push.frames + 1 ≤ R.frames ∧ 8 + (2 + 11) + rmX4_push.locals ≤ R.locals) : CallW R s args own RX4 idx yX4_push cX4_push 2 none vX4_push rmX4_push 0 0 1 := cwV 1 hg (gV hl q3_44 q3_45 q1_5 q3_46) rfl rfl rfl (by decide +kernel) hR
def fX4_push_c27 (a : Nat) (r1 : Nat) (h : HH) : HH := hset h a 2 (jmin ((h a 2) + 1) 4)
set_option maxRecDepth 100000 in
set_option maxHeartbeats 4000000 in
theorem xX4_push_c27 {p : Program} {l : Launch} {e : Env} {s : State} {m : MethodId} {args : Array Value} {below : List Frame} {meth : Method} {c : Code} {X : Cx} {a : Nat} {r1 : Nat} (hO : IsUn X a) (hr1 : IsGm X r1) (C0 : CT p s m args meth c X cX4_push 2 none RX4) (h : HH) (H : Heap) (locs : List Loc) (ls : Array Slot) (res : HH) (hl : lv_has ls 2 []) (hW : WH X h H) (hS : va_S (xA X) s.heap H locs) (hres : fX4_push_c27 a r1 h = res) : W p l e rmX4_push s m args below meth c H locs 0 0 (MQ below (QV X res) args s 0 0 (xA X)) (F0 m 27 ls [.ref a, .ref a]) := by
  obtain ⟨hx, hb, hr, hlk, hml, hown, hts, hK⟩ := id C0
  refine g4_2 hx hb hts hown hK hW hO.1 (hts _ q1_135) dX4_push_27 ?_
  refine lv_iconst (v := 1) hx hb dX4_push_30 (by decide) ?_
  refine lv_iadd hx hb dX4_push_31 ?_
  refine lv_iconst (v := 4) hx hb dX4_push_32 (by decide) ?_
  refine kb_min hx hb (hml.trans hl.1.symm) hown (hts _ q3_48) (hts _ q2_87) (hts _ q1_13) (hts _ q2_88) (Nat.le_of_ble_eq_true rfl) (Nat.le_of_ble_eq_true rfl) (Nat.zero_le _) (Nat.zero_le _) dX4_push_33 ?_
  refine p4_2 hx hb hts hown hK hW hS hO.1 (hts _ q1_135) dX4_push_36 (fun H locs hW hS => ?_)
  subst hres
  exact kr_v hx hb hr hlk hK hW hS dX4_push_39
def fX4_push_c15 (a : Nat) (r1 : Nat) (h : HH) : HH := fX4_push_c27 a r1 (hset h a 1 (jrem ((h a 1) + 1) 4))
set_option maxRecDepth 100000 in
set_option maxHeartbeats 4000000 in
theorem xX4_push_c15 {p : Program} {l : Launch} {e : Env} {s : State} {m : MethodId} {args : Array Value} {below : List Frame} {meth : Method} {c : Code} {X : Cx} {a : Nat} {r1 : Nat} (hO : IsUn X a) (hr1 : IsGm X r1) (C0 : CT p s m args meth c X cX4_push 2 none RX4) (h : HH) (H : Heap) (locs : List Loc) (ls : Array Slot) (res : HH) (hl : lv_has ls 2 [(0, .ref a)]) (hW : WH X h H) (hS : va_S (xA X) s.heap H locs) (hres : fX4_push_c15 a r1 h = res) : W p l e rmX4_push s m args below meth c H locs 0 0 (MQ below (QV X res) args s 0 0 (xA X)) (F0 m 15 ls [.ref a, .ref a]) := by
  obtain ⟨hx, hb, hr, hlk, hml, hown, hts, hK⟩ := id C0
  refine g4_1 hx hb hts hown hK hW hO.1 (hts _ q1_134) dX4_push_15 ?_
  refine lv_iconst (v := 1) hx hb dX4_push_18 (by decide) ?_
  refine lv_iadd hx hb dX4_push_19 ?_
  refine lv_iconst (v := 4) hx hb dX4_push_20 (by decide) ?_
  refine kb_irem hx hb dX4_push_21 (by decide) ?_
  refine p4_1 hx hb hts hown hK hW hS hO.1 (hts _ q1_134) dX4_push_22 (fun H locs hW hS => ?_)
  refine lv_aload_n hx hb dX4_push_25 rfl (lv_at hl 0 rfl) ?_
  refine lv_aload_n hx hb dX4_push_26 rfl (lv_at hl 0 rfl) ?_
  exact xX4_push_c27 hO hr1 C0 (hset h a 1 (jrem ((h a 1) + 1) 4)) _ _ _ _ (lv_sub hl [] rfl) hW hS hres
def fX4_push_c0 (a : Nat) (r1 : Nat) (h : HH) : HH := fX4_push_c15 a r1 (fX0_copyFrom (a + 2 + 15 * ((h a 1).toNatClampNeg)) r1 h)
def sX4_push_c0 (a : Nat) (r1 : Nat) (h : HH) : Prop := (vp_in (h a 1) 4) ∧ (sX0_copyFrom (a + 2 + 15 * ((h a 1).toNatClampNeg)) r1 h)
set_option maxRecDepth 100000 in
set_option maxHeartbeats 4000000 in
theorem xX4_push_c0 {p : Program} {l : Launch} {e : Env} {s : State} {m : MethodId} {args : Array Value} {below : List Frame} {meth : Method} {c : Code} {X : Cx} {a : Nat} {r1 : Nat} (hO : IsUn X a) (hr1 : IsGm X r1) (C0 : CT p s m args meth c X cX4_push 2 none RX4) (h : HH) (H : Heap) (locs : List Loc) (ls : Array Slot) (res : HH) (hl : lv_has ls 2 [(0, .ref a), (1, .ref r1)]) (hW : WH X h H) (hS : va_S (xA X) s.heap H locs) (hs : sX4_push_c0 a r1 h) (hres : fX4_push_c0 a r1 h = res) : W p l e rmX4_push s m args below meth c H locs 0 0 (MQ below (QV X res) args s 0 0 (xA X)) (F0 m 0 ls []) := by
  obtain ⟨hx, hb, hr, hlk, hml, hown, hts, hK⟩ := id C0
  refine lv_aload_n hx hb dX4_push_0 rfl (lv_at hl 0 rfl) ?_
  refine g4_0 hx hb hts hown hK hW hO.1 (hts _ q1_133) dX4_push_1 ?_
  refine lv_aload_n hx hb dX4_push_4 rfl (lv_at hl 0 rfl) ?_
  refine g4_1 hx hb hts hown hK hW hO.1 (hts _ q1_134) dX4_push_5 ?_
  obtain ⟨hi1, hs⟩ := hs
  refine kb_aald (j := 2) hx hb hK hW hO.2.1 rfl rfl (k := (h a 1).toNatClampNeg) rfl hi1 rfl dX4_push_8 ?_
  refine lv_aload_n hx hb dX4_push_9 rfl (lv_at hl 1 rfl) ?_
  have hc2 := hs
  refine kV_v (As := [.ref r1]) (rest := []) ⟨hx, hb, hml, hown, hts⟩ (kX0_copyFrom l X h (a + 2 + 15 * ((h a 1).toNatClampNeg)) r1 (hO.2.2 ((h a 1).toNatClampNeg) (kin hi1)) hr1 hc2) (wX0_copyFrom hts q3_47 ⟨Nat.le_of_ble_eq_true rfl, Nat.le_of_ble_eq_true rfl⟩) hK hW hS (va_recv hK.1 (hW.one (hO.2.2 ((h a 1).toNatClampNeg) (kin hi1)).1) (ci := 0) (q0 := 0) rfl rfl) rfl hl.1 rfl (Nat.le_of_ble_eq_true rfl) dX4_push_10 ⟨Nat.zero_le _, Nat.zero_le _⟩ (fun H locs hW hS => ?_)
  refine lv_aload_n hx hb dX4_push_13 rfl (lv_at hl 0 rfl) ?_
  refine lv_aload_n hx hb dX4_push_14 rfl (lv_at hl 0 rfl) ?_
  exact xX4_push_c15 hO hr1 C0 (fX0_copyFrom (a + 2 + 15 * ((h a 1).toNatClampNeg)) r1 h) _ _ _ _ (lv_sub hl [0] rfl) hW hS hres
def fX4_push (a : Nat) (r1 : Nat) (h : HH) : HH := fX4_push_c0 a r1 h
def sX4_push (a : Nat) (r1 : Nat) (h : HH) : Prop := sX4_push_c0 a r1 h
set_option maxRecDepth 100000 in
set_option maxHeartbeats 4000000 in
theorem kX4_push (l : Launch) (X : Cx) (h : HH) (a : Nat) (r1 : Nat) (hO : IsUn X a) (hr1 : IsGm X r1) (hs : sX4_push a r1 h) : Met l yX4_push vX4_push rmX4_push (va_Pc [.ref a, .ref r1] (fun U => WS X h U)) (QV X (fX4_push a r1 h)) 0 0 (xA X) := by
  refine Met.ofW (cc := cX4_push) (maxL := 2) (ret := none) (by decide) rfl ?_
  intro p e s m args below meth c s₁ B hml hv
  obtain ⟨rfl, hW, hK⟩ := hv
  have hl := lv_entry ([.ref a, .ref r1]) (n := 2) (Nat.le_of_ble_eq_true rfl)
  rw [lg_entry_eq]
  generalize (lg_sl ([.ref a, .ref r1]) ++ List.replicate (2 - (lg_sl ([.ref a, .ref r1])).length) Slot.unset).toArray = ls at hl ⊢
  have hl : lv_has ls 2 [(0, .ref a), (1, .ref r1)] := hl
  exact xX4_push_c0 hO hr1 ⟨B.exec, B.bytes, B.returns, B.notSynchronized, hml, findClass_of_methodNamed B.named, fun w hw => atoms_spec (ws := vX4_push) B.pre w (List.mem_cons_of_mem _ hw), hK⟩ h _ _ ls _ (lv_sub hl [0, 1] rfl) hW va_S.rf hs rfl
-- VillageBoard$UndoStack.pop(LVillageBoard$Game;)V
abbrev rmX4_pop : Room := ({ frames := 3, cells := 0, slots := 0, locals := 103 } : Room)
abbrev vX4_pop : List Cond := Cond.code yX4_pop cX4_pop 2 none :: lwG
theorem wX4_pop {R : Room} {s : State} {args : Array Value} {own : String} {idx : Nat} (hg : ∀ w ∈ lwG, w.before args s = true) (hl : Cond.methodLink own idx yX4_pop ∈ lwG) (hR : rmX4_pop.frames + 1 ≤ R.frames ∧ 8 + (2 + 11) + rmX4_pop.locals ≤ R.locals) : CallW R s args own RX4 idx yX4_pop cX4_pop 2 none vX4_pop rmX4_pop 0 0 1 := cwV 1 hg (gV hl q4_14 q4_15 q1_5 q4_16) rfl rfl rfl (by decide +kernel) hR
def fX4_pop_c30 (a : Nat) (r1 : Nat) (h : HH) : HH := fX0_copyFrom r1 (a + 2 + 15 * ((h a 1).toNatClampNeg)) h
def sX4_pop_c30 (a : Nat) (r1 : Nat) (h : HH) : Prop := (vp_in (h a 1) 4) ∧ (sX0_copyFrom r1 (a + 2 + 15 * ((h a 1).toNatClampNeg)) h)
set_option maxRecDepth 100000 in
set_option maxHeartbeats 4000000 in
theorem xX4_pop_c30 {p : Program} {l : Launch} {e : Env} {s : State} {m : MethodId} {args : Array Value} {below : List Frame} {meth : Method} {c : Code} {X : Cx} {a : Nat} {r1 : Nat} (hO : IsUn X a) (hr1 : IsGm X r1) (C0 : CT p s m args meth c X cX4_pop 2 none RX4) (h : HH) (H : Heap) (locs : List Loc) (ls : Array Slot) (res : HH) (hl : lv_has ls 2 []) (hW : WH X h H) (hS : va_S (xA X) s.heap H locs) (hs : sX4_pop_c30 a r1 h) (hres : fX4_pop_c30 a r1 h = res) : W p l e rmX4_pop s m args below meth c H locs 0 0 (MQ below (QV X res) args s 0 0 (xA X)) (F0 m 30 ls [.ref a, .ref (a + 1), .ref r1]) := by
  obtain ⟨hx, hb, hr, hlk, hml, hown, hts, hK⟩ := id C0
  refine g4_1 hx hb hts hown hK hW hO.1 (hts _ q1_134) dX4_pop_30 ?_
  obtain ⟨hi1, hs⟩ := hs
  refine kb_aald (j := 2) hx hb hK hW hO.2.1 rfl rfl (k := (h a 1).toNatClampNeg) rfl hi1 rfl dX4_pop_33 ?_
  have hc2 := hs
  refine kV_v (As := [.ref (a + 2 + 15 * ((h a 1).toNatClampNeg))]) (rest := []) ⟨hx, hb, hml, hown, hts⟩ (kX0_copyFrom l X h r1 (a + 2 + 15 * ((h a 1).toNatClampNeg)) hr1 (hO.2.2 ((h a 1).toNatClampNeg) (kin hi1)) hc2) (wX0_copyFrom hts q3_47 ⟨Nat.le_of_ble_eq_true rfl, Nat.le_of_ble_eq_true rfl⟩) hK hW hS (va_recv hK.1 (hW.one hr1.1) (ci := 0) (q0 := 0) rfl rfl) rfl hl.1 rfl (Nat.le_of_ble_eq_true rfl) dX4_pop_34 ⟨Nat.zero_le _, Nat.zero_le _⟩ (fun H locs hW hS => ?_)
  subst hres
  exact kr_v hx hb hr hlk hK hW hS dX4_pop_37
def fX4_pop_c16 (a : Nat) (r1 : Nat) (h : HH) : HH := fX4_pop_c30 a r1 (hset h a 2 ((h a 2) - 1))
def sX4_pop_c16 (a : Nat) (r1 : Nat) (h : HH) : Prop := sX4_pop_c30 a r1 (hset h a 2 ((h a 2) - 1))
set_option maxRecDepth 100000 in
set_option maxHeartbeats 4000000 in
theorem xX4_pop_c16 {p : Program} {l : Launch} {e : Env} {s : State} {m : MethodId} {args : Array Value} {below : List Frame} {meth : Method} {c : Code} {X : Cx} {a : Nat} {r1 : Nat} (hO : IsUn X a) (hr1 : IsGm X r1) (C0 : CT p s m args meth c X cX4_pop 2 none RX4) (h : HH) (H : Heap) (locs : List Loc) (ls : Array Slot) (res : HH) (hl : lv_has ls 2 [(0, .ref a), (1, .ref r1)]) (hW : WH X h H) (hS : va_S (xA X) s.heap H locs) (hs : sX4_pop_c16 a r1 h) (hres : fX4_pop_c16 a r1 h = res) : W p l e rmX4_pop s m args below meth c H locs 0 0 (MQ below (QV X res) args s 0 0 (xA X)) (F0 m 16 ls [.ref a, .ref a]) := by
  obtain ⟨hx, hb, hr, hlk, hml, hown, hts, hK⟩ := id C0
  refine g4_2 hx hb hts hown hK hW hO.1 (hts _ q1_135) dX4_pop_16 ?_
  refine lv_iconst (v := 1) hx hb dX4_pop_19 (by decide) ?_
  refine lv_isub hx hb dX4_pop_20 ?_
  refine p4_2 hx hb hts hown hK hW hS hO.1 (hts _ q1_135) dX4_pop_21 (fun H locs hW hS => ?_)
  refine lv_aload_n hx hb dX4_pop_24 rfl (lv_at hl 1 rfl) ?_
  refine lv_aload_n hx hb dX4_pop_25 rfl (lv_at hl 0 rfl) ?_
  refine g4_0 hx hb hts hown hK hW hO.1 (hts _ q1_133) dX4_pop_26 ?_
  refine lv_aload_n hx hb dX4_pop_29 rfl (lv_at hl 0 rfl) ?_
  exact xX4_pop_c30 hO hr1 C0 (hset h a 2 ((h a 2) - 1)) _ _ _ _ (lv_sub hl [] rfl) hW hS hs hres
def fX4_pop_c0 (a : Nat) (r1 : Nat) (h : HH) : HH := fX4_pop_c16 a r1 (hset h a 1 (jrem (((h a 1) + 4) - 1) 4))
def sX4_pop_c0 (a : Nat) (r1 : Nat) (h : HH) : Prop := sX4_pop_c16 a r1 (hset h a 1 (jrem (((h a 1) + 4) - 1) 4))
set_option maxRecDepth 100000 in
set_option maxHeartbeats 4000000 in
theorem xX4_pop_c0 {p : Program} {l : Launch} {e : Env} {s : State} {m : MethodId} {args : Array Value} {below : List Frame} {meth : Method} {c : Code} {X : Cx} {a : Nat} {r1 : Nat} (hO : IsUn X a) (hr1 : IsGm X r1) (C0 : CT p s m args meth c X cX4_pop 2 none RX4) (h : HH) (H : Heap) (locs : List Loc) (ls : Array Slot) (res : HH) (hl : lv_has ls 2 [(0, .ref a), (1, .ref r1)]) (hW : WH X h H) (hS : va_S (xA X) s.heap H locs) (hs : sX4_pop_c0 a r1 h) (hres : fX4_pop_c0 a r1 h = res) : W p l e rmX4_pop s m args below meth c H locs 0 0 (MQ below (QV X res) args s 0 0 (xA X)) (F0 m 0 ls []) := by
  obtain ⟨hx, hb, hr, hlk, hml, hown, hts, hK⟩ := id C0
  refine lv_aload_n hx hb dX4_pop_0 rfl (lv_at hl 0 rfl) ?_
  refine lv_aload_n hx hb dX4_pop_1 rfl (lv_at hl 0 rfl) ?_
  refine g4_1 hx hb hts hown hK hW hO.1 (hts _ q1_134) dX4_pop_2 ?_
  refine lv_iconst (v := 4) hx hb dX4_pop_5 (by decide) ?_
  refine lv_iadd hx hb dX4_pop_6 ?_
  refine lv_iconst (v := 1) hx hb dX4_pop_7 (by decide) ?_
  refine lv_isub hx hb dX4_pop_8 ?_
  refine lv_iconst (v := 4) hx hb dX4_pop_9 (by decide) ?_
  refine kb_irem hx hb dX4_pop_10 (by decide) ?_
  refine p4_1 hx hb hts hown hK hW hS hO.1 (hts _ q1_134) dX4_pop_11 (fun H locs hW hS => ?_)
  refine lv_aload_n hx hb dX4_pop_14 rfl (lv_at hl 0 rfl) ?_
  refine lv_dup hx hb dX4_pop_15 rfl ?_
  exact xX4_pop_c16 hO hr1 C0 (hset h a 1 (jrem (((h a 1) + 4) - 1) 4)) _ _ _ _ (lv_sub hl [0, 1] rfl) hW hS hs hres
def fX4_pop (a : Nat) (r1 : Nat) (h : HH) : HH := fX4_pop_c0 a r1 h
def sX4_pop (a : Nat) (r1 : Nat) (h : HH) : Prop := sX4_pop_c0 a r1 h
set_option maxRecDepth 100000 in
set_option maxHeartbeats 4000000 in
theorem kX4_pop (l : Launch) (X : Cx) (h : HH) (a : Nat) (r1 : Nat) (hO : IsUn X a) (hr1 : IsGm X r1) (hs : sX4_pop a r1 h) : Met l yX4_pop vX4_pop rmX4_pop (va_Pc [.ref a, .ref r1] (fun U => WS X h U)) (QV X (fX4_pop a r1 h)) 0 0 (xA X) := by
  refine Met.ofW (cc := cX4_pop) (maxL := 2) (ret := none) (by decide) rfl ?_
  intro p e s m args below meth c s₁ B hml hv
  obtain ⟨rfl, hW, hK⟩ := hv
  have hl := lv_entry ([.ref a, .ref r1]) (n := 2) (Nat.le_of_ble_eq_true rfl)
  rw [lg_entry_eq]
  generalize (lg_sl ([.ref a, .ref r1]) ++ List.replicate (2 - (lg_sl ([.ref a, .ref r1])).length) Slot.unset).toArray = ls at hl ⊢
  have hl : lv_has ls 2 [(0, .ref a), (1, .ref r1)] := hl
  exact xX4_pop_c0 hO hr1 ⟨B.exec, B.bytes, B.returns, B.notSynchronized, hml, findClass_of_methodNamed B.named, fun w hw => atoms_spec (ws := vX4_pop) B.pre w (List.mem_cons_of_mem _ hw), hK⟩ h _ _ ls _ (lv_sub hl [0, 1] rfl) hW va_S.rf hs rfl
