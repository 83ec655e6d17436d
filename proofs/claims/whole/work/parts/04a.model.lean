-- VillageBoardModel.thrown()I
abbrev rmX6_thrown : Room := ({ frames := 0, cells := 0, slots := 0, locals := 0 } : Room)
abbrev vX6_thrown : List Cond := Cond.code yX6_thrown cX6_thrown 1 (some .int) :: lwG
theorem wX6_thrown {R : Room} {s : State} {args : Array Value} {own : String} {idx : Nat} (hg : ∀ w ∈ lwG, w.before args s = true) (hl : Cond.methodLink own idx yX6_thrown ∈ lwG) (hR : rmX6_thrown.frames + 1 ≤ R.frames ∧ 8 + (1 + 11) + rmX6_thrown.locals ≤ R.locals) : CallW R s args own RX6 idx yX6_thrown cX6_thrown 1 (some .int) vX6_thrown rmX6_thrown 0 0 0 := cwV 0 hg (gV hl q4_81 q4_82 q1_7 q4_83) rfl rfl rfl (by decide +kernel) hR
def fX6_thrown_c0 (a : Nat) (h : HH) : Int32 := h a 4
set_option maxRecDepth 100000 in
set_option maxHeartbeats 4000000 in
theorem xX6_thrown_c0 {p : Program} {l : Launch} {e : Env} {s : State} {m : MethodId} {args : Array Value} {below : List Frame} {meth : Method} {c : Code} {X : Cx} {a : Nat} (hO : IsMo X a) (C0 : CT p s m args meth c X cX6_thrown 1 (some .int) RX6) (h : HH) (H : Heap) (locs : List Loc) (ls : Array Slot) (res : Int32) (hl : lv_has ls 1 [(0, .ref a)]) (hW : WH X h H) (hS : va_S (xA X) s.heap H locs) (hres : fX6_thrown_c0 a h = res) : W p l e rmX6_thrown s m args below meth c H locs 0 0 (MQ below (QI X res h) args s 0 0 (xA X)) (F0 m 0 ls []) := by
  obtain ⟨hx, hb, hr, hlk, hml, hown, hts, hK⟩ := id C0
  refine lv_aload_n hx hb dX6_thrown_0 rfl (lv_at hl 0 rfl) ?_
  refine g6_4 hx hb hts hown hK hW hO.1 (hts _ q4_53) dX6_thrown_1 ?_
  subst hres
  exact kr_i hx hb hr hlk hK hW hS dX6_thrown_4
def fX6_thrown (a : Nat) (h : HH) : Int32 := fX6_thrown_c0 a h
set_option maxRecDepth 100000 in
set_option maxHeartbeats 4000000 in
theorem kX6_thrown (l : Launch) (X : Cx) (h : HH) (a : Nat) (hO : IsMo X a) : Met l yX6_thrown vX6_thrown rmX6_thrown (va_Pc [.ref a] (fun U => WS X h U)) (QI X (fX6_thrown a h) h) 0 0 (xA X) := by
  refine Met.ofW (cc := cX6_thrown) (maxL := 1) (ret := some .int) (by decide) rfl ?_
  intro p e s m args below meth c s₁ B hml hv
  obtain ⟨rfl, hW, hK⟩ := hv
  have hl := lv_entry ([.ref a]) (n := 1) (Nat.le_of_ble_eq_true rfl)
  rw [lg_entry_eq]
  generalize (lg_sl ([.ref a]) ++ List.replicate (1 - (lg_sl ([.ref a])).length) Slot.unset).toArray = ls at hl ⊢
  have hl : lv_has ls 1 [(0, .ref a)] := hl
  exact xX6_thrown_c0 hO ⟨B.exec, B.bytes, B.returns, B.notSynchronized, hml, findClass_of_methodNamed B.named, fun w hw => atoms_spec (ws := vX6_thrown) B.pre w (List.mem_cons_of_mem _ hw), hK⟩ h _ _ ls _ (lv_sub hl [0] rfl) hW va_S.rf rfl
-- VillageBoardModel.refused(I)Z
abbrev rmX6_refused : Room := ({ frames := 0, cells := 0, slots := 0, locals := 0 } : Room)
abbrev vX6_refused : List Cond := Cond.code yX6_refused cX6_refused 2 (some .boolean) :: lwG
theorem wX6_refused {R : Room} {s : State} {args : Array Value} {own : String} {idx : Nat} (hg : ∀ w ∈ lwG, w.before args s = true) (hl : Cond.methodLink own idx yX6_refused ∈ lwG) (hR : rmX6_refused.frames + 1 ≤ R.frames ∧ 8 + (2 + 11) + rmX6_refused.locals ≤ R.locals) : CallW R s args own RX6 idx yX6_refused cX6_refused 2 (some .boolean) vX6_refused rmX6_refused 0 0 1 := cwV 1 hg (gV hl q4_90 q0_22 q1_7 q4_91) rfl rfl rfl (by decide +kernel) hR
def fX6_refused_c0 (a : Nat) (x1 : Int32) (h : HH) : Bool × HH := if x1 ≤ 0 then ((false, hset h a 4 x1)) else ((true, hset h a 4 x1))
set_option maxRecDepth 100000 in
set_option maxHeartbeats 4000000 in
theorem xX6_refused_c0 {p : Program} {l : Launch} {e : Env} {s : State} {m : MethodId} {args : Array Value} {below : List Frame} {meth : Method} {c : Code} {X : Cx} {a : Nat} (hO : IsMo X a) (C0 : CT p s m args meth c X cX6_refused 2 (some .boolean) RX6) (x1 : Int32) (h : HH) (H : Heap) (locs : List Loc) (ls : Array Slot) (res : Bool × HH) (hl : lv_has ls 2 [(0, .ref a), (1, .int x1)]) (hW : WH X h H) (hS : va_S (xA X) s.heap H locs) (hres : fX6_refused_c0 a x1 h = res) : W p l e rmX6_refused s m args below meth c H locs 0 0 (MQ below (QI X (bI res.1) res.2) args s 0 0 (xA X)) (F0 m 0 ls []) := by
  obtain ⟨hx, hb, hr, hlk, hml, hown, hts, hK⟩ := id C0
  refine lv_aload_n hx hb dX6_refused_0 rfl (lv_at hl 0 rfl) ?_
  refine lv_iload_n hx hb dX6_refused_1 rfl (lv_at hl 1 rfl) ?_
  refine p6_4 hx hb hts hown hK hW hS hO.1 (hts _ q4_53) dX6_refused_2 (fun H locs hW hS => ?_)
  refine lv_iload_n hx hb dX6_refused_5 rfl (lv_at hl 1 rfl) ?_
  refine lv_if_le (tgt := 13) hx hb dX6_refused_6 (by decide) (fun c1 => ?_) (fun c1 => ?_)
  · have hres := (if_pos c1).symm.trans hres
    refine lv_iconst (v := 0) hx hb dX6_refused_13 (by decide) ?_
    subst hres
    exact kr_z (v := false) hx hb hr hlk hK hW hS dX6_refused_14
  · have hres := (if_neg c1).symm.trans hres
    refine lv_iconst (v := 1) hx hb dX6_refused_9 (by decide) ?_
    refine lv_goto (tgt := 14) hx hb dX6_refused_10 (by decide) ?_
    subst hres
    exact kr_z (v := true) hx hb hr hlk hK hW hS dX6_refused_14
def fX6_refused (a : Nat) (x1 : Int32) (h : HH) : Bool × HH := fX6_refused_c0 a x1 h
set_option maxRecDepth 100000 in
set_option maxHeartbeats 4000000 in
theorem kX6_refused (l : Launch) (X : Cx) (h : HH) (a : Nat) (x1 : Int32) (hO : IsMo X a) : Met l yX6_refused vX6_refused rmX6_refused (va_Pc [.ref a, .int x1] (fun U => WS X h U)) (QI X (bI (fX6_refused a x1 h).1) (fX6_refused a x1 h).2) 0 0 (xA X) := by
  refine Met.ofW (cc := cX6_refused) (maxL := 2) (ret := some .boolean) (by decide) rfl ?_
  intro p e s m args below meth c s₁ B hml hv
  obtain ⟨rfl, hW, hK⟩ := hv
  have hl := lv_entry ([.ref a, .int x1]) (n := 2) (Nat.le_of_ble_eq_true rfl)
  rw [lg_entry_eq]
  generalize (lg_sl ([.ref a, .int x1]) ++ List.replicate (2 - (lg_sl ([.ref a, .int x1])).length) Slot.unset).toArray = ls at hl ⊢
  have hl : lv_has ls 2 [(0, .ref a), (1, .int x1)] := hl
  exact xX6_refused_c0 hO ⟨B.exec, B.bytes, B.returns, B.notSynchronized, hml, findClass_of_methodNamed B.named, fun w hw => atoms_spec (ws := vX6_refused) B.pre w (List.mem_cons_of_mem _ hw), hK⟩ x1 h _ _ ls _ (lv_sub hl [0, 1] rfl) hW va_S.rf rfl
-- VillageBoardModel.within(III)Z
abbrev rmX6_within : Room := ({ frames := 0, cells := 0, slots := 0, locals := 0 } : Room)
abbrev vX6_within : List Cond := Cond.code yX6_within cX6_within 3 (some .boolean) :: lwG
theorem wX6_within {R : Room} {s : State} {args : Array Value} {idx : Nat} (hg : ∀ w ∈ lwG, w.before args s = true) (hl : Cond.methodLink RX6 idx yX6_within ∈ lwG) (hR : rmX6_within.frames + 1 ≤ R.frames ∧ 8 + (3 + 11) + rmX6_within.locals ≤ R.locals) : CallB R s args RX6 idx yX6_within cX6_within 3 (some .boolean) vX6_within rmX6_within 0 0 3 ∧ (Cond.static yX6_within).before args s = true := cwS 3 hg (gS hl q4_97 q1_7 q4_98) rfl rfl rfl (by decide +kernel) hR
def fX6_within_c0 (x0 : Int32) (x1 : Int32) (x2 : Int32) : Bool := if x0 < x1 then false else (if x2 < x0 then false else true)
set_option maxRecDepth 100000 in
set_option maxHeartbeats 4000000 in
theorem xX6_within_c0 {p : Program} {l : Launch} {e : Env} {s : State} {m : MethodId} {args : Array Value} {below : List Frame} {meth : Method} {c : Code} {X : Cx} (C0 : CT p s m args meth c X cX6_within 3 (some .boolean) RX6) (x0 : Int32) (x1 : Int32) (x2 : Int32) (h : HH) (H : Heap) (locs : List Loc) (ls : Array Slot) (res : Bool) (hl : lv_has ls 3 [(0, .int x0), (1, .int x1), (2, .int x2)]) (hW : WH X h H) (hS : va_S (xA X) s.heap H locs) (hres : fX6_within_c0 x0 x1 x2 = res) : W p l e rmX6_within s m args below meth c H locs 0 0 (MQ below (QI X (bI res) h) args s 0 0 (xA X)) (F0 m 0 ls []) := by
  obtain ⟨hx, hb, hr, hlk, hml, hown, hts, hK⟩ := id C0
  refine lv_iload_n hx hb dX6_within_0 rfl (lv_at hl 0 rfl) ?_
  refine lv_iload_n hx hb dX6_within_1 rfl (lv_at hl 1 rfl) ?_
  refine lv_icmp_lt (tgt := 14) hx hb dX6_within_2 (by decide) (fun c1 => ?_) (fun c1 => ?_)
  · have hres := (if_pos c1).symm.trans hres
    refine lv_iconst (v := 0) hx hb dX6_within_14 (by decide) ?_
    subst hres
    exact kr_z (v := false) hx hb hr hlk hK hW hS dX6_within_15
  · have hres := (if_neg c1).symm.trans hres
    refine lv_iload_n hx hb dX6_within_5 rfl (lv_at hl 0 rfl) ?_
    refine lv_iload_n hx hb dX6_within_6 rfl (lv_at hl 2 rfl) ?_
    refine lv_icmp_gt (tgt := 14) hx hb dX6_within_7 (by decide) (fun c2 => ?_) (fun c2 => ?_)
    · have hres := (if_pos c2).symm.trans hres
      refine lv_iconst (v := 0) hx hb dX6_within_14 (by decide) ?_
      subst hres
      exact kr_z (v := false) hx hb hr hlk hK hW hS dX6_within_15
    · have hres := (if_neg c2).symm.trans hres
      refine lv_iconst (v := 1) hx hb dX6_within_10 (by decide) ?_
      refine lv_goto (tgt := 15) hx hb dX6_within_11 (by decide) ?_
      subst hres
      exact kr_z (v := true) hx hb hr hlk hK hW hS dX6_within_15
def fX6_within (x0 : Int32) (x1 : Int32) (x2 : Int32) : Bool := fX6_within_c0 x0 x1 x2
set_option maxRecDepth 100000 in
set_option maxHeartbeats 4000000 in
theorem kX6_within (l : Launch) (X : Cx) (h : HH) (x0 : Int32) (x1 : Int32) (x2 : Int32) : Met l yX6_within vX6_within rmX6_within (va_Pc [.int x0, .int x1, .int x2] (fun U => WS X h U)) (QI X (bI (fX6_within x0 x1 x2)) h) 0 0 (xA X) := by
  refine Met.ofW (cc := cX6_within) (maxL := 3) (ret := some .boolean) (by decide) rfl ?_
  intro p e s m args below meth c s₁ B hml hv
  obtain ⟨rfl, hW, hK⟩ := hv
  have hl := lv_entry ([.int x0, .int x1, .int x2]) (n := 3) (Nat.le_of_ble_eq_true rfl)
  rw [lg_entry_eq]
  generalize (lg_sl ([.int x0, .int x1, .int x2]) ++ List.replicate (3 - (lg_sl ([.int x0, .int x1, .int x2])).length) Slot.unset).toArray = ls at hl ⊢
  have hl : lv_has ls 3 [(0, .int x0), (1, .int x1), (2, .int x2)] := hl
  exact xX6_within_c0 ⟨B.exec, B.bytes, B.returns, B.notSynchronized, hml, findClass_of_methodNamed B.named, fun w hw => atoms_spec (ws := vX6_within) B.pre w (List.mem_cons_of_mem _ hw), hK⟩ x0 x1 x2 h _ _ ls _ (lv_sub hl [0, 1, 2] rfl) hW va_S.rf rfl
-- VillageBoardModel.saves()V
abbrev rmX6_saves : Room := ({ frames := 0, cells := 0, slots := 0, locals := 0 } : Room)
abbrev vX6_saves : List Cond := Cond.code yX6_saves cX6_saves 2 none :: lwG
theorem wX6_saves {R : Room} {s : State} {args : Array Value} {own : String} {idx : Nat} (hg : ∀ w ∈ lwG, w.before args s = true) (hl : Cond.methodLink own idx yX6_saves ∈ lwG) (hR : rmX6_saves.frames + 1 ≤ R.frames ∧ 8 + (2 + 11) + rmX6_saves.locals ≤ R.locals) : CallW R s args own RX6 idx yX6_saves cX6_saves 2 none vX6_saves rmX6_saves 0 0 0 := cwV 0 hg (gV hl q4_101 q0_23 q1_7 q4_102) rfl rfl rfl (by decide +kernel) hR
def fX6_saves_c51 (a : Nat) : Nat → Int32 → HH → HH
  | 0, x1, h => h
  | n + 1, x1, h => if 206 ≤ x1 then (hset h a 3 ((h a 3) + 1)) else ((fX6_saves_c51 a n) (x1 + 1) (hset h (a + 2) (((206 * (h a 3)) + x1).toNatClampNeg) (h (a + 1) x1.toNatClampNeg)))
def sX6_saves_c51 (a : Nat) : Nat → Int32 → HH → Prop
  | 0, _, _ => False
  | n + 1, x1, h => (206 ≤ x1 → True) ∧ (¬ (206 ≤ x1) → ((vp_in x1 206) ∧ ((vp_in ((206 * (h a 3)) + x1) 824) ∧ ((sX6_saves_c51 a n) (x1 + 1) (hset h (a + 2) (((206 * (h a 3)) + x1).toNatClampNeg) (h (a + 1) x1.toNatClampNeg))))))
set_option maxRecDepth 100000 in
set_option maxHeartbeats 4000000 in
theorem xX6_saves_c51 {p : Program} {l : Launch} {e : Env} {s : State} {m : MethodId} {args : Array Value} {below : List Frame} {meth : Method} {c : Code} {X : Cx} {a : Nat} (hO : IsMo X a) (C0 : CT p s m args meth c X cX6_saves 2 none RX6) : ∀ (n : Nat) (x1 : Int32) (h : HH) (H : Heap) (locs : List Loc) (ls : Array Slot) (res : HH) (hl : lv_has ls 2 [(0, .ref a), (1, .int x1)]) (hW : WH X h H) (hS : va_S (xA X) s.heap H locs) (hs : sX6_saves_c51 a n x1 h) (hres : fX6_saves_c51 a n x1 h = res), W p l e rmX6_saves s m args below meth c H locs 0 0 (MQ below (QV X res) args s 0 0 (xA X)) (F0 m 51 ls []) := by
  obtain ⟨hx, hb, hr, hlk, hml, hown, hts, hK⟩ := id C0
  intro n
  induction n with
  | zero =>
    intro _ _ _ _ _ _ _ _ _ hs _
    exact hs.elim
  | succ n ih =>
    intro x1 h H locs ls res hl hW hS hs hres
    refine lv_iload_n hx hb dX6_saves_51 rfl (lv_at hl 1 rfl) ?_
    refine lv_sipush (v := 206) hx hb dX6_saves_52 (by decide) ?_
    refine lv_icmp_ge (tgt := 85) hx hb dX6_saves_55 (by decide) (fun c2 => ?_) (fun c2 => ?_)
    · have hres := (if_pos c2).symm.trans hres
      have hs := And.left hs c2
      refine lv_aload_n hx hb dX6_saves_85 rfl (lv_at hl 0 rfl) ?_
      refine lv_dup hx hb dX6_saves_86 rfl ?_
      refine g6_3 hx hb hts hown hK hW hO.1 (hts _ q4_52) dX6_saves_87 ?_
      refine lv_iconst (v := 1) hx hb dX6_saves_90 (by decide) ?_
      refine lv_iadd hx hb dX6_saves_91 ?_
      refine p6_3 hx hb hts hown hK hW hS hO.1 (hts _ q4_52) dX6_saves_92 (fun H locs hW hS => ?_)
      subst hres
      exact kr_v hx hb hr hlk hK hW hS dX6_saves_95
    · have hres := (if_neg c2).symm.trans hres
      have hs := And.right hs c2
      refine lv_aload_n hx hb dX6_saves_58 rfl (lv_at hl 0 rfl) ?_
      refine g6_1 hx hb hts hown hK hW hO.1 (hts _ q4_50) dX6_saves_59 ?_
      refine lv_sipush (v := 206) hx hb dX6_saves_62 (by decide) ?_
      refine lv_aload_n hx hb dX6_saves_65 rfl (lv_at hl 0 rfl) ?_
      refine g6_3 hx hb hts hown hK hW hO.1 (hts _ q4_52) dX6_saves_66 ?_
      refine lv_imul hx hb dX6_saves_69 ?_
      refine lv_iload_n hx hb dX6_saves_70 rfl (lv_at hl 1 rfl) ?_
      refine lv_iadd hx hb dX6_saves_71 ?_
      refine lv_aload_n hx hb dX6_saves_72 rfl (lv_at hl 0 rfl) ?_
      refine g6_0 hx hb hts hown hK hW hO.1 (hts _ q4_49) dX6_saves_73 ?_
      refine lv_iload_n hx hb dX6_saves_76 rfl (lv_at hl 1 rfl) ?_
      obtain ⟨hi3, hs⟩ := hs
      refine kb_iald hx hb hK hW hO.2.1 (k := x1.toNatClampNeg) rfl hi3 dX6_saves_77 ?_
      obtain ⟨hi4, hs⟩ := hs
      refine kb_iast hx hb hK hW hS hO.2.2.1 (k := ((206 * (h a 3)) + x1).toNatClampNeg) rfl hi4 dX6_saves_78 (fun H locs hW hS => ?_)
      refine lv_iinc (v := x1 + 1) (lv' := [(1, .int (x1 + 1)), (0, .ref a)]) hx hb dX6_saves_79 hl (k := 1) rfl rfl (by decide) rfl (fun ls hl => ?_)
      refine lv_goto (tgt := 51) hx hb dX6_saves_82 (by decide) ?_
      exact ih (x1 + 1) (hset h (a + 2) (((206 * (h a 3)) + x1).toNatClampNeg) (h (a + 1) x1.toNatClampNeg)) _ _ _ _ (lv_sub hl [1, 0] rfl) hW hS hs hres
def fX6_saves_c49 (a : Nat) (h : HH) : HH := fX6_saves_c51 a 207 0 h
def sX6_saves_c49 (a : Nat) (h : HH) : Prop := sX6_saves_c51 a 207 0 h
set_option maxRecDepth 100000 in
set_option maxHeartbeats 4000000 in
theorem xX6_saves_c49 {p : Program} {l : Launch} {e : Env} {s : State} {m : MethodId} {args : Array Value} {below : List Frame} {meth : Method} {c : Code} {X : Cx} {a : Nat} (hO : IsMo X a) (C0 : CT p s m args meth c X cX6_saves 2 none RX6) (h : HH) (H : Heap) (locs : List Loc) (ls : Array Slot) (res : HH) (hl : lv_has ls 2 [(0, .ref a)]) (hW : WH X h H) (hS : va_S (xA X) s.heap H locs) (hs : sX6_saves_c49 a h) (hres : fX6_saves_c49 a h = res) : W p l e rmX6_saves s m args below meth c H locs 0 0 (MQ below (QV X res) args s 0 0 (xA X)) (F0 m 49 ls []) := by
  obtain ⟨hx, hb, hr, hlk, hml, hown, hts, hK⟩ := id C0
  refine lv_iconst (v := 0) hx hb dX6_saves_49 (by decide) ?_
  refine lv_istore_n (lv' := [(1, .int 0), (0, .ref a)]) hx hb dX6_saves_50 rfl hl (by decide) rfl (fun ls hl => ?_)
  exact xX6_saves_c51 hO C0 207 0 h _ _ _ _ (lv_sub hl [1, 0] rfl) hW hS hs hres
def fX6_saves_c10 (a : Nat) : Nat → Int32 → HH → HH
  | 0, x1, h => h
  | n + 1, x1, h => if 618 ≤ x1 then (fX6_saves_c49 a (hset h a 3 ((h a 3) - 1))) else ((fX6_saves_c10 a n) (x1 + 1) (hset h (a + 2) x1.toNatClampNeg (h (a + 2) ((x1 + 206).toNatClampNeg))))
def sX6_saves_c10 (a : Nat) : Nat → Int32 → HH → Prop
  | 0, _, _ => False
  | n + 1, x1, h => (618 ≤ x1 → (sX6_saves_c49 a (hset h a 3 ((h a 3) - 1)))) ∧ (¬ (618 ≤ x1) → ((vp_in (x1 + 206) 824) ∧ ((vp_in x1 824) ∧ ((sX6_saves_c10 a n) (x1 + 1) (hset h (a + 2) x1.toNatClampNeg (h (a + 2) ((x1 + 206).toNatClampNeg)))))))
set_option maxRecDepth 100000 in
set_option maxHeartbeats 4000000 in
theorem xX6_saves_c10 {p : Program} {l : Launch} {e : Env} {s : State} {m : MethodId} {args : Array Value} {below : List Frame} {meth : Method} {c : Code} {X : Cx} {a : Nat} (hO : IsMo X a) (C0 : CT p s m args meth c X cX6_saves 2 none RX6) : ∀ (n : Nat) (x1 : Int32) (h : HH) (H : Heap) (locs : List Loc) (ls : Array Slot) (res : HH) (hl : lv_has ls 2 [(0, .ref a), (1, .int x1)]) (hW : WH X h H) (hS : va_S (xA X) s.heap H locs) (hs : sX6_saves_c10 a n x1 h) (hres : fX6_saves_c10 a n x1 h = res), W p l e rmX6_saves s m args below meth c H locs 0 0 (MQ below (QV X res) args s 0 0 (xA X)) (F0 m 10 ls []) := by
  obtain ⟨hx, hb, hr, hlk, hml, hown, hts, hK⟩ := id C0
  intro n
  induction n with
  | zero =>
    intro _ _ _ _ _ _ _ _ _ hs _
    exact hs.elim
  | succ n ih =>
    intro x1 h H locs ls res hl hW hS hs hres
    refine lv_iload_n hx hb dX6_saves_10 rfl (lv_at hl 1 rfl) ?_
    refine lv_sipush (v := 618) hx hb dX6_saves_11 (by decide) ?_
    refine lv_icmp_ge (tgt := 39) hx hb dX6_saves_14 (by decide) (fun c5 => ?_) (fun c5 => ?_)
    · have hres := (if_pos c5).symm.trans hres
      have hs := And.left hs c5
      refine lv_aload_n hx hb dX6_saves_39 rfl (lv_at hl 0 rfl) ?_
      refine lv_dup hx hb dX6_saves_40 rfl ?_
      refine g6_3 hx hb hts hown hK hW hO.1 (hts _ q4_52) dX6_saves_41 ?_
      refine lv_iconst (v := 1) hx hb dX6_saves_44 (by decide) ?_
      refine lv_isub hx hb dX6_saves_45 ?_
      refine p6_3 hx hb hts hown hK hW hS hO.1 (hts _ q4_52) dX6_saves_46 (fun H locs hW hS => ?_)
      exact xX6_saves_c49 hO C0 (hset h a 3 ((h a 3) - 1)) _ _ _ _ (lv_sub hl [0] rfl) hW hS hs hres
    · have hres := (if_neg c5).symm.trans hres
      have hs := And.right hs c5
      refine lv_aload_n hx hb dX6_saves_17 rfl (lv_at hl 0 rfl) ?_
      refine g6_1 hx hb hts hown hK hW hO.1 (hts _ q4_50) dX6_saves_18 ?_
      refine lv_iload_n hx hb dX6_saves_21 rfl (lv_at hl 1 rfl) ?_
      refine lv_aload_n hx hb dX6_saves_22 rfl (lv_at hl 0 rfl) ?_
      refine g6_1 hx hb hts hown hK hW hO.1 (hts _ q4_50) dX6_saves_23 ?_
      refine lv_iload_n hx hb dX6_saves_26 rfl (lv_at hl 1 rfl) ?_
      refine lv_sipush (v := 206) hx hb dX6_saves_27 (by decide) ?_
      refine lv_iadd hx hb dX6_saves_30 ?_
      obtain ⟨hi6, hs⟩ := hs
      refine kb_iald hx hb hK hW hO.2.2.1 (k := (x1 + 206).toNatClampNeg) rfl hi6 dX6_saves_31 ?_
      obtain ⟨hi7, hs⟩ := hs
      refine kb_iast hx hb hK hW hS hO.2.2.1 (k := x1.toNatClampNeg) rfl hi7 dX6_saves_32 (fun H locs hW hS => ?_)
      refine lv_iinc (v := x1 + 1) (lv' := [(1, .int (x1 + 1)), (0, .ref a)]) hx hb dX6_saves_33 hl (k := 1) rfl rfl (by decide) rfl (fun ls hl => ?_)
      refine lv_goto (tgt := 10) hx hb dX6_saves_36 (by decide) ?_
      exact ih (x1 + 1) (hset h (a + 2) x1.toNatClampNeg (h (a + 2) ((x1 + 206).toNatClampNeg))) _ _ _ _ (lv_sub hl [1, 0] rfl) hW hS hs hres
def fX6_saves_c0 (a : Nat) (h : HH) : HH := if (h a 3) = 4 then (fX6_saves_c10 a 619 0 h) else (fX6_saves_c49 a h)
def sX6_saves_c0 (a : Nat) (h : HH) : Prop := ((h a 3) = 4 → (sX6_saves_c10 a 619 0 h)) ∧ (¬ ((h a 3) = 4) → (sX6_saves_c49 a h))
set_option maxRecDepth 100000 in
set_option maxHeartbeats 4000000 in
theorem xX6_saves_c0 {p : Program} {l : Launch} {e : Env} {s : State} {m : MethodId} {args : Array Value} {below : List Frame} {meth : Method} {c : Code} {X : Cx} {a : Nat} (hO : IsMo X a) (C0 : CT p s m args meth c X cX6_saves 2 none RX6) (h : HH) (H : Heap) (locs : List Loc) (ls : Array Slot) (res : HH) (hl : lv_has ls 2 [(0, .ref a)]) (hW : WH X h H) (hS : va_S (xA X) s.heap H locs) (hs : sX6_saves_c0 a h) (hres : fX6_saves_c0 a h = res) : W p l e rmX6_saves s m args below meth c H locs 0 0 (MQ below (QV X res) args s 0 0 (xA X)) (F0 m 0 ls []) := by
  obtain ⟨hx, hb, hr, hlk, hml, hown, hts, hK⟩ := id C0
  refine lv_aload_n hx hb dX6_saves_0 rfl (lv_at hl 0 rfl) ?_
  refine g6_3 hx hb hts hown hK hW hO.1 (hts _ q4_52) dX6_saves_1 ?_
  refine lv_iconst (v := 4) hx hb dX6_saves_4 (by decide) ?_
  refine lv_icmp_ne (tgt := 49) hx hb dX6_saves_5 (by decide) (fun c1 => ?_) (fun c1 => ?_)
  · have hres := (if_neg c1).symm.trans hres
    have hs := And.right hs c1
    exact xX6_saves_c49 hO C0 h _ _ _ _ (lv_sub hl [0] rfl) hW hS hs hres
  · have hres := (if_pos c1).symm.trans hres
    have hs := And.left hs c1
    refine lv_iconst (v := 0) hx hb dX6_saves_8 (by decide) ?_
    refine lv_istore_n (lv' := [(1, .int 0), (0, .ref a)]) hx hb dX6_saves_9 rfl hl (by decide) rfl (fun ls hl => ?_)
    exact xX6_saves_c10 hO C0 619 0 h _ _ _ _ (lv_sub hl [1, 0] rfl) hW hS hs hres
def fX6_saves (a : Nat) (h : HH) : HH := fX6_saves_c0 a h
def sX6_saves (a : Nat) (h : HH) : Prop := sX6_saves_c0 a h
set_option maxRecDepth 100000 in
set_option maxHeartbeats 4000000 in
theorem kX6_saves (l : Launch) (X : Cx) (h : HH) (a : Nat) (hO : IsMo X a) (hs : sX6_saves a h) : Met l yX6_saves vX6_saves rmX6_saves (va_Pc [.ref a] (fun U => WS X h U)) (QV X (fX6_saves a h)) 0 0 (xA X) := by
  refine Met.ofW (cc := cX6_saves) (maxL := 2) (ret := none) (by decide) rfl ?_
  intro p e s m args below meth c s₁ B hml hv
  obtain ⟨rfl, hW, hK⟩ := hv
  have hl := lv_entry ([.ref a]) (n := 2) (Nat.le_of_ble_eq_true rfl)
  rw [lg_entry_eq]
  generalize (lg_sl ([.ref a]) ++ List.replicate (2 - (lg_sl ([.ref a])).length) Slot.unset).toArray = ls at hl ⊢
  have hl : lv_has ls 2 [(0, .ref a)] := hl
  exact xX6_saves_c0 hO ⟨B.exec, B.bytes, B.returns, B.notSynchronized, hml, findClass_of_methodNamed B.named, fun w hw => atoms_spec (ws := vX6_saves) B.pre w (List.mem_cons_of_mem _ hw), hK⟩ h _ _ ls _ (lv_sub hl [0] rfl) hW va_S.rf hs rfl
-- VillageBoardModel.undo()I
abbrev rmX6_undo : Room := ({ frames := 1, cells := 0, slots := 0, locals := 21 } : Room)
abbrev vX6_undo : List Cond := Cond.code yX6_undo cX6_undo 2 (some .int) :: lwG
theorem wX6_undo {R : Room} {s : State} {args : Array Value} {own : String} {idx : Nat} (hg : ∀ w ∈ lwG, w.before args s = true) (hl : Cond.methodLink own idx yX6_undo ∈ lwG) (hR : rmX6_undo.frames + 1 ≤ R.frames ∧ 8 + (2 + 11) + rmX6_undo.locals ≤ R.locals) : CallW R s args own RX6 idx yX6_undo cX6_undo 2 (some .int) vX6_undo rmX6_undo 0 0 0 := cwV 0 hg (gV hl q4_85 q4_86 q1_7 q4_87) rfl rfl rfl (by decide +kernel) hR
def fX6_undo_c33 (a : Nat) : Nat → Int32 → HH → Int32 × HH
  | 0, x1, h => (0, h)
  | n + 1, x1, h => if 206 ≤ x1 then ((h a 3, h)) else ((fX6_undo_c33 a n) (x1 + 1) (hset h (a + 1) x1.toNatClampNeg (h (a + 2) (((206 * (h a 3)) + x1).toNatClampNeg))))
def sX6_undo_c33 (a : Nat) : Nat → Int32 → HH → Prop
  | 0, _, _ => False
  | n + 1, x1, h => (206 ≤ x1 → True) ∧ (¬ (206 ≤ x1) → ((vp_in ((206 * (h a 3)) + x1) 824) ∧ ((vp_in x1 206) ∧ ((sX6_undo_c33 a n) (x1 + 1) (hset h (a + 1) x1.toNatClampNeg (h (a + 2) (((206 * (h a 3)) + x1).toNatClampNeg)))))))
set_option maxRecDepth 100000 in
set_option maxHeartbeats 4000000 in
theorem xX6_undo_c33 {p : Program} {l : Launch} {e : Env} {s : State} {m : MethodId} {args : Array Value} {below : List Frame} {meth : Method} {c : Code} {X : Cx} {a : Nat} (hO : IsMo X a) (C0 : CT p s m args meth c X cX6_undo 2 (some .int) RX6) : ∀ (n : Nat) (x1 : Int32) (h : HH) (H : Heap) (locs : List Loc) (ls : Array Slot) (res : Int32 × HH) (hl : lv_has ls 2 [(0, .ref a), (1, .int x1)]) (hW : WH X h H) (hS : va_S (xA X) s.heap H locs) (hs : sX6_undo_c33 a n x1 h) (hres : fX6_undo_c33 a n x1 h = res), W p l e rmX6_undo s m args below meth c H locs 0 0 (MQ below (QI X res.1 res.2) args s 0 0 (xA X)) (F0 m 33 ls []) := by
  obtain ⟨hx, hb, hr, hlk, hml, hown, hts, hK⟩ := id C0
  intro n
  induction n with
  | zero =>
    intro _ _ _ _ _ _ _ _ _ hs _
    exact hs.elim
  | succ n ih =>
    intro x1 h H locs ls res hl hW hS hs hres
    refine lv_iload_n hx hb dX6_undo_33 rfl (lv_at hl 1 rfl) ?_
    refine lv_sipush (v := 206) hx hb dX6_undo_34 (by decide) ?_
    refine lv_icmp_ge (tgt := 67) hx hb dX6_undo_37 (by decide) (fun c3 => ?_) (fun c3 => ?_)
    · have hres := (if_pos c3).symm.trans hres
      have hs := And.left hs c3
      refine lv_aload_n hx hb dX6_undo_67 rfl (lv_at hl 0 rfl) ?_
      refine g6_3 hx hb hts hown hK hW hO.1 (hts _ q4_52) dX6_undo_68 ?_
      subst hres
      exact kr_i hx hb hr hlk hK hW hS dX6_undo_71
    · have hres := (if_neg c3).symm.trans hres
      have hs := And.right hs c3
      refine lv_aload_n hx hb dX6_undo_40 rfl (lv_at hl 0 rfl) ?_
      refine g6_0 hx hb hts hown hK hW hO.1 (hts _ q4_49) dX6_undo_41 ?_
      refine lv_iload_n hx hb dX6_undo_44 rfl (lv_at hl 1 rfl) ?_
      refine lv_aload_n hx hb dX6_undo_45 rfl (lv_at hl 0 rfl) ?_
      refine g6_1 hx hb hts hown hK hW hO.1 (hts _ q4_50) dX6_undo_46 ?_
      refine lv_sipush (v := 206) hx hb dX6_undo_49 (by decide) ?_
      refine lv_aload_n hx hb dX6_undo_52 rfl (lv_at hl 0 rfl) ?_
      refine g6_3 hx hb hts hown hK hW hO.1 (hts _ q4_52) dX6_undo_53 ?_
      refine lv_imul hx hb dX6_undo_56 ?_
      refine lv_iload_n hx hb dX6_undo_57 rfl (lv_at hl 1 rfl) ?_
      refine lv_iadd hx hb dX6_undo_58 ?_
      obtain ⟨hi4, hs⟩ := hs
      refine kb_iald hx hb hK hW hO.2.2.1 (k := ((206 * (h a 3)) + x1).toNatClampNeg) rfl hi4 dX6_undo_59 ?_
      obtain ⟨hi5, hs⟩ := hs
      refine kb_iast hx hb hK hW hS hO.2.1 (k := x1.toNatClampNeg) rfl hi5 dX6_undo_60 (fun H locs hW hS => ?_)
      refine lv_iinc (v := x1 + 1) (lv' := [(1, .int (x1 + 1)), (0, .ref a)]) hx hb dX6_undo_61 hl (k := 1) rfl rfl (by decide) rfl (fun ls hl => ?_)
      refine lv_goto (tgt := 33) hx hb dX6_undo_64 (by decide) ?_
      exact ih (x1 + 1) (hset h (a + 1) x1.toNatClampNeg (h (a + 2) (((206 * (h a 3)) + x1).toNatClampNeg))) _ _ _ _ (lv_sub hl [1, 0] rfl) hW hS hs hres
def fX6_undo_c16 (a : Nat) (xs0 : Int32) (h : HH) : Int32 × HH := if xs0 = 0 then (fX6_undo_c33 a 207 0 (hset h a 3 ((h a 3) - 1))) else ((0, h))
def sX6_undo_c16 (a : Nat) (xs0 : Int32) (h : HH) : Prop := (xs0 = 0 → (sX6_undo_c33 a 207 0 (hset h a 3 ((h a 3) - 1)))) ∧ (¬ (xs0 = 0) → True)
set_option maxRecDepth 100000 in
set_option maxHeartbeats 4000000 in
theorem xX6_undo_c16 {p : Program} {l : Launch} {e : Env} {s : State} {m : MethodId} {args : Array Value} {below : List Frame} {meth : Method} {c : Code} {X : Cx} {a : Nat} (hO : IsMo X a) (C0 : CT p s m args meth c X cX6_undo 2 (some .int) RX6) (xs0 : Int32) (h : HH) (H : Heap) (locs : List Loc) (ls : Array Slot) (res : Int32 × HH) (hl : lv_has ls 2 [(0, .ref a)]) (hW : WH X h H) (hS : va_S (xA X) s.heap H locs) (hs : sX6_undo_c16 a xs0 h) (hres : fX6_undo_c16 a xs0 h = res) : W p l e rmX6_undo s m args below meth c H locs 0 0 (MQ below (QI X res.1 res.2) args s 0 0 (xA X)) (F0 m 16 ls [.int xs0]) := by
  obtain ⟨hx, hb, hr, hlk, hml, hown, hts, hK⟩ := id C0
  refine lv_if_eq (tgt := 21) hx hb dX6_undo_16 (by decide) (fun c2 => ?_) (fun c2 => ?_)
  · have hres := (if_pos c2).symm.trans hres
    have hs := And.left hs c2
    refine lv_aload_n hx hb dX6_undo_21 rfl (lv_at hl 0 rfl) ?_
    refine lv_dup hx hb dX6_undo_22 rfl ?_
    refine g6_3 hx hb hts hown hK hW hO.1 (hts _ q4_52) dX6_undo_23 ?_
    refine lv_iconst (v := 1) hx hb dX6_undo_26 (by decide) ?_
    refine lv_isub hx hb dX6_undo_27 ?_
    refine p6_3 hx hb hts hown hK hW hS hO.1 (hts _ q4_52) dX6_undo_28 (fun H locs hW hS => ?_)
    refine lv_iconst (v := 0) hx hb dX6_undo_31 (by decide) ?_
    refine lv_istore_n (lv' := [(1, .int 0), (0, .ref a)]) hx hb dX6_undo_32 rfl hl (by decide) rfl (fun ls hl => ?_)
    exact xX6_undo_c33 hO C0 207 0 (hset h a 3 ((h a 3) - 1)) _ _ _ _ (lv_sub hl [1, 0] rfl) hW hS hs hres
  · have hres := (if_neg c2).symm.trans hres
    have hs := And.right hs c2
    refine lv_iconst (v := 0) hx hb dX6_undo_19 (by decide) ?_
    subst hres
    exact kr_i hx hb hr hlk hK hW hS dX6_undo_20
def fX6_undo_c13 (a : Nat) (xs0 : Int32) (h : HH) : Int32 × HH := fX6_undo_c16 a (bI (fX6_refused a xs0 h).1) ((fX6_refused a xs0 h).2)
def sX6_undo_c13 (a : Nat) (xs0 : Int32) (h : HH) : Prop := sX6_undo_c16 a (bI (fX6_refused a xs0 h).1) ((fX6_refused a xs0 h).2)
set_option maxRecDepth 100000 in
set_option maxHeartbeats 4000000 in
theorem xX6_undo_c13 {p : Program} {l : Launch} {e : Env} {s : State} {m : MethodId} {args : Array Value} {below : List Frame} {meth : Method} {c : Code} {X : Cx} {a : Nat} (hO : IsMo X a) (C0 : CT p s m args meth c X cX6_undo 2 (some .int) RX6) (xs0 : Int32) (h : HH) (H : Heap) (locs : List Loc) (ls : Array Slot) (res : Int32 × HH) (hl : lv_has ls 2 [(0, .ref a)]) (hW : WH X h H) (hS : va_S (xA X) s.heap H locs) (hs : sX6_undo_c13 a xs0 h) (hres : fX6_undo_c13 a xs0 h = res) : W p l e rmX6_undo s m args below meth c H locs 0 0 (MQ below (QI X res.1 res.2) args s 0 0 (xA X)) (F0 m 13 ls [.int xs0, .ref a]) := by
  obtain ⟨hx, hb, hr, hlk, hml, hown, hts, hK⟩ := id C0
  refine kV_i (As := [.int xs0]) (rest := []) ⟨hx, hb, hml, hown, hts⟩ (kX6_refused l X h a xs0 hO) (wX6_refused hts q4_88 ⟨Nat.le_of_ble_eq_true rfl, Nat.le_of_ble_eq_true rfl⟩) hK hW hS (va_recv hK.1 (hW.one hO.1) (ci := 6) (q0 := 0) rfl rfl) rfl hl.1 rfl (Nat.le_of_ble_eq_true rfl) dX6_undo_13 ⟨Nat.zero_le _, Nat.zero_le _⟩ (fun H locs hW hS => ?_)
  exact xX6_undo_c16 hO C0 (bI (fX6_refused a xs0 h).1) ((fX6_refused a xs0 h).2) _ _ _ _ (lv_sub hl [0] rfl) hW hS hs hres
def fX6_undo_c0 (a : Nat) (h : HH) : Int32 × HH := if (h a 3) = 0 then (fX6_undo_c13 a 1 h) else (fX6_undo_c13 a 0 h)
def sX6_undo_c0 (a : Nat) (h : HH) : Prop := ((h a 3) = 0 → (sX6_undo_c13 a 1 h)) ∧ (¬ ((h a 3) = 0) → (sX6_undo_c13 a 0 h))
set_option maxRecDepth 100000 in
set_option maxHeartbeats 4000000 in
theorem xX6_undo_c0 {p : Program} {l : Launch} {e : Env} {s : State} {m : MethodId} {args : Array Value} {below : List Frame} {meth : Method} {c : Code} {X : Cx} {a : Nat} (hO : IsMo X a) (C0 : CT p s m args meth c X cX6_undo 2 (some .int) RX6) (h : HH) (H : Heap) (locs : List Loc) (ls : Array Slot) (res : Int32 × HH) (hl : lv_has ls 2 [(0, .ref a)]) (hW : WH X h H) (hS : va_S (xA X) s.heap H locs) (hs : sX6_undo_c0 a h) (hres : fX6_undo_c0 a h = res) : W p l e rmX6_undo s m args below meth c H locs 0 0 (MQ below (QI X res.1 res.2) args s 0 0 (xA X)) (F0 m 0 ls []) := by
  obtain ⟨hx, hb, hr, hlk, hml, hown, hts, hK⟩ := id C0
  refine lv_aload_n hx hb dX6_undo_0 rfl (lv_at hl 0 rfl) ?_
  refine lv_aload_n hx hb dX6_undo_1 rfl (lv_at hl 0 rfl) ?_
  refine g6_3 hx hb hts hown hK hW hO.1 (hts _ q4_52) dX6_undo_2 ?_
  refine lv_if_ne (tgt := 12) hx hb dX6_undo_5 (by decide) (fun c1 => ?_) (fun c1 => ?_)
  · have hres := (if_neg c1).symm.trans hres
    have hs := And.right hs c1
    refine lv_iconst (v := 0) hx hb dX6_undo_12 (by decide) ?_
    exact xX6_undo_c13 hO C0 0 h _ _ _ _ (lv_sub hl [0] rfl) hW hS hs hres
  · have hres := (if_pos c1).symm.trans hres
    have hs := And.left hs c1
    refine lv_iconst (v := 1) hx hb dX6_undo_8 (by decide) ?_
    refine lv_goto (tgt := 13) hx hb dX6_undo_9 (by decide) ?_
    exact xX6_undo_c13 hO C0 1 h _ _ _ _ (lv_sub hl [0] rfl) hW hS hs hres
def fX6_undo (a : Nat) (h : HH) : Int32 × HH := fX6_undo_c0 a h
def sX6_undo (a : Nat) (h : HH) : Prop := sX6_undo_c0 a h
set_option maxRecDepth 100000 in
set_option maxHeartbeats 4000000 in
theorem kX6_undo (l : Launch) (X : Cx) (h : HH) (a : Nat) (hO : IsMo X a) (hs : sX6_undo a h) : Met l yX6_undo vX6_undo rmX6_undo (va_Pc [.ref a] (fun U => WS X h U)) (QI X (fX6_undo a h).1 (fX6_undo a h).2) 0 0 (xA X) := by
  refine Met.ofW (cc := cX6_undo) (maxL := 2) (ret := some .int) (by decide) rfl ?_
  intro p e s m args below meth c s₁ B hml hv
  obtain ⟨rfl, hW, hK⟩ := hv
  have hl := lv_entry ([.ref a]) (n := 2) (Nat.le_of_ble_eq_true rfl)
  rw [lg_entry_eq]
  generalize (lg_sl ([.ref a]) ++ List.replicate (2 - (lg_sl ([.ref a])).length) Slot.unset).toArray = ls at hl ⊢
  have hl : lv_has ls 2 [(0, .ref a)] := hl
  exact xX6_undo_c0 hO ⟨B.exec, B.bytes, B.returns, B.notSynchronized, hml, findClass_of_methodNamed B.named, fun w hw => atoms_spec (ws := vX6_undo) B.pre w (List.mem_cons_of_mem _ hw), hK⟩ h _ _ ls _ (lv_sub hl [0] rfl) hW va_S.rf hs rfl
-- VillageBoardModel.at(II)I
abbrev rmX6_at : Room := ({ frames := 0, cells := 0, slots := 0, locals := 0 } : Room)
abbrev vX6_at : List Cond := Cond.code yX6_at cX6_at 2 (some .int) :: lwG
theorem wX6_at {R : Room} {s : State} {args : Array Value} {idx : Nat} (hg : ∀ w ∈ lwG, w.before args s = true) (hl : Cond.methodLink RX6 idx yX6_at ∈ lwG) (hR : rmX6_at.frames + 1 ≤ R.frames ∧ 8 + (2 + 11) + rmX6_at.locals ≤ R.locals) : CallB R s args RX6 idx yX6_at cX6_at 2 (some .int) vX6_at rmX6_at 0 0 2 ∧ (Cond.static yX6_at).before args s = true := cwS 2 hg (gS hl q4_28 q1_7 q4_29) rfl rfl rfl (by decide +kernel) hR
def fX6_at_c0 (x0 : Int32) (x1 : Int32) : Int32 := (5 + (11 * x0)) + x1
set_option maxRecDepth 100000 in
set_option maxHeartbeats 4000000 in
theorem xX6_at_c0 {p : Program} {l : Launch} {e : Env} {s : State} {m : MethodId} {args : Array Value} {below : List Frame} {meth : Method} {c : Code} {X : Cx} (C0 : CT p s m args meth c X cX6_at 2 (some .int) RX6) (x0 : Int32) (x1 : Int32) (h : HH) (H : Heap) (locs : List Loc) (ls : Array Slot) (res : Int32) (hl : lv_has ls 2 [(0, .int x0), (1, .int x1)]) (hW : WH X h H) (hS : va_S (xA X) s.heap H locs) (hres : fX6_at_c0 x0 x1 = res) : W p l e rmX6_at s m args below meth c H locs 0 0 (MQ below (QI X res h) args s 0 0 (xA X)) (F0 m 0 ls []) := by
  obtain ⟨hx, hb, hr, hlk, hml, hown, hts, hK⟩ := id C0
  refine lv_iconst (v := 5) hx hb dX6_at_0 (by decide) ?_
  refine lv_bipush (v := 11) hx hb dX6_at_1 (by decide) ?_
  refine lv_iload_n hx hb dX6_at_3 rfl (lv_at hl 0 rfl) ?_
  refine lv_imul hx hb dX6_at_4 ?_
  refine lv_iadd hx hb dX6_at_5 ?_
  refine lv_iload_n hx hb dX6_at_6 rfl (lv_at hl 1 rfl) ?_
  refine lv_iadd hx hb dX6_at_7 ?_
  subst hres
  exact kr_i hx hb hr hlk hK hW hS dX6_at_8
def fX6_at (x0 : Int32) (x1 : Int32) : Int32 := fX6_at_c0 x0 x1
set_option maxRecDepth 100000 in
set_option maxHeartbeats 4000000 in
theorem kX6_at (l : Launch) (X : Cx) (h : HH) (x0 : Int32) (x1 : Int32) : Met l yX6_at vX6_at rmX6_at (va_Pc [.int x0, .int x1] (fun U => WS X h U)) (QI X (fX6_at x0 x1) h) 0 0 (xA X) := by
  refine Met.ofW (cc := cX6_at) (maxL := 2) (ret := some .int) (by decide) rfl ?_
  intro p e s m args below meth c s₁ B hml hv
  obtain ⟨rfl, hW, hK⟩ := hv
  have hl := lv_entry ([.int x0, .int x1]) (n := 2) (Nat.le_of_ble_eq_true rfl)
  rw [lg_entry_eq]
  generalize (lg_sl ([.int x0, .int x1]) ++ List.replicate (2 - (lg_sl ([.int x0, .int x1])).length) Slot.unset).toArray = ls at hl ⊢
  have hl : lv_has ls 2 [(0, .int x0), (1, .int x1)] := hl
  exact xX6_at_c0 ⟨B.exec, B.bytes, B.returns, B.notSynchronized, hml, findClass_of_methodNamed B.named, fun w hw => atoms_spec (ws := vX6_at) B.pre w (List.mem_cons_of_mem _ hw), hK⟩ x0 x1 h _ _ ls _ (lv_sub hl [0, 1] rfl) hW va_S.rf rfl
-- VillageBoardModel.get(II)I
abbrev rmX6_get : Room := ({ frames := 1, cells := 0, slots := 0, locals := 21 } : Room)
abbrev vX6_get : List Cond := Cond.code yX6_get cX6_get 3 (some .int) :: lwG
theorem wX6_get {R : Room} {s : State} {args : Array Value} {own : String} {idx : Nat} (hg : ∀ w ∈ lwG, w.before args s = true) (hl : Cond.methodLink own idx yX6_get ∈ lwG) (hR : rmX6_get.frames + 1 ≤ R.frames ∧ 8 + (3 + 11) + rmX6_get.locals ≤ R.locals) : CallW R s args own RX6 idx yX6_get cX6_get 3 (some .int) vX6_get rmX6_get 0 0 2 := cwV 2 hg (gV hl q4_43 q0_20 q1_7 q4_44) rfl rfl rfl (by decide +kernel) hR
def fX6_get_c0 (a : Nat) (x1 : Int32) (x2 : Int32) (h : HH) : Int32 := h (a + 1) ((fX6_at x1 x2).toNatClampNeg)
def sX6_get_c0 (a : Nat) (x1 : Int32) (x2 : Int32) (h : HH) : Prop := vp_in (fX6_at x1 x2) 206
set_option maxRecDepth 100000 in
set_option maxHeartbeats 4000000 in
theorem xX6_get_c0 {p : Program} {l : Launch} {e : Env} {s : State} {m : MethodId} {args : Array Value} {below : List Frame} {meth : Method} {c : Code} {X : Cx} {a : Nat} (hO : IsMo X a) (C0 : CT p s m args meth c X cX6_get 3 (some .int) RX6) (x1 : Int32) (x2 : Int32) (h : HH) (H : Heap) (locs : List Loc) (ls : Array Slot) (res : Int32) (hl : lv_has ls 3 [(0, .ref a), (1, .int x1), (2, .int x2)]) (hW : WH X h H) (hS : va_S (xA X) s.heap H locs) (hs : sX6_get_c0 a x1 x2 h) (hres : fX6_get_c0 a x1 x2 h = res) : W p l e rmX6_get s m args below meth c H locs 0 0 (MQ below (QI X res h) args s 0 0 (xA X)) (F0 m 0 ls []) := by
  obtain ⟨hx, hb, hr, hlk, hml, hown, hts, hK⟩ := id C0
  refine lv_aload_n hx hb dX6_get_0 rfl (lv_at hl 0 rfl) ?_
  refine g6_0 hx hb hts hown hK hW hO.1 (hts _ q4_49) dX6_get_1 ?_
  refine lv_iload_n hx hb dX6_get_4 rfl (lv_at hl 1 rfl) ?_
  refine lv_iload_n hx hb dX6_get_5 rfl (lv_at hl 2 rfl) ?_
  refine kS_i (As := [.int x1, .int x2]) (rest := [.ref (a + 1)]) ⟨hx, hb, hml, hown, hts⟩ (kX6_at l X h x1 x2) (wX6_at hts q4_27 ⟨Nat.le_of_ble_eq_true rfl, Nat.le_of_ble_eq_true rfl⟩) hK hW hS rfl hl.1 rfl (Nat.le_of_ble_eq_true rfl) dX6_get_6 ⟨Nat.zero_le _, Nat.zero_le _⟩ (fun H locs hW hS => ?_)
  have hi1 := hs
  refine kb_iald hx hb hK hW hO.2.1 (k := (fX6_at x1 x2).toNatClampNeg) rfl hi1 dX6_get_9 ?_
  subst hres
  exact kr_i hx hb hr hlk hK hW hS dX6_get_10
def fX6_get (a : Nat) (x1 : Int32) (x2 : Int32) (h : HH) : Int32 := fX6_get_c0 a x1 x2 h
def sX6_get (a : Nat) (x1 : Int32) (x2 : Int32) (h : HH) : Prop := sX6_get_c0 a x1 x2 h
set_option maxRecDepth 100000 in
set_option maxHeartbeats 4000000 in
theorem kX6_get (l : Launch) (X : Cx) (h : HH) (a : Nat) (x1 : Int32) (x2 : Int32) (hO : IsMo X a) (hs : sX6_get a x1 x2 h) : Met l yX6_get vX6_get rmX6_get (va_Pc [.ref a, .int x1, .int x2] (fun U => WS X h U)) (QI X (fX6_get a x1 x2 h) h) 0 0 (xA X) := by
  refine Met.ofW (cc := cX6_get) (maxL := 3) (ret := some .int) (by decide) rfl ?_
  intro p e s m args below meth c s₁ B hml hv
  obtain ⟨rfl, hW, hK⟩ := hv
  have hl := lv_entry ([.ref a, .int x1, .int x2]) (n := 3) (Nat.le_of_ble_eq_true rfl)
  rw [lg_entry_eq]
  generalize (lg_sl ([.ref a, .int x1, .int x2]) ++ List.replicate (3 - (lg_sl ([.ref a, .int x1, .int x2])).length) Slot.unset).toArray = ls at hl ⊢
  have hl : lv_has ls 3 [(0, .ref a), (1, .int x1), (2, .int x2)] := hl
  exact xX6_get_c0 hO ⟨B.exec, B.bytes, B.returns, B.notSynchronized, hml, findClass_of_methodNamed B.named, fun w hw => atoms_spec (ws := vX6_get) B.pre w (List.mem_cons_of_mem _ hw), hK⟩ x1 x2 h _ _ ls _ (lv_sub hl [0, 1, 2] rfl) hW va_S.rf hs rfl
-- VillageBoardModel.gets(III)V
abbrev rmX6_gets : Room := ({ frames := 1, cells := 0, slots := 0, locals := 21 } : Room)
abbrev vX6_gets : List Cond := Cond.code yX6_gets cX6_gets 4 none :: lwG
theorem wX6_gets {R : Room} {s : State} {args : Array Value} {own : String} {idx : Nat} (hg : ∀ w ∈ lwG, w.before args s = true) (hl : Cond.methodLink own idx yX6_gets ∈ lwG) (hR : rmX6_gets.frames + 1 ≤ R.frames ∧ 8 + (4 + 11) + rmX6_gets.locals ≤ R.locals) : CallW R s args own RX6 idx yX6_gets cX6_gets 4 none vX6_gets rmX6_gets 0 0 3 := cwV 3 hg (gV hl q4_47 q0_21 q1_7 q4_48) rfl rfl rfl (by decide +kernel) hR
def fX6_gets_c0 (a : Nat) (x1 : Int32) (x2 : Int32) (x3 : Int32) (h : HH) : HH := hset h (a + 1) ((fX6_at x1 x2).toNatClampNeg) ((h (a + 1) ((fX6_at x1 x2).toNatClampNeg)) + x3)
def sX6_gets_c0 (a : Nat) (x1 : Int32) (x2 : Int32) (x3 : Int32) (h : HH) : Prop := (vp_in (fX6_at x1 x2) 206) ∧ (vp_in (fX6_at x1 x2) 206)
set_option maxRecDepth 100000 in
set_option maxHeartbeats 4000000 in
theorem xX6_gets_c0 {p : Program} {l : Launch} {e : Env} {s : State} {m : MethodId} {args : Array Value} {below : List Frame} {meth : Method} {c : Code} {X : Cx} {a : Nat} (hO : IsMo X a) (C0 : CT p s m args meth c X cX6_gets 4 none RX6) (x1 : Int32) (x2 : Int32) (x3 : Int32) (h : HH) (H : Heap) (locs : List Loc) (ls : Array Slot) (res : HH) (hl : lv_has ls 4 [(0, .ref a), (1, .int x1), (2, .int x2), (3, .int x3)]) (hW : WH X h H) (hS : va_S (xA X) s.heap H locs) (hs : sX6_gets_c0 a x1 x2 x3 h) (hres : fX6_gets_c0 a x1 x2 x3 h = res) : W p l e rmX6_gets s m args below meth c H locs 0 0 (MQ below (QV X res) args s 0 0 (xA X)) (F0 m 0 ls []) := by
  obtain ⟨hx, hb, hr, hlk, hml, hown, hts, hK⟩ := id C0
  refine lv_aload_n hx hb dX6_gets_0 rfl (lv_at hl 0 rfl) ?_
  refine g6_0 hx hb hts hown hK hW hO.1 (hts _ q4_49) dX6_gets_1 ?_
  refine lv_iload_n hx hb dX6_gets_4 rfl (lv_at hl 1 rfl) ?_
  refine lv_iload_n hx hb dX6_gets_5 rfl (lv_at hl 2 rfl) ?_
  refine kS_i (As := [.int x1, .int x2]) (rest := [.ref (a + 1)]) ⟨hx, hb, hml, hown, hts⟩ (kX6_at l X h x1 x2) (wX6_at hts q4_27 ⟨Nat.le_of_ble_eq_true rfl, Nat.le_of_ble_eq_true rfl⟩) hK hW hS rfl hl.1 rfl (Nat.le_of_ble_eq_true rfl) dX6_gets_6 ⟨Nat.zero_le _, Nat.zero_le _⟩ (fun H locs hW hS => ?_)
  refine lv_dup2_11 hx hb dX6_gets_9 rfl rfl ?_
  obtain ⟨hi1, hs⟩ := hs
  refine kb_iald hx hb hK hW hO.2.1 (k := (fX6_at x1 x2).toNatClampNeg) rfl hi1 dX6_gets_10 ?_
  refine lv_iload_n hx hb dX6_gets_11 rfl (lv_at hl 3 rfl) ?_
  refine lv_iadd hx hb dX6_gets_12 ?_
  have hi2 := hs
  refine kb_iast hx hb hK hW hS hO.2.1 (k := (fX6_at x1 x2).toNatClampNeg) rfl hi2 dX6_gets_13 (fun H locs hW hS => ?_)
  subst hres
  exact kr_v hx hb hr hlk hK hW hS dX6_gets_14
def fX6_gets (a : Nat) (x1 : Int32) (x2 : Int32) (x3 : Int32) (h : HH) : HH := fX6_gets_c0 a x1 x2 x3 h
def sX6_gets (a : Nat) (x1 : Int32) (x2 : Int32) (x3 : Int32) (h : HH) : Prop := sX6_gets_c0 a x1 x2 x3 h
set_option maxRecDepth 100000 in
set_option maxHeartbeats 4000000 in
theorem kX6_gets (l : Launch) (X : Cx) (h : HH) (a : Nat) (x1 : Int32) (x2 : Int32) (x3 : Int32) (hO : IsMo X a) (hs : sX6_gets a x1 x2 x3 h) : Met l yX6_gets vX6_gets rmX6_gets (va_Pc [.ref a, .int x1, .int x2, .int x3] (fun U => WS X h U)) (QV X (fX6_gets a x1 x2 x3 h)) 0 0 (xA X) := by
  refine Met.ofW (cc := cX6_gets) (maxL := 4) (ret := none) (by decide) rfl ?_
  intro p e s m args below meth c s₁ B hml hv
  obtain ⟨rfl, hW, hK⟩ := hv
  have hl := lv_entry ([.ref a, .int x1, .int x2, .int x3]) (n := 4) (Nat.le_of_ble_eq_true rfl)
  rw [lg_entry_eq]
  generalize (lg_sl ([.ref a, .int x1, .int x2, .int x3]) ++ List.replicate (4 - (lg_sl ([.ref a, .int x1, .int x2, .int x3])).length) Slot.unset).toArray = ls at hl ⊢
  have hl : lv_has ls 4 [(0, .ref a), (1, .int x1), (2, .int x2), (3, .int x3)] := hl
  exact xX6_gets_c0 hO ⟨B.exec, B.bytes, B.returns, B.notSynchronized, hml, findClass_of_methodNamed B.named, fun w hw => atoms_spec (ws := vX6_gets) B.pre w (List.mem_cons_of_mem _ hw), hK⟩ x1 x2 x3 h _ _ ls _ (lv_sub hl [0, 1, 2, 3] rfl) hW va_S.rf hs rfl
-- VillageBoardModel.has(II)Z
abbrev rmX6_has : Room := ({ frames := 2, cells := 0, slots := 0, locals := 43 } : Room)
abbrev vX6_has : List Cond := Cond.code yX6_has cX6_has 3 (some .boolean) :: lwG
theorem wX6_has {R : Room} {s : State} {args : Array Value} {own : String} {idx : Nat} (hg : ∀ w ∈ lwG, w.before args s = true) (hl : Cond.methodLink own idx yX6_has ∈ lwG) (hR : rmX6_has.frames + 1 ≤ R.frames ∧ 8 + (3 + 11) + rmX6_has.locals ≤ R.locals) : CallW R s args own RX6 idx yX6_has cX6_has 3 (some .boolean) vX6_has rmX6_has 0 0 2 := cwV 2 hg (gV hl q4_39 q0_19 q1_7 q4_40) rfl rfl rfl (by decide +kernel) hR
def fX6_has_c0 (a : Nat) (x1 : Int32) (x2 : Int32) (h : HH) : Bool := if (((fX6_get a x1 10 h) >>> (x2 &&& 31)) &&& 1) = 1 then true else false
def sX6_has_c0 (a : Nat) (x1 : Int32) (x2 : Int32) (h : HH) : Prop := sX6_get a x1 10 h
set_option maxRecDepth 100000 in
set_option maxHeartbeats 4000000 in
theorem xX6_has_c0 {p : Program} {l : Launch} {e : Env} {s : State} {m : MethodId} {args : Array Value} {below : List Frame} {meth : Method} {c : Code} {X : Cx} {a : Nat} (hO : IsMo X a) (C0 : CT p s m args meth c X cX6_has 3 (some .boolean) RX6) (x1 : Int32) (x2 : Int32) (h : HH) (H : Heap) (locs : List Loc) (ls : Array Slot) (res : Bool) (hl : lv_has ls 3 [(0, .ref a), (1, .int x1), (2, .int x2)]) (hW : WH X h H) (hS : va_S (xA X) s.heap H locs) (hs : sX6_has_c0 a x1 x2 h) (hres : fX6_has_c0 a x1 x2 h = res) : W p l e rmX6_has s m args below meth c H locs 0 0 (MQ below (QI X (bI res) h) args s 0 0 (xA X)) (F0 m 0 ls []) := by
  obtain ⟨hx, hb, hr, hlk, hml, hown, hts, hK⟩ := id C0
  refine lv_aload_n hx hb dX6_has_0 rfl (lv_at hl 0 rfl) ?_
  refine lv_iload_n hx hb dX6_has_1 rfl (lv_at hl 1 rfl) ?_
  refine lv_bipush (v := 10) hx hb dX6_has_2 (by decide) ?_
  have hc1 := hs
  refine kV_i (As := [.int x1, .int 10]) (rest := []) ⟨hx, hb, hml, hown, hts⟩ (kX6_get l X h a x1 10 hO hc1) (wX6_get hts q4_41 ⟨Nat.le_of_ble_eq_true rfl, Nat.le_of_ble_eq_true rfl⟩) hK hW hS (va_recv hK.1 (hW.one hO.1) (ci := 6) (q0 := 0) rfl rfl) rfl hl.1 rfl (Nat.le_of_ble_eq_true rfl) dX6_has_4 ⟨Nat.zero_le _, Nat.zero_le _⟩ (fun H locs hW hS => ?_)
  refine lv_iload_n hx hb dX6_has_7 rfl (lv_at hl 2 rfl) ?_
  refine lv_ishr hx hb dX6_has_8 ?_
  refine lv_iconst (v := 1) hx hb dX6_has_9 (by decide) ?_
  refine lv_iand hx hb dX6_has_10 ?_
  refine lv_iconst (v := 1) hx hb dX6_has_11 (by decide) ?_
  refine lv_icmp_ne (tgt := 19) hx hb dX6_has_12 (by decide) (fun c2 => ?_) (fun c2 => ?_)
  · have hres := (if_neg c2).symm.trans hres
    refine lv_iconst (v := 0) hx hb dX6_has_19 (by decide) ?_
    subst hres
    exact kr_z (v := false) hx hb hr hlk hK hW hS dX6_has_20
  · have hres := (if_pos c2).symm.trans hres
    refine lv_iconst (v := 1) hx hb dX6_has_15 (by decide) ?_
    refine lv_goto (tgt := 20) hx hb dX6_has_16 (by decide) ?_
    subst hres
    exact kr_z (v := true) hx hb hr hlk hK hW hS dX6_has_20
def fX6_has (a : Nat) (x1 : Int32) (x2 : Int32) (h : HH) : Bool := fX6_has_c0 a x1 x2 h
def sX6_has (a : Nat) (x1 : Int32) (x2 : Int32) (h : HH) : Prop := sX6_has_c0 a x1 x2 h
set_option maxRecDepth 100000 in
set_option maxHeartbeats 4000000 in
theorem kX6_has (l : Launch) (X : Cx) (h : HH) (a : Nat) (x1 : Int32) (x2 : Int32) (hO : IsMo X a) (hs : sX6_has a x1 x2 h) : Met l yX6_has vX6_has rmX6_has (va_Pc [.ref a, .int x1, .int x2] (fun U => WS X h U)) (QI X (bI (fX6_has a x1 x2 h)) h) 0 0 (xA X) := by
  refine Met.ofW (cc := cX6_has) (maxL := 3) (ret := some .boolean) (by decide) rfl ?_
  intro p e s m args below meth c s₁ B hml hv
  obtain ⟨rfl, hW, hK⟩ := hv
  have hl := lv_entry ([.ref a, .int x1, .int x2]) (n := 3) (Nat.le_of_ble_eq_true rfl)
  rw [lg_entry_eq]
  generalize (lg_sl ([.ref a, .int x1, .int x2]) ++ List.replicate (3 - (lg_sl ([.ref a, .int x1, .int x2])).length) Slot.unset).toArray = ls at hl ⊢
  have hl : lv_has ls 3 [(0, .ref a), (1, .int x1), (2, .int x2)] := hl
  exact xX6_has_c0 hO ⟨B.exec, B.bytes, B.returns, B.notSynchronized, hml, findClass_of_methodNamed B.named, fun w hw => atoms_spec (ws := vX6_has) B.pre w (List.mem_cons_of_mem _ hw), hK⟩ x1 x2 h _ _ ls _ (lv_sub hl [0, 1, 2] rfl) hW va_S.rf hs rfl
-- VillageBoardModel.isPlayer(I)Z
abbrev rmX6_isPlayer : Room := ({ frames := 1, cells := 0, slots := 0, locals := 22 } : Room)
abbrev vX6_isPlayer : List Cond := Cond.code yX6_isPlayer cX6_isPlayer 2 (some .boolean) :: lwG
theorem wX6_isPlayer {R : Room} {s : State} {args : Array Value} {own : String} {idx : Nat} (hg : ∀ w ∈ lwG, w.before args s = true) (hl : Cond.methodLink own idx yX6_isPlayer ∈ lwG) (hR : rmX6_isPlayer.frames + 1 ≤ R.frames ∧ 8 + (2 + 11) + rmX6_isPlayer.locals ≤ R.locals) : CallW R s args own RX6 idx yX6_isPlayer cX6_isPlayer 2 (some .boolean) vX6_isPlayer rmX6_isPlayer 0 0 1 := cwV 1 hg (gV hl q5_31 q0_52 q1_7 q5_32) rfl rfl rfl (by decide +kernel) hR
def fX6_isPlayer_c0 (a : Nat) (x1 : Int32) (h : HH) : Bool := fX6_within x1 0 ((h (a + 1) 0) - 1)
set_option maxRecDepth 100000 in
set_option maxHeartbeats 4000000 in
theorem xX6_isPlayer_c0 {p : Program} {l : Launch} {e : Env} {s : State} {m : MethodId} {args : Array Value} {below : List Frame} {meth : Method} {c : Code} {X : Cx} {a : Nat} (hO : IsMo X a) (C0 : CT p s m args meth c X cX6_isPlayer 2 (some .boolean) RX6) (x1 : Int32) (h : HH) (H : Heap) (locs : List Loc) (ls : Array Slot) (res : Bool) (hl : lv_has ls 2 [(0, .ref a), (1, .int x1)]) (hW : WH X h H) (hS : va_S (xA X) s.heap H locs) (hres : fX6_isPlayer_c0 a x1 h = res) : W p l e rmX6_isPlayer s m args below meth c H locs 0 0 (MQ below (QI X (bI res) h) args s 0 0 (xA X)) (F0 m 0 ls []) := by
  obtain ⟨hx, hb, hr, hlk, hml, hown, hts, hK⟩ := id C0
  refine lv_iload_n hx hb dX6_isPlayer_0 rfl (lv_at hl 1 rfl) ?_
  refine lv_iconst (v := 0) hx hb dX6_isPlayer_1 (by decide) ?_
  refine lv_aload_n hx hb dX6_isPlayer_2 rfl (lv_at hl 0 rfl) ?_
  refine g6_0 hx hb hts hown hK hW hO.1 (hts _ q4_49) dX6_isPlayer_3 ?_
  refine lv_iconst (v := 0) hx hb dX6_isPlayer_6 (by decide) ?_
  refine kb_iald hx hb hK hW hO.2.1 (k := 0) (by decide) (vpd (by decide)) dX6_isPlayer_7 ?_
  refine lv_iconst (v := 1) hx hb dX6_isPlayer_8 (by decide) ?_
  refine lv_isub hx hb dX6_isPlayer_9 ?_
  refine kS_i (As := [.int x1, .int 0, .int ((h (a + 1) 0) - 1)]) (rest := []) ⟨hx, hb, hml, hown, hts⟩ (kX6_within l X h x1 0 ((h (a + 1) 0) - 1)) (wX6_within hts q4_96 ⟨Nat.le_of_ble_eq_true rfl, Nat.le_of_ble_eq_true rfl⟩) hK hW hS rfl hl.1 rfl (Nat.le_of_ble_eq_true rfl) dX6_isPlayer_10 ⟨Nat.zero_le _, Nat.zero_le _⟩ (fun H locs hW hS => ?_)
  subst hres
  exact kr_z (v := fX6_within x1 0 ((h (a + 1) 0) - 1)) hx hb hr hlk hK hW hS dX6_isPlayer_13
def fX6_isPlayer (a : Nat) (x1 : Int32) (h : HH) : Bool := fX6_isPlayer_c0 a x1 h
set_option maxRecDepth 100000 in
set_option maxHeartbeats 4000000 in
theorem kX6_isPlayer (l : Launch) (X : Cx) (h : HH) (a : Nat) (x1 : Int32) (hO : IsMo X a) : Met l yX6_isPlayer vX6_isPlayer rmX6_isPlayer (va_Pc [.ref a, .int x1] (fun U => WS X h U)) (QI X (bI (fX6_isPlayer a x1 h)) h) 0 0 (xA X) := by
  refine Met.ofW (cc := cX6_isPlayer) (maxL := 2) (ret := some .boolean) (by decide) rfl ?_
  intro p e s m args below meth c s₁ B hml hv
  obtain ⟨rfl, hW, hK⟩ := hv
  have hl := lv_entry ([.ref a, .int x1]) (n := 2) (Nat.le_of_ble_eq_true rfl)
  rw [lg_entry_eq]
  generalize (lg_sl ([.ref a, .int x1]) ++ List.replicate (2 - (lg_sl ([.ref a, .int x1])).length) Slot.unset).toArray = ls at hl ⊢
  have hl : lv_has ls 2 [(0, .ref a), (1, .int x1)] := hl
  exact xX6_isPlayer_c0 hO ⟨B.exec, B.bytes, B.returns, B.notSynchronized, hml, findClass_of_methodNamed B.named, fun w hw => atoms_spec (ws := vX6_isPlayer) B.pre w (List.mem_cons_of_mem _ hw), hK⟩ x1 h _ _ ls _ (lv_sub hl [0, 1] rfl) hW va_S.rf rfl
-- VillageBoardModel.ownerOf(I)I
abbrev rmX6_ownerOf : Room := ({ frames := 3, cells := 0, slots := 0, locals := 65 } : Room)
abbrev vX6_ownerOf : List Cond := Cond.code yX6_ownerOf cX6_ownerOf 4 (some .int) :: lwG
theorem wX6_ownerOf {R : Room} {s : State} {args : Array Value} {own : String} {idx : Nat} (hg : ∀ w ∈ lwG, w.before args s = true) (hl : Cond.methodLink own idx yX6_ownerOf ∈ lwG) (hR : rmX6_ownerOf.frames + 1 ≤ R.frames ∧ 8 + (4 + 11) + rmX6_ownerOf.locals ≤ R.locals) : CallW R s args own RX6 idx yX6_ownerOf cX6_ownerOf 4 (some .int) vX6_ownerOf rmX6_ownerOf 0 0 1 := cwV 1 hg (gV hl q4_144 q0_29 q1_7 q4_145) rfl rfl rfl (by decide +kernel) hR
def fX6_ownerOf_c28 (a : Nat) (k4 : Int32 → Int32 → Int32 → HH → Int32) (x1 : Int32) (x3 : Int32) (xs0 : Int32) (h : HH) : Int32 := k4 x1 xs0 (x3 + 1) h
def sX6_ownerOf_c28 (a : Nat) (K4 : Int32 → Int32 → Int32 → HH → Prop) (x1 : Int32) (x3 : Int32) (xs0 : Int32) (h : HH) : Prop := K4 x1 xs0 (x3 + 1) h
set_option maxRecDepth 100000 in
set_option maxHeartbeats 4000000 in
theorem xX6_ownerOf_c28 {p : Program} {l : Launch} {e : Env} {s : State} {m : MethodId} {args : Array Value} {below : List Frame} {meth : Method} {c : Code} {X : Cx} {a : Nat} (hO : IsMo X a) (C0 : CT p s m args meth c X cX6_ownerOf 4 (some .int) RX6) {k4 : Int32 → Int32 → Int32 → HH → Int32} {K4 : Int32 → Int32 → Int32 → HH → Prop} (hk4 : ∀ (x1 : Int32) (x2 : Int32) (x3 : Int32) (h : HH) (H : Heap) (locs : List Loc) (ls : Array Slot) (res : Int32) (hl : lv_has ls 4 [(0, .ref a), (1, .int x1), (2, .int x2), (3, .int x3)]) (hW : WH X h H) (hS : va_S (xA X) s.heap H locs) (_ : K4 x1 x2 x3 h) (hres : k4 x1 x2 x3 h = res), W p l e rmX6_ownerOf s m args below meth c H locs 0 0 (MQ below (QI X res h) args s 0 0 (xA X)) (F0 m 4 ls [])) (x1 : Int32) (x3 : Int32) (xs0 : Int32) (h : HH) (H : Heap) (locs : List Loc) (ls : Array Slot) (res : Int32) (hl : lv_has ls 4 [(0, .ref a), (1, .int x1), (3, .int x3)]) (hW : WH X h H) (hS : va_S (xA X) s.heap H locs) (hs : sX6_ownerOf_c28 a K4 x1 x3 xs0 h) (hres : fX6_ownerOf_c28 a k4 x1 x3 xs0 h = res) : W p l e rmX6_ownerOf s m args below meth c H locs 0 0 (MQ below (QI X res h) args s 0 0 (xA X)) (F0 m 28 ls [.int xs0]) := by
  obtain ⟨hx, hb, hr, hlk, hml, hown, hts, hK⟩ := id C0
  refine lv_istore_n (lv' := [(2, .int xs0), (0, .ref a), (1, .int x1), (3, .int x3)]) hx hb dX6_ownerOf_28 rfl hl (by decide) rfl (fun ls hl => ?_)
  refine lv_iinc (v := x3 + 1) (lv' := [(3, .int (x3 + 1)), (2, .int xs0), (0, .ref a), (1, .int x1)]) hx hb dX6_ownerOf_29 hl (k := 3) rfl rfl (by decide) rfl (fun ls hl => ?_)
  refine lv_goto (tgt := 4) hx hb dX6_ownerOf_32 (by decide) ?_
  exact hk4 x1 xs0 (x3 + 1) h _ _ _ _ (lv_sub hl [2, 3, 1, 0] rfl) hW hS hs hres
def fX6_ownerOf_c4 (a : Nat) : Nat → Int32 → Int32 → Int32 → HH → Int32
  | 0, x1, x2, x3, h => 0
  | n + 1, x1, x2, x3, h => if (h (a + 1) 0) ≤ x3 then x2 else (if (bI (fX6_has a x3 x1 h)) = 0 then (fX6_ownerOf_c28 a (fX6_ownerOf_c4 a n) x1 x3 x2 h) else (fX6_ownerOf_c28 a (fX6_ownerOf_c4 a n) x1 x3 x3 h))
def sX6_ownerOf_c4 (a : Nat) : Nat → Int32 → Int32 → Int32 → HH → Prop
  | 0, _, _, _, _ => False
  | n + 1, x1, x2, x3, h => ((h (a + 1) 0) ≤ x3 → True) ∧ (¬ ((h (a + 1) 0) ≤ x3) → ((sX6_has a x3 x1 h) ∧ (((bI (fX6_has a x3 x1 h)) = 0 → (sX6_ownerOf_c28 a (sX6_ownerOf_c4 a n) x1 x3 x2 h)) ∧ (¬ ((bI (fX6_has a x3 x1 h)) = 0) → (sX6_ownerOf_c28 a (sX6_ownerOf_c4 a n) x1 x3 x3 h)))))
set_option maxRecDepth 100000 in
set_option maxHeartbeats 4000000 in
theorem xX6_ownerOf_c4 {p : Program} {l : Launch} {e : Env} {s : State} {m : MethodId} {args : Array Value} {below : List Frame} {meth : Method} {c : Code} {X : Cx} {a : Nat} (hO : IsMo X a) (C0 : CT p s m args meth c X cX6_ownerOf 4 (some .int) RX6) : ∀ (n : Nat) (x1 : Int32) (x2 : Int32) (x3 : Int32) (h : HH) (H : Heap) (locs : List Loc) (ls : Array Slot) (res : Int32) (hl : lv_has ls 4 [(0, .ref a), (1, .int x1), (2, .int x2), (3, .int x3)]) (hW : WH X h H) (hS : va_S (xA X) s.heap H locs) (hs : sX6_ownerOf_c4 a n x1 x2 x3 h) (hres : fX6_ownerOf_c4 a n x1 x2 x3 h = res), W p l e rmX6_ownerOf s m args below meth c H locs 0 0 (MQ below (QI X res h) args s 0 0 (xA X)) (F0 m 4 ls []) := by
  obtain ⟨hx, hb, hr, hlk, hml, hown, hts, hK⟩ := id C0
  intro n
  induction n with
  | zero =>
    intro _ _ _ _ _ _ _ _ _ _ _ hs _
    exact hs.elim
  | succ n ih =>
    intro x1 x2 x3 h H locs ls res hl hW hS hs hres
    refine lv_iload_n hx hb dX6_ownerOf_4 rfl (lv_at hl 3 rfl) ?_
    refine lv_aload_n hx hb dX6_ownerOf_5 rfl (lv_at hl 0 rfl) ?_
    refine g6_0 hx hb hts hown hK hW hO.1 (hts _ q4_49) dX6_ownerOf_6 ?_
    refine lv_iconst (v := 0) hx hb dX6_ownerOf_9 (by decide) ?_
    refine kb_iald hx hb hK hW hO.2.1 (k := 0) (by decide) (vpd (by decide)) dX6_ownerOf_10 ?_
    refine lv_icmp_ge (tgt := 35) hx hb dX6_ownerOf_11 (by decide) (fun c1 => ?_) (fun c1 => ?_)
    · have hres := (if_pos c1).symm.trans hres
      have hs := And.left hs c1
      refine lv_iload_n hx hb dX6_ownerOf_35 rfl (lv_at hl 2 rfl) ?_
      subst hres
      exact kr_i hx hb hr hlk hK hW hS dX6_ownerOf_36
    · have hres := (if_neg c1).symm.trans hres
      have hs := And.right hs c1
      refine lv_aload_n hx hb dX6_ownerOf_14 rfl (lv_at hl 0 rfl) ?_
      refine lv_iload_n hx hb dX6_ownerOf_15 rfl (lv_at hl 3 rfl) ?_
      refine lv_iload_n hx hb dX6_ownerOf_16 rfl (lv_at hl 1 rfl) ?_
      obtain ⟨hc2, hs⟩ := hs
      refine kV_i (As := [.int x3, .int x1]) (rest := []) ⟨hx, hb, hml, hown, hts⟩ (kX6_has l X h a x3 x1 hO hc2) (wX6_has hts q4_37 ⟨Nat.le_of_ble_eq_true rfl, Nat.le_of_ble_eq_true rfl⟩) hK hW hS (va_recv hK.1 (hW.one hO.1) (ci := 6) (q0 := 0) rfl rfl) rfl hl.1 rfl (Nat.le_of_ble_eq_true rfl) dX6_ownerOf_17 ⟨Nat.zero_le _, Nat.zero_le _⟩ (fun H locs hW hS => ?_)
      refine lv_if_eq (tgt := 27) hx hb dX6_ownerOf_20 (by decide) (fun c3 => ?_) (fun c3 => ?_)
      · have hres := (if_pos c3).symm.trans hres
        have hs := And.left hs c3
        refine lv_iload_n hx hb dX6_ownerOf_27 rfl (lv_at hl 2 rfl) ?_
        exact xX6_ownerOf_c28 hO C0 ih x1 x3 x2 h _ _ _ _ (lv_sub hl [0, 1, 3] rfl) hW hS hs hres
      · have hres := (if_neg c3).symm.trans hres
        have hs := And.right hs c3
        refine lv_iload_n hx hb dX6_ownerOf_23 rfl (lv_at hl 3 rfl) ?_
        refine lv_goto (tgt := 28) hx hb dX6_ownerOf_24 (by decide) ?_
        exact xX6_ownerOf_c28 hO C0 ih x1 x3 x3 h _ _ _ _ (lv_sub hl [0, 1, 3] rfl) hW hS hs hres
def fX6_ownerOf_c0 (a : Nat) (x1 : Int32) (h : HH) : Int32 := fX6_ownerOf_c4 a 5 x1 (-1) 0 h
def sX6_ownerOf_c0 (a : Nat) (x1 : Int32) (h : HH) : Prop := sX6_ownerOf_c4 a 5 x1 (-1) 0 h
set_option maxRecDepth 100000 in
set_option maxHeartbeats 4000000 in
theorem xX6_ownerOf_c0 {p : Program} {l : Launch} {e : Env} {s : State} {m : MethodId} {args : Array Value} {below : List Frame} {meth : Method} {c : Code} {X : Cx} {a : Nat} (hO : IsMo X a) (C0 : CT p s m args meth c X cX6_ownerOf 4 (some .int) RX6) (x1 : Int32) (h : HH) (H : Heap) (locs : List Loc) (ls : Array Slot) (res : Int32) (hl : lv_has ls 4 [(0, .ref a), (1, .int x1)]) (hW : WH X h H) (hS : va_S (xA X) s.heap H locs) (hs : sX6_ownerOf_c0 a x1 h) (hres : fX6_ownerOf_c0 a x1 h = res) : W p l e rmX6_ownerOf s m args below meth c H locs 0 0 (MQ below (QI X res h) args s 0 0 (xA X)) (F0 m 0 ls []) := by
  obtain ⟨hx, hb, hr, hlk, hml, hown, hts, hK⟩ := id C0
  refine lv_iconst (v := (-1)) hx hb dX6_ownerOf_0 (by decide) ?_
  refine lv_istore_n (lv' := [(2, .int (-1)), (0, .ref a), (1, .int x1)]) hx hb dX6_ownerOf_1 rfl hl (by decide) rfl (fun ls hl => ?_)
  refine lv_iconst (v := 0) hx hb dX6_ownerOf_2 (by decide) ?_
  refine lv_istore_n (lv' := [(3, .int 0), (2, .int (-1)), (0, .ref a), (1, .int x1)]) hx hb dX6_ownerOf_3 rfl hl (by decide) rfl (fun ls hl => ?_)
  exact xX6_ownerOf_c4 hO C0 5 x1 (-1) 0 h _ _ _ _ (lv_sub hl [2, 3, 1, 0] rfl) hW hS hs hres
def fX6_ownerOf (a : Nat) (x1 : Int32) (h : HH) : Int32 := fX6_ownerOf_c0 a x1 h
def sX6_ownerOf (a : Nat) (x1 : Int32) (h : HH) : Prop := sX6_ownerOf_c0 a x1 h
set_option maxRecDepth 100000 in
set_option maxHeartbeats 4000000 in
theorem kX6_ownerOf (l : Launch) (X : Cx) (h : HH) (a : Nat) (x1 : Int32) (hO : IsMo X a) (hs : sX6_ownerOf a x1 h) : Met l yX6_ownerOf vX6_ownerOf rmX6_ownerOf (va_Pc [.ref a, .int x1] (fun U => WS X h U)) (QI X (fX6_ownerOf a x1 h) h) 0 0 (xA X) := by
  refine Met.ofW (cc := cX6_ownerOf) (maxL := 4) (ret := some .int) (by decide) rfl ?_
  intro p e s m args below meth c s₁ B hml hv
  obtain ⟨rfl, hW, hK⟩ := hv
  have hl := lv_entry ([.ref a, .int x1]) (n := 4) (Nat.le_of_ble_eq_true rfl)
  rw [lg_entry_eq]
  generalize (lg_sl ([.ref a, .int x1]) ++ List.replicate (4 - (lg_sl ([.ref a, .int x1])).length) Slot.unset).toArray = ls at hl ⊢
  have hl : lv_has ls 4 [(0, .ref a), (1, .int x1)] := hl
  exact xX6_ownerOf_c0 hO ⟨B.exec, B.bytes, B.returns, B.notSynchronized, hml, findClass_of_methodNamed B.named, fun w hw => atoms_spec (ws := vX6_ownerOf) B.pre w (List.mem_cons_of_mem _ hw), hK⟩ x1 h _ _ ls _ (lv_sub hl [0, 1] rfl) hW va_S.rf hs rfl
-- VillageBoardModel.woodOf(I)I
abbrev rmX6_woodOf : Room := ({ frames := 0, cells := 0, slots := 0, locals := 0 } : Room)
abbrev vX6_woodOf : List Cond := Cond.code yX6_woodOf cX6_woodOf 1 (some .int) :: lwG
theorem wX6_woodOf {R : Room} {s : State} {args : Array Value} {idx : Nat} (hg : ∀ w ∈ lwG, w.before args s = true) (hl : Cond.methodLink RX6 idx yX6_woodOf ∈ lwG) (hR : rmX6_woodOf.frames + 1 ≤ R.frames ∧ 8 + (1 + 11) + rmX6_woodOf.locals ≤ R.locals) : CallB R s args RX6 idx yX6_woodOf cX6_woodOf 1 (some .int) vX6_woodOf rmX6_woodOf 0 0 1 ∧ (Cond.static yX6_woodOf).before args s = true := cwS 1 hg (gS hl q4_137 q1_7 q4_138) rfl rfl rfl (by decide +kernel) hR
def fX6_woodOf_c0 (x0 : Int32) : Int32 := if x0 = (-1) then 4 else (if x0 = 0 then 0 else (if x0 = 1 then 2 else (if x0 = 2 then 2 else (if x0 = 3 then 1 else (if x0 = 4 then 3 else (if x0 = 5 then 0 else (if x0 = 6 then 1 else 0)))))))
set_option maxRecDepth 100000 in
set_option maxHeartbeats 4000000 in
theorem xX6_woodOf_c0 {p : Program} {l : Launch} {e : Env} {s : State} {m : MethodId} {args : Array Value} {below : List Frame} {meth : Method} {c : Code} {X : Cx} (C0 : CT p s m args meth c X cX6_woodOf 1 (some .int) RX6) (x0 : Int32) (h : HH) (H : Heap) (locs : List Loc) (ls : Array Slot) (res : Int32) (hl : lv_has ls 1 [(0, .int x0)]) (hW : WH X h H) (hS : va_S (xA X) s.heap H locs) (hres : fX6_woodOf_c0 x0 = res) : W p l e rmX6_woodOf s m args below meth c H locs 0 0 (MQ below (QI X res h) args s 0 0 (xA X)) (F0 m 0 ls []) := by
  obtain ⟨hx, hb, hr, hlk, hml, hown, hts, hK⟩ := id C0
  refine lv_iload_n hx hb dX6_woodOf_0 rfl (lv_at hl 0 rfl) ?_
  by_cases c1 : x0 = (-1)
  · have hres := (if_pos c1).symm.trans hres
    refine ksw_in (tgt := 48) hx hb (-1) c1 dX6_woodOf_1 (by decide) (by decide) rfl (by decide) ?_
    refine lv_iconst (v := 4) hx hb dX6_woodOf_48 (by decide) ?_
    subst hres
    exact kr_i hx hb hr hlk hK hW hS dX6_woodOf_49
  · have hres := (if_neg c1).symm.trans hres
    by_cases c2 : x0 = 0
    · have hres := (if_pos c2).symm.trans hres
      refine ksw_in (tgt := 56) hx hb 0 c2 dX6_woodOf_1 (by decide) (by decide) rfl (by decide) ?_
      refine lv_iconst (v := 0) hx hb dX6_woodOf_56 (by decide) ?_
      subst hres
      exact kr_i hx hb hr hlk hK hW hS dX6_woodOf_57
    · have hres := (if_neg c2).symm.trans hres
      by_cases c3 : x0 = 1
      · have hres := (if_pos c3).symm.trans hres
        refine ksw_in (tgt := 50) hx hb 1 c3 dX6_woodOf_1 (by decide) (by decide) rfl (by decide) ?_
        refine lv_iconst (v := 2) hx hb dX6_woodOf_50 (by decide) ?_
        subst hres
        exact kr_i hx hb hr hlk hK hW hS dX6_woodOf_51
      · have hres := (if_neg c3).symm.trans hres
        by_cases c4 : x0 = 2
        · have hres := (if_pos c4).symm.trans hres
          refine ksw_in (tgt := 50) hx hb 2 c4 dX6_woodOf_1 (by decide) (by decide) rfl (by decide) ?_
          refine lv_iconst (v := 2) hx hb dX6_woodOf_50 (by decide) ?_
          subst hres
          exact kr_i hx hb hr hlk hK hW hS dX6_woodOf_51
        · have hres := (if_neg c4).symm.trans hres
          by_cases c5 : x0 = 3
          · have hres := (if_pos c5).symm.trans hres
            refine ksw_in (tgt := 52) hx hb 3 c5 dX6_woodOf_1 (by decide) (by decide) rfl (by decide) ?_
            refine lv_iconst (v := 1) hx hb dX6_woodOf_52 (by decide) ?_
            subst hres
            exact kr_i hx hb hr hlk hK hW hS dX6_woodOf_53
          · have hres := (if_neg c5).symm.trans hres
            by_cases c6 : x0 = 4
            · have hres := (if_pos c6).symm.trans hres
              refine ksw_in (tgt := 54) hx hb 4 c6 dX6_woodOf_1 (by decide) (by decide) rfl (by decide) ?_
              refine lv_iconst (v := 3) hx hb dX6_woodOf_54 (by decide) ?_
              subst hres
              exact kr_i hx hb hr hlk hK hW hS dX6_woodOf_55
            · have hres := (if_neg c6).symm.trans hres
              by_cases c7 : x0 = 5
              · have hres := (if_pos c7).symm.trans hres
                refine ksw_in (tgt := 56) hx hb 5 c7 dX6_woodOf_1 (by decide) (by decide) rfl (by decide) ?_
                refine lv_iconst (v := 0) hx hb dX6_woodOf_56 (by decide) ?_
                subst hres
                exact kr_i hx hb hr hlk hK hW hS dX6_woodOf_57
              · have hres := (if_neg c7).symm.trans hres
                by_cases c8 : x0 = 6
                · have hres := (if_pos c8).symm.trans hres
                  refine ksw_in (tgt := 52) hx hb 6 c8 dX6_woodOf_1 (by decide) (by decide) rfl (by decide) ?_
                  refine lv_iconst (v := 1) hx hb dX6_woodOf_52 (by decide) ?_
                  subst hres
                  exact kr_i hx hb hr hlk hK hW hS dX6_woodOf_53
                · have hres := (if_neg c8).symm.trans hres
                  refine lv_tableOut (tgt := 56) hx hb dX6_woodOf_1 (by have := lv_neT (a := (-1)) c1 (by decide); have := lv_neT (a := 0) c2 (by decide); have := lv_neT (a := 1) c3 (by decide); have := lv_neT (a := 2) c4 (by decide); have := lv_neT (a := 3) c5 (by decide); have := lv_neT (a := 4) c6 (by decide); have := lv_neT (a := 5) c7 (by decide); have := lv_neT (a := 6) c8 (by decide); omega) (by decide) ?_
                  refine lv_iconst (v := 0) hx hb dX6_woodOf_56 (by decide) ?_
                  subst hres
                  exact kr_i hx hb hr hlk hK hW hS dX6_woodOf_57
def fX6_woodOf (x0 : Int32) : Int32 := fX6_woodOf_c0 x0
set_option maxRecDepth 100000 in
set_option maxHeartbeats 4000000 in
theorem kX6_woodOf (l : Launch) (X : Cx) (h : HH) (x0 : Int32) : Met l yX6_woodOf vX6_woodOf rmX6_woodOf (va_Pc [.int x0] (fun U => WS X h U)) (QI X (fX6_woodOf x0) h) 0 0 (xA X) := by
  refine Met.ofW (cc := cX6_woodOf) (maxL := 1) (ret := some .int) (by decide) rfl ?_
  intro p e s m args below meth c s₁ B hml hv
  obtain ⟨rfl, hW, hK⟩ := hv
  have hl := lv_entry ([.int x0]) (n := 1) (Nat.le_of_ble_eq_true rfl)
  rw [lg_entry_eq]
  generalize (lg_sl ([.int x0]) ++ List.replicate (1 - (lg_sl ([.int x0])).length) Slot.unset).toArray = ls at hl ⊢
  have hl : lv_has ls 1 [(0, .int x0)] := hl
  exact xX6_woodOf_c0 ⟨B.exec, B.bytes, B.returns, B.notSynchronized, hml, findClass_of_methodNamed B.named, fun w hw => atoms_spec (ws := vX6_woodOf) B.pre w (List.mem_cons_of_mem _ hw), hK⟩ x0 h _ _ ls _ (lv_sub hl [0] rfl) hW va_S.rf rfl
-- VillageBoardModel.clayOf(I)I
abbrev rmX6_clayOf : Room := ({ frames := 0, cells := 0, slots := 0, locals := 0 } : Room)
abbrev vX6_clayOf : List Cond := Cond.code yX6_clayOf cX6_clayOf 1 (some .int) :: lwG
theorem wX6_clayOf {R : Room} {s : State} {args : Array Value} {idx : Nat} (hg : ∀ w ∈ lwG, w.before args s = true) (hl : Cond.methodLink RX6 idx yX6_clayOf ∈ lwG) (hR : rmX6_clayOf.frames + 1 ≤ R.frames ∧ 8 + (1 + 11) + rmX6_clayOf.locals ≤ R.locals) : CallB R s args RX6 idx yX6_clayOf cX6_clayOf 1 (some .int) vX6_clayOf rmX6_clayOf 0 0 1 ∧ (Cond.static yX6_clayOf).before args s = true := cwS 1 hg (gS hl q4_140 q1_7 q4_141) rfl rfl rfl (by decide +kernel) hR
def fX6_clayOf_c0 (x0 : Int32) : Int32 := if x0 = (-1) then 1 else (if x0 = 0 then 3 else (if x0 = 1 then 1 else (if x0 = 2 then 0 else (if x0 = 3 then 1 else (if x0 = 4 then 0 else (if x0 = 5 then 2 else (if x0 = 6 then 0 else (if x0 = 7 then 1 else 0))))))))
set_option maxRecDepth 100000 in
set_option maxHeartbeats 4000000 in
theorem xX6_clayOf_c0 {p : Program} {l : Launch} {e : Env} {s : State} {m : MethodId} {args : Array Value} {below : List Frame} {meth : Method} {c : Code} {X : Cx} (C0 : CT p s m args meth c X cX6_clayOf 1 (some .int) RX6) (x0 : Int32) (h : HH) (H : Heap) (locs : List Loc) (ls : Array Slot) (res : Int32) (hl : lv_has ls 1 [(0, .int x0)]) (hW : WH X h H) (hS : va_S (xA X) s.heap H locs) (hres : fX6_clayOf_c0 x0 = res) : W p l e rmX6_clayOf s m args below meth c H locs 0 0 (MQ below (QI X res h) args s 0 0 (xA X)) (F0 m 0 ls []) := by
  obtain ⟨hx, hb, hr, hlk, hml, hown, hts, hK⟩ := id C0
  refine lv_iload_n hx hb dX6_clayOf_0 rfl (lv_at hl 0 rfl) ?_
  by_cases c1 : x0 = (-1)
  · have hres := (if_pos c1).symm.trans hres
    refine ksw_in (tgt := 56) hx hb (-1) c1 dX6_clayOf_1 (by decide) (by decide) rfl (by decide) ?_
    refine lv_iconst (v := 1) hx hb dX6_clayOf_56 (by decide) ?_
    subst hres
    exact kr_i hx hb hr hlk hK hW hS dX6_clayOf_57
  · have hres := (if_neg c1).symm.trans hres
    by_cases c2 : x0 = 0
    · have hres := (if_pos c2).symm.trans hres
      refine ksw_in (tgt := 52) hx hb 0 c2 dX6_clayOf_1 (by decide) (by decide) rfl (by decide) ?_
      refine lv_iconst (v := 3) hx hb dX6_clayOf_52 (by decide) ?_
      subst hres
      exact kr_i hx hb hr hlk hK hW hS dX6_clayOf_53
    · have hres := (if_neg c2).symm.trans hres
      by_cases c3 : x0 = 1
      · have hres := (if_pos c3).symm.trans hres
        refine ksw_in (tgt := 56) hx hb 1 c3 dX6_clayOf_1 (by decide) (by decide) rfl (by decide) ?_
        refine lv_iconst (v := 1) hx hb dX6_clayOf_56 (by decide) ?_
        subst hres
        exact kr_i hx hb hr hlk hK hW hS dX6_clayOf_57
      · have hres := (if_neg c3).symm.trans hres
        by_cases c4 : x0 = 2
        · have hres := (if_pos c4).symm.trans hres
          refine ksw_in (tgt := 58) hx hb 2 c4 dX6_clayOf_1 (by decide) (by decide) rfl (by decide) ?_
          refine lv_iconst (v := 0) hx hb dX6_clayOf_58 (by decide) ?_
          subst hres
          exact kr_i hx hb hr hlk hK hW hS dX6_clayOf_59
        · have hres := (if_neg c4).symm.trans hres
          by_cases c5 : x0 = 3
          · have hres := (if_pos c5).symm.trans hres
            refine ksw_in (tgt := 56) hx hb 3 c5 dX6_clayOf_1 (by decide) (by decide) rfl (by decide) ?_
            refine lv_iconst (v := 1) hx hb dX6_clayOf_56 (by decide) ?_
            subst hres
            exact kr_i hx hb hr hlk hK hW hS dX6_clayOf_57
          · have hres := (if_neg c5).symm.trans hres
            by_cases c6 : x0 = 4
            · have hres := (if_pos c6).symm.trans hres
              refine ksw_in (tgt := 58) hx hb 4 c6 dX6_clayOf_1 (by decide) (by decide) rfl (by decide) ?_
              refine lv_iconst (v := 0) hx hb dX6_clayOf_58 (by decide) ?_
              subst hres
              exact kr_i hx hb hr hlk hK hW hS dX6_clayOf_59
            · have hres := (if_neg c6).symm.trans hres
              by_cases c7 : x0 = 5
              · have hres := (if_pos c7).symm.trans hres
                refine ksw_in (tgt := 54) hx hb 5 c7 dX6_clayOf_1 (by decide) (by decide) rfl (by decide) ?_
                refine lv_iconst (v := 2) hx hb dX6_clayOf_54 (by decide) ?_
                subst hres
                exact kr_i hx hb hr hlk hK hW hS dX6_clayOf_55
              · have hres := (if_neg c7).symm.trans hres
                by_cases c8 : x0 = 6
                · have hres := (if_pos c8).symm.trans hres
                  refine ksw_in (tgt := 58) hx hb 6 c8 dX6_clayOf_1 (by decide) (by decide) rfl (by decide) ?_
                  refine lv_iconst (v := 0) hx hb dX6_clayOf_58 (by decide) ?_
                  subst hres
                  exact kr_i hx hb hr hlk hK hW hS dX6_clayOf_59
                · have hres := (if_neg c8).symm.trans hres
                  by_cases c9 : x0 = 7
                  · have hres := (if_pos c9).symm.trans hres
                    refine ksw_in (tgt := 56) hx hb 7 c9 dX6_clayOf_1 (by decide) (by decide) rfl (by decide) ?_
                    refine lv_iconst (v := 1) hx hb dX6_clayOf_56 (by decide) ?_
                    subst hres
                    exact kr_i hx hb hr hlk hK hW hS dX6_clayOf_57
                  · have hres := (if_neg c9).symm.trans hres
                    refine lv_tableOut (tgt := 58) hx hb dX6_clayOf_1 (by have := lv_neT (a := (-1)) c1 (by decide); have := lv_neT (a := 0) c2 (by decide); have := lv_neT (a := 1) c3 (by decide); have := lv_neT (a := 2) c4 (by decide); have := lv_neT (a := 3) c5 (by decide); have := lv_neT (a := 4) c6 (by decide); have := lv_neT (a := 5) c7 (by decide); have := lv_neT (a := 6) c8 (by decide); have := lv_neT (a := 7) c9 (by decide); omega) (by decide) ?_
                    refine lv_iconst (v := 0) hx hb dX6_clayOf_58 (by decide) ?_
                    subst hres
                    exact kr_i hx hb hr hlk hK hW hS dX6_clayOf_59
def fX6_clayOf (x0 : Int32) : Int32 := fX6_clayOf_c0 x0
set_option maxRecDepth 100000 in
set_option maxHeartbeats 4000000 in
theorem kX6_clayOf (l : Launch) (X : Cx) (h : HH) (x0 : Int32) : Met l yX6_clayOf vX6_clayOf rmX6_clayOf (va_Pc [.int x0] (fun U => WS X h U)) (QI X (fX6_clayOf x0) h) 0 0 (xA X) := by
  refine Met.ofW (cc := cX6_clayOf) (maxL := 1) (ret := some .int) (by decide) rfl ?_
  intro p e s m args below meth c s₁ B hml hv
  obtain ⟨rfl, hW, hK⟩ := hv
  have hl := lv_entry ([.int x0]) (n := 1) (Nat.le_of_ble_eq_true rfl)
  rw [lg_entry_eq]
  generalize (lg_sl ([.int x0]) ++ List.replicate (1 - (lg_sl ([.int x0])).length) Slot.unset).toArray = ls at hl ⊢
  have hl : lv_has ls 1 [(0, .int x0)] := hl
  exact xX6_clayOf_c0 ⟨B.exec, B.bytes, B.returns, B.notSynchronized, hml, findClass_of_methodNamed B.named, fun w hw => atoms_spec (ws := vX6_clayOf) B.pre w (List.mem_cons_of_mem _ hw), hK⟩ x0 h _ _ ls _ (lv_sub hl [0] rfl) hW va_S.rf rfl
-- VillageBoardModel.pointsOf(I)I
abbrev rmX6_pointsOf : Room := ({ frames := 0, cells := 0, slots := 0, locals := 0 } : Room)
abbrev vX6_pointsOf : List Cond := Cond.code yX6_pointsOf cX6_pointsOf 1 (some .int) :: lwG
theorem wX6_pointsOf {R : Room} {s : State} {args : Array Value} {idx : Nat} (hg : ∀ w ∈ lwG, w.before args s = true) (hl : Cond.methodLink RX6 idx yX6_pointsOf ∈ lwG) (hR : rmX6_pointsOf.frames + 1 ≤ R.frames ∧ 8 + (1 + 11) + rmX6_pointsOf.locals ≤ R.locals) : CallB R s args RX6 idx yX6_pointsOf cX6_pointsOf 1 (some .int) vX6_pointsOf rmX6_pointsOf 0 0 1 ∧ (Cond.static yX6_pointsOf).before args s = true := cwS 1 hg (gS hl q5_7 q1_7 q5_8) rfl rfl rfl (by decide +kernel) hR
def fX6_pointsOf_c14 : Int32 := 2
set_option maxRecDepth 100000 in
set_option maxHeartbeats 4000000 in
theorem xX6_pointsOf_c14 {p : Program} {l : Launch} {e : Env} {s : State} {m : MethodId} {args : Array Value} {below : List Frame} {meth : Method} {c : Code} {X : Cx} (C0 : CT p s m args meth c X cX6_pointsOf 1 (some .int) RX6) (h : HH) (H : Heap) (locs : List Loc) (ls : Array Slot) (res : Int32) (hl : lv_has ls 1 []) (hW : WH X h H) (hS : va_S (xA X) s.heap H locs) (hres : fX6_pointsOf_c14 = res) : W p l e rmX6_pointsOf s m args below meth c H locs 0 0 (MQ below (QI X res h) args s 0 0 (xA X)) (F0 m 14 ls []) := by
  obtain ⟨hx, hb, hr, hlk, hml, hown, hts, hK⟩ := id C0
  refine lv_iconst (v := 2) hx hb dX6_pointsOf_14 (by decide) ?_
  refine lv_goto (tgt := 19) hx hb dX6_pointsOf_15 (by decide) ?_
  subst hres
  exact kr_i hx hb hr hlk hK hW hS dX6_pointsOf_19
def fX6_pointsOf_c0 (x0 : Int32) : Int32 := if x0 = 0 then fX6_pointsOf_c14 else (if x0 = 1 then fX6_pointsOf_c14 else (if x0 = 5 then fX6_pointsOf_c14 else 1))
set_option maxRecDepth 100000 in
set_option maxHeartbeats 4000000 in
theorem xX6_pointsOf_c0 {p : Program} {l : Launch} {e : Env} {s : State} {m : MethodId} {args : Array Value} {below : List Frame} {meth : Method} {c : Code} {X : Cx} (C0 : CT p s m args meth c X cX6_pointsOf 1 (some .int) RX6) (x0 : Int32) (h : HH) (H : Heap) (locs : List Loc) (ls : Array Slot) (res : Int32) (hl : lv_has ls 1 [(0, .int x0)]) (hW : WH X h H) (hS : va_S (xA X) s.heap H locs) (hres : fX6_pointsOf_c0 x0 = res) : W p l e rmX6_pointsOf s m args below meth c H locs 0 0 (MQ below (QI X res h) args s 0 0 (xA X)) (F0 m 0 ls []) := by
  obtain ⟨hx, hb, hr, hlk, hml, hown, hts, hK⟩ := id C0
  refine lv_iload_n hx hb dX6_pointsOf_0 rfl (lv_at hl 0 rfl) ?_
  refine lv_if_eq (tgt := 14) hx hb dX6_pointsOf_1 (by decide) (fun c1 => ?_) (fun c1 => ?_)
  · have hres := (if_pos c1).symm.trans hres
    exact xX6_pointsOf_c14 C0 h _ _ _ _ (lv_sub hl [] rfl) hW hS hres
  · have hres := (if_neg c1).symm.trans hres
    refine lv_iload_n hx hb dX6_pointsOf_4 rfl (lv_at hl 0 rfl) ?_
    refine lv_iconst (v := 1) hx hb dX6_pointsOf_5 (by decide) ?_
    refine lv_icmp_eq (tgt := 14) hx hb dX6_pointsOf_6 (by decide) (fun c2 => ?_) (fun c2 => ?_)
    · have hres := (if_pos c2).symm.trans hres
      exact xX6_pointsOf_c14 C0 h _ _ _ _ (lv_sub hl [] rfl) hW hS hres
    · have hres := (if_neg c2).symm.trans hres
      refine lv_iload_n hx hb dX6_pointsOf_9 rfl (lv_at hl 0 rfl) ?_
      refine lv_iconst (v := 5) hx hb dX6_pointsOf_10 (by decide) ?_
      refine lv_icmp_ne (tgt := 18) hx hb dX6_pointsOf_11 (by decide) (fun c3 => ?_) (fun c3 => ?_)
      · have hres := (if_neg c3).symm.trans hres
        refine lv_iconst (v := 1) hx hb dX6_pointsOf_18 (by decide) ?_
        subst hres
        exact kr_i hx hb hr hlk hK hW hS dX6_pointsOf_19
      · have hres := (if_pos c3).symm.trans hres
        exact xX6_pointsOf_c14 C0 h _ _ _ _ (lv_sub hl [] rfl) hW hS hres
def fX6_pointsOf (x0 : Int32) : Int32 := fX6_pointsOf_c0 x0
set_option maxRecDepth 100000 in
set_option maxHeartbeats 4000000 in
theorem kX6_pointsOf (l : Launch) (X : Cx) (h : HH) (x0 : Int32) : Met l yX6_pointsOf vX6_pointsOf rmX6_pointsOf (va_Pc [.int x0] (fun U => WS X h U)) (QI X (fX6_pointsOf x0) h) 0 0 (xA X) := by
  refine Met.ofW (cc := cX6_pointsOf) (maxL := 1) (ret := some .int) (by decide) rfl ?_
  intro p e s m args below meth c s₁ B hml hv
  obtain ⟨rfl, hW, hK⟩ := hv
  have hl := lv_entry ([.int x0]) (n := 1) (Nat.le_of_ble_eq_true rfl)
  rw [lg_entry_eq]
  generalize (lg_sl ([.int x0]) ++ List.replicate (1 - (lg_sl ([.int x0])).length) Slot.unset).toArray = ls at hl ⊢
  have hl : lv_has ls 1 [(0, .int x0)] := hl
  exact xX6_pointsOf_c0 ⟨B.exec, B.bytes, B.returns, B.notSynchronized, hml, findClass_of_methodNamed B.named, fun w hw => atoms_spec (ws := vX6_pointsOf) B.pre w (List.mem_cons_of_mem _ hw), hK⟩ x0 h _ _ ls _ (lv_sub hl [0] rfl) hW va_S.rf rfl
-- VillageBoardModel.costOf(III)I
abbrev rmX6_costOf : Room := ({ frames := 3, cells := 0, slots := 0, locals := 65 } : Room)
abbrev vX6_costOf : List Cond := Cond.code yX6_costOf cX6_costOf 6 (some .int) :: lwG
theorem wX6_costOf {R : Room} {s : State} {args : Array Value} {own : String} {idx : Nat} (hg : ∀ w ∈ lwG, w.before args s = true) (hl : Cond.methodLink own idx yX6_costOf ∈ lwG) (hR : rmX6_costOf.frames + 1 ≤ R.frames ∧ 8 + (6 + 11) + rmX6_costOf.locals ≤ R.locals) : CallW R s args own RX6 idx yX6_costOf cX6_costOf 6 (some .int) vX6_costOf rmX6_costOf 0 0 3 := cwV 3 hg (gV hl q4_134 q0_28 q1_7 q4_135) rfl rfl rfl (by decide +kernel) hR
def fX6_costOf_c28 (a : Nat) (x1 : Int32) (x2 : Int32) (x4 : Int32) (xs0 : Int32) (h : HH) : Int32 := if (bI (fX6_has a x1 xs0 h)) = 0 then x4 else (if x2 = xs0 then x4 else (if x4 ≤ 0 then x4 else (x4 - 1)))
def sX6_costOf_c28 (a : Nat) (x1 : Int32) (x2 : Int32) (x4 : Int32) (xs0 : Int32) (h : HH) : Prop := sX6_has a x1 xs0 h
set_option maxRecDepth 100000 in
set_option maxHeartbeats 4000000 in
theorem xX6_costOf_c28 {p : Program} {l : Launch} {e : Env} {s : State} {m : MethodId} {args : Array Value} {below : List Frame} {meth : Method} {c : Code} {X : Cx} {a : Nat} (hO : IsMo X a) (C0 : CT p s m args meth c X cX6_costOf 6 (some .int) RX6) (x1 : Int32) (x2 : Int32) (x4 : Int32) (xs0 : Int32) (h : HH) (H : Heap) (locs : List Loc) (ls : Array Slot) (res : Int32) (hl : lv_has ls 6 [(0, .ref a), (1, .int x1), (2, .int x2), (4, .int x4)]) (hW : WH X h H) (hS : va_S (xA X) s.heap H locs) (hs : sX6_costOf_c28 a x1 x2 x4 xs0 h) (hres : fX6_costOf_c28 a x1 x2 x4 xs0 h = res) : W p l e rmX6_costOf s m args below meth c H locs 0 0 (MQ below (QI X res h) args s 0 0 (xA X)) (F0 m 28 ls [.int xs0]) := by
  obtain ⟨hx, hb, hr, hlk, hml, hown, hts, hK⟩ := id C0
  refine lv_istore (lv' := [(5, .int xs0), (0, .ref a), (1, .int x1), (2, .int x2), (4, .int x4)]) hx hb dX6_costOf_28 hl (by decide) rfl (fun ls hl => ?_)
  refine lv_aload_n hx hb dX6_costOf_30 rfl (lv_at hl 1 rfl) ?_
  refine lv_iload_n hx hb dX6_costOf_31 rfl (lv_at hl 2 rfl) ?_
  refine lv_iload hx hb dX6_costOf_32 (lv_at hl 0 rfl) ?_
  have hc3 := hs
  refine kV_i (As := [.int x1, .int xs0]) (rest := []) ⟨hx, hb, hml, hown, hts⟩ (kX6_has l X h a x1 xs0 hO hc3) (wX6_has hts q4_37 ⟨Nat.le_of_ble_eq_true rfl, Nat.le_of_ble_eq_true rfl⟩) hK hW hS (va_recv hK.1 (hW.one hO.1) (ci := 6) (q0 := 0) rfl rfl) rfl hl.1 rfl (Nat.le_of_ble_eq_true rfl) dX6_costOf_34 ⟨Nat.zero_le _, Nat.zero_le _⟩ (fun H locs hW hS => ?_)
  refine lv_if_eq (tgt := 58) hx hb dX6_costOf_37 (by decide) (fun c4 => ?_) (fun c4 => ?_)
  · have hres := (if_pos c4).symm.trans hres
    refine lv_iload hx hb dX6_costOf_58 (lv_at hl 4 rfl) ?_
    subst hres
    exact kr_i hx hb hr hlk hK hW hS dX6_costOf_60
  · have hres := (if_neg c4).symm.trans hres
    refine lv_iload_n hx hb dX6_costOf_40 rfl (lv_at hl 3 rfl) ?_
    refine lv_iload hx hb dX6_costOf_41 (lv_at hl 0 rfl) ?_
    refine lv_icmp_eq (tgt := 58) hx hb dX6_costOf_43 (by decide) (fun c5 => ?_) (fun c5 => ?_)
    · have hres := (if_pos c5).symm.trans hres
      refine lv_iload hx hb dX6_costOf_58 (lv_at hl 4 rfl) ?_
      subst hres
      exact kr_i hx hb hr hlk hK hW hS dX6_costOf_60
    · have hres := (if_neg c5).symm.trans hres
      refine lv_iload hx hb dX6_costOf_46 (lv_at hl 4 rfl) ?_
      refine lv_if_le (tgt := 58) hx hb dX6_costOf_48 (by decide) (fun c6 => ?_) (fun c6 => ?_)
      · have hres := (if_pos c6).symm.trans hres
        refine lv_iload hx hb dX6_costOf_58 (lv_at hl 4 rfl) ?_
        subst hres
        exact kr_i hx hb hr hlk hK hW hS dX6_costOf_60
      · have hres := (if_neg c6).symm.trans hres
        refine lv_iload hx hb dX6_costOf_51 (lv_at hl 4 rfl) ?_
        refine lv_iconst (v := 1) hx hb dX6_costOf_53 (by decide) ?_
        refine lv_isub hx hb dX6_costOf_54 ?_
        refine lv_goto (tgt := 60) hx hb dX6_costOf_55 (by decide) ?_
        subst hres
        exact kr_i hx hb hr hlk hK hW hS dX6_costOf_60
def fX6_costOf_c15 (a : Nat) (x1 : Int32) (x2 : Int32) (x3 : Int32) (xs0 : Int32) (h : HH) : Int32 := if x3 = 0 then (fX6_costOf_c28 a x1 x2 xs0 6 h) else (fX6_costOf_c28 a x1 x2 xs0 7 h)
def sX6_costOf_c15 (a : Nat) (x1 : Int32) (x2 : Int32) (x3 : Int32) (xs0 : Int32) (h : HH) : Prop := (x3 = 0 → (sX6_costOf_c28 a x1 x2 xs0 6 h)) ∧ (¬ (x3 = 0) → (sX6_costOf_c28 a x1 x2 xs0 7 h))
set_option maxRecDepth 100000 in
set_option maxHeartbeats 4000000 in
theorem xX6_costOf_c15 {p : Program} {l : Launch} {e : Env} {s : State} {m : MethodId} {args : Array Value} {below : List Frame} {meth : Method} {c : Code} {X : Cx} {a : Nat} (hO : IsMo X a) (C0 : CT p s m args meth c X cX6_costOf 6 (some .int) RX6) (x1 : Int32) (x2 : Int32) (x3 : Int32) (xs0 : Int32) (h : HH) (H : Heap) (locs : List Loc) (ls : Array Slot) (res : Int32) (hl : lv_has ls 6 [(0, .ref a), (1, .int x1), (2, .int x2), (3, .int x3)]) (hW : WH X h H) (hS : va_S (xA X) s.heap H locs) (hs : sX6_costOf_c15 a x1 x2 x3 xs0 h) (hres : fX6_costOf_c15 a x1 x2 x3 xs0 h = res) : W p l e rmX6_costOf s m args below meth c H locs 0 0 (MQ below (QI X res h) args s 0 0 (xA X)) (F0 m 15 ls [.int xs0]) := by
  obtain ⟨hx, hb, hr, hlk, hml, hown, hts, hK⟩ := id C0
  refine lv_istore (lv' := [(4, .int xs0), (0, .ref a), (1, .int x1), (2, .int x2), (3, .int x3)]) hx hb dX6_costOf_15 hl (by decide) rfl (fun ls hl => ?_)
  refine lv_iload_n hx hb dX6_costOf_17 rfl (lv_at hl 4 rfl) ?_
  refine lv_if_ne (tgt := 26) hx hb dX6_costOf_18 (by decide) (fun c2 => ?_) (fun c2 => ?_)
  · have hres := (if_neg c2).symm.trans hres
    have hs := And.right hs c2
    refine lv_bipush (v := 7) hx hb dX6_costOf_26 (by decide) ?_
    exact xX6_costOf_c28 hO C0 x1 x2 xs0 7 h _ _ _ _ (lv_sub hl [1, 2, 3, 0] rfl) hW hS hs hres
  · have hres := (if_pos c2).symm.trans hres
    have hs := And.left hs c2
    refine lv_bipush (v := 6) hx hb dX6_costOf_21 (by decide) ?_
    refine lv_goto (tgt := 28) hx hb dX6_costOf_23 (by decide) ?_
    exact xX6_costOf_c28 hO C0 x1 x2 xs0 6 h _ _ _ _ (lv_sub hl [1, 2, 3, 0] rfl) hW hS hs hres
def fX6_costOf_c0 (a : Nat) (x1 : Int32) (x2 : Int32) (x3 : Int32) (h : HH) : Int32 := if x3 = 0 then (fX6_costOf_c15 a x1 x2 x3 (fX6_woodOf x2) h) else (fX6_costOf_c15 a x1 x2 x3 (fX6_clayOf x2) h)
def sX6_costOf_c0 (a : Nat) (x1 : Int32) (x2 : Int32) (x3 : Int32) (h : HH) : Prop := (x3 = 0 → (sX6_costOf_c15 a x1 x2 x3 (fX6_woodOf x2) h)) ∧ (¬ (x3 = 0) → (sX6_costOf_c15 a x1 x2 x3 (fX6_clayOf x2) h))
set_option maxRecDepth 100000 in
set_option maxHeartbeats 4000000 in
theorem xX6_costOf_c0 {p : Program} {l : Launch} {e : Env} {s : State} {m : MethodId} {args : Array Value} {below : List Frame} {meth : Method} {c : Code} {X : Cx} {a : Nat} (hO : IsMo X a) (C0 : CT p s m args meth c X cX6_costOf 6 (some .int) RX6) (x1 : Int32) (x2 : Int32) (x3 : Int32) (h : HH) (H : Heap) (locs : List Loc) (ls : Array Slot) (res : Int32) (hl : lv_has ls 6 [(0, .ref a), (1, .int x1), (2, .int x2), (3, .int x3)]) (hW : WH X h H) (hS : va_S (xA X) s.heap H locs) (hs : sX6_costOf_c0 a x1 x2 x3 h) (hres : fX6_costOf_c0 a x1 x2 x3 h = res) : W p l e rmX6_costOf s m args below meth c H locs 0 0 (MQ below (QI X res h) args s 0 0 (xA X)) (F0 m 0 ls []) := by
  obtain ⟨hx, hb, hr, hlk, hml, hown, hts, hK⟩ := id C0
  refine lv_iload_n hx hb dX6_costOf_0 rfl (lv_at hl 3 rfl) ?_
  refine lv_if_ne (tgt := 11) hx hb dX6_costOf_1 (by decide) (fun c1 => ?_) (fun c1 => ?_)
  · have hres := (if_neg c1).symm.trans hres
    have hs := And.right hs c1
    refine lv_iload_n hx hb dX6_costOf_11 rfl (lv_at hl 2 rfl) ?_
    refine kS_i (As := [.int x2]) (rest := []) ⟨hx, hb, hml, hown, hts⟩ (kX6_clayOf l X h x2) (wX6_clayOf hts q4_139 ⟨Nat.le_of_ble_eq_true rfl, Nat.le_of_ble_eq_true rfl⟩) hK hW hS rfl hl.1 rfl (Nat.le_of_ble_eq_true rfl) dX6_costOf_12 ⟨Nat.zero_le _, Nat.zero_le _⟩ (fun H locs hW hS => ?_)
    exact xX6_costOf_c15 hO C0 x1 x2 x3 (fX6_clayOf x2) h _ _ _ _ (lv_sub hl [0, 1, 2, 3] rfl) hW hS hs hres
  · have hres := (if_pos c1).symm.trans hres
    have hs := And.left hs c1
    refine lv_iload_n hx hb dX6_costOf_4 rfl (lv_at hl 2 rfl) ?_
    refine kS_i (As := [.int x2]) (rest := []) ⟨hx, hb, hml, hown, hts⟩ (kX6_woodOf l X h x2) (wX6_woodOf hts q4_136 ⟨Nat.le_of_ble_eq_true rfl, Nat.le_of_ble_eq_true rfl⟩) hK hW hS rfl hl.1 rfl (Nat.le_of_ble_eq_true rfl) dX6_costOf_5 ⟨Nat.zero_le _, Nat.zero_le _⟩ (fun H locs hW hS => ?_)
    refine lv_goto (tgt := 15) hx hb dX6_costOf_8 (by decide) ?_
    exact xX6_costOf_c15 hO C0 x1 x2 x3 (fX6_woodOf x2) h _ _ _ _ (lv_sub hl [0, 1, 2, 3] rfl) hW hS hs hres
def fX6_costOf (a : Nat) (x1 : Int32) (x2 : Int32) (x3 : Int32) (h : HH) : Int32 := fX6_costOf_c0 a x1 x2 x3 h
def sX6_costOf (a : Nat) (x1 : Int32) (x2 : Int32) (x3 : Int32) (h : HH) : Prop := sX6_costOf_c0 a x1 x2 x3 h
set_option maxRecDepth 100000 in
set_option maxHeartbeats 4000000 in
theorem kX6_costOf (l : Launch) (X : Cx) (h : HH) (a : Nat) (x1 : Int32) (x2 : Int32) (x3 : Int32) (hO : IsMo X a) (hs : sX6_costOf a x1 x2 x3 h) : Met l yX6_costOf vX6_costOf rmX6_costOf (va_Pc [.ref a, .int x1, .int x2, .int x3] (fun U => WS X h U)) (QI X (fX6_costOf a x1 x2 x3 h) h) 0 0 (xA X) := by
  refine Met.ofW (cc := cX6_costOf) (maxL := 6) (ret := some .int) (by decide) rfl ?_
  intro p e s m args below meth c s₁ B hml hv
  obtain ⟨rfl, hW, hK⟩ := hv
  have hl := lv_entry ([.ref a, .int x1, .int x2, .int x3]) (n := 6) (Nat.le_of_ble_eq_true rfl)
  rw [lg_entry_eq]
  generalize (lg_sl ([.ref a, .int x1, .int x2, .int x3]) ++ List.replicate (6 - (lg_sl ([.ref a, .int x1, .int x2, .int x3])).length) Slot.unset).toArray = ls at hl ⊢
  have hl : lv_has ls 6 [(0, .ref a), (1, .int x1), (2, .int x2), (3, .int x3)] := hl
  exact xX6_costOf_c0 hO ⟨B.exec, B.bytes, B.returns, B.notSynchronized, hml, findClass_of_methodNamed B.named, fun w hw => atoms_spec (ws := vX6_costOf) B.pre w (List.mem_cons_of_mem _ hw), hK⟩ x1 x2 x3 h _ _ ls _ (lv_sub hl [0, 1, 2, 3] rfl) hW va_S.rf hs rfl
-- VillageBoardModel.spaceAt(II)I
abbrev rmX6_spaceAt : Room := ({ frames := 0, cells := 0, slots := 0, locals := 0 } : Room)
abbrev vX6_spaceAt : List Cond := Cond.code yX6_spaceAt cX6_spaceAt 2 (some .int) :: lwG
theorem wX6_spaceAt {R : Room} {s : State} {args : Array Value} {idx : Nat} (hg : ∀ w ∈ lwG, w.before args s = true) (hl : Cond.methodLink RX6 idx yX6_spaceAt ∈ lwG) (hR : rmX6_spaceAt.frames + 1 ≤ R.frames ∧ 8 + (2 + 11) + rmX6_spaceAt.locals ≤ R.locals) : CallB R s args RX6 idx yX6_spaceAt cX6_spaceAt 2 (some .int) vX6_spaceAt rmX6_spaceAt 0 0 2 ∧ (Cond.static yX6_spaceAt).before args s = true := cwS 2 hg (gS hl q4_35 q1_7 q4_36) rfl rfl rfl (by decide +kernel) hR
def fX6_spaceAt_c0 (x0 : Int32) (x1 : Int32) : Int32 := (49 + (3 * x0)) + x1
set_option maxRecDepth 100000 in
set_option maxHeartbeats 4000000 in
theorem xX6_spaceAt_c0 {p : Program} {l : Launch} {e : Env} {s : State} {m : MethodId} {args : Array Value} {below : List Frame} {meth : Method} {c : Code} {X : Cx} (C0 : CT p s m args meth c X cX6_spaceAt 2 (some .int) RX6) (x0 : Int32) (x1 : Int32) (h : HH) (H : Heap) (locs : List Loc) (ls : Array Slot) (res : Int32) (hl : lv_has ls 2 [(0, .int x0), (1, .int x1)]) (hW : WH X h H) (hS : va_S (xA X) s.heap H locs) (hres : fX6_spaceAt_c0 x0 x1 = res) : W p l e rmX6_spaceAt s m args below meth c H locs 0 0 (MQ below (QI X res h) args s 0 0 (xA X)) (F0 m 0 ls []) := by
  obtain ⟨hx, hb, hr, hlk, hml, hown, hts, hK⟩ := id C0
  refine lv_bipush (v := 49) hx hb dX6_spaceAt_0 (by decide) ?_
  refine lv_iconst (v := 3) hx hb dX6_spaceAt_2 (by decide) ?_
  refine lv_iload_n hx hb dX6_spaceAt_3 rfl (lv_at hl 0 rfl) ?_
  refine lv_imul hx hb dX6_spaceAt_4 ?_
  refine lv_iadd hx hb dX6_spaceAt_5 ?_
  refine lv_iload_n hx hb dX6_spaceAt_6 rfl (lv_at hl 1 rfl) ?_
  refine lv_iadd hx hb dX6_spaceAt_7 ?_
  subst hres
  exact kr_i hx hb hr hlk hK hW hS dX6_spaceAt_8
def fX6_spaceAt (x0 : Int32) (x1 : Int32) : Int32 := fX6_spaceAt_c0 x0 x1
set_option maxRecDepth 100000 in
set_option maxHeartbeats 4000000 in
theorem kX6_spaceAt (l : Launch) (X : Cx) (h : HH) (x0 : Int32) (x1 : Int32) : Met l yX6_spaceAt vX6_spaceAt rmX6_spaceAt (va_Pc [.int x0, .int x1] (fun U => WS X h U)) (QI X (fX6_spaceAt x0 x1) h) 0 0 (xA X) := by
  refine Met.ofW (cc := cX6_spaceAt) (maxL := 2) (ret := some .int) (by decide) rfl ?_
  intro p e s m args below meth c s₁ B hml hv
  obtain ⟨rfl, hW, hK⟩ := hv
  have hl := lv_entry ([.int x0, .int x1]) (n := 2) (Nat.le_of_ble_eq_true rfl)
  rw [lg_entry_eq]
  generalize (lg_sl ([.int x0, .int x1]) ++ List.replicate (2 - (lg_sl ([.int x0, .int x1])).length) Slot.unset).toArray = ls at hl ⊢
  have hl : lv_has ls 2 [(0, .int x0), (1, .int x1)] := hl
  exact xX6_spaceAt_c0 ⟨B.exec, B.bytes, B.returns, B.notSynchronized, hml, findClass_of_methodNamed B.named, fun w hw => atoms_spec (ws := vX6_spaceAt) B.pre w (List.mem_cons_of_mem _ hw), hK⟩ x0 x1 h _ _ ls _ (lv_sub hl [0, 1] rfl) hW va_S.rf rfl
-- VillageBoardModel.startsRound()V
abbrev rmX6_startsRound : Room := ({ frames := 3, cells := 0, slots := 0, locals := 65 } : Room)
abbrev vX6_startsRound : List Cond := Cond.code yX6_startsRound cX6_startsRound 2 none :: lwG
theorem wX6_startsRound {R : Room} {s : State} {args : Array Value} {own : String} {idx : Nat} (hg : ∀ w ∈ lwG, w.before args s = true) (hl : Cond.methodLink own idx yX6_startsRound ∈ lwG) (hR : rmX6_startsRound.frames + 1 ≤ R.frames ∧ 8 + (2 + 11) + rmX6_startsRound.locals ≤ R.locals) : CallW R s args own RX6 idx yX6_startsRound cX6_startsRound 2 none vX6_startsRound rmX6_startsRound 0 0 0 := cwV 0 hg (gV hl q4_32 q0_18 q1_7 q4_33) rfl rfl rfl (by decide +kernel) hR
def fX6_startsRound_c159 (a : Nat) (k104 : Int32 → HH → HH) (x1 : Int32) (xs0 : Int32) (xs1 : Int32) (xs3 : Int32) (h : HH) : HH := k104 (x1 + 1) (hset h (a + 1) xs3.toNatClampNeg (fX6_get a xs1 xs0 h))
def sX6_startsRound_c159 (a : Nat) (K104 : Int32 → HH → Prop) (x1 : Int32) (xs0 : Int32) (xs1 : Int32) (xs3 : Int32) (h : HH) : Prop := (sX6_get a xs1 xs0 h) ∧ ((vp_in xs3 206) ∧ (K104 (x1 + 1) (hset h (a + 1) xs3.toNatClampNeg (fX6_get a xs1 xs0 h))))
set_option maxRecDepth 100000 in
set_option maxHeartbeats 4000000 in
theorem xX6_startsRound_c159 {p : Program} {l : Launch} {e : Env} {s : State} {m : MethodId} {args : Array Value} {below : List Frame} {meth : Method} {c : Code} {X : Cx} {a : Nat} (hO : IsMo X a) (C0 : CT p s m args meth c X cX6_startsRound 2 none RX6) {k104 : Int32 → HH → HH} {K104 : Int32 → HH → Prop} (hk104 : ∀ (x1 : Int32) (h : HH) (H : Heap) (locs : List Loc) (ls : Array Slot) (res : HH) (hl : lv_has ls 2 [(0, .ref a), (1, .int x1)]) (hW : WH X h H) (hS : va_S (xA X) s.heap H locs) (_ : K104 x1 h) (hres : k104 x1 h = res), W p l e rmX6_startsRound s m args below meth c H locs 0 0 (MQ below (QV X res) args s 0 0 (xA X)) (F0 m 104 ls [])) (x1 : Int32) (xs0 : Int32) (xs1 : Int32) (xs3 : Int32) (h : HH) (H : Heap) (locs : List Loc) (ls : Array Slot) (res : HH) (hl : lv_has ls 2 [(0, .ref a), (1, .int x1)]) (hW : WH X h H) (hS : va_S (xA X) s.heap H locs) (hs : sX6_startsRound_c159 a K104 x1 xs0 xs1 xs3 h) (hres : fX6_startsRound_c159 a k104 x1 xs0 xs1 xs3 h = res) : W p l e rmX6_startsRound s m args below meth c H locs 0 0 (MQ below (QV X res) args s 0 0 (xA X)) (F0 m 159 ls [.int xs0, .int xs1, .ref a, .int xs3, .ref (a + 1)]) := by
  obtain ⟨hx, hb, hr, hlk, hml, hown, hts, hK⟩ := id C0
  obtain ⟨hc15, hs⟩ := hs
  refine kV_i (As := [.int xs1, .int xs0]) (rest := [.int xs3, .ref (a + 1)]) ⟨hx, hb, hml, hown, hts⟩ (kX6_get l X h a xs1 xs0 hO hc15) (wX6_get hts q4_41 ⟨Nat.le_of_ble_eq_true rfl, Nat.le_of_ble_eq_true rfl⟩) hK hW hS (va_recv hK.1 (hW.one hO.1) (ci := 6) (q0 := 0) rfl rfl) rfl hl.1 rfl (Nat.le_of_ble_eq_true rfl) dX6_startsRound_159 ⟨Nat.zero_le _, Nat.zero_le _⟩ (fun H locs hW hS => ?_)
  obtain ⟨hi16, hs⟩ := hs
  refine kb_iast hx hb hK hW hS hO.2.1 (k := xs3.toNatClampNeg) rfl hi16 dX6_startsRound_162 (fun H locs hW hS => ?_)
  refine lv_iinc (v := x1 + 1) (lv' := [(1, .int (x1 + 1)), (0, .ref a)]) hx hb dX6_startsRound_163 hl (k := 1) rfl rfl (by decide) rfl (fun ls hl => ?_)
  refine lv_goto (tgt := 104) hx hb dX6_startsRound_166 (by decide) ?_
  exact hk104 (x1 + 1) (hset h (a + 1) xs3.toNatClampNeg (fX6_get a xs1 xs0 h)) _ _ _ _ (lv_sub hl [1, 0] rfl) hW hS hs hres
def fX6_startsRound_c131 (a : Nat) (k104 : Int32 → HH → HH) (x1 : Int32) (xs0 : Int32) (xs1 : Int32) (xs2 : Int32) (h : HH) : HH := fX6_startsRound_c159 a k104 x1 5 x1 (fX6_at x1 7) (hset (fX6_gets a xs2 xs1 xs0 h) (a + 1) ((fX6_at x1 6).toNatClampNeg) 0)
def sX6_startsRound_c131 (a : Nat) (K104 : Int32 → HH → Prop) (x1 : Int32) (xs0 : Int32) (xs1 : Int32) (xs2 : Int32) (h : HH) : Prop := (sX6_gets a xs2 xs1 xs0 h) ∧ ((vp_in (fX6_at x1 6) 206) ∧ (sX6_startsRound_c159 a K104 x1 5 x1 (fX6_at x1 7) (hset (fX6_gets a xs2 xs1 xs0 h) (a + 1) ((fX6_at x1 6).toNatClampNeg) 0)))
set_option maxRecDepth 100000 in
set_option maxHeartbeats 4000000 in
theorem xX6_startsRound_c131 {p : Program} {l : Launch} {e : Env} {s : State} {m : MethodId} {args : Array Value} {below : List Frame} {meth : Method} {c : Code} {X : Cx} {a : Nat} (hO : IsMo X a) (C0 : CT p s m args meth c X cX6_startsRound 2 none RX6) {k104 : Int32 → HH → HH} {K104 : Int32 → HH → Prop} (hk104 : ∀ (x1 : Int32) (h : HH) (H : Heap) (locs : List Loc) (ls : Array Slot) (res : HH) (hl : lv_has ls 2 [(0, .ref a), (1, .int x1)]) (hW : WH X h H) (hS : va_S (xA X) s.heap H locs) (_ : K104 x1 h) (hres : k104 x1 h = res), W p l e rmX6_startsRound s m args below meth c H locs 0 0 (MQ below (QV X res) args s 0 0 (xA X)) (F0 m 104 ls [])) (x1 : Int32) (xs0 : Int32) (xs1 : Int32) (xs2 : Int32) (h : HH) (H : Heap) (locs : List Loc) (ls : Array Slot) (res : HH) (hl : lv_has ls 2 [(0, .ref a), (1, .int x1)]) (hW : WH X h H) (hS : va_S (xA X) s.heap H locs) (hs : sX6_startsRound_c131 a K104 x1 xs0 xs1 xs2 h) (hres : fX6_startsRound_c131 a k104 x1 xs0 xs1 xs2 h = res) : W p l e rmX6_startsRound s m args below meth c H locs 0 0 (MQ below (QV X res) args s 0 0 (xA X)) (F0 m 131 ls [.int xs0, .int xs1, .int xs2, .ref a]) := by
  obtain ⟨hx, hb, hr, hlk, hml, hown, hts, hK⟩ := id C0
  obtain ⟨hc13, hs⟩ := hs
  refine kV_v (As := [.int xs2, .int xs1, .int xs0]) (rest := []) ⟨hx, hb, hml, hown, hts⟩ (kX6_gets l X h a xs2 xs1 xs0 hO hc13) (wX6_gets hts q4_45 ⟨Nat.le_of_ble_eq_true rfl, Nat.le_of_ble_eq_true rfl⟩) hK hW hS (va_recv hK.1 (hW.one hO.1) (ci := 6) (q0 := 0) rfl rfl) rfl hl.1 rfl (Nat.le_of_ble_eq_true rfl) dX6_startsRound_131 ⟨Nat.zero_le _, Nat.zero_le _⟩ (fun H locs hW hS => ?_)
  refine lv_aload_n hx hb dX6_startsRound_134 rfl (lv_at hl 0 rfl) ?_
  refine g6_0 hx hb hts hown hK hW hO.1 (hts _ q4_49) dX6_startsRound_135 ?_
  refine lv_iload_n hx hb dX6_startsRound_138 rfl (lv_at hl 1 rfl) ?_
  refine lv_bipush (v := 6) hx hb dX6_startsRound_139 (by decide) ?_
  refine kS_i (As := [.int x1, .int 6]) (rest := [.ref (a + 1)]) ⟨hx, hb, hml, hown, hts⟩ (kX6_at l X (fX6_gets a xs2 xs1 xs0 h) x1 6) (wX6_at hts q4_27 ⟨Nat.le_of_ble_eq_true rfl, Nat.le_of_ble_eq_true rfl⟩) hK hW hS rfl hl.1 rfl (Nat.le_of_ble_eq_true rfl) dX6_startsRound_141 ⟨Nat.zero_le _, Nat.zero_le _⟩ (fun H locs hW hS => ?_)
  refine lv_iconst (v := 0) hx hb dX6_startsRound_144 (by decide) ?_
  obtain ⟨hi14, hs⟩ := hs
  refine kb_iast hx hb hK hW hS hO.2.1 (k := (fX6_at x1 6).toNatClampNeg) rfl hi14 dX6_startsRound_145 (fun H locs hW hS => ?_)
  refine lv_aload_n hx hb dX6_startsRound_146 rfl (lv_at hl 0 rfl) ?_
  refine g6_0 hx hb hts hown hK hW hO.1 (hts _ q4_49) dX6_startsRound_147 ?_
  refine lv_iload_n hx hb dX6_startsRound_150 rfl (lv_at hl 1 rfl) ?_
  refine lv_bipush (v := 7) hx hb dX6_startsRound_151 (by decide) ?_
  refine kS_i (As := [.int x1, .int 7]) (rest := [.ref (a + 1)]) ⟨hx, hb, hml, hown, hts⟩ (kX6_at l X (hset (fX6_gets a xs2 xs1 xs0 h) (a + 1) ((fX6_at x1 6).toNatClampNeg) 0) x1 7) (wX6_at hts q4_27 ⟨Nat.le_of_ble_eq_true rfl, Nat.le_of_ble_eq_true rfl⟩) hK hW hS rfl hl.1 rfl (Nat.le_of_ble_eq_true rfl) dX6_startsRound_153 ⟨Nat.zero_le _, Nat.zero_le _⟩ (fun H locs hW hS => ?_)
  refine lv_aload_n hx hb dX6_startsRound_156 rfl (lv_at hl 0 rfl) ?_
  refine lv_iload_n hx hb dX6_startsRound_157 rfl (lv_at hl 1 rfl) ?_
  refine lv_iconst (v := 5) hx hb dX6_startsRound_158 (by decide) ?_
  exact xX6_startsRound_c159 hO C0 hk104 x1 5 x1 (fX6_at x1 7) (hset (fX6_gets a xs2 xs1 xs0 h) (a + 1) ((fX6_at x1 6).toNatClampNeg) 0) _ _ _ _ (lv_sub hl [0, 1] rfl) hW hS hs hres
def fX6_startsRound_c104 (a : Nat) : Nat → Int32 → HH → HH
  | 0, x1, h => h
  | n + 1, x1, h => if (h (a + 1) 0) ≤ x1 then (hset h (a + 1) 3 (h (a + 1) 4)) else (if (bI (fX6_has a x1 5 h)) = 0 then (fX6_startsRound_c131 a (fX6_startsRound_c104 a n) x1 0 4 x1 h) else (fX6_startsRound_c131 a (fX6_startsRound_c104 a n) x1 1 4 x1 h))
def sX6_startsRound_c104 (a : Nat) : Nat → Int32 → HH → Prop
  | 0, _, _ => False
  | n + 1, x1, h => ((h (a + 1) 0) ≤ x1 → True) ∧ (¬ ((h (a + 1) 0) ≤ x1) → ((sX6_has a x1 5 h) ∧ (((bI (fX6_has a x1 5 h)) = 0 → (sX6_startsRound_c131 a (sX6_startsRound_c104 a n) x1 0 4 x1 h)) ∧ (¬ ((bI (fX6_has a x1 5 h)) = 0) → (sX6_startsRound_c131 a (sX6_startsRound_c104 a n) x1 1 4 x1 h)))))
set_option maxRecDepth 100000 in
set_option maxHeartbeats 4000000 in
theorem xX6_startsRound_c104 {p : Program} {l : Launch} {e : Env} {s : State} {m : MethodId} {args : Array Value} {below : List Frame} {meth : Method} {c : Code} {X : Cx} {a : Nat} (hO : IsMo X a) (C0 : CT p s m args meth c X cX6_startsRound 2 none RX6) : ∀ (n : Nat) (x1 : Int32) (h : HH) (H : Heap) (locs : List Loc) (ls : Array Slot) (res : HH) (hl : lv_has ls 2 [(0, .ref a), (1, .int x1)]) (hW : WH X h H) (hS : va_S (xA X) s.heap H locs) (hs : sX6_startsRound_c104 a n x1 h) (hres : fX6_startsRound_c104 a n x1 h = res), W p l e rmX6_startsRound s m args below meth c H locs 0 0 (MQ below (QV X res) args s 0 0 (xA X)) (F0 m 104 ls []) := by
  obtain ⟨hx, hb, hr, hlk, hml, hown, hts, hK⟩ := id C0
  intro n
  induction n with
  | zero =>
    intro _ _ _ _ _ _ _ _ _ hs _
    exact hs.elim
  | succ n ih =>
    intro x1 h H locs ls res hl hW hS hs hres
    refine lv_iload_n hx hb dX6_startsRound_104 rfl (lv_at hl 1 rfl) ?_
    refine lv_aload_n hx hb dX6_startsRound_105 rfl (lv_at hl 0 rfl) ?_
    refine g6_0 hx hb hts hown hK hW hO.1 (hts _ q4_49) dX6_startsRound_106 ?_
    refine lv_iconst (v := 0) hx hb dX6_startsRound_109 (by decide) ?_
    refine kb_iald hx hb hK hW hO.2.1 (k := 0) (by decide) (vpd (by decide)) dX6_startsRound_110 ?_
    refine lv_icmp_ge (tgt := 169) hx hb dX6_startsRound_111 (by decide) (fun c10 => ?_) (fun c10 => ?_)
    · have hres := (if_pos c10).symm.trans hres
      have hs := And.left hs c10
      refine lv_aload_n hx hb dX6_startsRound_169 rfl (lv_at hl 0 rfl) ?_
      refine g6_0 hx hb hts hown hK hW hO.1 (hts _ q4_49) dX6_startsRound_170 ?_
      refine lv_iconst (v := 3) hx hb dX6_startsRound_173 (by decide) ?_
      refine lv_aload_n hx hb dX6_startsRound_174 rfl (lv_at hl 0 rfl) ?_
      refine g6_0 hx hb hts hown hK hW hO.1 (hts _ q4_49) dX6_startsRound_175 ?_
      refine lv_iconst (v := 4) hx hb dX6_startsRound_178 (by decide) ?_
      refine kb_iald hx hb hK hW hO.2.1 (k := 4) (by decide) (vpd (by decide)) dX6_startsRound_179 ?_
      refine kb_iast hx hb hK hW hS hO.2.1 (k := 3) (by decide) (vpd (by decide)) dX6_startsRound_180 (fun H locs hW hS => ?_)
      subst hres
      exact kr_v hx hb hr hlk hK hW hS dX6_startsRound_181
    · have hres := (if_neg c10).symm.trans hres
      have hs := And.right hs c10
      refine lv_aload_n hx hb dX6_startsRound_114 rfl (lv_at hl 0 rfl) ?_
      refine lv_iload_n hx hb dX6_startsRound_115 rfl (lv_at hl 1 rfl) ?_
      refine lv_iconst (v := 4) hx hb dX6_startsRound_116 (by decide) ?_
      refine lv_aload_n hx hb dX6_startsRound_117 rfl (lv_at hl 0 rfl) ?_
      refine lv_iload_n hx hb dX6_startsRound_118 rfl (lv_at hl 1 rfl) ?_
      refine lv_iconst (v := 5) hx hb dX6_startsRound_119 (by decide) ?_
      obtain ⟨hc11, hs⟩ := hs
      refine kV_i (As := [.int x1, .int 5]) (rest := [.int 4, .int x1, .ref a]) ⟨hx, hb, hml, hown, hts⟩ (kX6_has l X h a x1 5 hO hc11) (wX6_has hts q4_37 ⟨Nat.le_of_ble_eq_true rfl, Nat.le_of_ble_eq_true rfl⟩) hK hW hS (va_recv hK.1 (hW.one hO.1) (ci := 6) (q0 := 0) rfl rfl) rfl hl.1 rfl (Nat.le_of_ble_eq_true rfl) dX6_startsRound_120 ⟨Nat.zero_le _, Nat.zero_le _⟩ (fun H locs hW hS => ?_)
      refine lv_if_eq (tgt := 130) hx hb dX6_startsRound_123 (by decide) (fun c12 => ?_) (fun c12 => ?_)
      · have hres := (if_pos c12).symm.trans hres
        have hs := And.left hs c12
        refine lv_iconst (v := 0) hx hb dX6_startsRound_130 (by decide) ?_
        exact xX6_startsRound_c131 hO C0 ih x1 0 4 x1 h _ _ _ _ (lv_sub hl [0, 1] rfl) hW hS hs hres
      · have hres := (if_neg c12).symm.trans hres
        have hs := And.right hs c12
        refine lv_iconst (v := 1) hx hb dX6_startsRound_126 (by decide) ?_
        refine lv_goto (tgt := 131) hx hb dX6_startsRound_127 (by decide) ?_
        exact xX6_startsRound_c131 hO C0 ih x1 1 4 x1 h _ _ _ _ (lv_sub hl [0, 1] rfl) hW hS hs hres
def fX6_startsRound_c68 (a : Nat) : Nat → Int32 → HH → HH
  | 0, x1, h => h
  | n + 1, x1, h => if 12 ≤ x1 then (fX6_startsRound_c104 a 5 0 h) else ((fX6_startsRound_c68 a n) (x1 + 1) (hset (hset h (a + 1) ((fX6_spaceAt x1 1).toNatClampNeg) 0) (a + 1) ((fX6_spaceAt x1 2).toNatClampNeg) (-1)))
def sX6_startsRound_c68 (a : Nat) : Nat → Int32 → HH → Prop
  | 0, _, _ => False
  | n + 1, x1, h => (12 ≤ x1 → (sX6_startsRound_c104 a 5 0 h)) ∧ (¬ (12 ≤ x1) → ((vp_in (fX6_spaceAt x1 1) 206) ∧ ((vp_in (fX6_spaceAt x1 2) 206) ∧ ((sX6_startsRound_c68 a n) (x1 + 1) (hset (hset h (a + 1) ((fX6_spaceAt x1 1).toNatClampNeg) 0) (a + 1) ((fX6_spaceAt x1 2).toNatClampNeg) (-1))))))
set_option maxRecDepth 100000 in
set_option maxHeartbeats 4000000 in
theorem xX6_startsRound_c68 {p : Program} {l : Launch} {e : Env} {s : State} {m : MethodId} {args : Array Value} {below : List Frame} {meth : Method} {c : Code} {X : Cx} {a : Nat} (hO : IsMo X a) (C0 : CT p s m args meth c X cX6_startsRound 2 none RX6) : ∀ (n : Nat) (x1 : Int32) (h : HH) (H : Heap) (locs : List Loc) (ls : Array Slot) (res : HH) (hl : lv_has ls 2 [(0, .ref a), (1, .int x1)]) (hW : WH X h H) (hS : va_S (xA X) s.heap H locs) (hs : sX6_startsRound_c68 a n x1 h) (hres : fX6_startsRound_c68 a n x1 h = res), W p l e rmX6_startsRound s m args below meth c H locs 0 0 (MQ below (QV X res) args s 0 0 (xA X)) (F0 m 68 ls []) := by
  obtain ⟨hx, hb, hr, hlk, hml, hown, hts, hK⟩ := id C0
  intro n
  induction n with
  | zero =>
    intro _ _ _ _ _ _ _ _ _ hs _
    exact hs.elim
  | succ n ih =>
    intro x1 h H locs ls res hl hW hS hs hres
    refine lv_iload_n hx hb dX6_startsRound_68 rfl (lv_at hl 1 rfl) ?_
    refine lv_bipush (v := 12) hx hb dX6_startsRound_69 (by decide) ?_
    refine lv_icmp_ge (tgt := 102) hx hb dX6_startsRound_71 (by decide) (fun c9 => ?_) (fun c9 => ?_)
    · have hres := (if_pos c9).symm.trans hres
      have hs := And.left hs c9
      refine lv_iconst (v := 0) hx hb dX6_startsRound_102 (by decide) ?_
      refine lv_istore_n (lv' := [(1, .int 0), (0, .ref a)]) hx hb dX6_startsRound_103 rfl hl (by decide) rfl (fun ls hl => ?_)
      exact xX6_startsRound_c104 hO C0 5 0 h _ _ _ _ (lv_sub hl [1, 0] rfl) hW hS hs hres
    · have hres := (if_neg c9).symm.trans hres
      have hs := And.right hs c9
      refine lv_aload_n hx hb dX6_startsRound_74 rfl (lv_at hl 0 rfl) ?_
      refine g6_0 hx hb hts hown hK hW hO.1 (hts _ q4_49) dX6_startsRound_75 ?_
      refine lv_iload_n hx hb dX6_startsRound_78 rfl (lv_at hl 1 rfl) ?_
      refine lv_iconst (v := 1) hx hb dX6_startsRound_79 (by decide) ?_
      refine kS_i (As := [.int x1, .int 1]) (rest := [.ref (a + 1)]) ⟨hx, hb, hml, hown, hts⟩ (kX6_spaceAt l X h x1 1) (wX6_spaceAt hts q4_34 ⟨Nat.le_of_ble_eq_true rfl, Nat.le_of_ble_eq_true rfl⟩) hK hW hS rfl hl.1 rfl (Nat.le_of_ble_eq_true rfl) dX6_startsRound_80 ⟨Nat.zero_le _, Nat.zero_le _⟩ (fun H locs hW hS => ?_)
      refine lv_iconst (v := 0) hx hb dX6_startsRound_83 (by decide) ?_
      obtain ⟨hi17, hs⟩ := hs
      refine kb_iast hx hb hK hW hS hO.2.1 (k := (fX6_spaceAt x1 1).toNatClampNeg) rfl hi17 dX6_startsRound_84 (fun H locs hW hS => ?_)
      refine lv_aload_n hx hb dX6_startsRound_85 rfl (lv_at hl 0 rfl) ?_
      refine g6_0 hx hb hts hown hK hW hO.1 (hts _ q4_49) dX6_startsRound_86 ?_
      refine lv_iload_n hx hb dX6_startsRound_89 rfl (lv_at hl 1 rfl) ?_
      refine lv_iconst (v := 2) hx hb dX6_startsRound_90 (by decide) ?_
      refine kS_i (As := [.int x1, .int 2]) (rest := [.ref (a + 1)]) ⟨hx, hb, hml, hown, hts⟩ (kX6_spaceAt l X (hset h (a + 1) ((fX6_spaceAt x1 1).toNatClampNeg) 0) x1 2) (wX6_spaceAt hts q4_34 ⟨Nat.le_of_ble_eq_true rfl, Nat.le_of_ble_eq_true rfl⟩) hK hW hS rfl hl.1 rfl (Nat.le_of_ble_eq_true rfl) dX6_startsRound_91 ⟨Nat.zero_le _, Nat.zero_le _⟩ (fun H locs hW hS => ?_)
      refine lv_iconst (v := (-1)) hx hb dX6_startsRound_94 (by decide) ?_
      obtain ⟨hi18, hs⟩ := hs
      refine kb_iast hx hb hK hW hS hO.2.1 (k := (fX6_spaceAt x1 2).toNatClampNeg) rfl hi18 dX6_startsRound_95 (fun H locs hW hS => ?_)
      refine lv_iinc (v := x1 + 1) (lv' := [(1, .int (x1 + 1)), (0, .ref a)]) hx hb dX6_startsRound_96 hl (k := 1) rfl rfl (by decide) rfl (fun ls hl => ?_)
      refine lv_goto (tgt := 68) hx hb dX6_startsRound_99 (by decide) ?_
      exact ih (x1 + 1) (hset (hset h (a + 1) ((fX6_spaceAt x1 1).toNatClampNeg) 0) (a + 1) ((fX6_spaceAt x1 2).toNatClampNeg) (-1)) _ _ _ _ (lv_sub hl [1, 0] rfl) hW hS hs hres
def fX6_startsRound_c62 (a : Nat) (xs0 : Int32) (xs2 : Int32) (h : HH) : HH := fX6_startsRound_c68 a 13 0 (hset h (a + 1) xs2.toNatClampNeg ((h (a + 1) xs0.toNatClampNeg) + 1))
def sX6_startsRound_c62 (a : Nat) (xs0 : Int32) (xs2 : Int32) (h : HH) : Prop := (vp_in xs0 206) ∧ ((vp_in xs2 206) ∧ (sX6_startsRound_c68 a 13 0 (hset h (a + 1) xs2.toNatClampNeg ((h (a + 1) xs0.toNatClampNeg) + 1))))
set_option maxRecDepth 100000 in
set_option maxHeartbeats 4000000 in
theorem xX6_startsRound_c62 {p : Program} {l : Launch} {e : Env} {s : State} {m : MethodId} {args : Array Value} {below : List Frame} {meth : Method} {c : Code} {X : Cx} {a : Nat} (hO : IsMo X a) (C0 : CT p s m args meth c X cX6_startsRound 2 none RX6) (xs0 : Int32) (xs2 : Int32) (h : HH) (H : Heap) (locs : List Loc) (ls : Array Slot) (res : HH) (hl : lv_has ls 2 [(0, .ref a)]) (hW : WH X h H) (hS : va_S (xA X) s.heap H locs) (hs : sX6_startsRound_c62 a xs0 xs2 h) (hres : fX6_startsRound_c62 a xs0 xs2 h = res) : W p l e rmX6_startsRound s m args below meth c H locs 0 0 (MQ below (QV X res) args s 0 0 (xA X)) (F0 m 62 ls [.int xs0, .ref (a + 1), .int xs2, .ref (a + 1)]) := by
  obtain ⟨hx, hb, hr, hlk, hml, hown, hts, hK⟩ := id C0
  obtain ⟨hi7, hs⟩ := hs
  refine kb_iald hx hb hK hW hO.2.1 (k := xs0.toNatClampNeg) rfl hi7 dX6_startsRound_62 ?_
  refine lv_iconst (v := 1) hx hb dX6_startsRound_63 (by decide) ?_
  refine lv_iadd hx hb dX6_startsRound_64 ?_
  obtain ⟨hi8, hs⟩ := hs
  refine kb_iast hx hb hK hW hS hO.2.1 (k := xs2.toNatClampNeg) rfl hi8 dX6_startsRound_65 (fun H locs hW hS => ?_)
  refine lv_iconst (v := 0) hx hb dX6_startsRound_66 (by decide) ?_
  refine lv_istore_n (lv' := [(1, .int 0), (0, .ref a)]) hx hb dX6_startsRound_67 rfl hl (by decide) rfl (fun ls hl => ?_)
  exact xX6_startsRound_c68 hO C0 13 0 (hset h (a + 1) xs2.toNatClampNeg ((h (a + 1) xs0.toNatClampNeg) + 1)) _ _ _ _ (lv_sub hl [1, 0] rfl) hW hS hs hres
def fX6_startsRound_c48 (a : Nat) (xs0 : Int32) (xs2 : Int32) (h : HH) : HH := fX6_startsRound_c62 a (fX6_spaceAt 5 0) (fX6_spaceAt 5 0) (hset h (a + 1) xs2.toNatClampNeg ((h (a + 1) xs0.toNatClampNeg) + 1))
def sX6_startsRound_c48 (a : Nat) (xs0 : Int32) (xs2 : Int32) (h : HH) : Prop := (vp_in xs0 206) ∧ ((vp_in xs2 206) ∧ (sX6_startsRound_c62 a (fX6_spaceAt 5 0) (fX6_spaceAt 5 0) (hset h (a + 1) xs2.toNatClampNeg ((h (a + 1) xs0.toNatClampNeg) + 1))))
set_option maxRecDepth 100000 in
set_option maxHeartbeats 4000000 in
theorem xX6_startsRound_c48 {p : Program} {l : Launch} {e : Env} {s : State} {m : MethodId} {args : Array Value} {below : List Frame} {meth : Method} {c : Code} {X : Cx} {a : Nat} (hO : IsMo X a) (C0 : CT p s m args meth c X cX6_startsRound 2 none RX6) (xs0 : Int32) (xs2 : Int32) (h : HH) (H : Heap) (locs : List Loc) (ls : Array Slot) (res : HH) (hl : lv_has ls 2 [(0, .ref a)]) (hW : WH X h H) (hS : va_S (xA X) s.heap H locs) (hs : sX6_startsRound_c48 a xs0 xs2 h) (hres : fX6_startsRound_c48 a xs0 xs2 h = res) : W p l e rmX6_startsRound s m args below meth c H locs 0 0 (MQ below (QV X res) args s 0 0 (xA X)) (F0 m 48 ls [.int xs0, .ref (a + 1), .int xs2, .ref (a + 1)]) := by
  obtain ⟨hx, hb, hr, hlk, hml, hown, hts, hK⟩ := id C0
  obtain ⟨hi5, hs⟩ := hs
  refine kb_iald hx hb hK hW hO.2.1 (k := xs0.toNatClampNeg) rfl hi5 dX6_startsRound_48 ?_
  refine lv_iconst (v := 1) hx hb dX6_startsRound_49 (by decide) ?_
  refine lv_iadd hx hb dX6_startsRound_50 ?_
  obtain ⟨hi6, hs⟩ := hs
  refine kb_iast hx hb hK hW hS hO.2.1 (k := xs2.toNatClampNeg) rfl hi6 dX6_startsRound_51 (fun H locs hW hS => ?_)
  refine lv_aload_n hx hb dX6_startsRound_52 rfl (lv_at hl 0 rfl) ?_
  refine g6_0 hx hb hts hown hK hW hO.1 (hts _ q4_49) dX6_startsRound_53 ?_
  refine lv_iconst (v := 5) hx hb dX6_startsRound_56 (by decide) ?_
  refine lv_iconst (v := 0) hx hb dX6_startsRound_57 (by decide) ?_
  refine kS_i (As := [.int 5, .int 0]) (rest := [.ref (a + 1)]) ⟨hx, hb, hml, hown, hts⟩ (kX6_spaceAt l X (hset h (a + 1) xs2.toNatClampNeg ((h (a + 1) xs0.toNatClampNeg) + 1)) 5 0) (wX6_spaceAt hts q4_34 ⟨Nat.le_of_ble_eq_true rfl, Nat.le_of_ble_eq_true rfl⟩) hK hW hS rfl hl.1 rfl (Nat.le_of_ble_eq_true rfl) dX6_startsRound_58 ⟨Nat.zero_le _, Nat.zero_le _⟩ (fun H locs hW hS => ?_)
  refine lv_dup2_11 hx hb dX6_startsRound_61 rfl rfl ?_
  exact xX6_startsRound_c62 hO C0 (fX6_spaceAt 5 0) (fX6_spaceAt 5 0) (hset h (a + 1) xs2.toNatClampNeg ((h (a + 1) xs0.toNatClampNeg) + 1)) _ _ _ _ (lv_sub hl [0] rfl) hW hS hs hres
def fX6_startsRound_c34 (a : Nat) (xs0 : Int32) (xs2 : Int32) (h : HH) : HH := fX6_startsRound_c48 a (fX6_spaceAt 3 0) (fX6_spaceAt 3 0) (hset h (a + 1) xs2.toNatClampNeg ((h (a + 1) xs0.toNatClampNeg) + 2))
def sX6_startsRound_c34 (a : Nat) (xs0 : Int32) (xs2 : Int32) (h : HH) : Prop := (vp_in xs0 206) ∧ ((vp_in xs2 206) ∧ (sX6_startsRound_c48 a (fX6_spaceAt 3 0) (fX6_spaceAt 3 0) (hset h (a + 1) xs2.toNatClampNeg ((h (a + 1) xs0.toNatClampNeg) + 2))))
set_option maxRecDepth 100000 in
set_option maxHeartbeats 4000000 in
theorem xX6_startsRound_c34 {p : Program} {l : Launch} {e : Env} {s : State} {m : MethodId} {args : Array Value} {below : List Frame} {meth : Method} {c : Code} {X : Cx} {a : Nat} (hO : IsMo X a) (C0 : CT p s m args meth c X cX6_startsRound 2 none RX6) (xs0 : Int32) (xs2 : Int32) (h : HH) (H : Heap) (locs : List Loc) (ls : Array Slot) (res : HH) (hl : lv_has ls 2 [(0, .ref a)]) (hW : WH X h H) (hS : va_S (xA X) s.heap H locs) (hs : sX6_startsRound_c34 a xs0 xs2 h) (hres : fX6_startsRound_c34 a xs0 xs2 h = res) : W p l e rmX6_startsRound s m args below meth c H locs 0 0 (MQ below (QV X res) args s 0 0 (xA X)) (F0 m 34 ls [.int xs0, .ref (a + 1), .int xs2, .ref (a + 1)]) := by
  obtain ⟨hx, hb, hr, hlk, hml, hown, hts, hK⟩ := id C0
  obtain ⟨hi3, hs⟩ := hs
  refine kb_iald hx hb hK hW hO.2.1 (k := xs0.toNatClampNeg) rfl hi3 dX6_startsRound_34 ?_
  refine lv_iconst (v := 2) hx hb dX6_startsRound_35 (by decide) ?_
  refine lv_iadd hx hb dX6_startsRound_36 ?_
  obtain ⟨hi4, hs⟩ := hs
  refine kb_iast hx hb hK hW hS hO.2.1 (k := xs2.toNatClampNeg) rfl hi4 dX6_startsRound_37 (fun H locs hW hS => ?_)
  refine lv_aload_n hx hb dX6_startsRound_38 rfl (lv_at hl 0 rfl) ?_
  refine g6_0 hx hb hts hown hK hW hO.1 (hts _ q4_49) dX6_startsRound_39 ?_
  refine lv_iconst (v := 3) hx hb dX6_startsRound_42 (by decide) ?_
  refine lv_iconst (v := 0) hx hb dX6_startsRound_43 (by decide) ?_
  refine kS_i (As := [.int 3, .int 0]) (rest := [.ref (a + 1)]) ⟨hx, hb, hml, hown, hts⟩ (kX6_spaceAt l X (hset h (a + 1) xs2.toNatClampNeg ((h (a + 1) xs0.toNatClampNeg) + 2)) 3 0) (wX6_spaceAt hts q4_34 ⟨Nat.le_of_ble_eq_true rfl, Nat.le_of_ble_eq_true rfl⟩) hK hW hS rfl hl.1 rfl (Nat.le_of_ble_eq_true rfl) dX6_startsRound_44 ⟨Nat.zero_le _, Nat.zero_le _⟩ (fun H locs hW hS => ?_)
  refine lv_dup2_11 hx hb dX6_startsRound_47 rfl rfl ?_
  exact xX6_startsRound_c48 hO C0 (fX6_spaceAt 3 0) (fX6_spaceAt 3 0) (hset h (a + 1) xs2.toNatClampNeg ((h (a + 1) xs0.toNatClampNeg) + 2)) _ _ _ _ (lv_sub hl [0] rfl) hW hS hs hres
def fX6_startsRound_c20 (a : Nat) (xs0 : Int32) (xs2 : Int32) (h : HH) : HH := fX6_startsRound_c34 a (fX6_spaceAt 1 0) (fX6_spaceAt 1 0) (hset h (a + 1) xs2.toNatClampNeg ((h (a + 1) xs0.toNatClampNeg) + 3))
def sX6_startsRound_c20 (a : Nat) (xs0 : Int32) (xs2 : Int32) (h : HH) : Prop := (vp_in xs0 206) ∧ ((vp_in xs2 206) ∧ (sX6_startsRound_c34 a (fX6_spaceAt 1 0) (fX6_spaceAt 1 0) (hset h (a + 1) xs2.toNatClampNeg ((h (a + 1) xs0.toNatClampNeg) + 3))))
set_option maxRecDepth 100000 in
set_option maxHeartbeats 4000000 in
theorem xX6_startsRound_c20 {p : Program} {l : Launch} {e : Env} {s : State} {m : MethodId} {args : Array Value} {below : List Frame} {meth : Method} {c : Code} {X : Cx} {a : Nat} (hO : IsMo X a) (C0 : CT p s m args meth c X cX6_startsRound 2 none RX6) (xs0 : Int32) (xs2 : Int32) (h : HH) (H : Heap) (locs : List Loc) (ls : Array Slot) (res : HH) (hl : lv_has ls 2 [(0, .ref a)]) (hW : WH X h H) (hS : va_S (xA X) s.heap H locs) (hs : sX6_startsRound_c20 a xs0 xs2 h) (hres : fX6_startsRound_c20 a xs0 xs2 h = res) : W p l e rmX6_startsRound s m args below meth c H locs 0 0 (MQ below (QV X res) args s 0 0 (xA X)) (F0 m 20 ls [.int xs0, .ref (a + 1), .int xs2, .ref (a + 1)]) := by
  obtain ⟨hx, hb, hr, hlk, hml, hown, hts, hK⟩ := id C0
  obtain ⟨hi1, hs⟩ := hs
  refine kb_iald hx hb hK hW hO.2.1 (k := xs0.toNatClampNeg) rfl hi1 dX6_startsRound_20 ?_
  refine lv_iconst (v := 3) hx hb dX6_startsRound_21 (by decide) ?_
  refine lv_iadd hx hb dX6_startsRound_22 ?_
  obtain ⟨hi2, hs⟩ := hs
  refine kb_iast hx hb hK hW hS hO.2.1 (k := xs2.toNatClampNeg) rfl hi2 dX6_startsRound_23 (fun H locs hW hS => ?_)
  refine lv_aload_n hx hb dX6_startsRound_24 rfl (lv_at hl 0 rfl) ?_
  refine g6_0 hx hb hts hown hK hW hO.1 (hts _ q4_49) dX6_startsRound_25 ?_
  refine lv_iconst (v := 1) hx hb dX6_startsRound_28 (by decide) ?_
  refine lv_iconst (v := 0) hx hb dX6_startsRound_29 (by decide) ?_
  refine kS_i (As := [.int 1, .int 0]) (rest := [.ref (a + 1)]) ⟨hx, hb, hml, hown, hts⟩ (kX6_spaceAt l X (hset h (a + 1) xs2.toNatClampNeg ((h (a + 1) xs0.toNatClampNeg) + 3)) 1 0) (wX6_spaceAt hts q4_34 ⟨Nat.le_of_ble_eq_true rfl, Nat.le_of_ble_eq_true rfl⟩) hK hW hS rfl hl.1 rfl (Nat.le_of_ble_eq_true rfl) dX6_startsRound_30 ⟨Nat.zero_le _, Nat.zero_le _⟩ (fun H locs hW hS => ?_)
  refine lv_dup2_11 hx hb dX6_startsRound_33 rfl rfl ?_
  exact xX6_startsRound_c34 hO C0 (fX6_spaceAt 1 0) (fX6_spaceAt 1 0) (hset h (a + 1) xs2.toNatClampNeg ((h (a + 1) xs0.toNatClampNeg) + 3)) _ _ _ _ (lv_sub hl [0] rfl) hW hS hs hres
def fX6_startsRound_c0 (a : Nat) (h : HH) : HH := fX6_startsRound_c20 a (fX6_spaceAt 0 0) (fX6_spaceAt 0 0) (hset h (a + 1) 2 ((h (a + 1) 2) + 1))
def sX6_startsRound_c0 (a : Nat) (h : HH) : Prop := sX6_startsRound_c20 a (fX6_spaceAt 0 0) (fX6_spaceAt 0 0) (hset h (a + 1) 2 ((h (a + 1) 2) + 1))
set_option maxRecDepth 100000 in
set_option maxHeartbeats 4000000 in
theorem xX6_startsRound_c0 {p : Program} {l : Launch} {e : Env} {s : State} {m : MethodId} {args : Array Value} {below : List Frame} {meth : Method} {c : Code} {X : Cx} {a : Nat} (hO : IsMo X a) (C0 : CT p s m args meth c X cX6_startsRound 2 none RX6) (h : HH) (H : Heap) (locs : List Loc) (ls : Array Slot) (res : HH) (hl : lv_has ls 2 [(0, .ref a)]) (hW : WH X h H) (hS : va_S (xA X) s.heap H locs) (hs : sX6_startsRound_c0 a h) (hres : fX6_startsRound_c0 a h = res) : W p l e rmX6_startsRound s m args below meth c H locs 0 0 (MQ below (QV X res) args s 0 0 (xA X)) (F0 m 0 ls []) := by
  obtain ⟨hx, hb, hr, hlk, hml, hown, hts, hK⟩ := id C0
  refine lv_aload_n hx hb dX6_startsRound_0 rfl (lv_at hl 0 rfl) ?_
  refine g6_0 hx hb hts hown hK hW hO.1 (hts _ q4_49) dX6_startsRound_1 ?_
  refine lv_iconst (v := 2) hx hb dX6_startsRound_4 (by decide) ?_
  refine lv_dup2_11 hx hb dX6_startsRound_5 rfl rfl ?_
  refine kb_iald hx hb hK hW hO.2.1 (k := 2) (by decide) (vpd (by decide)) dX6_startsRound_6 ?_
  refine lv_iconst (v := 1) hx hb dX6_startsRound_7 (by decide) ?_
  refine lv_iadd hx hb dX6_startsRound_8 ?_
  refine kb_iast hx hb hK hW hS hO.2.1 (k := 2) (by decide) (vpd (by decide)) dX6_startsRound_9 (fun H locs hW hS => ?_)
  refine lv_aload_n hx hb dX6_startsRound_10 rfl (lv_at hl 0 rfl) ?_
  refine g6_0 hx hb hts hown hK hW hO.1 (hts _ q4_49) dX6_startsRound_11 ?_
  refine lv_iconst (v := 0) hx hb dX6_startsRound_14 (by decide) ?_
  refine lv_iconst (v := 0) hx hb dX6_startsRound_15 (by decide) ?_
  refine kS_i (As := [.int 0, .int 0]) (rest := [.ref (a + 1)]) ⟨hx, hb, hml, hown, hts⟩ (kX6_spaceAt l X (hset h (a + 1) 2 ((h (a + 1) 2) + 1)) 0 0) (wX6_spaceAt hts q4_34 ⟨Nat.le_of_ble_eq_true rfl, Nat.le_of_ble_eq_true rfl⟩) hK hW hS rfl hl.1 rfl (Nat.le_of_ble_eq_true rfl) dX6_startsRound_16 ⟨Nat.zero_le _, Nat.zero_le _⟩ (fun H locs hW hS => ?_)
  refine lv_dup2_11 hx hb dX6_startsRound_19 rfl rfl ?_
  exact xX6_startsRound_c20 hO C0 (fX6_spaceAt 0 0) (fX6_spaceAt 0 0) (hset h (a + 1) 2 ((h (a + 1) 2) + 1)) _ _ _ _ (lv_sub hl [0] rfl) hW hS hs hres
def fX6_startsRound (a : Nat) (h : HH) : HH := fX6_startsRound_c0 a h
def sX6_startsRound (a : Nat) (h : HH) : Prop := sX6_startsRound_c0 a h
set_option maxRecDepth 100000 in
set_option maxHeartbeats 4000000 in
theorem kX6_startsRound (l : Launch) (X : Cx) (h : HH) (a : Nat) (hO : IsMo X a) (hs : sX6_startsRound a h) : Met l yX6_startsRound vX6_startsRound rmX6_startsRound (va_Pc [.ref a] (fun U => WS X h U)) (QV X (fX6_startsRound a h)) 0 0 (xA X) := by
  refine Met.ofW (cc := cX6_startsRound) (maxL := 2) (ret := none) (by decide) rfl ?_
  intro p e s m args below meth c s₁ B hml hv
  obtain ⟨rfl, hW, hK⟩ := hv
  have hl := lv_entry ([.ref a]) (n := 2) (Nat.le_of_ble_eq_true rfl)
  rw [lg_entry_eq]
  generalize (lg_sl ([.ref a]) ++ List.replicate (2 - (lg_sl ([.ref a])).length) Slot.unset).toArray = ls at hl ⊢
  have hl : lv_has ls 2 [(0, .ref a)] := hl
  exact xX6_startsRound_c0 hO ⟨B.exec, B.bytes, B.returns, B.notSynchronized, hml, findClass_of_methodNamed B.named, fun w hw => atoms_spec (ws := vX6_startsRound) B.pre w (List.mem_cons_of_mem _ hw), hK⟩ h _ _ ls _ (lv_sub hl [0] rfl) hW va_S.rf hs rfl
-- VillageBoardModel.begins(II)V
abbrev rmX6_begins : Room := ({ frames := 4, cells := 0, slots := 0, locals := 86 } : Room)
abbrev vX6_begins : List Cond := Cond.code yX6_begins cX6_begins 4 none :: lwG
theorem wX6_begins {R : Room} {s : State} {args : Array Value} {own : String} {idx : Nat} (hg : ∀ w ∈ lwG, w.before args s = true) (hl : Cond.methodLink own idx yX6_begins ∈ lwG) (hR : rmX6_begins.frames + 1 ≤ R.frames ∧ 8 + (4 + 11) + rmX6_begins.locals ≤ R.locals) : CallW R s args own RX6 idx yX6_begins cX6_begins 4 none vX6_begins rmX6_begins 0 0 2 := cwV 2 hg (gV hl q4_25 q0_17 q1_7 q4_26) rfl rfl rfl (by decide +kernel) hR
def fX6_begins_c61 (a : Nat) (k38 : Int32 → Int32 → HH → HH) (x1 : Int32) (x3 : Int32) (xs0 : Int32) (xs1 : Int32) (h : HH) : HH := k38 x1 (x3 + 1) (hset (hset (hset h (a + 1) xs1.toNatClampNeg xs0) (a + 1) ((fX6_at x3 5).toNatClampNeg) 2) (a + 1) ((fX6_at x3 8).toNatClampNeg) 2)
def sX6_begins_c61 (a : Nat) (K38 : Int32 → Int32 → HH → Prop) (x1 : Int32) (x3 : Int32) (xs0 : Int32) (xs1 : Int32) (h : HH) : Prop := (vp_in xs1 206) ∧ ((vp_in (fX6_at x3 5) 206) ∧ ((vp_in (fX6_at x3 8) 206) ∧ (K38 x1 (x3 + 1) (hset (hset (hset h (a + 1) xs1.toNatClampNeg xs0) (a + 1) ((fX6_at x3 5).toNatClampNeg) 2) (a + 1) ((fX6_at x3 8).toNatClampNeg) 2))))
set_option maxRecDepth 100000 in
set_option maxHeartbeats 4000000 in
theorem xX6_begins_c61 {p : Program} {l : Launch} {e : Env} {s : State} {m : MethodId} {args : Array Value} {below : List Frame} {meth : Method} {c : Code} {X : Cx} {a : Nat} (hO : IsMo X a) (C0 : CT p s m args meth c X cX6_begins 4 none RX6) {k38 : Int32 → Int32 → HH → HH} {K38 : Int32 → Int32 → HH → Prop} (hk38 : ∀ (x1 : Int32) (x3 : Int32) (h : HH) (H : Heap) (locs : List Loc) (ls : Array Slot) (res : HH) (hl : lv_has ls 4 [(0, .ref a), (1, .int x1), (3, .int x3)]) (hW : WH X h H) (hS : va_S (xA X) s.heap H locs) (_ : K38 x1 x3 h) (hres : k38 x1 x3 h = res), W p l e rmX6_begins s m args below meth c H locs 0 0 (MQ below (QV X res) args s 0 0 (xA X)) (F0 m 38 ls [])) (x1 : Int32) (x3 : Int32) (xs0 : Int32) (xs1 : Int32) (h : HH) (H : Heap) (locs : List Loc) (ls : Array Slot) (res : HH) (hl : lv_has ls 4 [(0, .ref a), (1, .int x1), (3, .int x3)]) (hW : WH X h H) (hS : va_S (xA X) s.heap H locs) (hs : sX6_begins_c61 a K38 x1 x3 xs0 xs1 h) (hres : fX6_begins_c61 a k38 x1 x3 xs0 xs1 h = res) : W p l e rmX6_begins s m args below meth c H locs 0 0 (MQ below (QV X res) args s 0 0 (xA X)) (F0 m 61 ls [.int xs0, .int xs1, .ref (a + 1)]) := by
  obtain ⟨hx, hb, hr, hlk, hml, hown, hts, hK⟩ := id C0
  obtain ⟨hi5, hs⟩ := hs
  refine kb_iast hx hb hK hW hS hO.2.1 (k := xs1.toNatClampNeg) rfl hi5 dX6_begins_61 (fun H locs hW hS => ?_)
  refine lv_aload_n hx hb dX6_begins_62 rfl (lv_at hl 0 rfl) ?_
  refine g6_0 hx hb hts hown hK hW hO.1 (hts _ q4_49) dX6_begins_63 ?_
  refine lv_iload_n hx hb dX6_begins_66 rfl (lv_at hl 2 rfl) ?_
  refine lv_iconst (v := 5) hx hb dX6_begins_67 (by decide) ?_
  refine kS_i (As := [.int x3, .int 5]) (rest := [.ref (a + 1)]) ⟨hx, hb, hml, hown, hts⟩ (kX6_at l X (hset h (a + 1) xs1.toNatClampNeg xs0) x3 5) (wX6_at hts q4_27 ⟨Nat.le_of_ble_eq_true rfl, Nat.le_of_ble_eq_true rfl⟩) hK hW hS rfl hl.1 rfl (Nat.le_of_ble_eq_true rfl) dX6_begins_68 ⟨Nat.zero_le _, Nat.zero_le _⟩ (fun H locs hW hS => ?_)
  refine lv_iconst (v := 2) hx hb dX6_begins_71 (by decide) ?_
  obtain ⟨hi6, hs⟩ := hs
  refine kb_iast hx hb hK hW hS hO.2.1 (k := (fX6_at x3 5).toNatClampNeg) rfl hi6 dX6_begins_72 (fun H locs hW hS => ?_)
  refine lv_aload_n hx hb dX6_begins_73 rfl (lv_at hl 0 rfl) ?_
  refine g6_0 hx hb hts hown hK hW hO.1 (hts _ q4_49) dX6_begins_74 ?_
  refine lv_iload_n hx hb dX6_begins_77 rfl (lv_at hl 2 rfl) ?_
  refine lv_bipush (v := 8) hx hb dX6_begins_78 (by decide) ?_
  refine kS_i (As := [.int x3, .int 8]) (rest := [.ref (a + 1)]) ⟨hx, hb, hml, hown, hts⟩ (kX6_at l X (hset (hset h (a + 1) xs1.toNatClampNeg xs0) (a + 1) ((fX6_at x3 5).toNatClampNeg) 2) x3 8) (wX6_at hts q4_27 ⟨Nat.le_of_ble_eq_true rfl, Nat.le_of_ble_eq_true rfl⟩) hK hW hS rfl hl.1 rfl (Nat.le_of_ble_eq_true rfl) dX6_begins_80 ⟨Nat.zero_le _, Nat.zero_le _⟩ (fun H locs hW hS => ?_)
  refine lv_iconst (v := 2) hx hb dX6_begins_83 (by decide) ?_
  obtain ⟨hi7, hs⟩ := hs
  refine kb_iast hx hb hK hW hS hO.2.1 (k := (fX6_at x3 8).toNatClampNeg) rfl hi7 dX6_begins_84 (fun H locs hW hS => ?_)
  refine lv_iinc (v := x3 + 1) (lv' := [(3, .int (x3 + 1)), (0, .ref a), (1, .int x1)]) hx hb dX6_begins_85 hl (k := 2) rfl rfl (by decide) rfl (fun ls hl => ?_)
  refine lv_goto (tgt := 38) hx hb dX6_begins_88 (by decide) ?_
  exact hk38 x1 (x3 + 1) (hset (hset (hset h (a + 1) xs1.toNatClampNeg xs0) (a + 1) ((fX6_at x3 5).toNatClampNeg) 2) (a + 1) ((fX6_at x3 8).toNatClampNeg) 2) _ _ _ _ (lv_sub hl [1, 2, 0] rfl) hW hS hs hres
def fX6_begins_c38 (a : Nat) : Nat → Int32 → Int32 → HH → HH
  | 0, x1, x3, h => h
  | n + 1, x1, x3, h => if x1 ≤ x3 then (fX6_startsRound a h) else (if x3 = 0 then (fX6_begins_c61 a (fX6_begins_c38 a n) x1 x3 2 (fX6_at x3 4) h) else (fX6_begins_c61 a (fX6_begins_c38 a n) x1 x3 3 (fX6_at x3 4) h))
def sX6_begins_c38 (a : Nat) : Nat → Int32 → Int32 → HH → Prop
  | 0, _, _, _ => False
  | n + 1, x1, x3, h => (x1 ≤ x3 → (sX6_startsRound a h)) ∧ (¬ (x1 ≤ x3) → ((x3 = 0 → (sX6_begins_c61 a (sX6_begins_c38 a n) x1 x3 2 (fX6_at x3 4) h)) ∧ (¬ (x3 = 0) → (sX6_begins_c61 a (sX6_begins_c38 a n) x1 x3 3 (fX6_at x3 4) h))))
set_option maxRecDepth 100000 in
set_option maxHeartbeats 4000000 in
theorem xX6_begins_c38 {p : Program} {l : Launch} {e : Env} {s : State} {m : MethodId} {args : Array Value} {below : List Frame} {meth : Method} {c : Code} {X : Cx} {a : Nat} (hO : IsMo X a) (C0 : CT p s m args meth c X cX6_begins 4 none RX6) : ∀ (n : Nat) (x1 : Int32) (x3 : Int32) (h : HH) (H : Heap) (locs : List Loc) (ls : Array Slot) (res : HH) (hl : lv_has ls 4 [(0, .ref a), (1, .int x1), (3, .int x3)]) (hW : WH X h H) (hS : va_S (xA X) s.heap H locs) (hs : sX6_begins_c38 a n x1 x3 h) (hres : fX6_begins_c38 a n x1 x3 h = res), W p l e rmX6_begins s m args below meth c H locs 0 0 (MQ below (QV X res) args s 0 0 (xA X)) (F0 m 38 ls []) := by
  obtain ⟨hx, hb, hr, hlk, hml, hown, hts, hK⟩ := id C0
  intro n
  induction n with
  | zero =>
    intro _ _ _ _ _ _ _ _ _ _ hs _
    exact hs.elim
  | succ n ih =>
    intro x1 x3 h H locs ls res hl hW hS hs hres
    refine lv_iload_n hx hb dX6_begins_38 rfl (lv_at hl 2 rfl) ?_
    refine lv_iload_n hx hb dX6_begins_39 rfl (lv_at hl 1 rfl) ?_
    refine lv_icmp_ge (tgt := 91) hx hb dX6_begins_40 (by decide) (fun c2 => ?_) (fun c2 => ?_)
    · have hres := (if_pos c2).symm.trans hres
      have hs := And.left hs c2
      refine lv_aload_n hx hb dX6_begins_91 rfl (lv_at hl 0 rfl) ?_
      have hc3 := hs
      refine kV_v (As := []) (rest := []) ⟨hx, hb, hml, hown, hts⟩ (kX6_startsRound l X h a hO hc3) (wX6_startsRound hts q4_30 ⟨Nat.le_of_ble_eq_true rfl, Nat.le_of_ble_eq_true rfl⟩) hK hW hS (va_recv hK.1 (hW.one hO.1) (ci := 6) (q0 := 0) rfl rfl) rfl hl.1 rfl (Nat.le_of_ble_eq_true rfl) dX6_begins_92 ⟨Nat.zero_le _, Nat.zero_le _⟩ (fun H locs hW hS => ?_)
      subst hres
      exact kr_v hx hb hr hlk hK hW hS dX6_begins_95
    · have hres := (if_neg c2).symm.trans hres
      have hs := And.right hs c2
      refine lv_aload_n hx hb dX6_begins_43 rfl (lv_at hl 0 rfl) ?_
      refine g6_0 hx hb hts hown hK hW hO.1 (hts _ q4_49) dX6_begins_44 ?_
      refine lv_iload_n hx hb dX6_begins_47 rfl (lv_at hl 2 rfl) ?_
      refine lv_iconst (v := 4) hx hb dX6_begins_48 (by decide) ?_
      refine kS_i (As := [.int x3, .int 4]) (rest := [.ref (a + 1)]) ⟨hx, hb, hml, hown, hts⟩ (kX6_at l X h x3 4) (wX6_at hts q4_27 ⟨Nat.le_of_ble_eq_true rfl, Nat.le_of_ble_eq_true rfl⟩) hK hW hS rfl hl.1 rfl (Nat.le_of_ble_eq_true rfl) dX6_begins_49 ⟨Nat.zero_le _, Nat.zero_le _⟩ (fun H locs hW hS => ?_)
      refine lv_iload_n hx hb dX6_begins_52 rfl (lv_at hl 2 rfl) ?_
      refine lv_if_ne (tgt := 60) hx hb dX6_begins_53 (by decide) (fun c4 => ?_) (fun c4 => ?_)
      · have hres := (if_neg c4).symm.trans hres
        have hs := And.right hs c4
        refine lv_iconst (v := 3) hx hb dX6_begins_60 (by decide) ?_
        exact xX6_begins_c61 hO C0 ih x1 x3 3 (fX6_at x3 4) h _ _ _ _ (lv_sub hl [0, 1, 2] rfl) hW hS hs hres
      · have hres := (if_pos c4).symm.trans hres
        have hs := And.left hs c4
        refine lv_iconst (v := 2) hx hb dX6_begins_56 (by decide) ?_
        refine lv_goto (tgt := 61) hx hb dX6_begins_57 (by decide) ?_
        exact xX6_begins_c61 hO C0 ih x1 x3 2 (fX6_at x3 4) h _ _ _ _ (lv_sub hl [0, 1, 2] rfl) hW hS hs hres
def fX6_begins_c2 (a : Nat) : Nat → Int32 → Int32 → Int32 → HH → HH
  | 0, x1, x2, x3, h => h
  | n + 1, x1, x2, x3, h => if 206 ≤ x3 then (fX6_begins_c38 a 5 x1 0 (hset (hset h (a + 1) 0 x1) (a + 1) 1 x2)) else ((fX6_begins_c2 a n) x1 x2 (x3 + 1) (hset h (a + 1) x3.toNatClampNeg 0))
def sX6_begins_c2 (a : Nat) : Nat → Int32 → Int32 → Int32 → HH → Prop
  | 0, _, _, _, _ => False
  | n + 1, x1, x2, x3, h => (206 ≤ x3 → (sX6_begins_c38 a 5 x1 0 (hset (hset h (a + 1) 0 x1) (a + 1) 1 x2))) ∧ (¬ (206 ≤ x3) → ((vp_in x3 206) ∧ ((sX6_begins_c2 a n) x1 x2 (x3 + 1) (hset h (a + 1) x3.toNatClampNeg 0))))
set_option maxRecDepth 100000 in
set_option maxHeartbeats 4000000 in
theorem xX6_begins_c2 {p : Program} {l : Launch} {e : Env} {s : State} {m : MethodId} {args : Array Value} {below : List Frame} {meth : Method} {c : Code} {X : Cx} {a : Nat} (hO : IsMo X a) (C0 : CT p s m args meth c X cX6_begins 4 none RX6) : ∀ (n : Nat) (x1 : Int32) (x2 : Int32) (x3 : Int32) (h : HH) (H : Heap) (locs : List Loc) (ls : Array Slot) (res : HH) (hl : lv_has ls 4 [(0, .ref a), (1, .int x1), (2, .int x2), (3, .int x3)]) (hW : WH X h H) (hS : va_S (xA X) s.heap H locs) (hs : sX6_begins_c2 a n x1 x2 x3 h) (hres : fX6_begins_c2 a n x1 x2 x3 h = res), W p l e rmX6_begins s m args below meth c H locs 0 0 (MQ below (QV X res) args s 0 0 (xA X)) (F0 m 2 ls []) := by
  obtain ⟨hx, hb, hr, hlk, hml, hown, hts, hK⟩ := id C0
  intro n
  induction n with
  | zero =>
    intro _ _ _ _ _ _ _ _ _ _ _ hs _
    exact hs.elim
  | succ n ih =>
    intro x1 x2 x3 h H locs ls res hl hW hS hs hres
    refine lv_iload_n hx hb dX6_begins_2 rfl (lv_at hl 3 rfl) ?_
    refine lv_sipush (v := 206) hx hb dX6_begins_3 (by decide) ?_
    refine lv_icmp_ge (tgt := 22) hx hb dX6_begins_6 (by decide) (fun c1 => ?_) (fun c1 => ?_)
    · have hres := (if_pos c1).symm.trans hres
      have hs := And.left hs c1
      refine lv_aload_n hx hb dX6_begins_22 rfl (lv_at hl 0 rfl) ?_
      refine g6_0 hx hb hts hown hK hW hO.1 (hts _ q4_49) dX6_begins_23 ?_
      refine lv_iconst (v := 0) hx hb dX6_begins_26 (by decide) ?_
      refine lv_iload_n hx hb dX6_begins_27 rfl (lv_at hl 1 rfl) ?_
      refine kb_iast hx hb hK hW hS hO.2.1 (k := 0) (by decide) (vpd (by decide)) dX6_begins_28 (fun H locs hW hS => ?_)
      refine lv_aload_n hx hb dX6_begins_29 rfl (lv_at hl 0 rfl) ?_
      refine g6_0 hx hb hts hown hK hW hO.1 (hts _ q4_49) dX6_begins_30 ?_
      refine lv_iconst (v := 1) hx hb dX6_begins_33 (by decide) ?_
      refine lv_iload_n hx hb dX6_begins_34 rfl (lv_at hl 2 rfl) ?_
      refine kb_iast hx hb hK hW hS hO.2.1 (k := 1) (by decide) (vpd (by decide)) dX6_begins_35 (fun H locs hW hS => ?_)
      refine lv_iconst (v := 0) hx hb dX6_begins_36 (by decide) ?_
      refine lv_istore_n (lv' := [(3, .int 0), (0, .ref a), (1, .int x1), (2, .int x2)]) hx hb dX6_begins_37 rfl hl (by decide) rfl (fun ls hl => ?_)
      exact xX6_begins_c38 hO C0 5 x1 0 (hset (hset h (a + 1) 0 x1) (a + 1) 1 x2) _ _ _ _ (lv_sub hl [1, 2, 0] rfl) hW hS hs hres
    · have hres := (if_neg c1).symm.trans hres
      have hs := And.right hs c1
      refine lv_aload_n hx hb dX6_begins_9 rfl (lv_at hl 0 rfl) ?_
      refine g6_0 hx hb hts hown hK hW hO.1 (hts _ q4_49) dX6_begins_10 ?_
      refine lv_iload_n hx hb dX6_begins_13 rfl (lv_at hl 3 rfl) ?_
      refine lv_iconst (v := 0) hx hb dX6_begins_14 (by decide) ?_
      obtain ⟨hi8, hs⟩ := hs
      refine kb_iast hx hb hK hW hS hO.2.1 (k := x3.toNatClampNeg) rfl hi8 dX6_begins_15 (fun H locs hW hS => ?_)
      refine lv_iinc (v := x3 + 1) (lv' := [(3, .int (x3 + 1)), (0, .ref a), (1, .int x1), (2, .int x2)]) hx hb dX6_begins_16 hl (k := 3) rfl rfl (by decide) rfl (fun ls hl => ?_)
      refine lv_goto (tgt := 2) hx hb dX6_begins_19 (by decide) ?_
      exact ih x1 x2 (x3 + 1) (hset h (a + 1) x3.toNatClampNeg 0) _ _ _ _ (lv_sub hl [1, 2, 3, 0] rfl) hW hS hs hres
def fX6_begins_c0 (a : Nat) (x1 : Int32) (x2 : Int32) (h : HH) : HH := fX6_begins_c2 a 207 x1 x2 0 h
def sX6_begins_c0 (a : Nat) (x1 : Int32) (x2 : Int32) (h : HH) : Prop := sX6_begins_c2 a 207 x1 x2 0 h
set_option maxRecDepth 100000 in
set_option maxHeartbeats 4000000 in
theorem xX6_begins_c0 {p : Program} {l : Launch} {e : Env} {s : State} {m : MethodId} {args : Array Value} {below : List Frame} {meth : Method} {c : Code} {X : Cx} {a : Nat} (hO : IsMo X a) (C0 : CT p s m args meth c X cX6_begins 4 none RX6) (x1 : Int32) (x2 : Int32) (h : HH) (H : Heap) (locs : List Loc) (ls : Array Slot) (res : HH) (hl : lv_has ls 4 [(0, .ref a), (1, .int x1), (2, .int x2)]) (hW : WH X h H) (hS : va_S (xA X) s.heap H locs) (hs : sX6_begins_c0 a x1 x2 h) (hres : fX6_begins_c0 a x1 x2 h = res) : W p l e rmX6_begins s m args below meth c H locs 0 0 (MQ below (QV X res) args s 0 0 (xA X)) (F0 m 0 ls []) := by
  obtain ⟨hx, hb, hr, hlk, hml, hown, hts, hK⟩ := id C0
  refine lv_iconst (v := 0) hx hb dX6_begins_0 (by decide) ?_
  refine lv_istore_n (lv' := [(3, .int 0), (0, .ref a), (1, .int x1), (2, .int x2)]) hx hb dX6_begins_1 rfl hl (by decide) rfl (fun ls hl => ?_)
  exact xX6_begins_c2 hO C0 207 x1 x2 0 h _ _ _ _ (lv_sub hl [1, 2, 3, 0] rfl) hW hS hs hres
def fX6_begins (a : Nat) (x1 : Int32) (x2 : Int32) (h : HH) : HH := fX6_begins_c0 a x1 x2 h
def sX6_begins (a : Nat) (x1 : Int32) (x2 : Int32) (h : HH) : Prop := sX6_begins_c0 a x1 x2 h
set_option maxRecDepth 100000 in
set_option maxHeartbeats 4000000 in
theorem kX6_begins (l : Launch) (X : Cx) (h : HH) (a : Nat) (x1 : Int32) (x2 : Int32) (hO : IsMo X a) (hs : sX6_begins a x1 x2 h) : Met l yX6_begins vX6_begins rmX6_begins (va_Pc [.ref a, .int x1, .int x2] (fun U => WS X h U)) (QV X (fX6_begins a x1 x2 h)) 0 0 (xA X) := by
  refine Met.ofW (cc := cX6_begins) (maxL := 4) (ret := none) (by decide) rfl ?_
  intro p e s m args below meth c s₁ B hml hv
  obtain ⟨rfl, hW, hK⟩ := hv
  have hl := lv_entry ([.ref a, .int x1, .int x2]) (n := 4) (Nat.le_of_ble_eq_true rfl)
  rw [lg_entry_eq]
  generalize (lg_sl ([.ref a, .int x1, .int x2]) ++ List.replicate (4 - (lg_sl ([.ref a, .int x1, .int x2])).length) Slot.unset).toArray = ls at hl ⊢
  have hl : lv_has ls 4 [(0, .ref a), (1, .int x1), (2, .int x2)] := hl
  exact xX6_begins_c0 hO ⟨B.exec, B.bytes, B.returns, B.notSynchronized, hml, findClass_of_methodNamed B.named, fun w hw => atoms_spec (ws := vX6_begins) B.pre w (List.mem_cons_of_mem _ hw), hK⟩ x1 x2 h _ _ ls _ (lv_sub hl [0, 1, 2] rfl) hW va_S.rf hs rfl
-- VillageBoardModel.needOf(I)I
abbrev rmX6_needOf : Room := ({ frames := 2, cells := 0, slots := 0, locals := 43 } : Room)
abbrev vX6_needOf : List Cond := Cond.code yX6_needOf cX6_needOf 2 (some .int) :: lwG
theorem wX6_needOf {R : Room} {s : State} {args : Array Value} {own : String} {idx : Nat} (hg : ∀ w ∈ lwG, w.before args s = true) (hl : Cond.methodLink own idx yX6_needOf ∈ lwG) (hR : rmX6_needOf.frames + 1 ≤ R.frames ∧ 8 + (2 + 11) + rmX6_needOf.locals ≤ R.locals) : CallW R s args own RX6 idx yX6_needOf cX6_needOf 2 (some .int) vX6_needOf rmX6_needOf 0 0 1 := cwV 1 hg (gV hl q4_192 q0_40 q1_7 q4_193) rfl rfl rfl (by decide +kernel) hR
def fX6_needOf_c0 (a : Nat) (x1 : Int32) (h : HH) : Int32 := (2 * (fX6_get a x1 5 h)) - (fX6_get a x1 6 h)
def sX6_needOf_c0 (a : Nat) (x1 : Int32) (h : HH) : Prop := (sX6_get a x1 5 h) ∧ (sX6_get a x1 6 h)
set_option maxRecDepth 100000 in
set_option maxHeartbeats 4000000 in
theorem xX6_needOf_c0 {p : Program} {l : Launch} {e : Env} {s : State} {m : MethodId} {args : Array Value} {below : List Frame} {meth : Method} {c : Code} {X : Cx} {a : Nat} (hO : IsMo X a) (C0 : CT p s m args meth c X cX6_needOf 2 (some .int) RX6) (x1 : Int32) (h : HH) (H : Heap) (locs : List Loc) (ls : Array Slot) (res : Int32) (hl : lv_has ls 2 [(0, .ref a), (1, .int x1)]) (hW : WH X h H) (hS : va_S (xA X) s.heap H locs) (hs : sX6_needOf_c0 a x1 h) (hres : fX6_needOf_c0 a x1 h = res) : W p l e rmX6_needOf s m args below meth c H locs 0 0 (MQ below (QI X res h) args s 0 0 (xA X)) (F0 m 0 ls []) := by
  obtain ⟨hx, hb, hr, hlk, hml, hown, hts, hK⟩ := id C0
  refine lv_iconst (v := 2) hx hb dX6_needOf_0 (by decide) ?_
  refine lv_aload_n hx hb dX6_needOf_1 rfl (lv_at hl 0 rfl) ?_
  refine lv_iload_n hx hb dX6_needOf_2 rfl (lv_at hl 1 rfl) ?_
  refine lv_iconst (v := 5) hx hb dX6_needOf_3 (by decide) ?_
  obtain ⟨hc1, hs⟩ := hs
  refine kV_i (As := [.int x1, .int 5]) (rest := [.int 2]) ⟨hx, hb, hml, hown, hts⟩ (kX6_get l X h a x1 5 hO hc1) (wX6_get hts q4_41 ⟨Nat.le_of_ble_eq_true rfl, Nat.le_of_ble_eq_true rfl⟩) hK hW hS (va_recv hK.1 (hW.one hO.1) (ci := 6) (q0 := 0) rfl rfl) rfl hl.1 rfl (Nat.le_of_ble_eq_true rfl) dX6_needOf_4 ⟨Nat.zero_le _, Nat.zero_le _⟩ (fun H locs hW hS => ?_)
  refine lv_imul hx hb dX6_needOf_7 ?_
  refine lv_aload_n hx hb dX6_needOf_8 rfl (lv_at hl 0 rfl) ?_
  refine lv_iload_n hx hb dX6_needOf_9 rfl (lv_at hl 1 rfl) ?_
  refine lv_bipush (v := 6) hx hb dX6_needOf_10 (by decide) ?_
  have hc2 := hs
  refine kV_i (As := [.int x1, .int 6]) (rest := [.int (2 * (fX6_get a x1 5 h))]) ⟨hx, hb, hml, hown, hts⟩ (kX6_get l X h a x1 6 hO hc2) (wX6_get hts q4_41 ⟨Nat.le_of_ble_eq_true rfl, Nat.le_of_ble_eq_true rfl⟩) hK hW hS (va_recv hK.1 (hW.one hO.1) (ci := 6) (q0 := 0) rfl rfl) rfl hl.1 rfl (Nat.le_of_ble_eq_true rfl) dX6_needOf_12 ⟨Nat.zero_le _, Nat.zero_le _⟩ (fun H locs hW hS => ?_)
  refine lv_isub hx hb dX6_needOf_15 ?_
  subst hres
  exact kr_i hx hb hr hlk hK hW hS dX6_needOf_16
def fX6_needOf (a : Nat) (x1 : Int32) (h : HH) : Int32 := fX6_needOf_c0 a x1 h
def sX6_needOf (a : Nat) (x1 : Int32) (h : HH) : Prop := sX6_needOf_c0 a x1 h
set_option maxRecDepth 100000 in
set_option maxHeartbeats 4000000 in
theorem kX6_needOf (l : Launch) (X : Cx) (h : HH) (a : Nat) (x1 : Int32) (hO : IsMo X a) (hs : sX6_needOf a x1 h) : Met l yX6_needOf vX6_needOf rmX6_needOf (va_Pc [.ref a, .int x1] (fun U => WS X h U)) (QI X (fX6_needOf a x1 h) h) 0 0 (xA X) := by
  refine Met.ofW (cc := cX6_needOf) (maxL := 2) (ret := some .int) (by decide) rfl ?_
  intro p e s m args below meth c s₁ B hml hv
  obtain ⟨rfl, hW, hK⟩ := hv
  have hl := lv_entry ([.ref a, .int x1]) (n := 2) (Nat.le_of_ble_eq_true rfl)
  rw [lg_entry_eq]
  generalize (lg_sl ([.ref a, .int x1]) ++ List.replicate (2 - (lg_sl ([.ref a, .int x1])).length) Slot.unset).toArray = ls at hl ⊢
  have hl : lv_has ls 2 [(0, .ref a), (1, .int x1)] := hl
  exact xX6_needOf_c0 hO ⟨B.exec, B.bytes, B.returns, B.notSynchronized, hml, findClass_of_methodNamed B.named, fun w hw => atoms_spec (ws := vX6_needOf) B.pre w (List.mem_cons_of_mem _ hw), hK⟩ x1 h _ _ ls _ (lv_sub hl [0, 1] rfl) hW va_S.rf hs rfl
-- VillageBoardModel.grainPaid(I)I
abbrev rmX6_grainPaid : Room := ({ frames := 3, cells := 0, slots := 0, locals := 64 } : Room)
abbrev vX6_grainPaid : List Cond := Cond.code yX6_grainPaid cX6_grainPaid 3 (some .int) :: lwG
theorem wX6_grainPaid {R : Room} {s : State} {args : Array Value} {own : String} {idx : Nat} (hg : ∀ w ∈ lwG, w.before args s = true) (hl : Cond.methodLink own idx yX6_grainPaid ∈ lwG) (hR : rmX6_grainPaid.frames + 1 ≤ R.frames ∧ 8 + (3 + 11) + rmX6_grainPaid.locals ≤ R.locals) : CallW R s args own RX6 idx yX6_grainPaid cX6_grainPaid 3 (some .int) vX6_grainPaid rmX6_grainPaid 0 0 1 := cwV 1 hg (gV hl q4_188 q0_39 q1_7 q4_189) rfl rfl rfl (by decide +kernel) hR
def fX6_grainPaid_c0 (a : Nat) (x1 : Int32) (h : HH) : Int32 := if 0 ≤ ((fX6_needOf a x1 h) - (fX6_get a x1 4 h)) then (if (fX6_get a x1 2 h) ≤ ((fX6_needOf a x1 h) - (fX6_get a x1 4 h)) then (fX6_get a x1 2 h) else ((fX6_needOf a x1 h) - (fX6_get a x1 4 h))) else 0
def sX6_grainPaid_c0 (a : Nat) (x1 : Int32) (h : HH) : Prop := (sX6_needOf a x1 h) ∧ ((sX6_get a x1 4 h) ∧ ((0 ≤ ((fX6_needOf a x1 h) - (fX6_get a x1 4 h)) → ((sX6_get a x1 2 h) ∧ (((fX6_get a x1 2 h) ≤ ((fX6_needOf a x1 h) - (fX6_get a x1 4 h)) → (sX6_get a x1 2 h)) ∧ (¬ ((fX6_get a x1 2 h) ≤ ((fX6_needOf a x1 h) - (fX6_get a x1 4 h))) → True)))) ∧ (¬ (0 ≤ ((fX6_needOf a x1 h) - (fX6_get a x1 4 h))) → True)))
set_option maxRecDepth 100000 in
set_option maxHeartbeats 4000000 in
theorem xX6_grainPaid_c0 {p : Program} {l : Launch} {e : Env} {s : State} {m : MethodId} {args : Array Value} {below : List Frame} {meth : Method} {c : Code} {X : Cx} {a : Nat} (hO : IsMo X a) (C0 : CT p s m args meth c X cX6_grainPaid 3 (some .int) RX6) (x1 : Int32) (h : HH) (H : Heap) (locs : List Loc) (ls : Array Slot) (res : Int32) (hl : lv_has ls 3 [(0, .ref a), (1, .int x1)]) (hW : WH X h H) (hS : va_S (xA X) s.heap H locs) (hs : sX6_grainPaid_c0 a x1 h) (hres : fX6_grainPaid_c0 a x1 h = res) : W p l e rmX6_grainPaid s m args below meth c H locs 0 0 (MQ below (QI X res h) args s 0 0 (xA X)) (F0 m 0 ls []) := by
  obtain ⟨hx, hb, hr, hlk, hml, hown, hts, hK⟩ := id C0
  refine lv_aload_n hx hb dX6_grainPaid_0 rfl (lv_at hl 0 rfl) ?_
  refine lv_iload_n hx hb dX6_grainPaid_1 rfl (lv_at hl 1 rfl) ?_
  obtain ⟨hc1, hs⟩ := hs
  refine kV_i (As := [.int x1]) (rest := []) ⟨hx, hb, hml, hown, hts⟩ (kX6_needOf l X h a x1 hO hc1) (wX6_needOf hts q4_190 ⟨Nat.le_of_ble_eq_true rfl, Nat.le_of_ble_eq_true rfl⟩) hK hW hS (va_recv hK.1 (hW.one hO.1) (ci := 6) (q0 := 0) rfl rfl) rfl hl.1 rfl (Nat.le_of_ble_eq_true rfl) dX6_grainPaid_2 ⟨Nat.zero_le _, Nat.zero_le _⟩ (fun H locs hW hS => ?_)
  refine lv_aload_n hx hb dX6_grainPaid_5 rfl (lv_at hl 0 rfl) ?_
  refine lv_iload_n hx hb dX6_grainPaid_6 rfl (lv_at hl 1 rfl) ?_
  refine lv_iconst (v := 4) hx hb dX6_grainPaid_7 (by decide) ?_
  obtain ⟨hc2, hs⟩ := hs
  refine kV_i (As := [.int x1, .int 4]) (rest := [.int (fX6_needOf a x1 h)]) ⟨hx, hb, hml, hown, hts⟩ (kX6_get l X h a x1 4 hO hc2) (wX6_get hts q4_41 ⟨Nat.le_of_ble_eq_true rfl, Nat.le_of_ble_eq_true rfl⟩) hK hW hS (va_recv hK.1 (hW.one hO.1) (ci := 6) (q0 := 0) rfl rfl) rfl hl.1 rfl (Nat.le_of_ble_eq_true rfl) dX6_grainPaid_8 ⟨Nat.zero_le _, Nat.zero_le _⟩ (fun H locs hW hS => ?_)
  refine lv_isub hx hb dX6_grainPaid_11 ?_
  refine lv_istore_n (lv' := [(2, .int ((fX6_needOf a x1 h) - (fX6_get a x1 4 h))), (0, .ref a), (1, .int x1)]) hx hb dX6_grainPaid_12 rfl hl (by decide) rfl (fun ls hl => ?_)
  refine lv_iload_n hx hb dX6_grainPaid_13 rfl (lv_at hl 0 rfl) ?_
  refine lv_if_ge (tgt := 21) hx hb dX6_grainPaid_14 (by decide) (fun c3 => ?_) (fun c3 => ?_)
  · have hres := (if_pos c3).symm.trans hres
    have hs := And.left hs c3
    refine lv_iload_n hx hb dX6_grainPaid_21 rfl (lv_at hl 0 rfl) ?_
    refine lv_aload_n hx hb dX6_grainPaid_22 rfl (lv_at hl 1 rfl) ?_
    refine lv_iload_n hx hb dX6_grainPaid_23 rfl (lv_at hl 2 rfl) ?_
    refine lv_iconst (v := 2) hx hb dX6_grainPaid_24 (by decide) ?_
    obtain ⟨hc4, hs⟩ := hs
    refine kV_i (As := [.int x1, .int 2]) (rest := [.int ((fX6_needOf a x1 h) - (fX6_get a x1 4 h))]) ⟨hx, hb, hml, hown, hts⟩ (kX6_get l X h a x1 2 hO hc4) (wX6_get hts q4_41 ⟨Nat.le_of_ble_eq_true rfl, Nat.le_of_ble_eq_true rfl⟩) hK hW hS (va_recv hK.1 (hW.one hO.1) (ci := 6) (q0 := 0) rfl rfl) rfl hl.1 rfl (Nat.le_of_ble_eq_true rfl) dX6_grainPaid_25 ⟨Nat.zero_le _, Nat.zero_le _⟩ (fun H locs hW hS => ?_)
    refine lv_icmp_ge (tgt := 35) hx hb dX6_grainPaid_28 (by decide) (fun c5 => ?_) (fun c5 => ?_)
    · have hres := (if_pos c5).symm.trans hres
      have hs := And.left hs c5
      refine lv_aload_n hx hb dX6_grainPaid_35 rfl (lv_at hl 1 rfl) ?_
      refine lv_iload_n hx hb dX6_grainPaid_36 rfl (lv_at hl 2 rfl) ?_
      refine lv_iconst (v := 2) hx hb dX6_grainPaid_37 (by decide) ?_
      have hc6 := hs
      refine kV_i (As := [.int x1, .int 2]) (rest := []) ⟨hx, hb, hml, hown, hts⟩ (kX6_get l X h a x1 2 hO hc6) (wX6_get hts q4_41 ⟨Nat.le_of_ble_eq_true rfl, Nat.le_of_ble_eq_true rfl⟩) hK hW hS (va_recv hK.1 (hW.one hO.1) (ci := 6) (q0 := 0) rfl rfl) rfl hl.1 rfl (Nat.le_of_ble_eq_true rfl) dX6_grainPaid_38 ⟨Nat.zero_le _, Nat.zero_le _⟩ (fun H locs hW hS => ?_)
      subst hres
      exact kr_i hx hb hr hlk hK hW hS dX6_grainPaid_41
    · have hres := (if_neg c5).symm.trans hres
      have hs := And.right hs c5
      refine lv_iload_n hx hb dX6_grainPaid_31 rfl (lv_at hl 0 rfl) ?_
      refine lv_goto (tgt := 41) hx hb dX6_grainPaid_32 (by decide) ?_
      subst hres
      exact kr_i hx hb hr hlk hK hW hS dX6_grainPaid_41
  · have hres := (if_neg c3).symm.trans hres
    have hs := And.right hs c3
    refine lv_iconst (v := 0) hx hb dX6_grainPaid_17 (by decide) ?_
    refine lv_goto (tgt := 41) hx hb dX6_grainPaid_18 (by decide) ?_
    subst hres
    exact kr_i hx hb hr hlk hK hW hS dX6_grainPaid_41
def fX6_grainPaid (a : Nat) (x1 : Int32) (h : HH) : Int32 := fX6_grainPaid_c0 a x1 h
def sX6_grainPaid (a : Nat) (x1 : Int32) (h : HH) : Prop := sX6_grainPaid_c0 a x1 h
set_option maxRecDepth 100000 in
set_option maxHeartbeats 4000000 in
theorem kX6_grainPaid (l : Launch) (X : Cx) (h : HH) (a : Nat) (x1 : Int32) (hO : IsMo X a) (hs : sX6_grainPaid a x1 h) : Met l yX6_grainPaid vX6_grainPaid rmX6_grainPaid (va_Pc [.ref a, .int x1] (fun U => WS X h U)) (QI X (fX6_grainPaid a x1 h) h) 0 0 (xA X) := by
  refine Met.ofW (cc := cX6_grainPaid) (maxL := 3) (ret := some .int) (by decide) rfl ?_
  intro p e s m args below meth c s₁ B hml hv
  obtain ⟨rfl, hW, hK⟩ := hv
  have hl := lv_entry ([.ref a, .int x1]) (n := 3) (Nat.le_of_ble_eq_true rfl)
  rw [lg_entry_eq]
  generalize (lg_sl ([.ref a, .int x1]) ++ List.replicate (3 - (lg_sl ([.ref a, .int x1])).length) Slot.unset).toArray = ls at hl ⊢
  have hl : lv_has ls 3 [(0, .ref a), (1, .int x1)] := hl
  exact xX6_grainPaid_c0 hO ⟨B.exec, B.bytes, B.returns, B.notSynchronized, hml, findClass_of_methodNamed B.named, fun w hw => atoms_spec (ws := vX6_grainPaid) B.pre w (List.mem_cons_of_mem _ hw), hK⟩ x1 h _ _ ls _ (lv_sub hl [0, 1] rfl) hW va_S.rf hs rfl
-- VillageBoardModel.sheepWorth(I)I
abbrev rmX6_sheepWorth : Room := ({ frames := 3, cells := 0, slots := 0, locals := 65 } : Room)
abbrev vX6_sheepWorth : List Cond := Cond.code yX6_sheepWorth cX6_sheepWorth 2 (some .int) :: lwG
theorem wX6_sheepWorth {R : Room} {s : State} {args : Array Value} {own : String} {idx : Nat} (hg : ∀ w ∈ lwG, w.before args s = true) (hl : Cond.methodLink own idx yX6_sheepWorth ∈ lwG) (hR : rmX6_sheepWorth.frames + 1 ≤ R.frames ∧ 8 + (2 + 11) + rmX6_sheepWorth.locals ≤ R.locals) : CallW R s args own RX6 idx yX6_sheepWorth cX6_sheepWorth 2 (some .int) vX6_sheepWorth rmX6_sheepWorth 0 0 1 := cwV 1 hg (gV hl q4_200 q0_42 q1_7 q4_201) rfl rfl rfl (by decide +kernel) hR
def fX6_sheepWorth_c0 (a : Nat) (x1 : Int32) (h : HH) : Int32 := if (bI (fX6_has a x1 3 h)) = 0 then 2 else 4
def sX6_sheepWorth_c0 (a : Nat) (x1 : Int32) (h : HH) : Prop := sX6_has a x1 3 h
set_option maxRecDepth 100000 in
set_option maxHeartbeats 4000000 in
theorem xX6_sheepWorth_c0 {p : Program} {l : Launch} {e : Env} {s : State} {m : MethodId} {args : Array Value} {below : List Frame} {meth : Method} {c : Code} {X : Cx} {a : Nat} (hO : IsMo X a) (C0 : CT p s m args meth c X cX6_sheepWorth 2 (some .int) RX6) (x1 : Int32) (h : HH) (H : Heap) (locs : List Loc) (ls : Array Slot) (res : Int32) (hl : lv_has ls 2 [(0, .ref a), (1, .int x1)]) (hW : WH X h H) (hS : va_S (xA X) s.heap H locs) (hs : sX6_sheepWorth_c0 a x1 h) (hres : fX6_sheepWorth_c0 a x1 h = res) : W p l e rmX6_sheepWorth s m args below meth c H locs 0 0 (MQ below (QI X res h) args s 0 0 (xA X)) (F0 m 0 ls []) := by
  obtain ⟨hx, hb, hr, hlk, hml, hown, hts, hK⟩ := id C0
  refine lv_aload_n hx hb dX6_sheepWorth_0 rfl (lv_at hl 0 rfl) ?_
  refine lv_iload_n hx hb dX6_sheepWorth_1 rfl (lv_at hl 1 rfl) ?_
  refine lv_iconst (v := 3) hx hb dX6_sheepWorth_2 (by decide) ?_
  have hc1 := hs
  refine kV_i (As := [.int x1, .int 3]) (rest := []) ⟨hx, hb, hml, hown, hts⟩ (kX6_has l X h a x1 3 hO hc1) (wX6_has hts q4_37 ⟨Nat.le_of_ble_eq_true rfl, Nat.le_of_ble_eq_true rfl⟩) hK hW hS (va_recv hK.1 (hW.one hO.1) (ci := 6) (q0 := 0) rfl rfl) rfl hl.1 rfl (Nat.le_of_ble_eq_true rfl) dX6_sheepWorth_3 ⟨Nat.zero_le _, Nat.zero_le _⟩ (fun H locs hW hS => ?_)
  refine lv_if_eq (tgt := 13) hx hb dX6_sheepWorth_6 (by decide) (fun c2 => ?_) (fun c2 => ?_)
  · have hres := (if_pos c2).symm.trans hres
    refine lv_iconst (v := 2) hx hb dX6_sheepWorth_13 (by decide) ?_
    subst hres
    exact kr_i hx hb hr hlk hK hW hS dX6_sheepWorth_14
  · have hres := (if_neg c2).symm.trans hres
    refine lv_iconst (v := 4) hx hb dX6_sheepWorth_9 (by decide) ?_
    refine lv_goto (tgt := 14) hx hb dX6_sheepWorth_10 (by decide) ?_
    subst hres
    exact kr_i hx hb hr hlk hK hW hS dX6_sheepWorth_14
def fX6_sheepWorth (a : Nat) (x1 : Int32) (h : HH) : Int32 := fX6_sheepWorth_c0 a x1 h
def sX6_sheepWorth (a : Nat) (x1 : Int32) (h : HH) : Prop := sX6_sheepWorth_c0 a x1 h
set_option maxRecDepth 100000 in
set_option maxHeartbeats 4000000 in
theorem kX6_sheepWorth (l : Launch) (X : Cx) (h : HH) (a : Nat) (x1 : Int32) (hO : IsMo X a) (hs : sX6_sheepWorth a x1 h) : Met l yX6_sheepWorth vX6_sheepWorth rmX6_sheepWorth (va_Pc [.ref a, .int x1] (fun U => WS X h U)) (QI X (fX6_sheepWorth a x1 h) h) 0 0 (xA X) := by
  refine Met.ofW (cc := cX6_sheepWorth) (maxL := 2) (ret := some .int) (by decide) rfl ?_
  intro p e s m args below meth c s₁ B hml hv
  obtain ⟨rfl, hW, hK⟩ := hv
  have hl := lv_entry ([.ref a, .int x1]) (n := 2) (Nat.le_of_ble_eq_true rfl)
  rw [lg_entry_eq]
  generalize (lg_sl ([.ref a, .int x1]) ++ List.replicate (2 - (lg_sl ([.ref a, .int x1])).length) Slot.unset).toArray = ls at hl ⊢
  have hl : lv_has ls 2 [(0, .ref a), (1, .int x1)] := hl
  exact xX6_sheepWorth_c0 hO ⟨B.exec, B.bytes, B.returns, B.notSynchronized, hml, findClass_of_methodNamed B.named, fun w hw => atoms_spec (ws := vX6_sheepWorth) B.pre w (List.mem_cons_of_mem _ hw), hK⟩ x1 h _ _ ls _ (lv_sub hl [0, 1] rfl) hW va_S.rf hs rfl
-- VillageBoardModel.sheepPaid(I)I
abbrev rmX6_sheepPaid : Room := ({ frames := 4, cells := 0, slots := 0, locals := 86 } : Room)
abbrev vX6_sheepPaid : List Cond := Cond.code yX6_sheepPaid cX6_sheepPaid 4 (some .int) :: lwG
theorem wX6_sheepPaid {R : Room} {s : State} {args : Array Value} {own : String} {idx : Nat} (hg : ∀ w ∈ lwG, w.before args s = true) (hl : Cond.methodLink own idx yX6_sheepPaid ∈ lwG) (hR : rmX6_sheepPaid.frames + 1 ≤ R.frames ∧ 8 + (4 + 11) + rmX6_sheepPaid.locals ≤ R.locals) : CallW R s args own RX6 idx yX6_sheepPaid cX6_sheepPaid 4 (some .int) vX6_sheepPaid rmX6_sheepPaid 0 0 1 := cwV 1 hg (gV hl q4_196 q0_41 q1_7 q4_197) rfl rfl rfl (by decide +kernel) hR
def fX6_sheepPaid_c42 (a : Nat) (x1 : Int32) (xs0 : Int32) (h : HH) : Int32 := if (fX6_get a x1 3 h) ≤ xs0 then (fX6_get a x1 3 h) else xs0
def sX6_sheepPaid_c42 (a : Nat) (x1 : Int32) (xs0 : Int32) (h : HH) : Prop := (sX6_get a x1 3 h) ∧ (((fX6_get a x1 3 h) ≤ xs0 → (sX6_get a x1 3 h)) ∧ (¬ ((fX6_get a x1 3 h) ≤ xs0) → True))
set_option maxRecDepth 100000 in
set_option maxHeartbeats 4000000 in
theorem xX6_sheepPaid_c42 {p : Program} {l : Launch} {e : Env} {s : State} {m : MethodId} {args : Array Value} {below : List Frame} {meth : Method} {c : Code} {X : Cx} {a : Nat} (hO : IsMo X a) (C0 : CT p s m args meth c X cX6_sheepPaid 4 (some .int) RX6) (x1 : Int32) (xs0 : Int32) (h : HH) (H : Heap) (locs : List Loc) (ls : Array Slot) (res : Int32) (hl : lv_has ls 4 [(0, .ref a), (1, .int x1)]) (hW : WH X h H) (hS : va_S (xA X) s.heap H locs) (hs : sX6_sheepPaid_c42 a x1 xs0 h) (hres : fX6_sheepPaid_c42 a x1 xs0 h = res) : W p l e rmX6_sheepPaid s m args below meth c H locs 0 0 (MQ below (QI X res h) args s 0 0 (xA X)) (F0 m 42 ls [.int xs0]) := by
  obtain ⟨hx, hb, hr, hlk, hml, hown, hts, hK⟩ := id C0
  refine lv_istore_n (lv' := [(3, .int xs0), (0, .ref a), (1, .int x1)]) hx hb dX6_sheepPaid_42 rfl hl (by decide) rfl (fun ls hl => ?_)
  refine lv_iload_n hx hb dX6_sheepPaid_43 rfl (lv_at hl 0 rfl) ?_
  refine lv_aload_n hx hb dX6_sheepPaid_44 rfl (lv_at hl 1 rfl) ?_
  refine lv_iload_n hx hb dX6_sheepPaid_45 rfl (lv_at hl 2 rfl) ?_
  refine lv_iconst (v := 3) hx hb dX6_sheepPaid_46 (by decide) ?_
  obtain ⟨hc8, hs⟩ := hs
  refine kV_i (As := [.int x1, .int 3]) (rest := [.int xs0]) ⟨hx, hb, hml, hown, hts⟩ (kX6_get l X h a x1 3 hO hc8) (wX6_get hts q4_41 ⟨Nat.le_of_ble_eq_true rfl, Nat.le_of_ble_eq_true rfl⟩) hK hW hS (va_recv hK.1 (hW.one hO.1) (ci := 6) (q0 := 0) rfl rfl) rfl hl.1 rfl (Nat.le_of_ble_eq_true rfl) dX6_sheepPaid_47 ⟨Nat.zero_le _, Nat.zero_le _⟩ (fun H locs hW hS => ?_)
  refine lv_icmp_ge (tgt := 57) hx hb dX6_sheepPaid_50 (by decide) (fun c9 => ?_) (fun c9 => ?_)
  · have hres := (if_pos c9).symm.trans hres
    have hs := And.left hs c9
    refine lv_aload_n hx hb dX6_sheepPaid_57 rfl (lv_at hl 1 rfl) ?_
    refine lv_iload_n hx hb dX6_sheepPaid_58 rfl (lv_at hl 2 rfl) ?_
    refine lv_iconst (v := 3) hx hb dX6_sheepPaid_59 (by decide) ?_
    have hc10 := hs
    refine kV_i (As := [.int x1, .int 3]) (rest := []) ⟨hx, hb, hml, hown, hts⟩ (kX6_get l X h a x1 3 hO hc10) (wX6_get hts q4_41 ⟨Nat.le_of_ble_eq_true rfl, Nat.le_of_ble_eq_true rfl⟩) hK hW hS (va_recv hK.1 (hW.one hO.1) (ci := 6) (q0 := 0) rfl rfl) rfl hl.1 rfl (Nat.le_of_ble_eq_true rfl) dX6_sheepPaid_60 ⟨Nat.zero_le _, Nat.zero_le _⟩ (fun H locs hW hS => ?_)
    subst hres
    exact kr_i hx hb hr hlk hK hW hS dX6_sheepPaid_63
  · have hres := (if_neg c9).symm.trans hres
    have hs := And.right hs c9
    refine lv_iload_n hx hb dX6_sheepPaid_53 rfl (lv_at hl 0 rfl) ?_
    refine lv_goto (tgt := 63) hx hb dX6_sheepPaid_54 (by decide) ?_
    subst hres
    exact kr_i hx hb hr hlk hK hW hS dX6_sheepPaid_63
def fX6_sheepPaid_c0 (a : Nat) (x1 : Int32) (h : HH) : Int32 := if 0 < (((fX6_needOf a x1 h) - (fX6_get a x1 4 h)) - (fX6_grainPaid a x1 h)) then (fX6_sheepPaid_c42 a x1 ((((((fX6_needOf a x1 h) - (fX6_get a x1 4 h)) - (fX6_grainPaid a x1 h)) + (fX6_sheepWorth a x1 h)) - 1) / (fX6_sheepWorth a x1 h)) h) else (fX6_sheepPaid_c42 a x1 0 h)
def sX6_sheepPaid_c0 (a : Nat) (x1 : Int32) (h : HH) : Prop := (sX6_needOf a x1 h) ∧ ((sX6_get a x1 4 h) ∧ ((sX6_grainPaid a x1 h) ∧ ((0 < (((fX6_needOf a x1 h) - (fX6_get a x1 4 h)) - (fX6_grainPaid a x1 h)) → ((sX6_sheepWorth a x1 h) ∧ ((sX6_sheepWorth a x1 h) ∧ ((¬ (fX6_sheepWorth a x1 h) = 0) ∧ (sX6_sheepPaid_c42 a x1 ((((((fX6_needOf a x1 h) - (fX6_get a x1 4 h)) - (fX6_grainPaid a x1 h)) + (fX6_sheepWorth a x1 h)) - 1) / (fX6_sheepWorth a x1 h)) h))))) ∧ (¬ (0 < (((fX6_needOf a x1 h) - (fX6_get a x1 4 h)) - (fX6_grainPaid a x1 h))) → (sX6_sheepPaid_c42 a x1 0 h)))))
set_option maxRecDepth 100000 in
set_option maxHeartbeats 4000000 in
theorem xX6_sheepPaid_c0 {p : Program} {l : Launch} {e : Env} {s : State} {m : MethodId} {args : Array Value} {below : List Frame} {meth : Method} {c : Code} {X : Cx} {a : Nat} (hO : IsMo X a) (C0 : CT p s m args meth c X cX6_sheepPaid 4 (some .int) RX6) (x1 : Int32) (h : HH) (H : Heap) (locs : List Loc) (ls : Array Slot) (res : Int32) (hl : lv_has ls 4 [(0, .ref a), (1, .int x1)]) (hW : WH X h H) (hS : va_S (xA X) s.heap H locs) (hs : sX6_sheepPaid_c0 a x1 h) (hres : fX6_sheepPaid_c0 a x1 h = res) : W p l e rmX6_sheepPaid s m args below meth c H locs 0 0 (MQ below (QI X res h) args s 0 0 (xA X)) (F0 m 0 ls []) := by
  obtain ⟨hx, hb, hr, hlk, hml, hown, hts, hK⟩ := id C0
  refine lv_aload_n hx hb dX6_sheepPaid_0 rfl (lv_at hl 0 rfl) ?_
  refine lv_iload_n hx hb dX6_sheepPaid_1 rfl (lv_at hl 1 rfl) ?_
  obtain ⟨hc1, hs⟩ := hs
  refine kV_i (As := [.int x1]) (rest := []) ⟨hx, hb, hml, hown, hts⟩ (kX6_needOf l X h a x1 hO hc1) (wX6_needOf hts q4_190 ⟨Nat.le_of_ble_eq_true rfl, Nat.le_of_ble_eq_true rfl⟩) hK hW hS (va_recv hK.1 (hW.one hO.1) (ci := 6) (q0 := 0) rfl rfl) rfl hl.1 rfl (Nat.le_of_ble_eq_true rfl) dX6_sheepPaid_2 ⟨Nat.zero_le _, Nat.zero_le _⟩ (fun H locs hW hS => ?_)
  refine lv_aload_n hx hb dX6_sheepPaid_5 rfl (lv_at hl 0 rfl) ?_
  refine lv_iload_n hx hb dX6_sheepPaid_6 rfl (lv_at hl 1 rfl) ?_
  refine lv_iconst (v := 4) hx hb dX6_sheepPaid_7 (by decide) ?_
  obtain ⟨hc2, hs⟩ := hs
  refine kV_i (As := [.int x1, .int 4]) (rest := [.int (fX6_needOf a x1 h)]) ⟨hx, hb, hml, hown, hts⟩ (kX6_get l X h a x1 4 hO hc2) (wX6_get hts q4_41 ⟨Nat.le_of_ble_eq_true rfl, Nat.le_of_ble_eq_true rfl⟩) hK hW hS (va_recv hK.1 (hW.one hO.1) (ci := 6) (q0 := 0) rfl rfl) rfl hl.1 rfl (Nat.le_of_ble_eq_true rfl) dX6_sheepPaid_8 ⟨Nat.zero_le _, Nat.zero_le _⟩ (fun H locs hW hS => ?_)
  refine lv_isub hx hb dX6_sheepPaid_11 ?_
  refine lv_aload_n hx hb dX6_sheepPaid_12 rfl (lv_at hl 0 rfl) ?_
  refine lv_iload_n hx hb dX6_sheepPaid_13 rfl (lv_at hl 1 rfl) ?_
  obtain ⟨hc3, hs⟩ := hs
  refine kV_i (As := [.int x1]) (rest := [.int ((fX6_needOf a x1 h) - (fX6_get a x1 4 h))]) ⟨hx, hb, hml, hown, hts⟩ (kX6_grainPaid l X h a x1 hO hc3) (wX6_grainPaid hts q4_186 ⟨Nat.le_of_ble_eq_true rfl, Nat.le_of_ble_eq_true rfl⟩) hK hW hS (va_recv hK.1 (hW.one hO.1) (ci := 6) (q0 := 0) rfl rfl) rfl hl.1 rfl (Nat.le_of_ble_eq_true rfl) dX6_sheepPaid_14 ⟨Nat.zero_le _, Nat.zero_le _⟩ (fun H locs hW hS => ?_)
  refine lv_isub hx hb dX6_sheepPaid_17 ?_
  refine lv_istore_n (lv' := [(2, .int (((fX6_needOf a x1 h) - (fX6_get a x1 4 h)) - (fX6_grainPaid a x1 h))), (0, .ref a), (1, .int x1)]) hx hb dX6_sheepPaid_18 rfl hl (by decide) rfl (fun ls hl => ?_)
  refine lv_iload_n hx hb dX6_sheepPaid_19 rfl (lv_at hl 0 rfl) ?_
  refine lv_if_gt (tgt := 27) hx hb dX6_sheepPaid_20 (by decide) (fun c4 => ?_) (fun c4 => ?_)
  · have hres := (if_pos c4).symm.trans hres
    have hs := And.left hs c4
    refine lv_iload_n hx hb dX6_sheepPaid_27 rfl (lv_at hl 0 rfl) ?_
    refine lv_aload_n hx hb dX6_sheepPaid_28 rfl (lv_at hl 1 rfl) ?_
    refine lv_iload_n hx hb dX6_sheepPaid_29 rfl (lv_at hl 2 rfl) ?_
    obtain ⟨hc5, hs⟩ := hs
    refine kV_i (As := [.int x1]) (rest := [.int (((fX6_needOf a x1 h) - (fX6_get a x1 4 h)) - (fX6_grainPaid a x1 h))]) ⟨hx, hb, hml, hown, hts⟩ (kX6_sheepWorth l X h a x1 hO hc5) (wX6_sheepWorth hts q4_198 ⟨Nat.le_of_ble_eq_true rfl, Nat.le_of_ble_eq_true rfl⟩) hK hW hS (va_recv hK.1 (hW.one hO.1) (ci := 6) (q0 := 0) rfl rfl) rfl hl.1 rfl (Nat.le_of_ble_eq_true rfl) dX6_sheepPaid_30 ⟨Nat.zero_le _, Nat.zero_le _⟩ (fun H locs hW hS => ?_)
    refine lv_iadd hx hb dX6_sheepPaid_33 ?_
    refine lv_iconst (v := 1) hx hb dX6_sheepPaid_34 (by decide) ?_
    refine lv_isub hx hb dX6_sheepPaid_35 ?_
    refine lv_aload_n hx hb dX6_sheepPaid_36 rfl (lv_at hl 1 rfl) ?_
    refine lv_iload_n hx hb dX6_sheepPaid_37 rfl (lv_at hl 2 rfl) ?_
    obtain ⟨hc6, hs⟩ := hs
    refine kV_i (As := [.int x1]) (rest := [.int (((((fX6_needOf a x1 h) - (fX6_get a x1 4 h)) - (fX6_grainPaid a x1 h)) + (fX6_sheepWorth a x1 h)) - 1)]) ⟨hx, hb, hml, hown, hts⟩ (kX6_sheepWorth l X h a x1 hO hc6) (wX6_sheepWorth hts q4_198 ⟨Nat.le_of_ble_eq_true rfl, Nat.le_of_ble_eq_true rfl⟩) hK hW hS (va_recv hK.1 (hW.one hO.1) (ci := 6) (q0 := 0) rfl rfl) rfl hl.1 rfl (Nat.le_of_ble_eq_true rfl) dX6_sheepPaid_38 ⟨Nat.zero_le _, Nat.zero_le _⟩ (fun H locs hW hS => ?_)
    obtain ⟨hd7, hs⟩ := hs
    refine lv_idiv hx hb dX6_sheepPaid_41 hd7 ?_
    exact xX6_sheepPaid_c42 hO C0 x1 ((((((fX6_needOf a x1 h) - (fX6_get a x1 4 h)) - (fX6_grainPaid a x1 h)) + (fX6_sheepWorth a x1 h)) - 1) / (fX6_sheepWorth a x1 h)) h _ _ _ _ (lv_sub hl [1, 2] rfl) hW hS hs hres
  · have hres := (if_neg c4).symm.trans hres
    have hs := And.right hs c4
    refine lv_iconst (v := 0) hx hb dX6_sheepPaid_23 (by decide) ?_
    refine lv_goto (tgt := 42) hx hb dX6_sheepPaid_24 (by decide) ?_
    exact xX6_sheepPaid_c42 hO C0 x1 0 h _ _ _ _ (lv_sub hl [1, 2] rfl) hW hS hs hres
def fX6_sheepPaid (a : Nat) (x1 : Int32) (h : HH) : Int32 := fX6_sheepPaid_c0 a x1 h
def sX6_sheepPaid (a : Nat) (x1 : Int32) (h : HH) : Prop := sX6_sheepPaid_c0 a x1 h
set_option maxRecDepth 100000 in
set_option maxHeartbeats 4000000 in
theorem kX6_sheepPaid (l : Launch) (X : Cx) (h : HH) (a : Nat) (x1 : Int32) (hO : IsMo X a) (hs : sX6_sheepPaid a x1 h) : Met l yX6_sheepPaid vX6_sheepPaid rmX6_sheepPaid (va_Pc [.ref a, .int x1] (fun U => WS X h U)) (QI X (fX6_sheepPaid a x1 h) h) 0 0 (xA X) := by
  refine Met.ofW (cc := cX6_sheepPaid) (maxL := 4) (ret := some .int) (by decide) rfl ?_
  intro p e s m args below meth c s₁ B hml hv
  obtain ⟨rfl, hW, hK⟩ := hv
  have hl := lv_entry ([.ref a, .int x1]) (n := 4) (Nat.le_of_ble_eq_true rfl)
  rw [lg_entry_eq]
  generalize (lg_sl ([.ref a, .int x1]) ++ List.replicate (4 - (lg_sl ([.ref a, .int x1])).length) Slot.unset).toArray = ls at hl ⊢
  have hl : lv_has ls 4 [(0, .ref a), (1, .int x1)] := hl
  exact xX6_sheepPaid_c0 hO ⟨B.exec, B.bytes, B.returns, B.notSynchronized, hml, findClass_of_methodNamed B.named, fun w hw => atoms_spec (ws := vX6_sheepPaid) B.pre w (List.mem_cons_of_mem _ hw), hK⟩ x1 h _ _ ls _ (lv_sub hl [0, 1] rfl) hW va_S.rf hs rfl
-- VillageBoardModel.missingOf(I)I
abbrev rmX6_missingOf : Room := ({ frames := 5, cells := 0, slots := 0, locals := 109 } : Room)
abbrev vX6_missingOf : List Cond := Cond.code yX6_missingOf cX6_missingOf 3 (some .int) :: lwG
theorem wX6_missingOf {R : Room} {s : State} {args : Array Value} {own : String} {idx : Nat} (hg : ∀ w ∈ lwG, w.before args s = true) (hl : Cond.methodLink own idx yX6_missingOf ∈ lwG) (hR : rmX6_missingOf.frames + 1 ≤ R.frames ∧ 8 + (3 + 11) + rmX6_missingOf.locals ≤ R.locals) : CallW R s args own RX6 idx yX6_missingOf cX6_missingOf 3 (some .int) vX6_missingOf rmX6_missingOf 0 0 1 := cwV 1 hg (gV hl q4_204 q0_43 q1_7 q4_205) rfl rfl rfl (by decide +kernel) hR
def fX6_missingOf_c0 (a : Nat) (x1 : Int32) (h : HH) : Int32 := if 0 ≤ ((((fX6_needOf a x1 h) - (fX6_get a x1 4 h)) - (fX6_grainPaid a x1 h)) - ((fX6_sheepWorth a x1 h) * (fX6_sheepPaid a x1 h))) then ((((fX6_needOf a x1 h) - (fX6_get a x1 4 h)) - (fX6_grainPaid a x1 h)) - ((fX6_sheepWorth a x1 h) * (fX6_sheepPaid a x1 h))) else 0
def sX6_missingOf_c0 (a : Nat) (x1 : Int32) (h : HH) : Prop := (sX6_needOf a x1 h) ∧ ((sX6_get a x1 4 h) ∧ ((sX6_grainPaid a x1 h) ∧ ((sX6_sheepWorth a x1 h) ∧ (sX6_sheepPaid a x1 h))))
set_option maxRecDepth 100000 in
set_option maxHeartbeats 4000000 in
theorem xX6_missingOf_c0 {p : Program} {l : Launch} {e : Env} {s : State} {m : MethodId} {args : Array Value} {below : List Frame} {meth : Method} {c : Code} {X : Cx} {a : Nat} (hO : IsMo X a) (C0 : CT p s m args meth c X cX6_missingOf 3 (some .int) RX6) (x1 : Int32) (h : HH) (H : Heap) (locs : List Loc) (ls : Array Slot) (res : Int32) (hl : lv_has ls 3 [(0, .ref a), (1, .int x1)]) (hW : WH X h H) (hS : va_S (xA X) s.heap H locs) (hs : sX6_missingOf_c0 a x1 h) (hres : fX6_missingOf_c0 a x1 h = res) : W p l e rmX6_missingOf s m args below meth c H locs 0 0 (MQ below (QI X res h) args s 0 0 (xA X)) (F0 m 0 ls []) := by
  obtain ⟨hx, hb, hr, hlk, hml, hown, hts, hK⟩ := id C0
  refine lv_aload_n hx hb dX6_missingOf_0 rfl (lv_at hl 0 rfl) ?_
  refine lv_iload_n hx hb dX6_missingOf_1 rfl (lv_at hl 1 rfl) ?_
  obtain ⟨hc1, hs⟩ := hs
  refine kV_i (As := [.int x1]) (rest := []) ⟨hx, hb, hml, hown, hts⟩ (kX6_needOf l X h a x1 hO hc1) (wX6_needOf hts q4_190 ⟨Nat.le_of_ble_eq_true rfl, Nat.le_of_ble_eq_true rfl⟩) hK hW hS (va_recv hK.1 (hW.one hO.1) (ci := 6) (q0 := 0) rfl rfl) rfl hl.1 rfl (Nat.le_of_ble_eq_true rfl) dX6_missingOf_2 ⟨Nat.zero_le _, Nat.zero_le _⟩ (fun H locs hW hS => ?_)
  refine lv_aload_n hx hb dX6_missingOf_5 rfl (lv_at hl 0 rfl) ?_
  refine lv_iload_n hx hb dX6_missingOf_6 rfl (lv_at hl 1 rfl) ?_
  refine lv_iconst (v := 4) hx hb dX6_missingOf_7 (by decide) ?_
  obtain ⟨hc2, hs⟩ := hs
  refine kV_i (As := [.int x1, .int 4]) (rest := [.int (fX6_needOf a x1 h)]) ⟨hx, hb, hml, hown, hts⟩ (kX6_get l X h a x1 4 hO hc2) (wX6_get hts q4_41 ⟨Nat.le_of_ble_eq_true rfl, Nat.le_of_ble_eq_true rfl⟩) hK hW hS (va_recv hK.1 (hW.one hO.1) (ci := 6) (q0 := 0) rfl rfl) rfl hl.1 rfl (Nat.le_of_ble_eq_true rfl) dX6_missingOf_8 ⟨Nat.zero_le _, Nat.zero_le _⟩ (fun H locs hW hS => ?_)
  refine lv_isub hx hb dX6_missingOf_11 ?_
  refine lv_aload_n hx hb dX6_missingOf_12 rfl (lv_at hl 0 rfl) ?_
  refine lv_iload_n hx hb dX6_missingOf_13 rfl (lv_at hl 1 rfl) ?_
  obtain ⟨hc3, hs⟩ := hs
  refine kV_i (As := [.int x1]) (rest := [.int ((fX6_needOf a x1 h) - (fX6_get a x1 4 h))]) ⟨hx, hb, hml, hown, hts⟩ (kX6_grainPaid l X h a x1 hO hc3) (wX6_grainPaid hts q4_186 ⟨Nat.le_of_ble_eq_true rfl, Nat.le_of_ble_eq_true rfl⟩) hK hW hS (va_recv hK.1 (hW.one hO.1) (ci := 6) (q0 := 0) rfl rfl) rfl hl.1 rfl (Nat.le_of_ble_eq_true rfl) dX6_missingOf_14 ⟨Nat.zero_le _, Nat.zero_le _⟩ (fun H locs hW hS => ?_)
  refine lv_isub hx hb dX6_missingOf_17 ?_
  refine lv_aload_n hx hb dX6_missingOf_18 rfl (lv_at hl 0 rfl) ?_
  refine lv_iload_n hx hb dX6_missingOf_19 rfl (lv_at hl 1 rfl) ?_
  obtain ⟨hc4, hs⟩ := hs
  refine kV_i (As := [.int x1]) (rest := [.int (((fX6_needOf a x1 h) - (fX6_get a x1 4 h)) - (fX6_grainPaid a x1 h))]) ⟨hx, hb, hml, hown, hts⟩ (kX6_sheepWorth l X h a x1 hO hc4) (wX6_sheepWorth hts q4_198 ⟨Nat.le_of_ble_eq_true rfl, Nat.le_of_ble_eq_true rfl⟩) hK hW hS (va_recv hK.1 (hW.one hO.1) (ci := 6) (q0 := 0) rfl rfl) rfl hl.1 rfl (Nat.le_of_ble_eq_true rfl) dX6_missingOf_20 ⟨Nat.zero_le _, Nat.zero_le _⟩ (fun H locs hW hS => ?_)
  refine lv_aload_n hx hb dX6_missingOf_23 rfl (lv_at hl 0 rfl) ?_
  refine lv_iload_n hx hb dX6_missingOf_24 rfl (lv_at hl 1 rfl) ?_
  have hc5 := hs
  refine kV_i (As := [.int x1]) (rest := [.int (fX6_sheepWorth a x1 h), .int (((fX6_needOf a x1 h) - (fX6_get a x1 4 h)) - (fX6_grainPaid a x1 h))]) ⟨hx, hb, hml, hown, hts⟩ (kX6_sheepPaid l X h a x1 hO hc5) (wX6_sheepPaid hts q4_194 ⟨Nat.le_of_ble_eq_true rfl, Nat.le_of_ble_eq_true rfl⟩) hK hW hS (va_recv hK.1 (hW.one hO.1) (ci := 6) (q0 := 0) rfl rfl) rfl hl.1 rfl (Nat.le_of_ble_eq_true rfl) dX6_missingOf_25 ⟨Nat.zero_le _, Nat.zero_le _⟩ (fun H locs hW hS => ?_)
  refine lv_imul hx hb dX6_missingOf_28 ?_
  refine lv_isub hx hb dX6_missingOf_29 ?_
  refine lv_istore_n (lv' := [(2, .int ((((fX6_needOf a x1 h) - (fX6_get a x1 4 h)) - (fX6_grainPaid a x1 h)) - ((fX6_sheepWorth a x1 h) * (fX6_sheepPaid a x1 h)))), (0, .ref a), (1, .int x1)]) hx hb dX6_missingOf_30 rfl hl (by decide) rfl (fun ls hl => ?_)
  refine lv_iload_n hx hb dX6_missingOf_31 rfl (lv_at hl 0 rfl) ?_
  refine lv_if_ge (tgt := 39) hx hb dX6_missingOf_32 (by decide) (fun c6 => ?_) (fun c6 => ?_)
  · have hres := (if_pos c6).symm.trans hres
    refine lv_iload_n hx hb dX6_missingOf_39 rfl (lv_at hl 0 rfl) ?_
    subst hres
    exact kr_i hx hb hr hlk hK hW hS dX6_missingOf_40
  · have hres := (if_neg c6).symm.trans hres
    refine lv_iconst (v := 0) hx hb dX6_missingOf_35 (by decide) ?_
    refine lv_goto (tgt := 40) hx hb dX6_missingOf_36 (by decide) ?_
    subst hres
    exact kr_i hx hb hr hlk hK hW hS dX6_missingOf_40
def fX6_missingOf (a : Nat) (x1 : Int32) (h : HH) : Int32 := fX6_missingOf_c0 a x1 h
def sX6_missingOf (a : Nat) (x1 : Int32) (h : HH) : Prop := sX6_missingOf_c0 a x1 h
set_option maxRecDepth 100000 in
set_option maxHeartbeats 4000000 in
theorem kX6_missingOf (l : Launch) (X : Cx) (h : HH) (a : Nat) (x1 : Int32) (hO : IsMo X a) (hs : sX6_missingOf a x1 h) : Met l yX6_missingOf vX6_missingOf rmX6_missingOf (va_Pc [.ref a, .int x1] (fun U => WS X h U)) (QI X (fX6_missingOf a x1 h) h) 0 0 (xA X) := by
  refine Met.ofW (cc := cX6_missingOf) (maxL := 3) (ret := some .int) (by decide) rfl ?_
  intro p e s m args below meth c s₁ B hml hv
  obtain ⟨rfl, hW, hK⟩ := hv
  have hl := lv_entry ([.ref a, .int x1]) (n := 3) (Nat.le_of_ble_eq_true rfl)
  rw [lg_entry_eq]
  generalize (lg_sl ([.ref a, .int x1]) ++ List.replicate (3 - (lg_sl ([.ref a, .int x1])).length) Slot.unset).toArray = ls at hl ⊢
  have hl : lv_has ls 3 [(0, .ref a), (1, .int x1)] := hl
  exact xX6_missingOf_c0 hO ⟨B.exec, B.bytes, B.returns, B.notSynchronized, hml, findClass_of_methodNamed B.named, fun w hw => atoms_spec (ws := vX6_missingOf) B.pre w (List.mem_cons_of_mem _ hw), hK⟩ x1 h _ _ ls _ (lv_sub hl [0, 1] rfl) hW va_S.rf hs rfl
-- VillageBoardModel.endsFor(I)V
abbrev rmX6_endsFor : Room := ({ frames := 6, cells := 0, slots := 0, locals := 131 } : Room)
abbrev vX6_endsFor : List Cond := Cond.code yX6_endsFor cX6_endsFor 6 none :: lwG
theorem wX6_endsFor {R : Room} {s : State} {args : Array Value} {own : String} {idx : Nat} (hg : ∀ w ∈ lwG, w.before args s = true) (hl : Cond.methodLink own idx yX6_endsFor ∈ lwG) (hR : rmX6_endsFor.frames + 1 ≤ R.frames ∧ 8 + (6 + 11) + rmX6_endsFor.locals ≤ R.locals) : CallW R s args own RX6 idx yX6_endsFor cX6_endsFor 6 none vX6_endsFor rmX6_endsFor 0 0 1 := cwV 1 hg (gV hl q4_184 q0_38 q1_7 q4_185) rfl rfl rfl (by decide +kernel) hR
def fX6_endsFor_c130 (a : Nat) (x1 : Int32) (h : HH) : HH := if (fX6_get a x1 2 h) ≤ 3 then h else (if (bI (fX6_has a x1 2 h)) = 0 then (hset h (a + 1) ((fX6_at x1 2).toNatClampNeg) 3) else h)
def sX6_endsFor_c130 (a : Nat) (x1 : Int32) (h : HH) : Prop := (sX6_get a x1 2 h) ∧ (((fX6_get a x1 2 h) ≤ 3 → True) ∧ (¬ ((fX6_get a x1 2 h) ≤ 3) → ((sX6_has a x1 2 h) ∧ (((bI (fX6_has a x1 2 h)) = 0 → (vp_in (fX6_at x1 2) 206)) ∧ (¬ ((bI (fX6_has a x1 2 h)) = 0) → True)))))
set_option maxRecDepth 100000 in
set_option maxHeartbeats 4000000 in
theorem xX6_endsFor_c130 {p : Program} {l : Launch} {e : Env} {s : State} {m : MethodId} {args : Array Value} {below : List Frame} {meth : Method} {c : Code} {X : Cx} {a : Nat} (hO : IsMo X a) (C0 : CT p s m args meth c X cX6_endsFor 6 none RX6) (x1 : Int32) (h : HH) (H : Heap) (locs : List Loc) (ls : Array Slot) (res : HH) (hl : lv_has ls 6 [(0, .ref a), (1, .int x1)]) (hW : WH X h H) (hS : va_S (xA X) s.heap H locs) (hs : sX6_endsFor_c130 a x1 h) (hres : fX6_endsFor_c130 a x1 h = res) : W p l e rmX6_endsFor s m args below meth c H locs 0 0 (MQ below (QV X res) args s 0 0 (xA X)) (F0 m 130 ls []) := by
  obtain ⟨hx, hb, hr, hlk, hml, hown, hts, hK⟩ := id C0
  refine lv_aload_n hx hb dX6_endsFor_130 rfl (lv_at hl 0 rfl) ?_
  refine lv_iload_n hx hb dX6_endsFor_131 rfl (lv_at hl 1 rfl) ?_
  refine lv_iconst (v := 2) hx hb dX6_endsFor_132 (by decide) ?_
  obtain ⟨hc15, hs⟩ := hs
  refine kV_i (As := [.int x1, .int 2]) (rest := []) ⟨hx, hb, hml, hown, hts⟩ (kX6_get l X h a x1 2 hO hc15) (wX6_get hts q4_41 ⟨Nat.le_of_ble_eq_true rfl, Nat.le_of_ble_eq_true rfl⟩) hK hW hS (va_recv hK.1 (hW.one hO.1) (ci := 6) (q0 := 0) rfl rfl) rfl hl.1 rfl (Nat.le_of_ble_eq_true rfl) dX6_endsFor_133 ⟨Nat.zero_le _, Nat.zero_le _⟩ (fun H locs hW hS => ?_)
  refine lv_iconst (v := 3) hx hb dX6_endsFor_136 (by decide) ?_
  refine lv_icmp_le (tgt := 160) hx hb dX6_endsFor_137 (by decide) (fun c16 => ?_) (fun c16 => ?_)
  · have hres := (if_pos c16).symm.trans hres
    have hs := And.left hs c16
    subst hres
    exact kr_v hx hb hr hlk hK hW hS dX6_endsFor_160
  · have hres := (if_neg c16).symm.trans hres
    have hs := And.right hs c16
    refine lv_aload_n hx hb dX6_endsFor_140 rfl (lv_at hl 0 rfl) ?_
    refine lv_iload_n hx hb dX6_endsFor_141 rfl (lv_at hl 1 rfl) ?_
    refine lv_iconst (v := 2) hx hb dX6_endsFor_142 (by decide) ?_
    obtain ⟨hc17, hs⟩ := hs
    refine kV_i (As := [.int x1, .int 2]) (rest := []) ⟨hx, hb, hml, hown, hts⟩ (kX6_has l X h a x1 2 hO hc17) (wX6_has hts q4_37 ⟨Nat.le_of_ble_eq_true rfl, Nat.le_of_ble_eq_true rfl⟩) hK hW hS (va_recv hK.1 (hW.one hO.1) (ci := 6) (q0 := 0) rfl rfl) rfl hl.1 rfl (Nat.le_of_ble_eq_true rfl) dX6_endsFor_143 ⟨Nat.zero_le _, Nat.zero_le _⟩ (fun H locs hW hS => ?_)
    refine lv_if_ne (tgt := 160) hx hb dX6_endsFor_146 (by decide) (fun c18 => ?_) (fun c18 => ?_)
    · have hres := (if_neg c18).symm.trans hres
      have hs := And.right hs c18
      subst hres
      exact kr_v hx hb hr hlk hK hW hS dX6_endsFor_160
    · have hres := (if_pos c18).symm.trans hres
      have hs := And.left hs c18
      refine lv_aload_n hx hb dX6_endsFor_149 rfl (lv_at hl 0 rfl) ?_
      refine g6_0 hx hb hts hown hK hW hO.1 (hts _ q4_49) dX6_endsFor_150 ?_
      refine lv_iload_n hx hb dX6_endsFor_153 rfl (lv_at hl 1 rfl) ?_
      refine lv_iconst (v := 2) hx hb dX6_endsFor_154 (by decide) ?_
      refine kS_i (As := [.int x1, .int 2]) (rest := [.ref (a + 1)]) ⟨hx, hb, hml, hown, hts⟩ (kX6_at l X h x1 2) (wX6_at hts q4_27 ⟨Nat.le_of_ble_eq_true rfl, Nat.le_of_ble_eq_true rfl⟩) hK hW hS rfl hl.1 rfl (Nat.le_of_ble_eq_true rfl) dX6_endsFor_155 ⟨Nat.zero_le _, Nat.zero_le _⟩ (fun H locs hW hS => ?_)
      refine lv_iconst (v := 3) hx hb dX6_endsFor_158 (by decide) ?_
      have hi19 := hs
      refine kb_iast hx hb hK hW hS hO.2.1 (k := (fX6_at x1 2).toNatClampNeg) rfl hi19 dX6_endsFor_159 (fun H locs hW hS => ?_)
      subst hres
      exact kr_v hx hb hr hlk hK hW hS dX6_endsFor_160
def fX6_endsFor_c127 (a : Nat) (x1 : Int32) (xs0 : Int32) (xs1 : Int32) (xs2 : Int32) (h : HH) : HH := fX6_endsFor_c130 a x1 (fX6_gets a xs2 xs1 xs0 h)
def sX6_endsFor_c127 (a : Nat) (x1 : Int32) (xs0 : Int32) (xs1 : Int32) (xs2 : Int32) (h : HH) : Prop := (sX6_gets a xs2 xs1 xs0 h) ∧ (sX6_endsFor_c130 a x1 (fX6_gets a xs2 xs1 xs0 h))
set_option maxRecDepth 100000 in
set_option maxHeartbeats 4000000 in
theorem xX6_endsFor_c127 {p : Program} {l : Launch} {e : Env} {s : State} {m : MethodId} {args : Array Value} {below : List Frame} {meth : Method} {c : Code} {X : Cx} {a : Nat} (hO : IsMo X a) (C0 : CT p s m args meth c X cX6_endsFor 6 none RX6) (x1 : Int32) (xs0 : Int32) (xs1 : Int32) (xs2 : Int32) (h : HH) (H : Heap) (locs : List Loc) (ls : Array Slot) (res : HH) (hl : lv_has ls 6 [(0, .ref a), (1, .int x1)]) (hW : WH X h H) (hS : va_S (xA X) s.heap H locs) (hs : sX6_endsFor_c127 a x1 xs0 xs1 xs2 h) (hres : fX6_endsFor_c127 a x1 xs0 xs1 xs2 h = res) : W p l e rmX6_endsFor s m args below meth c H locs 0 0 (MQ below (QV X res) args s 0 0 (xA X)) (F0 m 127 ls [.int xs0, .int xs1, .int xs2, .ref a]) := by
  obtain ⟨hx, hb, hr, hlk, hml, hown, hts, hK⟩ := id C0
  obtain ⟨hc14, hs⟩ := hs
  refine kV_v (As := [.int xs2, .int xs1, .int xs0]) (rest := []) ⟨hx, hb, hml, hown, hts⟩ (kX6_gets l X h a xs2 xs1 xs0 hO hc14) (wX6_gets hts q4_45 ⟨Nat.le_of_ble_eq_true rfl, Nat.le_of_ble_eq_true rfl⟩) hK hW hS (va_recv hK.1 (hW.one hO.1) (ci := 6) (q0 := 0) rfl rfl) rfl hl.1 rfl (Nat.le_of_ble_eq_true rfl) dX6_endsFor_127 ⟨Nat.zero_le _, Nat.zero_le _⟩ (fun H locs hW hS => ?_)
  exact xX6_endsFor_c130 hO C0 x1 (fX6_gets a xs2 xs1 xs0 h) _ _ _ _ (lv_sub hl [0, 1] rfl) hW hS hs hres
def fX6_endsFor_c115 (a : Nat) (x1 : Int32) (xs0 : Int32) (xs1 : Int32) (xs3 : Int32) (xs4 : Int32) (h : HH) : HH := if (fX6_get a xs1 xs0 h) ≤ 1 then (fX6_endsFor_c127 a x1 0 xs3 xs4 h) else (fX6_endsFor_c127 a x1 1 xs3 xs4 h)
def sX6_endsFor_c115 (a : Nat) (x1 : Int32) (xs0 : Int32) (xs1 : Int32) (xs3 : Int32) (xs4 : Int32) (h : HH) : Prop := (sX6_get a xs1 xs0 h) ∧ (((fX6_get a xs1 xs0 h) ≤ 1 → (sX6_endsFor_c127 a x1 0 xs3 xs4 h)) ∧ (¬ ((fX6_get a xs1 xs0 h) ≤ 1) → (sX6_endsFor_c127 a x1 1 xs3 xs4 h)))
set_option maxRecDepth 100000 in
set_option maxHeartbeats 4000000 in
theorem xX6_endsFor_c115 {p : Program} {l : Launch} {e : Env} {s : State} {m : MethodId} {args : Array Value} {below : List Frame} {meth : Method} {c : Code} {X : Cx} {a : Nat} (hO : IsMo X a) (C0 : CT p s m args meth c X cX6_endsFor 6 none RX6) (x1 : Int32) (xs0 : Int32) (xs1 : Int32) (xs3 : Int32) (xs4 : Int32) (h : HH) (H : Heap) (locs : List Loc) (ls : Array Slot) (res : HH) (hl : lv_has ls 6 [(0, .ref a), (1, .int x1)]) (hW : WH X h H) (hS : va_S (xA X) s.heap H locs) (hs : sX6_endsFor_c115 a x1 xs0 xs1 xs3 xs4 h) (hres : fX6_endsFor_c115 a x1 xs0 xs1 xs3 xs4 h = res) : W p l e rmX6_endsFor s m args below meth c H locs 0 0 (MQ below (QV X res) args s 0 0 (xA X)) (F0 m 115 ls [.int xs0, .int xs1, .ref a, .int xs3, .int xs4, .ref a]) := by
  obtain ⟨hx, hb, hr, hlk, hml, hown, hts, hK⟩ := id C0
  obtain ⟨hc12, hs⟩ := hs
  refine kV_i (As := [.int xs1, .int xs0]) (rest := [.int xs3, .int xs4, .ref a]) ⟨hx, hb, hml, hown, hts⟩ (kX6_get l X h a xs1 xs0 hO hc12) (wX6_get hts q4_41 ⟨Nat.le_of_ble_eq_true rfl, Nat.le_of_ble_eq_true rfl⟩) hK hW hS (va_recv hK.1 (hW.one hO.1) (ci := 6) (q0 := 0) rfl rfl) rfl hl.1 rfl (Nat.le_of_ble_eq_true rfl) dX6_endsFor_115 ⟨Nat.zero_le _, Nat.zero_le _⟩ (fun H locs hW hS => ?_)
  refine lv_iconst (v := 1) hx hb dX6_endsFor_118 (by decide) ?_
  refine lv_icmp_le (tgt := 126) hx hb dX6_endsFor_119 (by decide) (fun c13 => ?_) (fun c13 => ?_)
  · have hres := (if_pos c13).symm.trans hres
    have hs := And.left hs c13
    refine lv_iconst (v := 0) hx hb dX6_endsFor_126 (by decide) ?_
    exact xX6_endsFor_c127 hO C0 x1 0 xs3 xs4 h _ _ _ _ (lv_sub hl [0, 1] rfl) hW hS hs hres
  · have hres := (if_neg c13).symm.trans hres
    have hs := And.right hs c13
    refine lv_iconst (v := 1) hx hb dX6_endsFor_122 (by decide) ?_
    refine lv_goto (tgt := 127) hx hb dX6_endsFor_123 (by decide) ?_
    exact xX6_endsFor_c127 hO C0 x1 1 xs3 xs4 h _ _ _ _ (lv_sub hl [0, 1] rfl) hW hS hs hres
def fX6_endsFor_c94 (a : Nat) (x1 : Int32) (x5 : Int32) (xs0 : Int32) (xs1 : Int32) (xs2 : Int32) (h : HH) : HH := fX6_endsFor_c115 a x1 3 x1 3 x1 (hset (fX6_gets a xs2 xs1 xs0 h) (a + 1) ((fX6_at x1 4).toNatClampNeg) x5)
def sX6_endsFor_c94 (a : Nat) (x1 : Int32) (x5 : Int32) (xs0 : Int32) (xs1 : Int32) (xs2 : Int32) (h : HH) : Prop := (sX6_gets a xs2 xs1 xs0 h) ∧ ((vp_in (fX6_at x1 4) 206) ∧ (sX6_endsFor_c115 a x1 3 x1 3 x1 (hset (fX6_gets a xs2 xs1 xs0 h) (a + 1) ((fX6_at x1 4).toNatClampNeg) x5)))
set_option maxRecDepth 100000 in
set_option maxHeartbeats 4000000 in
theorem xX6_endsFor_c94 {p : Program} {l : Launch} {e : Env} {s : State} {m : MethodId} {args : Array Value} {below : List Frame} {meth : Method} {c : Code} {X : Cx} {a : Nat} (hO : IsMo X a) (C0 : CT p s m args meth c X cX6_endsFor 6 none RX6) (x1 : Int32) (x5 : Int32) (xs0 : Int32) (xs1 : Int32) (xs2 : Int32) (h : HH) (H : Heap) (locs : List Loc) (ls : Array Slot) (res : HH) (hl : lv_has ls 6 [(0, .ref a), (1, .int x1), (5, .int x5)]) (hW : WH X h H) (hS : va_S (xA X) s.heap H locs) (hs : sX6_endsFor_c94 a x1 x5 xs0 xs1 xs2 h) (hres : fX6_endsFor_c94 a x1 x5 xs0 xs1 xs2 h = res) : W p l e rmX6_endsFor s m args below meth c H locs 0 0 (MQ below (QV X res) args s 0 0 (xA X)) (F0 m 94 ls [.int xs0, .int xs1, .int xs2, .ref a]) := by
  obtain ⟨hx, hb, hr, hlk, hml, hown, hts, hK⟩ := id C0
  obtain ⟨hc10, hs⟩ := hs
  refine kV_v (As := [.int xs2, .int xs1, .int xs0]) (rest := []) ⟨hx, hb, hml, hown, hts⟩ (kX6_gets l X h a xs2 xs1 xs0 hO hc10) (wX6_gets hts q4_45 ⟨Nat.le_of_ble_eq_true rfl, Nat.le_of_ble_eq_true rfl⟩) hK hW hS (va_recv hK.1 (hW.one hO.1) (ci := 6) (q0 := 0) rfl rfl) rfl hl.1 rfl (Nat.le_of_ble_eq_true rfl) dX6_endsFor_94 ⟨Nat.zero_le _, Nat.zero_le _⟩ (fun H locs hW hS => ?_)
  refine lv_aload_n hx hb dX6_endsFor_97 rfl (lv_at hl 0 rfl) ?_
  refine g6_0 hx hb hts hown hK hW hO.1 (hts _ q4_49) dX6_endsFor_98 ?_
  refine lv_iload_n hx hb dX6_endsFor_101 rfl (lv_at hl 1 rfl) ?_
  refine lv_iconst (v := 4) hx hb dX6_endsFor_102 (by decide) ?_
  refine kS_i (As := [.int x1, .int 4]) (rest := [.ref (a + 1)]) ⟨hx, hb, hml, hown, hts⟩ (kX6_at l X (fX6_gets a xs2 xs1 xs0 h) x1 4) (wX6_at hts q4_27 ⟨Nat.le_of_ble_eq_true rfl, Nat.le_of_ble_eq_true rfl⟩) hK hW hS rfl hl.1 rfl (Nat.le_of_ble_eq_true rfl) dX6_endsFor_103 ⟨Nat.zero_le _, Nat.zero_le _⟩ (fun H locs hW hS => ?_)
  refine lv_iload hx hb dX6_endsFor_106 (lv_at hl 2 rfl) ?_
  obtain ⟨hi11, hs⟩ := hs
  refine kb_iast hx hb hK hW hS hO.2.1 (k := (fX6_at x1 4).toNatClampNeg) rfl hi11 dX6_endsFor_108 (fun H locs hW hS => ?_)
  refine lv_aload_n hx hb dX6_endsFor_109 rfl (lv_at hl 0 rfl) ?_
  refine lv_iload_n hx hb dX6_endsFor_110 rfl (lv_at hl 1 rfl) ?_
  refine lv_iconst (v := 3) hx hb dX6_endsFor_111 (by decide) ?_
  refine lv_aload_n hx hb dX6_endsFor_112 rfl (lv_at hl 0 rfl) ?_
  refine lv_iload_n hx hb dX6_endsFor_113 rfl (lv_at hl 1 rfl) ?_
  refine lv_iconst (v := 3) hx hb dX6_endsFor_114 (by decide) ?_
  exact xX6_endsFor_c115 hO C0 x1 3 x1 3 x1 (hset (fX6_gets a xs2 xs1 xs0 h) (a + 1) ((fX6_at x1 4).toNatClampNeg) x5) _ _ _ _ (lv_sub hl [0, 1] rfl) hW hS hs hres
def fX6_endsFor_c86 (a : Nat) (x1 : Int32) (x3 : Int32) (x5 : Int32) (xs0 : Int32) (xs1 : Int32) (xs2 : Int32) (h : HH) : HH := fX6_endsFor_c94 a x1 x5 (-x3) 3 x1 (fX6_gets a xs2 xs1 xs0 h)
def sX6_endsFor_c86 (a : Nat) (x1 : Int32) (x3 : Int32) (x5 : Int32) (xs0 : Int32) (xs1 : Int32) (xs2 : Int32) (h : HH) : Prop := (sX6_gets a xs2 xs1 xs0 h) ∧ (sX6_endsFor_c94 a x1 x5 (-x3) 3 x1 (fX6_gets a xs2 xs1 xs0 h))
set_option maxRecDepth 100000 in
set_option maxHeartbeats 4000000 in
theorem xX6_endsFor_c86 {p : Program} {l : Launch} {e : Env} {s : State} {m : MethodId} {args : Array Value} {below : List Frame} {meth : Method} {c : Code} {X : Cx} {a : Nat} (hO : IsMo X a) (C0 : CT p s m args meth c X cX6_endsFor 6 none RX6) (x1 : Int32) (x3 : Int32) (x5 : Int32) (xs0 : Int32) (xs1 : Int32) (xs2 : Int32) (h : HH) (H : Heap) (locs : List Loc) (ls : Array Slot) (res : HH) (hl : lv_has ls 6 [(0, .ref a), (1, .int x1), (3, .int x3), (5, .int x5)]) (hW : WH X h H) (hS : va_S (xA X) s.heap H locs) (hs : sX6_endsFor_c86 a x1 x3 x5 xs0 xs1 xs2 h) (hres : fX6_endsFor_c86 a x1 x3 x5 xs0 xs1 xs2 h = res) : W p l e rmX6_endsFor s m args below meth c H locs 0 0 (MQ below (QV X res) args s 0 0 (xA X)) (F0 m 86 ls [.int xs0, .int xs1, .int xs2, .ref a]) := by
  obtain ⟨hx, hb, hr, hlk, hml, hown, hts, hK⟩ := id C0
  obtain ⟨hc9, hs⟩ := hs
  refine kV_v (As := [.int xs2, .int xs1, .int xs0]) (rest := []) ⟨hx, hb, hml, hown, hts⟩ (kX6_gets l X h a xs2 xs1 xs0 hO hc9) (wX6_gets hts q4_45 ⟨Nat.le_of_ble_eq_true rfl, Nat.le_of_ble_eq_true rfl⟩) hK hW hS (va_recv hK.1 (hW.one hO.1) (ci := 6) (q0 := 0) rfl rfl) rfl hl.1 rfl (Nat.le_of_ble_eq_true rfl) dX6_endsFor_86 ⟨Nat.zero_le _, Nat.zero_le _⟩ (fun H locs hW hS => ?_)
  refine lv_aload_n hx hb dX6_endsFor_89 rfl (lv_at hl 0 rfl) ?_
  refine lv_iload_n hx hb dX6_endsFor_90 rfl (lv_at hl 1 rfl) ?_
  refine lv_iconst (v := 3) hx hb dX6_endsFor_91 (by decide) ?_
  refine lv_iload_n hx hb dX6_endsFor_92 rfl (lv_at hl 2 rfl) ?_
  refine lv_ineg hx hb dX6_endsFor_93 ?_
  exact xX6_endsFor_c94 hO C0 x1 x5 (-x3) 3 x1 (fX6_gets a xs2 xs1 xs0 h) _ _ _ _ (lv_sub hl [0, 1, 3] rfl) hW hS hs hres
def fX6_endsFor_c26 (a : Nat) (x1 : Int32) (h : HH) : HH := fX6_endsFor_c86 a x1 (fX6_sheepPaid a x1 h) (((((fX6_get a x1 4 h) + (fX6_grainPaid a x1 h)) + ((fX6_sheepWorth a x1 h) * (fX6_sheepPaid a x1 h))) + (fX6_missingOf a x1 h)) - (fX6_needOf a x1 h)) (-(fX6_grainPaid a x1 h)) 2 x1 (fX6_gets a x1 9 (fX6_missingOf a x1 h) h)
def sX6_endsFor_c26 (a : Nat) (x1 : Int32) (h : HH) : Prop := (sX6_grainPaid a x1 h) ∧ ((sX6_sheepPaid a x1 h) ∧ ((sX6_missingOf a x1 h) ∧ ((sX6_get a x1 4 h) ∧ ((sX6_sheepWorth a x1 h) ∧ ((sX6_needOf a x1 h) ∧ ((sX6_gets a x1 9 (fX6_missingOf a x1 h) h) ∧ (sX6_endsFor_c86 a x1 (fX6_sheepPaid a x1 h) (((((fX6_get a x1 4 h) + (fX6_grainPaid a x1 h)) + ((fX6_sheepWorth a x1 h) * (fX6_sheepPaid a x1 h))) + (fX6_missingOf a x1 h)) - (fX6_needOf a x1 h)) (-(fX6_grainPaid a x1 h)) 2 x1 (fX6_gets a x1 9 (fX6_missingOf a x1 h) h))))))))
set_option maxRecDepth 100000 in
set_option maxHeartbeats 4000000 in
theorem xX6_endsFor_c26 {p : Program} {l : Launch} {e : Env} {s : State} {m : MethodId} {args : Array Value} {below : List Frame} {meth : Method} {c : Code} {X : Cx} {a : Nat} (hO : IsMo X a) (C0 : CT p s m args meth c X cX6_endsFor 6 none RX6) (x1 : Int32) (h : HH) (H : Heap) (locs : List Loc) (ls : Array Slot) (res : HH) (hl : lv_has ls 6 [(0, .ref a), (1, .int x1)]) (hW : WH X h H) (hS : va_S (xA X) s.heap H locs) (hs : sX6_endsFor_c26 a x1 h) (hres : fX6_endsFor_c26 a x1 h = res) : W p l e rmX6_endsFor s m args below meth c H locs 0 0 (MQ below (QV X res) args s 0 0 (xA X)) (F0 m 26 ls []) := by
  obtain ⟨hx, hb, hr, hlk, hml, hown, hts, hK⟩ := id C0
  refine lv_aload_n hx hb dX6_endsFor_26 rfl (lv_at hl 0 rfl) ?_
  refine lv_iload_n hx hb dX6_endsFor_27 rfl (lv_at hl 1 rfl) ?_
  obtain ⟨hc2, hs⟩ := hs
  refine kV_i (As := [.int x1]) (rest := []) ⟨hx, hb, hml, hown, hts⟩ (kX6_grainPaid l X h a x1 hO hc2) (wX6_grainPaid hts q4_186 ⟨Nat.le_of_ble_eq_true rfl, Nat.le_of_ble_eq_true rfl⟩) hK hW hS (va_recv hK.1 (hW.one hO.1) (ci := 6) (q0 := 0) rfl rfl) rfl hl.1 rfl (Nat.le_of_ble_eq_true rfl) dX6_endsFor_28 ⟨Nat.zero_le _, Nat.zero_le _⟩ (fun H locs hW hS => ?_)
  refine lv_istore_n (lv' := [(2, .int (fX6_grainPaid a x1 h)), (0, .ref a), (1, .int x1)]) hx hb dX6_endsFor_31 rfl hl (by decide) rfl (fun ls hl => ?_)
  refine lv_aload_n hx hb dX6_endsFor_32 rfl (lv_at hl 1 rfl) ?_
  refine lv_iload_n hx hb dX6_endsFor_33 rfl (lv_at hl 2 rfl) ?_
  obtain ⟨hc3, hs⟩ := hs
  refine kV_i (As := [.int x1]) (rest := []) ⟨hx, hb, hml, hown, hts⟩ (kX6_sheepPaid l X h a x1 hO hc3) (wX6_sheepPaid hts q4_194 ⟨Nat.le_of_ble_eq_true rfl, Nat.le_of_ble_eq_true rfl⟩) hK hW hS (va_recv hK.1 (hW.one hO.1) (ci := 6) (q0 := 0) rfl rfl) rfl hl.1 rfl (Nat.le_of_ble_eq_true rfl) dX6_endsFor_34 ⟨Nat.zero_le _, Nat.zero_le _⟩ (fun H locs hW hS => ?_)
  refine lv_istore_n (lv' := [(3, .int (fX6_sheepPaid a x1 h)), (2, .int (fX6_grainPaid a x1 h)), (0, .ref a), (1, .int x1)]) hx hb dX6_endsFor_37 rfl hl (by decide) rfl (fun ls hl => ?_)
  refine lv_aload_n hx hb dX6_endsFor_38 rfl (lv_at hl 2 rfl) ?_
  refine lv_iload_n hx hb dX6_endsFor_39 rfl (lv_at hl 3 rfl) ?_
  obtain ⟨hc4, hs⟩ := hs
  refine kV_i (As := [.int x1]) (rest := []) ⟨hx, hb, hml, hown, hts⟩ (kX6_missingOf l X h a x1 hO hc4) (wX6_missingOf hts q4_202 ⟨Nat.le_of_ble_eq_true rfl, Nat.le_of_ble_eq_true rfl⟩) hK hW hS (va_recv hK.1 (hW.one hO.1) (ci := 6) (q0 := 0) rfl rfl) rfl hl.1 rfl (Nat.le_of_ble_eq_true rfl) dX6_endsFor_40 ⟨Nat.zero_le _, Nat.zero_le _⟩ (fun H locs hW hS => ?_)
  refine lv_istore (lv' := [(4, .int (fX6_missingOf a x1 h)), (3, .int (fX6_sheepPaid a x1 h)), (2, .int (fX6_grainPaid a x1 h)), (0, .ref a), (1, .int x1)]) hx hb dX6_endsFor_43 hl (by decide) rfl (fun ls hl => ?_)
  refine lv_aload_n hx hb dX6_endsFor_45 rfl (lv_at hl 3 rfl) ?_
  refine lv_iload_n hx hb dX6_endsFor_46 rfl (lv_at hl 4 rfl) ?_
  refine lv_iconst (v := 4) hx hb dX6_endsFor_47 (by decide) ?_
  obtain ⟨hc5, hs⟩ := hs
  refine kV_i (As := [.int x1, .int 4]) (rest := []) ⟨hx, hb, hml, hown, hts⟩ (kX6_get l X h a x1 4 hO hc5) (wX6_get hts q4_41 ⟨Nat.le_of_ble_eq_true rfl, Nat.le_of_ble_eq_true rfl⟩) hK hW hS (va_recv hK.1 (hW.one hO.1) (ci := 6) (q0 := 0) rfl rfl) rfl hl.1 rfl (Nat.le_of_ble_eq_true rfl) dX6_endsFor_48 ⟨Nat.zero_le _, Nat.zero_le _⟩ (fun H locs hW hS => ?_)
  refine lv_iload_n hx hb dX6_endsFor_51 rfl (lv_at hl 2 rfl) ?_
  refine lv_iadd hx hb dX6_endsFor_52 ?_
  refine lv_aload_n hx hb dX6_endsFor_53 rfl (lv_at hl 3 rfl) ?_
  refine lv_iload_n hx hb dX6_endsFor_54 rfl (lv_at hl 4 rfl) ?_
  obtain ⟨hc6, hs⟩ := hs
  refine kV_i (As := [.int x1]) (rest := [.int ((fX6_get a x1 4 h) + (fX6_grainPaid a x1 h))]) ⟨hx, hb, hml, hown, hts⟩ (kX6_sheepWorth l X h a x1 hO hc6) (wX6_sheepWorth hts q4_198 ⟨Nat.le_of_ble_eq_true rfl, Nat.le_of_ble_eq_true rfl⟩) hK hW hS (va_recv hK.1 (hW.one hO.1) (ci := 6) (q0 := 0) rfl rfl) rfl hl.1 rfl (Nat.le_of_ble_eq_true rfl) dX6_endsFor_55 ⟨Nat.zero_le _, Nat.zero_le _⟩ (fun H locs hW hS => ?_)
  refine lv_iload_n hx hb dX6_endsFor_58 rfl (lv_at hl 1 rfl) ?_
  refine lv_imul hx hb dX6_endsFor_59 ?_
  refine lv_iadd hx hb dX6_endsFor_60 ?_
  refine lv_iload hx hb dX6_endsFor_61 (lv_at hl 0 rfl) ?_
  refine lv_iadd hx hb dX6_endsFor_63 ?_
  refine lv_aload_n hx hb dX6_endsFor_64 rfl (lv_at hl 3 rfl) ?_
  refine lv_iload_n hx hb dX6_endsFor_65 rfl (lv_at hl 4 rfl) ?_
  obtain ⟨hc7, hs⟩ := hs
  refine kV_i (As := [.int x1]) (rest := [.int ((((fX6_get a x1 4 h) + (fX6_grainPaid a x1 h)) + ((fX6_sheepWorth a x1 h) * (fX6_sheepPaid a x1 h))) + (fX6_missingOf a x1 h))]) ⟨hx, hb, hml, hown, hts⟩ (kX6_needOf l X h a x1 hO hc7) (wX6_needOf hts q4_190 ⟨Nat.le_of_ble_eq_true rfl, Nat.le_of_ble_eq_true rfl⟩) hK hW hS (va_recv hK.1 (hW.one hO.1) (ci := 6) (q0 := 0) rfl rfl) rfl hl.1 rfl (Nat.le_of_ble_eq_true rfl) dX6_endsFor_66 ⟨Nat.zero_le _, Nat.zero_le _⟩ (fun H locs hW hS => ?_)
  refine lv_isub hx hb dX6_endsFor_69 ?_
  refine lv_istore (lv' := [(5, .int (((((fX6_get a x1 4 h) + (fX6_grainPaid a x1 h)) + ((fX6_sheepWorth a x1 h) * (fX6_sheepPaid a x1 h))) + (fX6_missingOf a x1 h)) - (fX6_needOf a x1 h))), (4, .int (fX6_missingOf a x1 h)), (3, .int (fX6_sheepPaid a x1 h)), (2, .int (fX6_grainPaid a x1 h)), (0, .ref a), (1, .int x1)]) hx hb dX6_endsFor_70 hl (by decide) rfl (fun ls hl => ?_)
  refine lv_aload_n hx hb dX6_endsFor_72 rfl (lv_at hl 4 rfl) ?_
  refine lv_iload_n hx hb dX6_endsFor_73 rfl (lv_at hl 5 rfl) ?_
  refine lv_bipush (v := 9) hx hb dX6_endsFor_74 (by decide) ?_
  refine lv_iload hx hb dX6_endsFor_76 (lv_at hl 1 rfl) ?_
  obtain ⟨hc8, hs⟩ := hs
  refine kV_v (As := [.int x1, .int 9, .int (fX6_missingOf a x1 h)]) (rest := []) ⟨hx, hb, hml, hown, hts⟩ (kX6_gets l X h a x1 9 (fX6_missingOf a x1 h) hO hc8) (wX6_gets hts q4_45 ⟨Nat.le_of_ble_eq_true rfl, Nat.le_of_ble_eq_true rfl⟩) hK hW hS (va_recv hK.1 (hW.one hO.1) (ci := 6) (q0 := 0) rfl rfl) rfl hl.1 rfl (Nat.le_of_ble_eq_true rfl) dX6_endsFor_78 ⟨Nat.zero_le _, Nat.zero_le _⟩ (fun H locs hW hS => ?_)
  refine lv_aload_n hx hb dX6_endsFor_81 rfl (lv_at hl 4 rfl) ?_
  refine lv_iload_n hx hb dX6_endsFor_82 rfl (lv_at hl 5 rfl) ?_
  refine lv_iconst (v := 2) hx hb dX6_endsFor_83 (by decide) ?_
  refine lv_iload_n hx hb dX6_endsFor_84 rfl (lv_at hl 3 rfl) ?_
  refine lv_ineg hx hb dX6_endsFor_85 ?_
  exact xX6_endsFor_c86 hO C0 x1 (fX6_sheepPaid a x1 h) (((((fX6_get a x1 4 h) + (fX6_grainPaid a x1 h)) + ((fX6_sheepWorth a x1 h) * (fX6_sheepPaid a x1 h))) + (fX6_missingOf a x1 h)) - (fX6_needOf a x1 h)) (-(fX6_grainPaid a x1 h)) 2 x1 (fX6_gets a x1 9 (fX6_missingOf a x1 h) h) _ _ _ _ (lv_sub hl [4, 5, 2, 0] rfl) hW hS hs hres
def fX6_endsFor_c0 (a : Nat) (x1 : Int32) (h : HH) : HH := if (jrem (h (a + 1) 2) 2) = 0 then (fX6_endsFor_c26 a x1 h) else (if (h (a + 1) 2) = (h (a + 1) 1) then (fX6_endsFor_c26 a x1 h) else (fX6_endsFor_c130 a x1 h))
def sX6_endsFor_c0 (a : Nat) (x1 : Int32) (h : HH) : Prop := ((jrem (h (a + 1) 2) 2) = 0 → (sX6_endsFor_c26 a x1 h)) ∧ (¬ ((jrem (h (a + 1) 2) 2) = 0) → (((h (a + 1) 2) = (h (a + 1) 1) → (sX6_endsFor_c26 a x1 h)) ∧ (¬ ((h (a + 1) 2) = (h (a + 1) 1)) → (sX6_endsFor_c130 a x1 h))))
set_option maxRecDepth 100000 in
set_option maxHeartbeats 4000000 in
theorem xX6_endsFor_c0 {p : Program} {l : Launch} {e : Env} {s : State} {m : MethodId} {args : Array Value} {below : List Frame} {meth : Method} {c : Code} {X : Cx} {a : Nat} (hO : IsMo X a) (C0 : CT p s m args meth c X cX6_endsFor 6 none RX6) (x1 : Int32) (h : HH) (H : Heap) (locs : List Loc) (ls : Array Slot) (res : HH) (hl : lv_has ls 6 [(0, .ref a), (1, .int x1)]) (hW : WH X h H) (hS : va_S (xA X) s.heap H locs) (hs : sX6_endsFor_c0 a x1 h) (hres : fX6_endsFor_c0 a x1 h = res) : W p l e rmX6_endsFor s m args below meth c H locs 0 0 (MQ below (QV X res) args s 0 0 (xA X)) (F0 m 0 ls []) := by
  obtain ⟨hx, hb, hr, hlk, hml, hown, hts, hK⟩ := id C0
  refine lv_aload_n hx hb dX6_endsFor_0 rfl (lv_at hl 0 rfl) ?_
  refine g6_0 hx hb hts hown hK hW hO.1 (hts _ q4_49) dX6_endsFor_1 ?_
  refine lv_iconst (v := 2) hx hb dX6_endsFor_4 (by decide) ?_
  refine kb_iald hx hb hK hW hO.2.1 (k := 2) (by decide) (vpd (by decide)) dX6_endsFor_5 ?_
  refine lv_iconst (v := 2) hx hb dX6_endsFor_6 (by decide) ?_
  refine kb_irem hx hb dX6_endsFor_7 (by decide) ?_
  refine lv_if_eq (tgt := 26) hx hb dX6_endsFor_8 (by decide) (fun c1 => ?_) (fun c1 => ?_)
  · have hres := (if_pos c1).symm.trans hres
    have hs := And.left hs c1
    exact xX6_endsFor_c26 hO C0 x1 h _ _ _ _ (lv_sub hl [0, 1] rfl) hW hS hs hres
  · have hres := (if_neg c1).symm.trans hres
    have hs := And.right hs c1
    refine lv_aload_n hx hb dX6_endsFor_11 rfl (lv_at hl 0 rfl) ?_
    refine g6_0 hx hb hts hown hK hW hO.1 (hts _ q4_49) dX6_endsFor_12 ?_
    refine lv_iconst (v := 2) hx hb dX6_endsFor_15 (by decide) ?_
    refine kb_iald hx hb hK hW hO.2.1 (k := 2) (by decide) (vpd (by decide)) dX6_endsFor_16 ?_
    refine lv_aload_n hx hb dX6_endsFor_17 rfl (lv_at hl 0 rfl) ?_
    refine g6_0 hx hb hts hown hK hW hO.1 (hts _ q4_49) dX6_endsFor_18 ?_
    refine lv_iconst (v := 1) hx hb dX6_endsFor_21 (by decide) ?_
    refine kb_iald hx hb hK hW hO.2.1 (k := 1) (by decide) (vpd (by decide)) dX6_endsFor_22 ?_
    refine lv_icmp_ne (tgt := 130) hx hb dX6_endsFor_23 (by decide) (fun c20 => ?_) (fun c20 => ?_)
    · have hres := (if_neg c20).symm.trans hres
      have hs := And.right hs c20
      exact xX6_endsFor_c130 hO C0 x1 h _ _ _ _ (lv_sub hl [0, 1] rfl) hW hS hs hres
    · have hres := (if_pos c20).symm.trans hres
      have hs := And.left hs c20
      exact xX6_endsFor_c26 hO C0 x1 h _ _ _ _ (lv_sub hl [0, 1] rfl) hW hS hs hres
def fX6_endsFor (a : Nat) (x1 : Int32) (h : HH) : HH := fX6_endsFor_c0 a x1 h
def sX6_endsFor (a : Nat) (x1 : Int32) (h : HH) : Prop := sX6_endsFor_c0 a x1 h
set_option maxRecDepth 100000 in
set_option maxHeartbeats 4000000 in
theorem kX6_endsFor (l : Launch) (X : Cx) (h : HH) (a : Nat) (x1 : Int32) (hO : IsMo X a) (hs : sX6_endsFor a x1 h) : Met l yX6_endsFor vX6_endsFor rmX6_endsFor (va_Pc [.ref a, .int x1] (fun U => WS X h U)) (QV X (fX6_endsFor a x1 h)) 0 0 (xA X) := by
  refine Met.ofW (cc := cX6_endsFor) (maxL := 6) (ret := none) (by decide) rfl ?_
  intro p e s m args below meth c s₁ B hml hv
  obtain ⟨rfl, hW, hK⟩ := hv
  have hl := lv_entry ([.ref a, .int x1]) (n := 6) (Nat.le_of_ble_eq_true rfl)
  rw [lg_entry_eq]
  generalize (lg_sl ([.ref a, .int x1]) ++ List.replicate (6 - (lg_sl ([.ref a, .int x1])).length) Slot.unset).toArray = ls at hl ⊢
  have hl : lv_has ls 6 [(0, .ref a), (1, .int x1)] := hl
  exact xX6_endsFor_c0 hO ⟨B.exec, B.bytes, B.returns, B.notSynchronized, hml, findClass_of_methodNamed B.named, fun w hw => atoms_spec (ws := vX6_endsFor) B.pre w (List.mem_cons_of_mem _ hw), hK⟩ x1 h _ _ ls _ (lv_sub hl [0, 1] rfl) hW va_S.rf hs rfl
-- VillageBoardModel.scoreOf(II)I
abbrev rmX6_scoreOf : Room := ({ frames := 3, cells := 0, slots := 0, locals := 65 } : Room)
abbrev vX6_scoreOf : List Cond := Cond.code yX6_scoreOf cX6_scoreOf 5 (some .int) :: lwG
theorem wX6_scoreOf {R : Room} {s : State} {args : Array Value} {own : String} {idx : Nat} (hg : ∀ w ∈ lwG, w.before args s = true) (hl : Cond.methodLink own idx yX6_scoreOf ∈ lwG) (hR : rmX6_scoreOf.frames + 1 ≤ R.frames ∧ 8 + (5 + 11) + rmX6_scoreOf.locals ≤ R.locals) : CallW R s args own RX6 idx yX6_scoreOf cX6_scoreOf 5 (some .int) vX6_scoreOf rmX6_scoreOf 0 0 2 := cwV 2 hg (gV hl q5_4 q0_51 q1_7 q5_5) rfl rfl rfl (by decide +kernel) hR
def fX6_scoreOf_c115 (a : Nat) (k88 : Int32 → Int32 → Int32 → HH → Int32) (x1 : Int32) (x4 : Int32) (xs0 : Int32) (xs1 : Int32) (h : HH) : Int32 := k88 x1 (xs1 + xs0) (x4 + 1) h
def sX6_scoreOf_c115 (a : Nat) (K88 : Int32 → Int32 → Int32 → HH → Prop) (x1 : Int32) (x4 : Int32) (xs0 : Int32) (xs1 : Int32) (h : HH) : Prop := K88 x1 (xs1 + xs0) (x4 + 1) h
set_option maxRecDepth 100000 in
set_option maxHeartbeats 4000000 in
theorem xX6_scoreOf_c115 {p : Program} {l : Launch} {e : Env} {s : State} {m : MethodId} {args : Array Value} {below : List Frame} {meth : Method} {c : Code} {X : Cx} {a : Nat} (hO : IsMo X a) (C0 : CT p s m args meth c X cX6_scoreOf 5 (some .int) RX6) {k88 : Int32 → Int32 → Int32 → HH → Int32} {K88 : Int32 → Int32 → Int32 → HH → Prop} (hk88 : ∀ (x1 : Int32) (x3 : Int32) (x4 : Int32) (h : HH) (H : Heap) (locs : List Loc) (ls : Array Slot) (res : Int32) (hl : lv_has ls 5 [(0, .ref a), (1, .int x1), (3, .int x3), (4, .int x4)]) (hW : WH X h H) (hS : va_S (xA X) s.heap H locs) (_ : K88 x1 x3 x4 h) (hres : k88 x1 x3 x4 h = res), W p l e rmX6_scoreOf s m args below meth c H locs 0 0 (MQ below (QI X res h) args s 0 0 (xA X)) (F0 m 88 ls [])) (x1 : Int32) (x4 : Int32) (xs0 : Int32) (xs1 : Int32) (h : HH) (H : Heap) (locs : List Loc) (ls : Array Slot) (res : Int32) (hl : lv_has ls 5 [(0, .ref a), (1, .int x1), (4, .int x4)]) (hW : WH X h H) (hS : va_S (xA X) s.heap H locs) (hs : sX6_scoreOf_c115 a K88 x1 x4 xs0 xs1 h) (hres : fX6_scoreOf_c115 a k88 x1 x4 xs0 xs1 h = res) : W p l e rmX6_scoreOf s m args below meth c H locs 0 0 (MQ below (QI X res h) args s 0 0 (xA X)) (F0 m 115 ls [.int xs0, .int xs1]) := by
  obtain ⟨hx, hb, hr, hlk, hml, hown, hts, hK⟩ := id C0
  refine lv_iadd hx hb dX6_scoreOf_115 ?_
  refine lv_istore_n (lv' := [(3, .int (xs1 + xs0)), (0, .ref a), (1, .int x1), (4, .int x4)]) hx hb dX6_scoreOf_116 rfl hl (by decide) rfl (fun ls hl => ?_)
  refine lv_iinc (v := x4 + 1) (lv' := [(4, .int (x4 + 1)), (3, .int (xs1 + xs0)), (0, .ref a), (1, .int x1)]) hx hb dX6_scoreOf_117 hl (k := 3) rfl rfl (by decide) rfl (fun ls hl => ?_)
  refine lv_goto (tgt := 88) hx hb dX6_scoreOf_120 (by decide) ?_
  exact hk88 x1 (xs1 + xs0) (x4 + 1) h _ _ _ _ (lv_sub hl [2, 3, 1, 0] rfl) hW hS hs hres
def fX6_scoreOf_c88 (a : Nat) : Nat → Int32 → Int32 → Int32 → HH → Int32
  | 0, x1, x3, x4, h => 0
  | n + 1, x1, x3, x4, h => if 8 ≤ x4 then x3 else (if (bI (fX6_has a x1 x4 h)) = 0 then (fX6_scoreOf_c115 a (fX6_scoreOf_c88 a n) x1 x4 0 x3 h) else (fX6_scoreOf_c115 a (fX6_scoreOf_c88 a n) x1 x4 (fX6_pointsOf x4) x3 h))
def sX6_scoreOf_c88 (a : Nat) : Nat → Int32 → Int32 → Int32 → HH → Prop
  | 0, _, _, _, _ => False
  | n + 1, x1, x3, x4, h => (8 ≤ x4 → True) ∧ (¬ (8 ≤ x4) → ((sX6_has a x1 x4 h) ∧ (((bI (fX6_has a x1 x4 h)) = 0 → (sX6_scoreOf_c115 a (sX6_scoreOf_c88 a n) x1 x4 0 x3 h)) ∧ (¬ ((bI (fX6_has a x1 x4 h)) = 0) → (sX6_scoreOf_c115 a (sX6_scoreOf_c88 a n) x1 x4 (fX6_pointsOf x4) x3 h)))))
set_option maxRecDepth 100000 in
set_option maxHeartbeats 4000000 in
theorem xX6_scoreOf_c88 {p : Program} {l : Launch} {e : Env} {s : State} {m : MethodId} {args : Array Value} {below : List Frame} {meth : Method} {c : Code} {X : Cx} {a : Nat} (hO : IsMo X a) (C0 : CT p s m args meth c X cX6_scoreOf 5 (some .int) RX6) : ∀ (n : Nat) (x1 : Int32) (x3 : Int32) (x4 : Int32) (h : HH) (H : Heap) (locs : List Loc) (ls : Array Slot) (res : Int32) (hl : lv_has ls 5 [(0, .ref a), (1, .int x1), (3, .int x3), (4, .int x4)]) (hW : WH X h H) (hS : va_S (xA X) s.heap H locs) (hs : sX6_scoreOf_c88 a n x1 x3 x4 h) (hres : fX6_scoreOf_c88 a n x1 x3 x4 h = res), W p l e rmX6_scoreOf s m args below meth c H locs 0 0 (MQ below (QI X res h) args s 0 0 (xA X)) (F0 m 88 ls []) := by
  obtain ⟨hx, hb, hr, hlk, hml, hown, hts, hK⟩ := id C0
  intro n
  induction n with
  | zero =>
    intro _ _ _ _ _ _ _ _ _ _ _ hs _
    exact hs.elim
  | succ n ih =>
    intro x1 x3 x4 h H locs ls res hl hW hS hs hres
    refine lv_iload hx hb dX6_scoreOf_88 (lv_at hl 3 rfl) ?_
    refine lv_bipush (v := 8) hx hb dX6_scoreOf_90 (by decide) ?_
    refine lv_icmp_ge (tgt := 123) hx hb dX6_scoreOf_92 (by decide) (fun c12 => ?_) (fun c12 => ?_)
    · have hres := (if_pos c12).symm.trans hres
      have hs := And.left hs c12
      refine lv_iload_n hx hb dX6_scoreOf_123 rfl (lv_at hl 2 rfl) ?_
      subst hres
      exact kr_i hx hb hr hlk hK hW hS dX6_scoreOf_124
    · have hres := (if_neg c12).symm.trans hres
      have hs := And.right hs c12
      refine lv_iload_n hx hb dX6_scoreOf_95 rfl (lv_at hl 2 rfl) ?_
      refine lv_aload_n hx hb dX6_scoreOf_96 rfl (lv_at hl 0 rfl) ?_
      refine lv_iload_n hx hb dX6_scoreOf_97 rfl (lv_at hl 1 rfl) ?_
      refine lv_iload hx hb dX6_scoreOf_98 (lv_at hl 3 rfl) ?_
      obtain ⟨hc13, hs⟩ := hs
      refine kV_i (As := [.int x1, .int x4]) (rest := [.int x3]) ⟨hx, hb, hml, hown, hts⟩ (kX6_has l X h a x1 x4 hO hc13) (wX6_has hts q4_37 ⟨Nat.le_of_ble_eq_true rfl, Nat.le_of_ble_eq_true rfl⟩) hK hW hS (va_recv hK.1 (hW.one hO.1) (ci := 6) (q0 := 0) rfl rfl) rfl hl.1 rfl (Nat.le_of_ble_eq_true rfl) dX6_scoreOf_100 ⟨Nat.zero_le _, Nat.zero_le _⟩ (fun H locs hW hS => ?_)
      refine lv_if_eq (tgt := 114) hx hb dX6_scoreOf_103 (by decide) (fun c14 => ?_) (fun c14 => ?_)
      · have hres := (if_pos c14).symm.trans hres
        have hs := And.left hs c14
        refine lv_iconst (v := 0) hx hb dX6_scoreOf_114 (by decide) ?_
        exact xX6_scoreOf_c115 hO C0 ih x1 x4 0 x3 h _ _ _ _ (lv_sub hl [0, 1, 3] rfl) hW hS hs hres
      · have hres := (if_neg c14).symm.trans hres
        have hs := And.right hs c14
        refine lv_iload hx hb dX6_scoreOf_106 (lv_at hl 3 rfl) ?_
        refine kS_i (As := [.int x4]) (rest := [.int x3]) ⟨hx, hb, hml, hown, hts⟩ (kX6_pointsOf l X h x4) (wX6_pointsOf hts q5_6 ⟨Nat.le_of_ble_eq_true rfl, Nat.le_of_ble_eq_true rfl⟩) hK hW hS rfl hl.1 rfl (Nat.le_of_ble_eq_true rfl) dX6_scoreOf_108 ⟨Nat.zero_le _, Nat.zero_le _⟩ (fun H locs hW hS => ?_)
        refine lv_goto (tgt := 115) hx hb dX6_scoreOf_111 (by decide) ?_
        exact xX6_scoreOf_c115 hO C0 ih x1 x4 (fX6_pointsOf x4) x3 h _ _ _ _ (lv_sub hl [0, 1, 3] rfl) hW hS hs hres
def fX6_scoreOf_c0 (a : Nat) (x1 : Int32) (x2 : Int32) (h : HH) : Int32 := if x2 = 0 then (3 * (fX6_get a x1 5 h)) else (if x2 = 1 then (fX6_get a x1 8 h) else (if x2 = 2 then (if 5 ≤ (fX6_get a x1 3 h) then 5 else (fX6_get a x1 3 h)) else (if x2 = 3 then ((fX6_get a x1 2 h) / 2) else (if x2 = 4 then (fX6_scoreOf_c88 a 9 x1 0 0 h) else ((-3) * (fX6_get a x1 9 h))))))
def sX6_scoreOf_c0 (a : Nat) (x1 : Int32) (x2 : Int32) (h : HH) : Prop := (x2 = 0 → (sX6_get a x1 5 h)) ∧ (¬ (x2 = 0) → ((x2 = 1 → (sX6_get a x1 8 h)) ∧ (¬ (x2 = 1) → ((x2 = 2 → ((sX6_get a x1 3 h) ∧ ((5 ≤ (fX6_get a x1 3 h) → True) ∧ (¬ (5 ≤ (fX6_get a x1 3 h)) → (sX6_get a x1 3 h))))) ∧ (¬ (x2 = 2) → ((x2 = 3 → (sX6_get a x1 2 h)) ∧ (¬ (x2 = 3) → ((x2 = 4 → (sX6_scoreOf_c88 a 9 x1 0 0 h)) ∧ (¬ (x2 = 4) → (sX6_get a x1 9 h))))))))))
set_option maxRecDepth 100000 in
set_option maxHeartbeats 4000000 in
theorem xX6_scoreOf_c0 {p : Program} {l : Launch} {e : Env} {s : State} {m : MethodId} {args : Array Value} {below : List Frame} {meth : Method} {c : Code} {X : Cx} {a : Nat} (hO : IsMo X a) (C0 : CT p s m args meth c X cX6_scoreOf 5 (some .int) RX6) (x1 : Int32) (x2 : Int32) (h : HH) (H : Heap) (locs : List Loc) (ls : Array Slot) (res : Int32) (hl : lv_has ls 5 [(0, .ref a), (1, .int x1), (2, .int x2)]) (hW : WH X h H) (hS : va_S (xA X) s.heap H locs) (hs : sX6_scoreOf_c0 a x1 x2 h) (hres : fX6_scoreOf_c0 a x1 x2 h = res) : W p l e rmX6_scoreOf s m args below meth c H locs 0 0 (MQ below (QI X res h) args s 0 0 (xA X)) (F0 m 0 ls []) := by
  obtain ⟨hx, hb, hr, hlk, hml, hown, hts, hK⟩ := id C0
  refine lv_iload_n hx hb dX6_scoreOf_0 rfl (lv_at hl 2 rfl) ?_
  by_cases c1 : x2 = 0
  · have hres := (if_pos c1).symm.trans hres
    have hs := And.left hs c1
    refine ksw_in (tgt := 36) hx hb 0 c1 dX6_scoreOf_1 (by decide) (by decide) rfl (by decide) ?_
    refine lv_iconst (v := 3) hx hb dX6_scoreOf_36 (by decide) ?_
    refine lv_aload_n hx hb dX6_scoreOf_37 rfl (lv_at hl 0 rfl) ?_
    refine lv_iload_n hx hb dX6_scoreOf_38 rfl (lv_at hl 1 rfl) ?_
    refine lv_iconst (v := 5) hx hb dX6_scoreOf_39 (by decide) ?_
    have hc2 := hs
    refine kV_i (As := [.int x1, .int 5]) (rest := [.int 3]) ⟨hx, hb, hml, hown, hts⟩ (kX6_get l X h a x1 5 hO hc2) (wX6_get hts q4_41 ⟨Nat.le_of_ble_eq_true rfl, Nat.le_of_ble_eq_true rfl⟩) hK hW hS (va_recv hK.1 (hW.one hO.1) (ci := 6) (q0 := 0) rfl rfl) rfl hl.1 rfl (Nat.le_of_ble_eq_true rfl) dX6_scoreOf_40 ⟨Nat.zero_le _, Nat.zero_le _⟩ (fun H locs hW hS => ?_)
    refine lv_imul hx hb dX6_scoreOf_43 ?_
    subst hres
    exact kr_i hx hb hr hlk hK hW hS dX6_scoreOf_44
  · have hres := (if_neg c1).symm.trans hres
    have hs := And.right hs c1
    by_cases c3 : x2 = 1
    · have hres := (if_pos c3).symm.trans hres
      have hs := And.left hs c3
      refine ksw_in (tgt := 45) hx hb 1 c3 dX6_scoreOf_1 (by decide) (by decide) rfl (by decide) ?_
      refine lv_aload_n hx hb dX6_scoreOf_45 rfl (lv_at hl 0 rfl) ?_
      refine lv_iload_n hx hb dX6_scoreOf_46 rfl (lv_at hl 1 rfl) ?_
      refine lv_bipush (v := 8) hx hb dX6_scoreOf_47 (by decide) ?_
      have hc4 := hs
      refine kV_i (As := [.int x1, .int 8]) (rest := []) ⟨hx, hb, hml, hown, hts⟩ (kX6_get l X h a x1 8 hO hc4) (wX6_get hts q4_41 ⟨Nat.le_of_ble_eq_true rfl, Nat.le_of_ble_eq_true rfl⟩) hK hW hS (va_recv hK.1 (hW.one hO.1) (ci := 6) (q0 := 0) rfl rfl) rfl hl.1 rfl (Nat.le_of_ble_eq_true rfl) dX6_scoreOf_49 ⟨Nat.zero_le _, Nat.zero_le _⟩ (fun H locs hW hS => ?_)
      subst hres
      exact kr_i hx hb hr hlk hK hW hS dX6_scoreOf_52
    · have hres := (if_neg c3).symm.trans hres
      have hs := And.right hs c3
      by_cases c5 : x2 = 2
      · have hres := (if_pos c5).symm.trans hres
        have hs := And.left hs c5
        refine ksw_in (tgt := 53) hx hb 2 c5 dX6_scoreOf_1 (by decide) (by decide) rfl (by decide) ?_
        refine lv_aload_n hx hb dX6_scoreOf_53 rfl (lv_at hl 0 rfl) ?_
        refine lv_iload_n hx hb dX6_scoreOf_54 rfl (lv_at hl 1 rfl) ?_
        refine lv_iconst (v := 3) hx hb dX6_scoreOf_55 (by decide) ?_
        obtain ⟨hc6, hs⟩ := hs
        refine kV_i (As := [.int x1, .int 3]) (rest := []) ⟨hx, hb, hml, hown, hts⟩ (kX6_get l X h a x1 3 hO hc6) (wX6_get hts q4_41 ⟨Nat.le_of_ble_eq_true rfl, Nat.le_of_ble_eq_true rfl⟩) hK hW hS (va_recv hK.1 (hW.one hO.1) (ci := 6) (q0 := 0) rfl rfl) rfl hl.1 rfl (Nat.le_of_ble_eq_true rfl) dX6_scoreOf_56 ⟨Nat.zero_le _, Nat.zero_le _⟩ (fun H locs hW hS => ?_)
        refine lv_iconst (v := 5) hx hb dX6_scoreOf_59 (by decide) ?_
        refine lv_icmp_ge (tgt := 72) hx hb dX6_scoreOf_60 (by decide) (fun c7 => ?_) (fun c7 => ?_)
        · have hres := (if_pos c7).symm.trans hres
          have hs := And.left hs c7
          refine lv_iconst (v := 5) hx hb dX6_scoreOf_72 (by decide) ?_
          subst hres
          exact kr_i hx hb hr hlk hK hW hS dX6_scoreOf_73
        · have hres := (if_neg c7).symm.trans hres
          have hs := And.right hs c7
          refine lv_aload_n hx hb dX6_scoreOf_63 rfl (lv_at hl 0 rfl) ?_
          refine lv_iload_n hx hb dX6_scoreOf_64 rfl (lv_at hl 1 rfl) ?_
          refine lv_iconst (v := 3) hx hb dX6_scoreOf_65 (by decide) ?_
          have hc8 := hs
          refine kV_i (As := [.int x1, .int 3]) (rest := []) ⟨hx, hb, hml, hown, hts⟩ (kX6_get l X h a x1 3 hO hc8) (wX6_get hts q4_41 ⟨Nat.le_of_ble_eq_true rfl, Nat.le_of_ble_eq_true rfl⟩) hK hW hS (va_recv hK.1 (hW.one hO.1) (ci := 6) (q0 := 0) rfl rfl) rfl hl.1 rfl (Nat.le_of_ble_eq_true rfl) dX6_scoreOf_66 ⟨Nat.zero_le _, Nat.zero_le _⟩ (fun H locs hW hS => ?_)
          refine lv_goto (tgt := 73) hx hb dX6_scoreOf_69 (by decide) ?_
          subst hres
          exact kr_i hx hb hr hlk hK hW hS dX6_scoreOf_73
      · have hres := (if_neg c5).symm.trans hres
        have hs := And.right hs c5
        by_cases c9 : x2 = 3
        · have hres := (if_pos c9).symm.trans hres
          have hs := And.left hs c9
          refine ksw_in (tgt := 74) hx hb 3 c9 dX6_scoreOf_1 (by decide) (by decide) rfl (by decide) ?_
          refine lv_aload_n hx hb dX6_scoreOf_74 rfl (lv_at hl 0 rfl) ?_
          refine lv_iload_n hx hb dX6_scoreOf_75 rfl (lv_at hl 1 rfl) ?_
          refine lv_iconst (v := 2) hx hb dX6_scoreOf_76 (by decide) ?_
          have hc10 := hs
          refine kV_i (As := [.int x1, .int 2]) (rest := []) ⟨hx, hb, hml, hown, hts⟩ (kX6_get l X h a x1 2 hO hc10) (wX6_get hts q4_41 ⟨Nat.le_of_ble_eq_true rfl, Nat.le_of_ble_eq_true rfl⟩) hK hW hS (va_recv hK.1 (hW.one hO.1) (ci := 6) (q0 := 0) rfl rfl) rfl hl.1 rfl (Nat.le_of_ble_eq_true rfl) dX6_scoreOf_77 ⟨Nat.zero_le _, Nat.zero_le _⟩ (fun H locs hW hS => ?_)
          refine lv_iconst (v := 2) hx hb dX6_scoreOf_80 (by decide) ?_
          refine lv_idiv hx hb dX6_scoreOf_81 (by decide) ?_
          subst hres
          exact kr_i hx hb hr hlk hK hW hS dX6_scoreOf_82
        · have hres := (if_neg c9).symm.trans hres
          have hs := And.right hs c9
          by_cases c11 : x2 = 4
          · have hres := (if_pos c11).symm.trans hres
            have hs := And.left hs c11
            refine ksw_in (tgt := 83) hx hb 4 c11 dX6_scoreOf_1 (by decide) (by decide) rfl (by decide) ?_
            refine lv_iconst (v := 0) hx hb dX6_scoreOf_83 (by decide) ?_
            refine lv_istore_n (lv' := [(3, .int 0), (0, .ref a), (1, .int x1), (2, .int x2)]) hx hb dX6_scoreOf_84 rfl hl (by decide) rfl (fun ls hl => ?_)
            refine lv_iconst (v := 0) hx hb dX6_scoreOf_85 (by decide) ?_
            refine lv_istore (lv' := [(4, .int 0), (3, .int 0), (0, .ref a), (1, .int x1), (2, .int x2)]) hx hb dX6_scoreOf_86 hl (by decide) rfl (fun ls hl => ?_)
            exact xX6_scoreOf_c88 hO C0 9 x1 0 0 h _ _ _ _ (lv_sub hl [2, 3, 1, 0] rfl) hW hS hs hres
          · have hres := (if_neg c11).symm.trans hres
            have hs := And.right hs c11
            refine lv_tableOut (tgt := 125) hx hb dX6_scoreOf_1 (by have := lv_neT (a := 0) c1 (by decide); have := lv_neT (a := 1) c3 (by decide); have := lv_neT (a := 2) c5 (by decide); have := lv_neT (a := 3) c9 (by decide); have := lv_neT (a := 4) c11 (by decide); omega) (by decide) ?_
            refine lv_bipush (v := (-3)) hx hb dX6_scoreOf_125 (by decide) ?_
            refine lv_aload_n hx hb dX6_scoreOf_127 rfl (lv_at hl 0 rfl) ?_
            refine lv_iload_n hx hb dX6_scoreOf_128 rfl (lv_at hl 1 rfl) ?_
            refine lv_bipush (v := 9) hx hb dX6_scoreOf_129 (by decide) ?_
            have hc15 := hs
            refine kV_i (As := [.int x1, .int 9]) (rest := [.int (-3)]) ⟨hx, hb, hml, hown, hts⟩ (kX6_get l X h a x1 9 hO hc15) (wX6_get hts q4_41 ⟨Nat.le_of_ble_eq_true rfl, Nat.le_of_ble_eq_true rfl⟩) hK hW hS (va_recv hK.1 (hW.one hO.1) (ci := 6) (q0 := 0) rfl rfl) rfl hl.1 rfl (Nat.le_of_ble_eq_true rfl) dX6_scoreOf_131 ⟨Nat.zero_le _, Nat.zero_le _⟩ (fun H locs hW hS => ?_)
            refine lv_imul hx hb dX6_scoreOf_134 ?_
            subst hres
            exact kr_i hx hb hr hlk hK hW hS dX6_scoreOf_135
def fX6_scoreOf (a : Nat) (x1 : Int32) (x2 : Int32) (h : HH) : Int32 := fX6_scoreOf_c0 a x1 x2 h
def sX6_scoreOf (a : Nat) (x1 : Int32) (x2 : Int32) (h : HH) : Prop := sX6_scoreOf_c0 a x1 x2 h
set_option maxRecDepth 100000 in
set_option maxHeartbeats 4000000 in
theorem kX6_scoreOf (l : Launch) (X : Cx) (h : HH) (a : Nat) (x1 : Int32) (x2 : Int32) (hO : IsMo X a) (hs : sX6_scoreOf a x1 x2 h) : Met l yX6_scoreOf vX6_scoreOf rmX6_scoreOf (va_Pc [.ref a, .int x1, .int x2] (fun U => WS X h U)) (QI X (fX6_scoreOf a x1 x2 h) h) 0 0 (xA X) := by
  refine Met.ofW (cc := cX6_scoreOf) (maxL := 5) (ret := some .int) (by decide) rfl ?_
  intro p e s m args below meth c s₁ B hml hv
  obtain ⟨rfl, hW, hK⟩ := hv
  have hl := lv_entry ([.ref a, .int x1, .int x2]) (n := 5) (Nat.le_of_ble_eq_true rfl)
  rw [lg_entry_eq]
  generalize (lg_sl ([.ref a, .int x1, .int x2]) ++ List.replicate (5 - (lg_sl ([.ref a, .int x1, .int x2])).length) Slot.unset).toArray = ls at hl ⊢
  have hl : lv_has ls 5 [(0, .ref a), (1, .int x1), (2, .int x2)] := hl
  exact xX6_scoreOf_c0 hO ⟨B.exec, B.bytes, B.returns, B.notSynchronized, hml, findClass_of_methodNamed B.named, fun w hw => atoms_spec (ws := vX6_scoreOf) B.pre w (List.mem_cons_of_mem _ hw), hK⟩ x1 x2 h _ _ ls _ (lv_sub hl [0, 1, 2] rfl) hW va_S.rf hs rfl
-- VillageBoardModel.isOver()Z
abbrev rmX6_isOver : Room := ({ frames := 0, cells := 0, slots := 0, locals := 0 } : Room)
abbrev vX6_isOver : List Cond := Cond.code yX6_isOver cX6_isOver 1 (some .boolean) :: lwG
theorem wX6_isOver {R : Room} {s : State} {args : Array Value} {own : String} {idx : Nat} (hg : ∀ w ∈ lwG, w.before args s = true) (hl : Cond.methodLink own idx yX6_isOver ∈ lwG) (hR : rmX6_isOver.frames + 1 ≤ R.frames ∧ 8 + (1 + 11) + rmX6_isOver.locals ≤ R.locals) : CallW R s args own RX6 idx yX6_isOver cX6_isOver 1 (some .boolean) vX6_isOver rmX6_isOver 0 0 0 := cwV 0 hg (gV hl q4_116 q0_25 q1_7 q4_117) rfl rfl rfl (by decide +kernel) hR
def fX6_isOver_c0 (a : Nat) (h : HH) : Bool := if (h (a + 1) 2) ≤ (h (a + 1) 1) then false else true
set_option maxRecDepth 100000 in
set_option maxHeartbeats 4000000 in
theorem xX6_isOver_c0 {p : Program} {l : Launch} {e : Env} {s : State} {m : MethodId} {args : Array Value} {below : List Frame} {meth : Method} {c : Code} {X : Cx} {a : Nat} (hO : IsMo X a) (C0 : CT p s m args meth c X cX6_isOver 1 (some .boolean) RX6) (h : HH) (H : Heap) (locs : List Loc) (ls : Array Slot) (res : Bool) (hl : lv_has ls 1 [(0, .ref a)]) (hW : WH X h H) (hS : va_S (xA X) s.heap H locs) (hres : fX6_isOver_c0 a h = res) : W p l e rmX6_isOver s m args below meth c H locs 0 0 (MQ below (QI X (bI res) h) args s 0 0 (xA X)) (F0 m 0 ls []) := by
  obtain ⟨hx, hb, hr, hlk, hml, hown, hts, hK⟩ := id C0
  refine lv_aload_n hx hb dX6_isOver_0 rfl (lv_at hl 0 rfl) ?_
  refine g6_0 hx hb hts hown hK hW hO.1 (hts _ q4_49) dX6_isOver_1 ?_
  refine lv_iconst (v := 2) hx hb dX6_isOver_4 (by decide) ?_
  refine kb_iald hx hb hK hW hO.2.1 (k := 2) (by decide) (vpd (by decide)) dX6_isOver_5 ?_
  refine lv_aload_n hx hb dX6_isOver_6 rfl (lv_at hl 0 rfl) ?_
  refine g6_0 hx hb hts hown hK hW hO.1 (hts _ q4_49) dX6_isOver_7 ?_
  refine lv_iconst (v := 1) hx hb dX6_isOver_10 (by decide) ?_
  refine kb_iald hx hb hK hW hO.2.1 (k := 1) (by decide) (vpd (by decide)) dX6_isOver_11 ?_
  refine lv_icmp_le (tgt := 19) hx hb dX6_isOver_12 (by decide) (fun c1 => ?_) (fun c1 => ?_)
  · have hres := (if_pos c1).symm.trans hres
    refine lv_iconst (v := 0) hx hb dX6_isOver_19 (by decide) ?_
    subst hres
    exact kr_z (v := false) hx hb hr hlk hK hW hS dX6_isOver_20
  · have hres := (if_neg c1).symm.trans hres
    refine lv_iconst (v := 1) hx hb dX6_isOver_15 (by decide) ?_
    refine lv_goto (tgt := 20) hx hb dX6_isOver_16 (by decide) ?_
    subst hres
    exact kr_z (v := true) hx hb hr hlk hK hW hS dX6_isOver_20
def fX6_isOver (a : Nat) (h : HH) : Bool := fX6_isOver_c0 a h
set_option maxRecDepth 100000 in
set_option maxHeartbeats 4000000 in
theorem kX6_isOver (l : Launch) (X : Cx) (h : HH) (a : Nat) (hO : IsMo X a) : Met l yX6_isOver vX6_isOver rmX6_isOver (va_Pc [.ref a] (fun U => WS X h U)) (QI X (bI (fX6_isOver a h)) h) 0 0 (xA X) := by
  refine Met.ofW (cc := cX6_isOver) (maxL := 1) (ret := some .boolean) (by decide) rfl ?_
  intro p e s m args below meth c s₁ B hml hv
  obtain ⟨rfl, hW, hK⟩ := hv
  have hl := lv_entry ([.ref a]) (n := 1) (Nat.le_of_ble_eq_true rfl)
  rw [lg_entry_eq]
  generalize (lg_sl ([.ref a]) ++ List.replicate (1 - (lg_sl ([.ref a])).length) Slot.unset).toArray = ls at hl ⊢
  have hl : lv_has ls 1 [(0, .ref a)] := hl
  exact xX6_isOver_c0 hO ⟨B.exec, B.bytes, B.returns, B.notSynchronized, hml, findClass_of_methodNamed B.named, fun w hw => atoms_spec (ws := vX6_isOver) B.pre w (List.mem_cons_of_mem _ hw), hK⟩ h _ _ ls _ (lv_sub hl [0] rfl) hW va_S.rf rfl
