-- VillageBoard$Player.begin(I)V
abbrev rmX2_begin : Room := ({ frames := 0, cells := 0, slots := 0, locals := 0 } : Room)
abbrev vX2_begin : List Cond := Cond.code yX2_begin cX2_begin 3 none :: lwG
theorem wX2_begin {R : Room} {s : State} {args : Array Value} {own : String} {idx : Nat} (hg : ∀ w ∈ lwG, w.before args s = true) (hl : Cond.methodLink own idx yX2_begin ∈ lwG) (hR : rmX2_begin.frames + 1 ≤ R.frames ∧ 8 + (3 + 11) + rmX2_begin.locals ≤ R.locals) : CallW R s args own RX2 idx yX2_begin cX2_begin 3 none vX2_begin rmX2_begin 0 0 1 := cwV 1 hg (gV hl q1_193 q1_194 q1_4 q1_195) rfl rfl rfl (by decide +kernel) hR
def fX2_begin_c2 (a : Nat) : Nat → Int32 → Int32 → HH → HH
  | 0, x1, x2, h => h
  | n + 1, x1, x2, h => if 5 ≤ x2 then (hset (hset (hset (hset (hset h (a + 1) 4 x1) a 1 2) a 4 2) a 5 0) a 6 0) else ((fX2_begin_c2 a n) x1 (x2 + 1) (hset h (a + 1) x2.toNatClampNeg 0))
def sX2_begin_c2 (a : Nat) : Nat → Int32 → Int32 → HH → Prop
  | 0, _, _, _ => False
  | n + 1, x1, x2, h => (5 ≤ x2 → True) ∧ (¬ (5 ≤ x2) → ((vp_in x2 5) ∧ ((sX2_begin_c2 a n) x1 (x2 + 1) (hset h (a + 1) x2.toNatClampNeg 0))))
set_option maxRecDepth 100000 in
set_option maxHeartbeats 4000000 in
theorem xX2_begin_c2 {p : Program} {l : Launch} {e : Env} {s : State} {m : MethodId} {args : Array Value} {below : List Frame} {meth : Method} {c : Code} {X : Cx} {a : Nat} (hO : IsPl X a) (C0 : CT p s m args meth c X cX2_begin 3 none RX2) : ∀ (n : Nat) (x1 : Int32) (x2 : Int32) (h : HH) (H : Heap) (locs : List Loc) (ls : Array Slot) (res : HH) (hl : lv_has ls 3 [(0, .ref a), (1, .int x1), (2, .int x2)]) (hW : WH X h H) (hS : va_S (xA X) s.heap H locs) (hs : sX2_begin_c2 a n x1 x2 h) (hres : fX2_begin_c2 a n x1 x2 h = res), W p l e rmX2_begin s m args below meth c H locs 0 0 (MQ below (QV X res) args s 0 0 (xA X)) (F0 m 2 ls []) := by
  obtain ⟨hx, hb, hr, hlk, hml, hown, hts, hK⟩ := id C0
  intro n
  induction n with
  | zero =>
    intro _ _ _ _ _ _ _ _ _ _ hs _
    exact hs.elim
  | succ n ih =>
    intro x1 x2 h H locs ls res hl hW hS hs hres
    refine lv_iload_n hx hb dX2_begin_2 rfl (lv_at hl 2 rfl) ?_
    refine lv_iconst (v := 5) hx hb dX2_begin_3 (by decide) ?_
    refine lv_icmp_ge (tgt := 20) hx hb dX2_begin_4 (by decide) (fun c1 => ?_) (fun c1 => ?_)
    · have hres := (if_pos c1).symm.trans hres
      have hs := And.left hs c1
      refine lv_aload_n hx hb dX2_begin_20 rfl (lv_at hl 0 rfl) ?_
      refine g2_0 hx hb hts hown hK hW hO.1 (hts _ q1_55) dX2_begin_21 ?_
      refine lv_iconst (v := 4) hx hb dX2_begin_24 (by decide) ?_
      refine lv_iload_n hx hb dX2_begin_25 rfl (lv_at hl 1 rfl) ?_
      refine kb_iast hx hb hK hW hS hO.2 (k := 4) (by decide) (vpd (by decide)) dX2_begin_26 (fun H locs hW hS => ?_)
      refine lv_aload_n hx hb dX2_begin_27 rfl (lv_at hl 0 rfl) ?_
      refine lv_iconst (v := 2) hx hb dX2_begin_28 (by decide) ?_
      refine p2_1 hx hb hts hown hK hW hS hO.1 (hts _ q1_58) dX2_begin_29 (fun H locs hW hS => ?_)
      refine lv_aload_n hx hb dX2_begin_32 rfl (lv_at hl 0 rfl) ?_
      refine lv_iconst (v := 2) hx hb dX2_begin_33 (by decide) ?_
      refine p2_4 hx hb hts hown hK hW hS hO.1 (hts _ q1_63) dX2_begin_34 (fun H locs hW hS => ?_)
      refine lv_aload_n hx hb dX2_begin_37 rfl (lv_at hl 0 rfl) ?_
      refine lv_iconst (v := 0) hx hb dX2_begin_38 (by decide) ?_
      refine p2_5 hx hb hts hown hK hW hS hO.1 (hts _ q1_65) dX2_begin_39 (fun H locs hW hS => ?_)
      refine lv_aload_n hx hb dX2_begin_42 rfl (lv_at hl 0 rfl) ?_
      refine lv_iconst (v := 0) hx hb dX2_begin_43 (by decide) ?_
      refine p2_6 hx hb hts hown hK hW hS hO.1 (hts _ q1_66) dX2_begin_44 (fun H locs hW hS => ?_)
      subst hres
      exact kr_v hx hb hr hlk hK hW hS dX2_begin_47
    · have hres := (if_neg c1).symm.trans hres
      have hs := And.right hs c1
      refine lv_aload_n hx hb dX2_begin_7 rfl (lv_at hl 0 rfl) ?_
      refine g2_0 hx hb hts hown hK hW hO.1 (hts _ q1_55) dX2_begin_8 ?_
      refine lv_iload_n hx hb dX2_begin_11 rfl (lv_at hl 2 rfl) ?_
      refine lv_iconst (v := 0) hx hb dX2_begin_12 (by decide) ?_
      obtain ⟨hi2, hs⟩ := hs
      refine kb_iast hx hb hK hW hS hO.2 (k := x2.toNatClampNeg) rfl hi2 dX2_begin_13 (fun H locs hW hS => ?_)
      refine lv_iinc (v := x2 + 1) (lv' := [(2, .int (x2 + 1)), (0, .ref a), (1, .int x1)]) hx hb dX2_begin_14 hl (k := 2) rfl rfl (by decide) rfl (fun ls hl => ?_)
      refine lv_goto (tgt := 2) hx hb dX2_begin_17 (by decide) ?_
      exact ih x1 (x2 + 1) (hset h (a + 1) x2.toNatClampNeg 0) _ _ _ _ (lv_sub hl [1, 2, 0] rfl) hW hS hs hres
def fX2_begin_c0 (a : Nat) (x1 : Int32) (h : HH) : HH := fX2_begin_c2 a 6 x1 0 h
def sX2_begin_c0 (a : Nat) (x1 : Int32) (h : HH) : Prop := sX2_begin_c2 a 6 x1 0 h
set_option maxRecDepth 100000 in
set_option maxHeartbeats 4000000 in
theorem xX2_begin_c0 {p : Program} {l : Launch} {e : Env} {s : State} {m : MethodId} {args : Array Value} {below : List Frame} {meth : Method} {c : Code} {X : Cx} {a : Nat} (hO : IsPl X a) (C0 : CT p s m args meth c X cX2_begin 3 none RX2) (x1 : Int32) (h : HH) (H : Heap) (locs : List Loc) (ls : Array Slot) (res : HH) (hl : lv_has ls 3 [(0, .ref a), (1, .int x1)]) (hW : WH X h H) (hS : va_S (xA X) s.heap H locs) (hs : sX2_begin_c0 a x1 h) (hres : fX2_begin_c0 a x1 h = res) : W p l e rmX2_begin s m args below meth c H locs 0 0 (MQ below (QV X res) args s 0 0 (xA X)) (F0 m 0 ls []) := by
  obtain ⟨hx, hb, hr, hlk, hml, hown, hts, hK⟩ := id C0
  refine lv_iconst (v := 0) hx hb dX2_begin_0 (by decide) ?_
  refine lv_istore_n (lv' := [(2, .int 0), (0, .ref a), (1, .int x1)]) hx hb dX2_begin_1 rfl hl (by decide) rfl (fun ls hl => ?_)
  exact xX2_begin_c2 hO C0 6 x1 0 h _ _ _ _ (lv_sub hl [1, 2, 0] rfl) hW hS hs hres
def fX2_begin (a : Nat) (x1 : Int32) (h : HH) : HH := fX2_begin_c0 a x1 h
def sX2_begin (a : Nat) (x1 : Int32) (h : HH) : Prop := sX2_begin_c0 a x1 h
set_option maxRecDepth 100000 in
set_option maxHeartbeats 4000000 in
theorem kX2_begin (l : Launch) (X : Cx) (h : HH) (a : Nat) (x1 : Int32) (hO : IsPl X a) (hs : sX2_begin a x1 h) : Met l yX2_begin vX2_begin rmX2_begin (va_Pc [.ref a, .int x1] (fun U => WS X h U)) (QV X (fX2_begin a x1 h)) 0 0 (xA X) := by
  refine Met.ofW (cc := cX2_begin) (maxL := 3) (ret := none) (by decide) rfl ?_
  intro p e s m args below meth c s₁ B hml hv
  obtain ⟨rfl, hW, hK⟩ := hv
  have hl := lv_entry ([.ref a, .int x1]) (n := 3) (Nat.le_of_ble_eq_true rfl)
  rw [lg_entry_eq]
  generalize (lg_sl ([.ref a, .int x1]) ++ List.replicate (3 - (lg_sl ([.ref a, .int x1])).length) Slot.unset).toArray = ls at hl ⊢
  have hl : lv_has ls 3 [(0, .ref a), (1, .int x1)] := hl
  exact xX2_begin_c0 hO ⟨B.exec, B.bytes, B.returns, B.notSynchronized, hml, findClass_of_methodNamed B.named, fun w hw => atoms_spec (ws := vX2_begin) B.pre w (List.mem_cons_of_mem _ hw), hK⟩ x1 h _ _ ls _ (lv_sub hl [0, 1] rfl) hW va_S.rf hs rfl
-- VillageBoard$Player.copyFrom(LVillageBoard$Player;)V
abbrev rmX2_copyFrom : Room := ({ frames := 1, cells := 0, slots := 0, locals := 60 } : Room)
abbrev vX2_copyFrom : List Cond := Cond.code yX2_copyFrom cX2_copyFrom 2 none :: lwG
theorem wX2_copyFrom {R : Room} {s : State} {args : Array Value} {own : String} {idx : Nat} (hg : ∀ w ∈ lwG, w.before args s = true) (hl : Cond.methodLink own idx yX2_copyFrom ∈ lwG) (hR : rmX2_copyFrom.frames + 1 ≤ R.frames ∧ 8 + (2 + 11) + rmX2_copyFrom.locals ≤ R.locals) : CallW R s args own RX2 idx yX2_copyFrom cX2_copyFrom 2 none vX2_copyFrom rmX2_copyFrom 0 0 1 := cwV 1 hg (gV hl q2_128 q2_129 q1_4 q2_130) rfl rfl rfl (by decide +kernel) hR
def fX2_copyFrom_c56 (a : Nat) (r1 : Nat) (h : HH) : HH := hset h a 6 (h r1 6)
set_option maxRecDepth 100000 in
set_option maxHeartbeats 4000000 in
theorem xX2_copyFrom_c56 {p : Program} {l : Launch} {e : Env} {s : State} {m : MethodId} {args : Array Value} {below : List Frame} {meth : Method} {c : Code} {X : Cx} {a : Nat} {r1 : Nat} (hO : IsPl X a) (hr1 : IsPl X r1) (C0 : CT p s m args meth c X cX2_copyFrom 2 none RX2) (h : HH) (H : Heap) (locs : List Loc) (ls : Array Slot) (res : HH) (hl : lv_has ls 2 []) (hW : WH X h H) (hS : va_S (xA X) s.heap H locs) (hres : fX2_copyFrom_c56 a r1 h = res) : W p l e rmX2_copyFrom s m args below meth c H locs 0 0 (MQ below (QV X res) args s 0 0 (xA X)) (F0 m 56 ls [.ref r1, .ref a]) := by
  obtain ⟨hx, hb, hr, hlk, hml, hown, hts, hK⟩ := id C0
  refine g2_6 hx hb hts hown hK hW hr1.1 (hts _ q1_66) dX2_copyFrom_56 ?_
  refine p2_6 hx hb hts hown hK hW hS hO.1 (hts _ q1_66) dX2_copyFrom_59 (fun H locs hW hS => ?_)
  subst hres
  exact kr_v hx hb hr hlk hK hW hS dX2_copyFrom_62
def fX2_copyFrom_c48 (a : Nat) (r1 : Nat) (h : HH) : HH := fX2_copyFrom_c56 a r1 (hset h a 5 (h r1 5))
set_option maxRecDepth 100000 in
set_option maxHeartbeats 4000000 in
theorem xX2_copyFrom_c48 {p : Program} {l : Launch} {e : Env} {s : State} {m : MethodId} {args : Array Value} {below : List Frame} {meth : Method} {c : Code} {X : Cx} {a : Nat} {r1 : Nat} (hO : IsPl X a) (hr1 : IsPl X r1) (C0 : CT p s m args meth c X cX2_copyFrom 2 none RX2) (h : HH) (H : Heap) (locs : List Loc) (ls : Array Slot) (res : HH) (hl : lv_has ls 2 [(0, .ref a), (1, .ref r1)]) (hW : WH X h H) (hS : va_S (xA X) s.heap H locs) (hres : fX2_copyFrom_c48 a r1 h = res) : W p l e rmX2_copyFrom s m args below meth c H locs 0 0 (MQ below (QV X res) args s 0 0 (xA X)) (F0 m 48 ls [.ref r1, .ref a]) := by
  obtain ⟨hx, hb, hr, hlk, hml, hown, hts, hK⟩ := id C0
  refine g2_5 hx hb hts hown hK hW hr1.1 (hts _ q1_65) dX2_copyFrom_48 ?_
  refine p2_5 hx hb hts hown hK hW hS hO.1 (hts _ q1_65) dX2_copyFrom_51 (fun H locs hW hS => ?_)
  refine lv_aload_n hx hb dX2_copyFrom_54 rfl (lv_at hl 0 rfl) ?_
  refine lv_aload_n hx hb dX2_copyFrom_55 rfl (lv_at hl 1 rfl) ?_
  exact xX2_copyFrom_c56 hO hr1 C0 (hset h a 5 (h r1 5)) _ _ _ _ (lv_sub hl [] rfl) hW hS hres
def fX2_copyFrom_c40 (a : Nat) (r1 : Nat) (h : HH) : HH := fX2_copyFrom_c48 a r1 (hset h a 4 (h r1 4))
set_option maxRecDepth 100000 in
set_option maxHeartbeats 4000000 in
theorem xX2_copyFrom_c40 {p : Program} {l : Launch} {e : Env} {s : State} {m : MethodId} {args : Array Value} {below : List Frame} {meth : Method} {c : Code} {X : Cx} {a : Nat} {r1 : Nat} (hO : IsPl X a) (hr1 : IsPl X r1) (C0 : CT p s m args meth c X cX2_copyFrom 2 none RX2) (h : HH) (H : Heap) (locs : List Loc) (ls : Array Slot) (res : HH) (hl : lv_has ls 2 [(0, .ref a), (1, .ref r1)]) (hW : WH X h H) (hS : va_S (xA X) s.heap H locs) (hres : fX2_copyFrom_c40 a r1 h = res) : W p l e rmX2_copyFrom s m args below meth c H locs 0 0 (MQ below (QV X res) args s 0 0 (xA X)) (F0 m 40 ls [.ref r1, .ref a]) := by
  obtain ⟨hx, hb, hr, hlk, hml, hown, hts, hK⟩ := id C0
  refine g2_4 hx hb hts hown hK hW hr1.1 (hts _ q1_63) dX2_copyFrom_40 ?_
  refine p2_4 hx hb hts hown hK hW hS hO.1 (hts _ q1_63) dX2_copyFrom_43 (fun H locs hW hS => ?_)
  refine lv_aload_n hx hb dX2_copyFrom_46 rfl (lv_at hl 0 rfl) ?_
  refine lv_aload_n hx hb dX2_copyFrom_47 rfl (lv_at hl 1 rfl) ?_
  exact xX2_copyFrom_c48 hO hr1 C0 (hset h a 4 (h r1 4)) _ _ _ _ (lv_sub hl [0, 1] rfl) hW hS hres
def fX2_copyFrom_c32 (a : Nat) (r1 : Nat) (h : HH) : HH := fX2_copyFrom_c40 a r1 (hset h a 3 (h r1 3))
set_option maxRecDepth 100000 in
set_option maxHeartbeats 4000000 in
theorem xX2_copyFrom_c32 {p : Program} {l : Launch} {e : Env} {s : State} {m : MethodId} {args : Array Value} {below : List Frame} {meth : Method} {c : Code} {X : Cx} {a : Nat} {r1 : Nat} (hO : IsPl X a) (hr1 : IsPl X r1) (C0 : CT p s m args meth c X cX2_copyFrom 2 none RX2) (h : HH) (H : Heap) (locs : List Loc) (ls : Array Slot) (res : HH) (hl : lv_has ls 2 [(0, .ref a), (1, .ref r1)]) (hW : WH X h H) (hS : va_S (xA X) s.heap H locs) (hres : fX2_copyFrom_c32 a r1 h = res) : W p l e rmX2_copyFrom s m args below meth c H locs 0 0 (MQ below (QV X res) args s 0 0 (xA X)) (F0 m 32 ls [.ref r1, .ref a]) := by
  obtain ⟨hx, hb, hr, hlk, hml, hown, hts, hK⟩ := id C0
  refine g2_3 hx hb hts hown hK hW hr1.1 (hts _ q1_60) dX2_copyFrom_32 ?_
  refine p2_3 hx hb hts hown hK hW hS hO.1 (hts _ q1_60) dX2_copyFrom_35 (fun H locs hW hS => ?_)
  refine lv_aload_n hx hb dX2_copyFrom_38 rfl (lv_at hl 0 rfl) ?_
  refine lv_aload_n hx hb dX2_copyFrom_39 rfl (lv_at hl 1 rfl) ?_
  exact xX2_copyFrom_c40 hO hr1 C0 (hset h a 3 (h r1 3)) _ _ _ _ (lv_sub hl [0, 1] rfl) hW hS hres
def fX2_copyFrom_c24 (a : Nat) (r1 : Nat) (h : HH) : HH := fX2_copyFrom_c32 a r1 (hset h a 2 (h r1 2))
set_option maxRecDepth 100000 in
set_option maxHeartbeats 4000000 in
theorem xX2_copyFrom_c24 {p : Program} {l : Launch} {e : Env} {s : State} {m : MethodId} {args : Array Value} {below : List Frame} {meth : Method} {c : Code} {X : Cx} {a : Nat} {r1 : Nat} (hO : IsPl X a) (hr1 : IsPl X r1) (C0 : CT p s m args meth c X cX2_copyFrom 2 none RX2) (h : HH) (H : Heap) (locs : List Loc) (ls : Array Slot) (res : HH) (hl : lv_has ls 2 [(0, .ref a), (1, .ref r1)]) (hW : WH X h H) (hS : va_S (xA X) s.heap H locs) (hres : fX2_copyFrom_c24 a r1 h = res) : W p l e rmX2_copyFrom s m args below meth c H locs 0 0 (MQ below (QV X res) args s 0 0 (xA X)) (F0 m 24 ls [.ref r1, .ref a]) := by
  obtain ⟨hx, hb, hr, hlk, hml, hown, hts, hK⟩ := id C0
  refine g2_2 hx hb hts hown hK hW hr1.1 (hts _ q1_59) dX2_copyFrom_24 ?_
  refine p2_2 hx hb hts hown hK hW hS hO.1 (hts _ q1_59) dX2_copyFrom_27 (fun H locs hW hS => ?_)
  refine lv_aload_n hx hb dX2_copyFrom_30 rfl (lv_at hl 0 rfl) ?_
  refine lv_aload_n hx hb dX2_copyFrom_31 rfl (lv_at hl 1 rfl) ?_
  exact xX2_copyFrom_c32 hO hr1 C0 (hset h a 2 (h r1 2)) _ _ _ _ (lv_sub hl [0, 1] rfl) hW hS hres
def fX2_copyFrom_c16 (a : Nat) (r1 : Nat) (h : HH) : HH := fX2_copyFrom_c24 a r1 (hset h a 1 (h r1 1))
set_option maxRecDepth 100000 in
set_option maxHeartbeats 4000000 in
theorem xX2_copyFrom_c16 {p : Program} {l : Launch} {e : Env} {s : State} {m : MethodId} {args : Array Value} {below : List Frame} {meth : Method} {c : Code} {X : Cx} {a : Nat} {r1 : Nat} (hO : IsPl X a) (hr1 : IsPl X r1) (C0 : CT p s m args meth c X cX2_copyFrom 2 none RX2) (h : HH) (H : Heap) (locs : List Loc) (ls : Array Slot) (res : HH) (hl : lv_has ls 2 [(0, .ref a), (1, .ref r1)]) (hW : WH X h H) (hS : va_S (xA X) s.heap H locs) (hres : fX2_copyFrom_c16 a r1 h = res) : W p l e rmX2_copyFrom s m args below meth c H locs 0 0 (MQ below (QV X res) args s 0 0 (xA X)) (F0 m 16 ls [.ref r1, .ref a]) := by
  obtain ⟨hx, hb, hr, hlk, hml, hown, hts, hK⟩ := id C0
  refine g2_1 hx hb hts hown hK hW hr1.1 (hts _ q1_58) dX2_copyFrom_16 ?_
  refine p2_1 hx hb hts hown hK hW hS hO.1 (hts _ q1_58) dX2_copyFrom_19 (fun H locs hW hS => ?_)
  refine lv_aload_n hx hb dX2_copyFrom_22 rfl (lv_at hl 0 rfl) ?_
  refine lv_aload_n hx hb dX2_copyFrom_23 rfl (lv_at hl 1 rfl) ?_
  exact xX2_copyFrom_c24 hO hr1 C0 (hset h a 1 (h r1 1)) _ _ _ _ (lv_sub hl [0, 1] rfl) hW hS hres
def fX2_copyFrom_c0 (a : Nat) (r1 : Nat) (h : HH) : HH := fX2_copyFrom_c16 a r1 (hcpy h (r1 + 1) (a + 1) 0 0 5)
set_option maxRecDepth 100000 in
set_option maxHeartbeats 4000000 in
theorem xX2_copyFrom_c0 {p : Program} {l : Launch} {e : Env} {s : State} {m : MethodId} {args : Array Value} {below : List Frame} {meth : Method} {c : Code} {X : Cx} {a : Nat} {r1 : Nat} (hO : IsPl X a) (hr1 : IsPl X r1) (C0 : CT p s m args meth c X cX2_copyFrom 2 none RX2) (h : HH) (H : Heap) (locs : List Loc) (ls : Array Slot) (res : HH) (hl : lv_has ls 2 [(0, .ref a), (1, .ref r1)]) (hW : WH X h H) (hS : va_S (xA X) s.heap H locs) (hres : fX2_copyFrom_c0 a r1 h = res) : W p l e rmX2_copyFrom s m args below meth c H locs 0 0 (MQ below (QV X res) args s 0 0 (xA X)) (F0 m 0 ls []) := by
  obtain ⟨hx, hb, hr, hlk, hml, hown, hts, hK⟩ := id C0
  refine lv_aload_n hx hb dX2_copyFrom_0 rfl (lv_at hl 1 rfl) ?_
  refine g2_0 hx hb hts hown hK hW hr1.1 (hts _ q1_55) dX2_copyFrom_1 ?_
  refine lv_iconst (v := 0) hx hb dX2_copyFrom_4 (by decide) ?_
  refine lv_aload_n hx hb dX2_copyFrom_5 rfl (lv_at hl 0 rfl) ?_
  refine g2_0 hx hb hts hown hK hW hO.1 (hts _ q1_55) dX2_copyFrom_6 ?_
  refine lv_iconst (v := 0) hx hb dX2_copyFrom_9 (by decide) ?_
  refine lv_iconst (v := 5) hx hb dX2_copyFrom_10 (by decide) ?_
  refine kb_copy (sp' := 0) (dp' := 0) (n' := 5) hx hb (hml.trans hl.1.symm) hown (hts _ q2_131) (hts _ q2_133) (hts _ q2_132) (hts _ q1_12) hK hW hS hr1.2 hO.2 (by decide) (by decide) (by decide) (by decide) (by decide) (by decide) (by decide) (by decide) (Nat.le_of_ble_eq_true rfl) (Nat.le_of_ble_eq_true rfl) dX2_copyFrom_11 (fun H locs hW hS => ?_)
  refine lv_aload_n hx hb dX2_copyFrom_14 rfl (lv_at hl 0 rfl) ?_
  refine lv_aload_n hx hb dX2_copyFrom_15 rfl (lv_at hl 1 rfl) ?_
  exact xX2_copyFrom_c16 hO hr1 C0 (hcpy h (r1 + 1) (a + 1) 0 0 5) _ _ _ _ (lv_sub hl [0, 1] rfl) hW hS hres
def fX2_copyFrom (a : Nat) (r1 : Nat) (h : HH) : HH := fX2_copyFrom_c0 a r1 h
set_option maxRecDepth 100000 in
set_option maxHeartbeats 4000000 in
theorem kX2_copyFrom (l : Launch) (X : Cx) (h : HH) (a : Nat) (r1 : Nat) (hO : IsPl X a) (hr1 : IsPl X r1) : Met l yX2_copyFrom vX2_copyFrom rmX2_copyFrom (va_Pc [.ref a, .ref r1] (fun U => WS X h U)) (QV X (fX2_copyFrom a r1 h)) 0 0 (xA X) := by
  refine Met.ofW (cc := cX2_copyFrom) (maxL := 2) (ret := none) (by decide) rfl ?_
  intro p e s m args below meth c s₁ B hml hv
  obtain ⟨rfl, hW, hK⟩ := hv
  have hl := lv_entry ([.ref a, .ref r1]) (n := 2) (Nat.le_of_ble_eq_true rfl)
  rw [lg_entry_eq]
  generalize (lg_sl ([.ref a, .ref r1]) ++ List.replicate (2 - (lg_sl ([.ref a, .ref r1])).length) Slot.unset).toArray = ls at hl ⊢
  have hl : lv_has ls 2 [(0, .ref a), (1, .ref r1)] := hl
  exact xX2_copyFrom_c0 hO hr1 ⟨B.exec, B.bytes, B.returns, B.notSynchronized, hml, findClass_of_methodNamed B.named, fun w hw => atoms_spec (ws := vX2_copyFrom) B.pre w (List.mem_cons_of_mem _ hw), hK⟩ h _ _ ls _ (lv_sub hl [0, 1] rfl) hW va_S.rf rfl
-- VillageBoard$Player.part(I)I
abbrev rmX2_part : Room := ({ frames := 0, cells := 0, slots := 0, locals := 0 } : Room)
abbrev vX2_part : List Cond := Cond.code yX2_part cX2_part 2 (some .int) :: lwG
theorem wX2_part {R : Room} {s : State} {args : Array Value} {own : String} {idx : Nat} (hg : ∀ w ∈ lwG, w.before args s = true) (hl : Cond.methodLink own idx yX2_part ∈ lwG) (hR : rmX2_part.frames + 1 ≤ R.frames ∧ 8 + (2 + 11) + rmX2_part.locals ≤ R.locals) : CallW R s args own RX2 idx yX2_part cX2_part 2 (some .int) vX2_part rmX2_part 0 0 1 := cwV 1 hg (gV hl q2_70 q2_71 q1_4 q2_72) rfl rfl rfl (by decide +kernel) hR
def fX2_part_c0 (a : Nat) (x1 : Int32) (h : HH) : Int32 := if x1 = 0 then (h a 1) else (if x1 = 1 then (h a 2) else (if x1 = 2 then (h a 3) else (if x1 = 3 then (h a 4) else (if x1 = 4 then (h a 5) else (h a 6)))))
set_option maxRecDepth 100000 in
set_option maxHeartbeats 4000000 in
theorem xX2_part_c0 {p : Program} {l : Launch} {e : Env} {s : State} {m : MethodId} {args : Array Value} {below : List Frame} {meth : Method} {c : Code} {X : Cx} {a : Nat} (hO : IsPl X a) (C0 : CT p s m args meth c X cX2_part 2 (some .int) RX2) (x1 : Int32) (h : HH) (H : Heap) (locs : List Loc) (ls : Array Slot) (res : Int32) (hl : lv_has ls 2 [(0, .ref a), (1, .int x1)]) (hW : WH X h H) (hS : va_S (xA X) s.heap H locs) (hres : fX2_part_c0 a x1 h = res) : W p l e rmX2_part s m args below meth c H locs 0 0 (MQ below (QI X res h) args s 0 0 (xA X)) (F0 m 0 ls []) := by
  obtain ⟨hx, hb, hr, hlk, hml, hown, hts, hK⟩ := id C0
  refine lv_iload_n hx hb dX2_part_0 rfl (lv_at hl 1 rfl) ?_
  by_cases c1 : x1 = 0
  · have hres := (if_pos c1).symm.trans hres
    refine ksw_in (tgt := 36) hx hb 0 c1 dX2_part_1 (by decide) (by decide) rfl (by decide) ?_
    refine lv_aload_n hx hb dX2_part_36 rfl (lv_at hl 0 rfl) ?_
    refine g2_1 hx hb hts hown hK hW hO.1 (hts _ q1_58) dX2_part_37 ?_
    subst hres
    exact kr_i hx hb hr hlk hK hW hS dX2_part_40
  · have hres := (if_neg c1).symm.trans hres
    by_cases c2 : x1 = 1
    · have hres := (if_pos c2).symm.trans hres
      refine ksw_in (tgt := 41) hx hb 1 c2 dX2_part_1 (by decide) (by decide) rfl (by decide) ?_
      refine lv_aload_n hx hb dX2_part_41 rfl (lv_at hl 0 rfl) ?_
      refine g2_2 hx hb hts hown hK hW hO.1 (hts _ q1_59) dX2_part_42 ?_
      subst hres
      exact kr_i hx hb hr hlk hK hW hS dX2_part_45
    · have hres := (if_neg c2).symm.trans hres
      by_cases c3 : x1 = 2
      · have hres := (if_pos c3).symm.trans hres
        refine ksw_in (tgt := 46) hx hb 2 c3 dX2_part_1 (by decide) (by decide) rfl (by decide) ?_
        refine lv_aload_n hx hb dX2_part_46 rfl (lv_at hl 0 rfl) ?_
        refine g2_3 hx hb hts hown hK hW hO.1 (hts _ q1_60) dX2_part_47 ?_
        subst hres
        exact kr_i hx hb hr hlk hK hW hS dX2_part_50
      · have hres := (if_neg c3).symm.trans hres
        by_cases c4 : x1 = 3
        · have hres := (if_pos c4).symm.trans hres
          refine ksw_in (tgt := 51) hx hb 3 c4 dX2_part_1 (by decide) (by decide) rfl (by decide) ?_
          refine lv_aload_n hx hb dX2_part_51 rfl (lv_at hl 0 rfl) ?_
          refine g2_4 hx hb hts hown hK hW hO.1 (hts _ q1_63) dX2_part_52 ?_
          subst hres
          exact kr_i hx hb hr hlk hK hW hS dX2_part_55
        · have hres := (if_neg c4).symm.trans hres
          by_cases c5 : x1 = 4
          · have hres := (if_pos c5).symm.trans hres
            refine ksw_in (tgt := 56) hx hb 4 c5 dX2_part_1 (by decide) (by decide) rfl (by decide) ?_
            refine lv_aload_n hx hb dX2_part_56 rfl (lv_at hl 0 rfl) ?_
            refine g2_5 hx hb hts hown hK hW hO.1 (hts _ q1_65) dX2_part_57 ?_
            subst hres
            exact kr_i hx hb hr hlk hK hW hS dX2_part_60
          · have hres := (if_neg c5).symm.trans hres
            refine lv_tableOut (tgt := 61) hx hb dX2_part_1 (by have := lv_neT (a := 0) c1 (by decide); have := lv_neT (a := 1) c2 (by decide); have := lv_neT (a := 2) c3 (by decide); have := lv_neT (a := 3) c4 (by decide); have := lv_neT (a := 4) c5 (by decide); omega) (by decide) ?_
            refine lv_aload_n hx hb dX2_part_61 rfl (lv_at hl 0 rfl) ?_
            refine g2_6 hx hb hts hown hK hW hO.1 (hts _ q1_66) dX2_part_62 ?_
            subst hres
            exact kr_i hx hb hr hlk hK hW hS dX2_part_65
def fX2_part (a : Nat) (x1 : Int32) (h : HH) : Int32 := fX2_part_c0 a x1 h
set_option maxRecDepth 100000 in
set_option maxHeartbeats 4000000 in
theorem kX2_part (l : Launch) (X : Cx) (h : HH) (a : Nat) (x1 : Int32) (hO : IsPl X a) : Met l yX2_part vX2_part rmX2_part (va_Pc [.ref a, .int x1] (fun U => WS X h U)) (QI X (fX2_part a x1 h) h) 0 0 (xA X) := by
  refine Met.ofW (cc := cX2_part) (maxL := 2) (ret := some .int) (by decide) rfl ?_
  intro p e s m args below meth c s₁ B hml hv
  obtain ⟨rfl, hW, hK⟩ := hv
  have hl := lv_entry ([.ref a, .int x1]) (n := 2) (Nat.le_of_ble_eq_true rfl)
  rw [lg_entry_eq]
  generalize (lg_sl ([.ref a, .int x1]) ++ List.replicate (2 - (lg_sl ([.ref a, .int x1])).length) Slot.unset).toArray = ls at hl ⊢
  have hl : lv_has ls 2 [(0, .ref a), (1, .int x1)] := hl
  exact xX2_part_c0 hO ⟨B.exec, B.bytes, B.returns, B.notSynchronized, hml, findClass_of_methodNamed B.named, fun w hw => atoms_spec (ws := vX2_part) B.pre w (List.mem_cons_of_mem _ hw), hK⟩ x1 h _ _ ls _ (lv_sub hl [0, 1] rfl) hW va_S.rf rfl
-- VillageBoard$Player.has(I)Z
abbrev rmX2_has : Room := ({ frames := 0, cells := 0, slots := 0, locals := 0 } : Room)
abbrev vX2_has : List Cond := Cond.code yX2_has cX2_has 2 (some .boolean) :: lwG
theorem wX2_has {R : Room} {s : State} {args : Array Value} {own : String} {idx : Nat} (hg : ∀ w ∈ lwG, w.before args s = true) (hl : Cond.methodLink own idx yX2_has ∈ lwG) (hR : rmX2_has.frames + 1 ≤ R.frames ∧ 8 + (2 + 11) + rmX2_has.locals ≤ R.locals) : CallW R s args own RX2 idx yX2_has cX2_has 2 (some .boolean) vX2_has rmX2_has 0 0 1 := cwV 1 hg (gV hl q1_207 q1_208 q1_4 q1_209) rfl rfl rfl (by decide +kernel) hR
def fX2_has_c0 (a : Nat) (x1 : Int32) (h : HH) : Bool := if (((h a 6) >>> (x1 &&& 31)) &&& 1) = 0 then false else true
set_option maxRecDepth 100000 in
set_option maxHeartbeats 4000000 in
theorem xX2_has_c0 {p : Program} {l : Launch} {e : Env} {s : State} {m : MethodId} {args : Array Value} {below : List Frame} {meth : Method} {c : Code} {X : Cx} {a : Nat} (hO : IsPl X a) (C0 : CT p s m args meth c X cX2_has 2 (some .boolean) RX2) (x1 : Int32) (h : HH) (H : Heap) (locs : List Loc) (ls : Array Slot) (res : Bool) (hl : lv_has ls 2 [(0, .ref a), (1, .int x1)]) (hW : WH X h H) (hS : va_S (xA X) s.heap H locs) (hres : fX2_has_c0 a x1 h = res) : W p l e rmX2_has s m args below meth c H locs 0 0 (MQ below (QI X (bI res) h) args s 0 0 (xA X)) (F0 m 0 ls []) := by
  obtain ⟨hx, hb, hr, hlk, hml, hown, hts, hK⟩ := id C0
  refine lv_aload_n hx hb dX2_has_0 rfl (lv_at hl 0 rfl) ?_
  refine g2_6 hx hb hts hown hK hW hO.1 (hts _ q1_66) dX2_has_1 ?_
  refine lv_iload_n hx hb dX2_has_4 rfl (lv_at hl 1 rfl) ?_
  refine lv_ishr hx hb dX2_has_5 ?_
  refine lv_iconst (v := 1) hx hb dX2_has_6 (by decide) ?_
  refine lv_iand hx hb dX2_has_7 ?_
  refine lv_if_eq (tgt := 15) hx hb dX2_has_8 (by decide) (fun c1 => ?_) (fun c1 => ?_)
  · have hres := (if_pos c1).symm.trans hres
    refine lv_iconst (v := 0) hx hb dX2_has_15 (by decide) ?_
    subst hres
    exact kr_z (v := false) hx hb hr hlk hK hW hS dX2_has_16
  · have hres := (if_neg c1).symm.trans hres
    refine lv_iconst (v := 1) hx hb dX2_has_11 (by decide) ?_
    refine lv_goto (tgt := 16) hx hb dX2_has_12 (by decide) ?_
    subst hres
    exact kr_z (v := true) hx hb hr hlk hK hW hS dX2_has_16
def fX2_has (a : Nat) (x1 : Int32) (h : HH) : Bool := fX2_has_c0 a x1 h
set_option maxRecDepth 100000 in
set_option maxHeartbeats 4000000 in
theorem kX2_has (l : Launch) (X : Cx) (h : HH) (a : Nat) (x1 : Int32) (hO : IsPl X a) : Met l yX2_has vX2_has rmX2_has (va_Pc [.ref a, .int x1] (fun U => WS X h U)) (QI X (bI (fX2_has a x1 h)) h) 0 0 (xA X) := by
  refine Met.ofW (cc := cX2_has) (maxL := 2) (ret := some .boolean) (by decide) rfl ?_
  intro p e s m args below meth c s₁ B hml hv
  obtain ⟨rfl, hW, hK⟩ := hv
  have hl := lv_entry ([.ref a, .int x1]) (n := 2) (Nat.le_of_ble_eq_true rfl)
  rw [lg_entry_eq]
  generalize (lg_sl ([.ref a, .int x1]) ++ List.replicate (2 - (lg_sl ([.ref a, .int x1])).length) Slot.unset).toArray = ls at hl ⊢
  have hl : lv_has ls 2 [(0, .ref a), (1, .int x1)] := hl
  exact xX2_has_c0 hO ⟨B.exec, B.bytes, B.returns, B.notSynchronized, hml, findClass_of_methodNamed B.named, fun w hw => atoms_spec (ws := vX2_has) B.pre w (List.mem_cons_of_mem _ hw), hK⟩ x1 h _ _ ls _ (lv_sub hl [0, 1] rfl) hW va_S.rf rfl
-- VillageBoard$Player.price(II)I
abbrev rmX2_price : Room := ({ frames := 1, cells := 0, slots := 0, locals := 22 } : Room)
abbrev vX2_price : List Cond := Cond.code yX2_price cX2_price 6 (some .int) :: lwG
theorem wX2_price {R : Room} {s : State} {args : Array Value} {own : String} {idx : Nat} (hg : ∀ w ∈ lwG, w.before args s = true) (hl : Cond.methodLink own idx yX2_price ∈ lwG) (hR : rmX2_price.frames + 1 ≤ R.frames ∧ 8 + (6 + 11) + rmX2_price.locals ≤ R.locals) : CallW R s args own RX2 idx yX2_price cX2_price 6 (some .int) vX2_price rmX2_price 0 0 2 := cwV 2 hg (gV hl q2_33 q2_34 q1_4 q2_35) rfl rfl rfl (by decide +kernel) hR
def fX2_price_c46 (a : Nat) (x1 : Int32) (xs0 : Int32) (h : HH) : Int32 := jmax 0 ((tCLAY_PRICE ((x1 + 1).toNatClampNeg)) - xs0)
def sX2_price_c46 (a : Nat) (x1 : Int32) (xs0 : Int32) (h : HH) : Prop := vp_in (x1 + 1) 9
set_option maxRecDepth 100000 in
set_option maxHeartbeats 4000000 in
theorem xX2_price_c46 {p : Program} {l : Launch} {e : Env} {s : State} {m : MethodId} {args : Array Value} {below : List Frame} {meth : Method} {c : Code} {X : Cx} {a : Nat} (hO : IsPl X a) (C0 : CT p s m args meth c X cX2_price 6 (some .int) RX2) (x1 : Int32) (xs0 : Int32) (h : HH) (H : Heap) (locs : List Loc) (ls : Array Slot) (res : Int32) (hl : lv_has ls 6 [(1, .int x1), (3, .ref (xt X 5))]) (hW : WH X h H) (hS : va_S (xA X) s.heap H locs) (hs : sX2_price_c46 a x1 xs0 h) (hres : fX2_price_c46 a x1 xs0 h = res) : W p l e rmX2_price s m args below meth c H locs 0 0 (MQ below (QI X res h) args s 0 0 (xA X)) (F0 m 46 ls [.int xs0]) := by
  obtain ⟨hx, hb, hr, hlk, hml, hown, hts, hK⟩ := id C0
  refine lv_istore (lv' := [(5, .int xs0), (1, .int x1), (3, .ref (xt X 5))]) hx hb dX2_price_46 hl (by decide) rfl (fun ls hl => ?_)
  refine lv_iconst (v := 0) hx hb dX2_price_48 (by decide) ?_
  refine lv_aload_n hx hb dX2_price_49 rfl (lv_at hl 2 rfl) ?_
  refine lv_iload_n hx hb dX2_price_50 rfl (lv_at hl 1 rfl) ?_
  refine lv_iconst (v := 1) hx hb dX2_price_51 (by decide) ?_
  refine lv_iadd hx hb dX2_price_52 ?_
  have hi4 := hs
  refine kb_tald hx hb hK.2.1.2.2.2.2.2.1 hS (k := (x1 + 1).toNatClampNeg) rfl hi4 dX2_price_53 ?_
  refine lv_iload hx hb dX2_price_54 (lv_at hl 0 rfl) ?_
  refine lv_isub hx hb dX2_price_56 ?_
  refine kb_max hx hb (hml.trans hl.1.symm) hown (hts _ q2_40) (hts _ q2_41) (hts _ q1_13) (hts _ q2_42) (Nat.le_of_ble_eq_true rfl) (Nat.le_of_ble_eq_true rfl) (Nat.zero_le _) (Nat.zero_le _) dX2_price_57 ?_
  subst hres
  exact kr_i hx hb hr hlk hK hW hS dX2_price_60
def fX2_price_c25 (a : Nat) (x1 : Int32) (xs0 : Int32) (h : HH) : Int32 := if x1 = xs0 then (fX2_price_c46 a x1 0 h) else (fX2_price_c46 a x1 (((h a 6) >>> (xs0 &&& 31)) &&& 1) h)
def sX2_price_c25 (a : Nat) (x1 : Int32) (xs0 : Int32) (h : HH) : Prop := (x1 = xs0 → (sX2_price_c46 a x1 0 h)) ∧ (¬ (x1 = xs0) → (sX2_price_c46 a x1 (((h a 6) >>> (xs0 &&& 31)) &&& 1) h))
set_option maxRecDepth 100000 in
set_option maxHeartbeats 4000000 in
theorem xX2_price_c25 {p : Program} {l : Launch} {e : Env} {s : State} {m : MethodId} {args : Array Value} {below : List Frame} {meth : Method} {c : Code} {X : Cx} {a : Nat} (hO : IsPl X a) (C0 : CT p s m args meth c X cX2_price 6 (some .int) RX2) (x1 : Int32) (xs0 : Int32) (h : HH) (H : Heap) (locs : List Loc) (ls : Array Slot) (res : Int32) (hl : lv_has ls 6 [(0, .ref a), (1, .int x1), (3, .ref (xt X 5))]) (hW : WH X h H) (hS : va_S (xA X) s.heap H locs) (hs : sX2_price_c25 a x1 xs0 h) (hres : fX2_price_c25 a x1 xs0 h = res) : W p l e rmX2_price s m args below meth c H locs 0 0 (MQ below (QI X res h) args s 0 0 (xA X)) (F0 m 25 ls [.int xs0]) := by
  obtain ⟨hx, hb, hr, hlk, hml, hown, hts, hK⟩ := id C0
  refine lv_istore (lv' := [(4, .int xs0), (0, .ref a), (1, .int x1), (3, .ref (xt X 5))]) hx hb dX2_price_25 hl (by decide) rfl (fun ls hl => ?_)
  refine lv_iload_n hx hb dX2_price_27 rfl (lv_at hl 2 rfl) ?_
  refine lv_iload hx hb dX2_price_28 (lv_at hl 0 rfl) ?_
  refine lv_icmp_ne (tgt := 37) hx hb dX2_price_30 (by decide) (fun c3 => ?_) (fun c3 => ?_)
  · have hres := (if_neg c3).symm.trans hres
    have hs := And.right hs c3
    refine lv_aload_n hx hb dX2_price_37 rfl (lv_at hl 1 rfl) ?_
    refine g2_6 hx hb hts hown hK hW hO.1 (hts _ q1_66) dX2_price_38 ?_
    refine lv_iload hx hb dX2_price_41 (lv_at hl 0 rfl) ?_
    refine lv_ishr hx hb dX2_price_43 ?_
    refine lv_iconst (v := 1) hx hb dX2_price_44 (by decide) ?_
    refine lv_iand hx hb dX2_price_45 ?_
    exact xX2_price_c46 hO C0 x1 (((h a 6) >>> (xs0 &&& 31)) &&& 1) h _ _ _ _ (lv_sub hl [2, 3] rfl) hW hS hs hres
  · have hres := (if_pos c3).symm.trans hres
    have hs := And.left hs c3
    refine lv_iconst (v := 0) hx hb dX2_price_33 (by decide) ?_
    refine lv_goto (tgt := 46) hx hb dX2_price_34 (by decide) ?_
    exact xX2_price_c46 hO C0 x1 0 h _ _ _ _ (lv_sub hl [2, 3] rfl) hW hS hs hres
def fX2_price_c13 (a : Nat) (x1 : Int32) (x2 : Int32) (h : HH) : Int32 := if x2 = 0 then (fX2_price_c25 a x1 6 h) else (fX2_price_c25 a x1 7 h)
def sX2_price_c13 (a : Nat) (x1 : Int32) (x2 : Int32) (h : HH) : Prop := (x2 = 0 → (sX2_price_c25 a x1 6 h)) ∧ (¬ (x2 = 0) → (sX2_price_c25 a x1 7 h))
set_option maxRecDepth 100000 in
set_option maxHeartbeats 4000000 in
theorem xX2_price_c13 {p : Program} {l : Launch} {e : Env} {s : State} {m : MethodId} {args : Array Value} {below : List Frame} {meth : Method} {c : Code} {X : Cx} {a : Nat} (hO : IsPl X a) (C0 : CT p s m args meth c X cX2_price 6 (some .int) RX2) (x1 : Int32) (x2 : Int32) (h : HH) (H : Heap) (locs : List Loc) (ls : Array Slot) (res : Int32) (hl : lv_has ls 6 [(0, .ref a), (1, .int x1), (2, .int x2)]) (hW : WH X h H) (hS : va_S (xA X) s.heap H locs) (hs : sX2_price_c13 a x1 x2 h) (hres : fX2_price_c13 a x1 x2 h = res) : W p l e rmX2_price s m args below meth c H locs 0 0 (MQ below (QI X res h) args s 0 0 (xA X)) (F0 m 13 ls [.ref (xt X 5)]) := by
  obtain ⟨hx, hb, hr, hlk, hml, hown, hts, hK⟩ := id C0
  refine lv_astore_n (lv' := [(3, .ref (xt X 5)), (0, .ref a), (1, .int x1), (2, .int x2)]) hx hb dX2_price_13 rfl hl (by decide) rfl (fun ls hl => ?_)
  refine lv_iload_n hx hb dX2_price_14 rfl (lv_at hl 3 rfl) ?_
  refine lv_if_ne (tgt := 23) hx hb dX2_price_15 (by decide) (fun c2 => ?_) (fun c2 => ?_)
  · have hres := (if_neg c2).symm.trans hres
    have hs := And.right hs c2
    refine lv_bipush (v := 7) hx hb dX2_price_23 (by decide) ?_
    exact xX2_price_c25 hO C0 x1 7 h _ _ _ _ (lv_sub hl [1, 2, 0] rfl) hW hS hs hres
  · have hres := (if_pos c2).symm.trans hres
    have hs := And.left hs c2
    refine lv_bipush (v := 6) hx hb dX2_price_18 (by decide) ?_
    refine lv_goto (tgt := 25) hx hb dX2_price_20 (by decide) ?_
    exact xX2_price_c25 hO C0 x1 6 h _ _ _ _ (lv_sub hl [1, 2, 0] rfl) hW hS hs hres
def fX2_price_c46v1 (a : Nat) (x1 : Int32) (xs0 : Int32) (h : HH) : Int32 := jmax 0 ((tWOOD_PRICE ((x1 + 1).toNatClampNeg)) - xs0)
def sX2_price_c46v1 (a : Nat) (x1 : Int32) (xs0 : Int32) (h : HH) : Prop := vp_in (x1 + 1) 9
set_option maxRecDepth 100000 in
set_option maxHeartbeats 4000000 in
theorem xX2_price_c46v1 {p : Program} {l : Launch} {e : Env} {s : State} {m : MethodId} {args : Array Value} {below : List Frame} {meth : Method} {c : Code} {X : Cx} {a : Nat} (hO : IsPl X a) (C0 : CT p s m args meth c X cX2_price 6 (some .int) RX2) (x1 : Int32) (xs0 : Int32) (h : HH) (H : Heap) (locs : List Loc) (ls : Array Slot) (res : Int32) (hl : lv_has ls 6 [(1, .int x1), (3, .ref (xt X 4))]) (hW : WH X h H) (hS : va_S (xA X) s.heap H locs) (hs : sX2_price_c46v1 a x1 xs0 h) (hres : fX2_price_c46v1 a x1 xs0 h = res) : W p l e rmX2_price s m args below meth c H locs 0 0 (MQ below (QI X res h) args s 0 0 (xA X)) (F0 m 46 ls [.int xs0]) := by
  obtain ⟨hx, hb, hr, hlk, hml, hown, hts, hK⟩ := id C0
  refine lv_istore (lv' := [(5, .int xs0), (1, .int x1), (3, .ref (xt X 4))]) hx hb dX2_price_46 hl (by decide) rfl (fun ls hl => ?_)
  refine lv_iconst (v := 0) hx hb dX2_price_48 (by decide) ?_
  refine lv_aload_n hx hb dX2_price_49 rfl (lv_at hl 2 rfl) ?_
  refine lv_iload_n hx hb dX2_price_50 rfl (lv_at hl 1 rfl) ?_
  refine lv_iconst (v := 1) hx hb dX2_price_51 (by decide) ?_
  refine lv_iadd hx hb dX2_price_52 ?_
  have hi7 := hs
  refine kb_tald hx hb hK.2.1.2.2.2.2.1 hS (k := (x1 + 1).toNatClampNeg) rfl hi7 dX2_price_53 ?_
  refine lv_iload hx hb dX2_price_54 (lv_at hl 0 rfl) ?_
  refine lv_isub hx hb dX2_price_56 ?_
  refine kb_max hx hb (hml.trans hl.1.symm) hown (hts _ q2_40) (hts _ q2_41) (hts _ q1_13) (hts _ q2_42) (Nat.le_of_ble_eq_true rfl) (Nat.le_of_ble_eq_true rfl) (Nat.zero_le _) (Nat.zero_le _) dX2_price_57 ?_
  subst hres
  exact kr_i hx hb hr hlk hK hW hS dX2_price_60
def fX2_price_c25v1 (a : Nat) (x1 : Int32) (xs0 : Int32) (h : HH) : Int32 := if x1 = xs0 then (fX2_price_c46v1 a x1 0 h) else (fX2_price_c46v1 a x1 (((h a 6) >>> (xs0 &&& 31)) &&& 1) h)
def sX2_price_c25v1 (a : Nat) (x1 : Int32) (xs0 : Int32) (h : HH) : Prop := (x1 = xs0 → (sX2_price_c46v1 a x1 0 h)) ∧ (¬ (x1 = xs0) → (sX2_price_c46v1 a x1 (((h a 6) >>> (xs0 &&& 31)) &&& 1) h))
set_option maxRecDepth 100000 in
set_option maxHeartbeats 4000000 in
theorem xX2_price_c25v1 {p : Program} {l : Launch} {e : Env} {s : State} {m : MethodId} {args : Array Value} {below : List Frame} {meth : Method} {c : Code} {X : Cx} {a : Nat} (hO : IsPl X a) (C0 : CT p s m args meth c X cX2_price 6 (some .int) RX2) (x1 : Int32) (xs0 : Int32) (h : HH) (H : Heap) (locs : List Loc) (ls : Array Slot) (res : Int32) (hl : lv_has ls 6 [(0, .ref a), (1, .int x1), (3, .ref (xt X 4))]) (hW : WH X h H) (hS : va_S (xA X) s.heap H locs) (hs : sX2_price_c25v1 a x1 xs0 h) (hres : fX2_price_c25v1 a x1 xs0 h = res) : W p l e rmX2_price s m args below meth c H locs 0 0 (MQ below (QI X res h) args s 0 0 (xA X)) (F0 m 25 ls [.int xs0]) := by
  obtain ⟨hx, hb, hr, hlk, hml, hown, hts, hK⟩ := id C0
  refine lv_istore (lv' := [(4, .int xs0), (0, .ref a), (1, .int x1), (3, .ref (xt X 4))]) hx hb dX2_price_25 hl (by decide) rfl (fun ls hl => ?_)
  refine lv_iload_n hx hb dX2_price_27 rfl (lv_at hl 2 rfl) ?_
  refine lv_iload hx hb dX2_price_28 (lv_at hl 0 rfl) ?_
  refine lv_icmp_ne (tgt := 37) hx hb dX2_price_30 (by decide) (fun c6 => ?_) (fun c6 => ?_)
  · have hres := (if_neg c6).symm.trans hres
    have hs := And.right hs c6
    refine lv_aload_n hx hb dX2_price_37 rfl (lv_at hl 1 rfl) ?_
    refine g2_6 hx hb hts hown hK hW hO.1 (hts _ q1_66) dX2_price_38 ?_
    refine lv_iload hx hb dX2_price_41 (lv_at hl 0 rfl) ?_
    refine lv_ishr hx hb dX2_price_43 ?_
    refine lv_iconst (v := 1) hx hb dX2_price_44 (by decide) ?_
    refine lv_iand hx hb dX2_price_45 ?_
    exact xX2_price_c46v1 hO C0 x1 (((h a 6) >>> (xs0 &&& 31)) &&& 1) h _ _ _ _ (lv_sub hl [2, 3] rfl) hW hS hs hres
  · have hres := (if_pos c6).symm.trans hres
    have hs := And.left hs c6
    refine lv_iconst (v := 0) hx hb dX2_price_33 (by decide) ?_
    refine lv_goto (tgt := 46) hx hb dX2_price_34 (by decide) ?_
    exact xX2_price_c46v1 hO C0 x1 0 h _ _ _ _ (lv_sub hl [2, 3] rfl) hW hS hs hres
def fX2_price_c13v1 (a : Nat) (x1 : Int32) (x2 : Int32) (h : HH) : Int32 := if x2 = 0 then (fX2_price_c25v1 a x1 6 h) else (fX2_price_c25v1 a x1 7 h)
def sX2_price_c13v1 (a : Nat) (x1 : Int32) (x2 : Int32) (h : HH) : Prop := (x2 = 0 → (sX2_price_c25v1 a x1 6 h)) ∧ (¬ (x2 = 0) → (sX2_price_c25v1 a x1 7 h))
set_option maxRecDepth 100000 in
set_option maxHeartbeats 4000000 in
theorem xX2_price_c13v1 {p : Program} {l : Launch} {e : Env} {s : State} {m : MethodId} {args : Array Value} {below : List Frame} {meth : Method} {c : Code} {X : Cx} {a : Nat} (hO : IsPl X a) (C0 : CT p s m args meth c X cX2_price 6 (some .int) RX2) (x1 : Int32) (x2 : Int32) (h : HH) (H : Heap) (locs : List Loc) (ls : Array Slot) (res : Int32) (hl : lv_has ls 6 [(0, .ref a), (1, .int x1), (2, .int x2)]) (hW : WH X h H) (hS : va_S (xA X) s.heap H locs) (hs : sX2_price_c13v1 a x1 x2 h) (hres : fX2_price_c13v1 a x1 x2 h = res) : W p l e rmX2_price s m args below meth c H locs 0 0 (MQ below (QI X res h) args s 0 0 (xA X)) (F0 m 13 ls [.ref (xt X 4)]) := by
  obtain ⟨hx, hb, hr, hlk, hml, hown, hts, hK⟩ := id C0
  refine lv_astore_n (lv' := [(3, .ref (xt X 4)), (0, .ref a), (1, .int x1), (2, .int x2)]) hx hb dX2_price_13 rfl hl (by decide) rfl (fun ls hl => ?_)
  refine lv_iload_n hx hb dX2_price_14 rfl (lv_at hl 3 rfl) ?_
  refine lv_if_ne (tgt := 23) hx hb dX2_price_15 (by decide) (fun c5 => ?_) (fun c5 => ?_)
  · have hres := (if_neg c5).symm.trans hres
    have hs := And.right hs c5
    refine lv_bipush (v := 7) hx hb dX2_price_23 (by decide) ?_
    exact xX2_price_c25v1 hO C0 x1 7 h _ _ _ _ (lv_sub hl [1, 2, 0] rfl) hW hS hs hres
  · have hres := (if_pos c5).symm.trans hres
    have hs := And.left hs c5
    refine lv_bipush (v := 6) hx hb dX2_price_18 (by decide) ?_
    refine lv_goto (tgt := 25) hx hb dX2_price_20 (by decide) ?_
    exact xX2_price_c25v1 hO C0 x1 6 h _ _ _ _ (lv_sub hl [1, 2, 0] rfl) hW hS hs hres
def fX2_price_c0 (a : Nat) (x1 : Int32) (x2 : Int32) (h : HH) : Int32 := if x2 = 0 then (fX2_price_c13v1 a x1 x2 h) else (fX2_price_c13 a x1 x2 h)
def sX2_price_c0 (a : Nat) (x1 : Int32) (x2 : Int32) (h : HH) : Prop := (x2 = 0 → (sX2_price_c13v1 a x1 x2 h)) ∧ (¬ (x2 = 0) → (sX2_price_c13 a x1 x2 h))
set_option maxRecDepth 100000 in
set_option maxHeartbeats 4000000 in
theorem xX2_price_c0 {p : Program} {l : Launch} {e : Env} {s : State} {m : MethodId} {args : Array Value} {below : List Frame} {meth : Method} {c : Code} {X : Cx} {a : Nat} (hO : IsPl X a) (C0 : CT p s m args meth c X cX2_price 6 (some .int) RX2) (x1 : Int32) (x2 : Int32) (h : HH) (H : Heap) (locs : List Loc) (ls : Array Slot) (res : Int32) (hl : lv_has ls 6 [(0, .ref a), (1, .int x1), (2, .int x2)]) (hW : WH X h H) (hS : va_S (xA X) s.heap H locs) (hs : sX2_price_c0 a x1 x2 h) (hres : fX2_price_c0 a x1 x2 h = res) : W p l e rmX2_price s m args below meth c H locs 0 0 (MQ below (QI X res h) args s 0 0 (xA X)) (F0 m 0 ls []) := by
  obtain ⟨hx, hb, hr, hlk, hml, hown, hts, hK⟩ := id C0
  refine lv_iload_n hx hb dX2_price_0 rfl (lv_at hl 2 rfl) ?_
  refine lv_if_ne (tgt := 10) hx hb dX2_price_1 (by decide) (fun c1 => ?_) (fun c1 => ?_)
  · have hres := (if_neg c1).symm.trans hres
    have hs := And.right hs c1
    refine kb_gets hx hb hK.2.1.2.2.2.2.2.1 hS hown dX2_price_10 ?_
    exact xX2_price_c13 hO C0 x1 x2 h _ _ _ _ (lv_sub hl [0, 1, 2] rfl) hW hS hs hres
  · have hres := (if_pos c1).symm.trans hres
    have hs := And.left hs c1
    refine kb_gets hx hb hK.2.1.2.2.2.2.1 hS hown dX2_price_4 ?_
    refine lv_goto (tgt := 13) hx hb dX2_price_7 (by decide) ?_
    exact xX2_price_c13v1 hO C0 x1 x2 h _ _ _ _ (lv_sub hl [0, 1, 2] rfl) hW hS hs hres
def fX2_price (a : Nat) (x1 : Int32) (x2 : Int32) (h : HH) : Int32 := fX2_price_c0 a x1 x2 h
def sX2_price (a : Nat) (x1 : Int32) (x2 : Int32) (h : HH) : Prop := sX2_price_c0 a x1 x2 h
set_option maxRecDepth 100000 in
set_option maxHeartbeats 4000000 in
theorem kX2_price (l : Launch) (X : Cx) (h : HH) (a : Nat) (x1 : Int32) (x2 : Int32) (hO : IsPl X a) (hs : sX2_price a x1 x2 h) : Met l yX2_price vX2_price rmX2_price (va_Pc [.ref a, .int x1, .int x2] (fun U => WS X h U)) (QI X (fX2_price a x1 x2 h) h) 0 0 (xA X) := by
  refine Met.ofW (cc := cX2_price) (maxL := 6) (ret := some .int) (by decide) rfl ?_
  intro p e s m args below meth c s₁ B hml hv
  obtain ⟨rfl, hW, hK⟩ := hv
  have hl := lv_entry ([.ref a, .int x1, .int x2]) (n := 6) (Nat.le_of_ble_eq_true rfl)
  rw [lg_entry_eq]
  generalize (lg_sl ([.ref a, .int x1, .int x2]) ++ List.replicate (6 - (lg_sl ([.ref a, .int x1, .int x2])).length) Slot.unset).toArray = ls at hl ⊢
  have hl : lv_has ls 6 [(0, .ref a), (1, .int x1), (2, .int x2)] := hl
  exact xX2_price_c0 hO ⟨B.exec, B.bytes, B.returns, B.notSynchronized, hml, findClass_of_methodNamed B.named, fun w hw => atoms_spec (ws := vX2_price) B.pre w (List.mem_cons_of_mem _ hw), hK⟩ x1 x2 h _ _ ls _ (lv_sub hl [0, 1, 2] rfl) hW va_S.rf hs rfl
-- VillageBoard$Player.canAfford(I)Z
abbrev rmX2_canAfford : Room := ({ frames := 2, cells := 0, slots := 0, locals := 47 } : Room)
abbrev vX2_canAfford : List Cond := Cond.code yX2_canAfford cX2_canAfford 2 (some .boolean) :: lwG
theorem wX2_canAfford {R : Room} {s : State} {args : Array Value} {own : String} {idx : Nat} (hg : ∀ w ∈ lwG, w.before args s = true) (hl : Cond.methodLink own idx yX2_canAfford ∈ lwG) (hR : rmX2_canAfford.frames + 1 ≤ R.frames ∧ 8 + (2 + 11) + rmX2_canAfford.locals ≤ R.locals) : CallW R s args own RX2 idx yX2_canAfford cX2_canAfford 2 (some .boolean) vX2_canAfford rmX2_canAfford 0 0 1 := cwV 1 hg (gV hl q2_29 q2_30 q1_4 q2_31) rfl rfl rfl (by decide +kernel) hR
def fX2_canAfford_c0 (a : Nat) (x1 : Int32) (h : HH) : Bool := if (h (a + 1) 0) < (fX2_price a x1 0 h) then false else (if (h (a + 1) 1) < (fX2_price a x1 1 h) then false else true)
def sX2_canAfford_c0 (a : Nat) (x1 : Int32) (h : HH) : Prop := (sX2_price a x1 0 h) ∧ (((h (a + 1) 0) < (fX2_price a x1 0 h) → True) ∧ (¬ ((h (a + 1) 0) < (fX2_price a x1 0 h)) → (sX2_price a x1 1 h)))
set_option maxRecDepth 100000 in
set_option maxHeartbeats 4000000 in
theorem xX2_canAfford_c0 {p : Program} {l : Launch} {e : Env} {s : State} {m : MethodId} {args : Array Value} {below : List Frame} {meth : Method} {c : Code} {X : Cx} {a : Nat} (hO : IsPl X a) (C0 : CT p s m args meth c X cX2_canAfford 2 (some .boolean) RX2) (x1 : Int32) (h : HH) (H : Heap) (locs : List Loc) (ls : Array Slot) (res : Bool) (hl : lv_has ls 2 [(0, .ref a), (1, .int x1)]) (hW : WH X h H) (hS : va_S (xA X) s.heap H locs) (hs : sX2_canAfford_c0 a x1 h) (hres : fX2_canAfford_c0 a x1 h = res) : W p l e rmX2_canAfford s m args below meth c H locs 0 0 (MQ below (QI X (bI res) h) args s 0 0 (xA X)) (F0 m 0 ls []) := by
  obtain ⟨hx, hb, hr, hlk, hml, hown, hts, hK⟩ := id C0
  refine lv_aload_n hx hb dX2_canAfford_0 rfl (lv_at hl 0 rfl) ?_
  refine g2_0 hx hb hts hown hK hW hO.1 (hts _ q1_55) dX2_canAfford_1 ?_
  refine lv_iconst (v := 0) hx hb dX2_canAfford_4 (by decide) ?_
  refine kb_iald hx hb hK hW hO.2 (k := 0) (by decide) (vpd (by decide)) dX2_canAfford_5 ?_
  refine lv_aload_n hx hb dX2_canAfford_6 rfl (lv_at hl 0 rfl) ?_
  refine lv_iload_n hx hb dX2_canAfford_7 rfl (lv_at hl 1 rfl) ?_
  refine lv_iconst (v := 0) hx hb dX2_canAfford_8 (by decide) ?_
  obtain ⟨hc1, hs⟩ := hs
  refine kV_i (As := [.int x1, .int 0]) (rest := [.int (h (a + 1) 0)]) ⟨hx, hb, hml, hown, hts⟩ (kX2_price l X h a x1 0 hO hc1) (wX2_price hts q2_32 ⟨Nat.le_of_ble_eq_true rfl, Nat.le_of_ble_eq_true rfl⟩) hK hW hS (va_recv hK.1 (hW.one hO.1) (ci := 2) (q0 := 0) rfl rfl) rfl hl.1 rfl (Nat.le_of_ble_eq_true rfl) dX2_canAfford_9 ⟨Nat.zero_le _, Nat.zero_le _⟩ (fun H locs hW hS => ?_)
  refine lv_icmp_lt (tgt := 34) hx hb dX2_canAfford_12 (by decide) (fun c2 => ?_) (fun c2 => ?_)
  · have hres := (if_pos c2).symm.trans hres
    have hs := And.left hs c2
    refine lv_iconst (v := 0) hx hb dX2_canAfford_34 (by decide) ?_
    subst hres
    exact kr_z (v := false) hx hb hr hlk hK hW hS dX2_canAfford_35
  · have hres := (if_neg c2).symm.trans hres
    have hs := And.right hs c2
    refine lv_aload_n hx hb dX2_canAfford_15 rfl (lv_at hl 0 rfl) ?_
    refine g2_0 hx hb hts hown hK hW hO.1 (hts _ q1_55) dX2_canAfford_16 ?_
    refine lv_iconst (v := 1) hx hb dX2_canAfford_19 (by decide) ?_
    refine kb_iald hx hb hK hW hO.2 (k := 1) (by decide) (vpd (by decide)) dX2_canAfford_20 ?_
    refine lv_aload_n hx hb dX2_canAfford_21 rfl (lv_at hl 0 rfl) ?_
    refine lv_iload_n hx hb dX2_canAfford_22 rfl (lv_at hl 1 rfl) ?_
    refine lv_iconst (v := 1) hx hb dX2_canAfford_23 (by decide) ?_
    have hc3 := hs
    refine kV_i (As := [.int x1, .int 1]) (rest := [.int (h (a + 1) 1)]) ⟨hx, hb, hml, hown, hts⟩ (kX2_price l X h a x1 1 hO hc3) (wX2_price hts q2_32 ⟨Nat.le_of_ble_eq_true rfl, Nat.le_of_ble_eq_true rfl⟩) hK hW hS (va_recv hK.1 (hW.one hO.1) (ci := 2) (q0 := 0) rfl rfl) rfl hl.1 rfl (Nat.le_of_ble_eq_true rfl) dX2_canAfford_24 ⟨Nat.zero_le _, Nat.zero_le _⟩ (fun H locs hW hS => ?_)
    refine lv_icmp_lt (tgt := 34) hx hb dX2_canAfford_27 (by decide) (fun c4 => ?_) (fun c4 => ?_)
    · have hres := (if_pos c4).symm.trans hres
      refine lv_iconst (v := 0) hx hb dX2_canAfford_34 (by decide) ?_
      subst hres
      exact kr_z (v := false) hx hb hr hlk hK hW hS dX2_canAfford_35
    · have hres := (if_neg c4).symm.trans hres
      refine lv_iconst (v := 1) hx hb dX2_canAfford_30 (by decide) ?_
      refine lv_goto (tgt := 35) hx hb dX2_canAfford_31 (by decide) ?_
      subst hres
      exact kr_z (v := true) hx hb hr hlk hK hW hS dX2_canAfford_35
def fX2_canAfford (a : Nat) (x1 : Int32) (h : HH) : Bool := fX2_canAfford_c0 a x1 h
def sX2_canAfford (a : Nat) (x1 : Int32) (h : HH) : Prop := sX2_canAfford_c0 a x1 h
set_option maxRecDepth 100000 in
set_option maxHeartbeats 4000000 in
theorem kX2_canAfford (l : Launch) (X : Cx) (h : HH) (a : Nat) (x1 : Int32) (hO : IsPl X a) (hs : sX2_canAfford a x1 h) : Met l yX2_canAfford vX2_canAfford rmX2_canAfford (va_Pc [.ref a, .int x1] (fun U => WS X h U)) (QI X (bI (fX2_canAfford a x1 h)) h) 0 0 (xA X) := by
  refine Met.ofW (cc := cX2_canAfford) (maxL := 2) (ret := some .boolean) (by decide) rfl ?_
  intro p e s m args below meth c s₁ B hml hv
  obtain ⟨rfl, hW, hK⟩ := hv
  have hl := lv_entry ([.ref a, .int x1]) (n := 2) (Nat.le_of_ble_eq_true rfl)
  rw [lg_entry_eq]
  generalize (lg_sl ([.ref a, .int x1]) ++ List.replicate (2 - (lg_sl ([.ref a, .int x1])).length) Slot.unset).toArray = ls at hl ⊢
  have hl : lv_has ls 2 [(0, .ref a), (1, .int x1)] := hl
  exact xX2_canAfford_c0 hO ⟨B.exec, B.bytes, B.returns, B.notSynchronized, hml, findClass_of_methodNamed B.named, fun w hw => atoms_spec (ws := vX2_canAfford) B.pre w (List.mem_cons_of_mem _ hw), hK⟩ x1 h _ _ ls _ (lv_sub hl [0, 1] rfl) hW va_S.rf hs rfl
-- VillageBoard$Player.payFor(I)V
abbrev rmX2_payFor : Room := ({ frames := 2, cells := 0, slots := 0, locals := 47 } : Room)
abbrev vX2_payFor : List Cond := Cond.code yX2_payFor cX2_payFor 2 none :: lwG
theorem wX2_payFor {R : Room} {s : State} {args : Array Value} {own : String} {idx : Nat} (hg : ∀ w ∈ lwG, w.before args s = true) (hl : Cond.methodLink own idx yX2_payFor ∈ lwG) (hR : rmX2_payFor.frames + 1 ≤ R.frames ∧ 8 + (2 + 11) + rmX2_payFor.locals ≤ R.locals) : CallW R s args own RX2 idx yX2_payFor cX2_payFor 2 none vX2_payFor rmX2_payFor 0 0 1 := cwV 1 hg (gV hl q2_173 q2_174 q1_4 q2_175) rfl rfl rfl (by decide +kernel) hR
def fX2_payFor_c21 (a : Nat) (x1 : Int32) (xs0 : Int32) (xs2 : Int32) (h : HH) : HH := hset h (a + 1) xs2.toNatClampNeg ((h (a + 1) xs0.toNatClampNeg) - (fX2_price a x1 1 h))
def sX2_payFor_c21 (a : Nat) (x1 : Int32) (xs0 : Int32) (xs2 : Int32) (h : HH) : Prop := (vp_in xs0 5) ∧ ((sX2_price a x1 1 h) ∧ (vp_in xs2 5))
set_option maxRecDepth 100000 in
set_option maxHeartbeats 4000000 in
theorem xX2_payFor_c21 {p : Program} {l : Launch} {e : Env} {s : State} {m : MethodId} {args : Array Value} {below : List Frame} {meth : Method} {c : Code} {X : Cx} {a : Nat} (hO : IsPl X a) (C0 : CT p s m args meth c X cX2_payFor 2 none RX2) (x1 : Int32) (xs0 : Int32) (xs2 : Int32) (h : HH) (H : Heap) (locs : List Loc) (ls : Array Slot) (res : HH) (hl : lv_has ls 2 [(0, .ref a), (1, .int x1)]) (hW : WH X h H) (hS : va_S (xA X) s.heap H locs) (hs : sX2_payFor_c21 a x1 xs0 xs2 h) (hres : fX2_payFor_c21 a x1 xs0 xs2 h = res) : W p l e rmX2_payFor s m args below meth c H locs 0 0 (MQ below (QV X res) args s 0 0 (xA X)) (F0 m 21 ls [.int xs0, .ref (a + 1), .int xs2, .ref (a + 1)]) := by
  obtain ⟨hx, hb, hr, hlk, hml, hown, hts, hK⟩ := id C0
  obtain ⟨hi2, hs⟩ := hs
  refine kb_iald hx hb hK hW hO.2 (k := xs0.toNatClampNeg) rfl hi2 dX2_payFor_21 ?_
  refine lv_aload_n hx hb dX2_payFor_22 rfl (lv_at hl 0 rfl) ?_
  refine lv_iload_n hx hb dX2_payFor_23 rfl (lv_at hl 1 rfl) ?_
  refine lv_iconst (v := 1) hx hb dX2_payFor_24 (by decide) ?_
  obtain ⟨hc3, hs⟩ := hs
  refine kV_i (As := [.int x1, .int 1]) (rest := [.int (h (a + 1) xs0.toNatClampNeg), .int xs2, .ref (a + 1)]) ⟨hx, hb, hml, hown, hts⟩ (kX2_price l X h a x1 1 hO hc3) (wX2_price hts q2_32 ⟨Nat.le_of_ble_eq_true rfl, Nat.le_of_ble_eq_true rfl⟩) hK hW hS (va_recv hK.1 (hW.one hO.1) (ci := 2) (q0 := 0) rfl rfl) rfl hl.1 rfl (Nat.le_of_ble_eq_true rfl) dX2_payFor_25 ⟨Nat.zero_le _, Nat.zero_le _⟩ (fun H locs hW hS => ?_)
  refine lv_isub hx hb dX2_payFor_28 ?_
  have hi4 := hs
  refine kb_iast hx hb hK hW hS hO.2 (k := xs2.toNatClampNeg) rfl hi4 dX2_payFor_29 (fun H locs hW hS => ?_)
  subst hres
  exact kr_v hx hb hr hlk hK hW hS dX2_payFor_30
def fX2_payFor_c0 (a : Nat) (x1 : Int32) (h : HH) : HH := fX2_payFor_c21 a x1 1 1 (hset h (a + 1) 0 ((h (a + 1) 0) - (fX2_price a x1 0 h)))
def sX2_payFor_c0 (a : Nat) (x1 : Int32) (h : HH) : Prop := (sX2_price a x1 0 h) ∧ (sX2_payFor_c21 a x1 1 1 (hset h (a + 1) 0 ((h (a + 1) 0) - (fX2_price a x1 0 h))))
set_option maxRecDepth 100000 in
set_option maxHeartbeats 4000000 in
theorem xX2_payFor_c0 {p : Program} {l : Launch} {e : Env} {s : State} {m : MethodId} {args : Array Value} {below : List Frame} {meth : Method} {c : Code} {X : Cx} {a : Nat} (hO : IsPl X a) (C0 : CT p s m args meth c X cX2_payFor 2 none RX2) (x1 : Int32) (h : HH) (H : Heap) (locs : List Loc) (ls : Array Slot) (res : HH) (hl : lv_has ls 2 [(0, .ref a), (1, .int x1)]) (hW : WH X h H) (hS : va_S (xA X) s.heap H locs) (hs : sX2_payFor_c0 a x1 h) (hres : fX2_payFor_c0 a x1 h = res) : W p l e rmX2_payFor s m args below meth c H locs 0 0 (MQ below (QV X res) args s 0 0 (xA X)) (F0 m 0 ls []) := by
  obtain ⟨hx, hb, hr, hlk, hml, hown, hts, hK⟩ := id C0
  refine lv_aload_n hx hb dX2_payFor_0 rfl (lv_at hl 0 rfl) ?_
  refine g2_0 hx hb hts hown hK hW hO.1 (hts _ q1_55) dX2_payFor_1 ?_
  refine lv_iconst (v := 0) hx hb dX2_payFor_4 (by decide) ?_
  refine lv_dup2_11 hx hb dX2_payFor_5 rfl rfl ?_
  refine kb_iald hx hb hK hW hO.2 (k := 0) (by decide) (vpd (by decide)) dX2_payFor_6 ?_
  refine lv_aload_n hx hb dX2_payFor_7 rfl (lv_at hl 0 rfl) ?_
  refine lv_iload_n hx hb dX2_payFor_8 rfl (lv_at hl 1 rfl) ?_
  refine lv_iconst (v := 0) hx hb dX2_payFor_9 (by decide) ?_
  obtain ⟨hc1, hs⟩ := hs
  refine kV_i (As := [.int x1, .int 0]) (rest := [.int (h (a + 1) 0), .int 0, .ref (a + 1)]) ⟨hx, hb, hml, hown, hts⟩ (kX2_price l X h a x1 0 hO hc1) (wX2_price hts q2_32 ⟨Nat.le_of_ble_eq_true rfl, Nat.le_of_ble_eq_true rfl⟩) hK hW hS (va_recv hK.1 (hW.one hO.1) (ci := 2) (q0 := 0) rfl rfl) rfl hl.1 rfl (Nat.le_of_ble_eq_true rfl) dX2_payFor_10 ⟨Nat.zero_le _, Nat.zero_le _⟩ (fun H locs hW hS => ?_)
  refine lv_isub hx hb dX2_payFor_13 ?_
  refine kb_iast hx hb hK hW hS hO.2 (k := 0) (by decide) (vpd (by decide)) dX2_payFor_14 (fun H locs hW hS => ?_)
  refine lv_aload_n hx hb dX2_payFor_15 rfl (lv_at hl 0 rfl) ?_
  refine g2_0 hx hb hts hown hK hW hO.1 (hts _ q1_55) dX2_payFor_16 ?_
  refine lv_iconst (v := 1) hx hb dX2_payFor_19 (by decide) ?_
  refine lv_dup2_11 hx hb dX2_payFor_20 rfl rfl ?_
  exact xX2_payFor_c21 hO C0 x1 1 1 (hset h (a + 1) 0 ((h (a + 1) 0) - (fX2_price a x1 0 h))) _ _ _ _ (lv_sub hl [0, 1] rfl) hW hS hs hres
def fX2_payFor (a : Nat) (x1 : Int32) (h : HH) : HH := fX2_payFor_c0 a x1 h
def sX2_payFor (a : Nat) (x1 : Int32) (h : HH) : Prop := sX2_payFor_c0 a x1 h
set_option maxRecDepth 100000 in
set_option maxHeartbeats 4000000 in
theorem kX2_payFor (l : Launch) (X : Cx) (h : HH) (a : Nat) (x1 : Int32) (hO : IsPl X a) (hs : sX2_payFor a x1 h) : Met l yX2_payFor vX2_payFor rmX2_payFor (va_Pc [.ref a, .int x1] (fun U => WS X h U)) (QV X (fX2_payFor a x1 h)) 0 0 (xA X) := by
  refine Met.ofW (cc := cX2_payFor) (maxL := 2) (ret := none) (by decide) rfl ?_
  intro p e s m args below meth c s₁ B hml hv
  obtain ⟨rfl, hW, hK⟩ := hv
  have hl := lv_entry ([.ref a, .int x1]) (n := 2) (Nat.le_of_ble_eq_true rfl)
  rw [lg_entry_eq]
  generalize (lg_sl ([.ref a, .int x1]) ++ List.replicate (2 - (lg_sl ([.ref a, .int x1])).length) Slot.unset).toArray = ls at hl ⊢
  have hl : lv_has ls 2 [(0, .ref a), (1, .int x1)] := hl
  exact xX2_payFor_c0 hO ⟨B.exec, B.bytes, B.returns, B.notSynchronized, hml, findClass_of_methodNamed B.named, fun w hw => atoms_spec (ws := vX2_payFor) B.pre w (List.mem_cons_of_mem _ hw), hK⟩ x1 h _ _ ls _ (lv_sub hl [0, 1] rfl) hW va_S.rf hs rfl
-- VillageBoard$Player.canGrow()Z
abbrev rmX2_canGrow : Room := ({ frames := 1, cells := 0, slots := 0, locals := 21 } : Room)
abbrev vX2_canGrow : List Cond := Cond.code yX2_canGrow cX2_canGrow 2 (some .boolean) :: lwG
theorem wX2_canGrow {R : Room} {s : State} {args : Array Value} {own : String} {idx : Nat} (hg : ∀ w ∈ lwG, w.before args s = true) (hl : Cond.methodLink own idx yX2_canGrow ∈ lwG) (hR : rmX2_canGrow.frames + 1 ≤ R.frames ∧ 8 + (2 + 11) + rmX2_canGrow.locals ≤ R.locals) : CallW R s args own RX2 idx yX2_canGrow cX2_canGrow 2 (some .boolean) vX2_canGrow rmX2_canGrow 0 0 0 := cwV 0 hg (gV hl q2_44 q2_45 q1_4 q2_46) rfl rfl rfl (by decide +kernel) hR
def fX2_canGrow_c21 (a : Nat) (xs0 : Int32) (h : HH) : Bool := if 5 ≤ (h a 1) then false else (if xs0 ≤ (h a 1) then false else true)
set_option maxRecDepth 100000 in
set_option maxHeartbeats 4000000 in
theorem xX2_canGrow_c21 {p : Program} {l : Launch} {e : Env} {s : State} {m : MethodId} {args : Array Value} {below : List Frame} {meth : Method} {c : Code} {X : Cx} {a : Nat} (hO : IsPl X a) (C0 : CT p s m args meth c X cX2_canGrow 2 (some .boolean) RX2) (xs0 : Int32) (h : HH) (H : Heap) (locs : List Loc) (ls : Array Slot) (res : Bool) (hl : lv_has ls 2 [(0, .ref a)]) (hW : WH X h H) (hS : va_S (xA X) s.heap H locs) (hres : fX2_canGrow_c21 a xs0 h = res) : W p l e rmX2_canGrow s m args below meth c H locs 0 0 (MQ below (QI X (bI res) h) args s 0 0 (xA X)) (F0 m 21 ls [.int xs0]) := by
  obtain ⟨hx, hb, hr, hlk, hml, hown, hts, hK⟩ := id C0
  refine lv_istore_n (lv' := [(1, .int xs0), (0, .ref a)]) hx hb dX2_canGrow_21 rfl hl (by decide) rfl (fun ls hl => ?_)
  refine lv_aload_n hx hb dX2_canGrow_22 rfl (lv_at hl 1 rfl) ?_
  refine g2_1 hx hb hts hown hK hW hO.1 (hts _ q1_58) dX2_canGrow_23 ?_
  refine lv_iconst (v := 5) hx hb dX2_canGrow_26 (by decide) ?_
  refine lv_icmp_ge (tgt := 42) hx hb dX2_canGrow_27 (by decide) (fun c2 => ?_) (fun c2 => ?_)
  · have hres := (if_pos c2).symm.trans hres
    refine lv_iconst (v := 0) hx hb dX2_canGrow_42 (by decide) ?_
    subst hres
    exact kr_z (v := false) hx hb hr hlk hK hW hS dX2_canGrow_43
  · have hres := (if_neg c2).symm.trans hres
    refine lv_aload_n hx hb dX2_canGrow_30 rfl (lv_at hl 1 rfl) ?_
    refine g2_1 hx hb hts hown hK hW hO.1 (hts _ q1_58) dX2_canGrow_31 ?_
    refine lv_iload_n hx hb dX2_canGrow_34 rfl (lv_at hl 0 rfl) ?_
    refine lv_icmp_ge (tgt := 42) hx hb dX2_canGrow_35 (by decide) (fun c3 => ?_) (fun c3 => ?_)
    · have hres := (if_pos c3).symm.trans hres
      refine lv_iconst (v := 0) hx hb dX2_canGrow_42 (by decide) ?_
      subst hres
      exact kr_z (v := false) hx hb hr hlk hK hW hS dX2_canGrow_43
    · have hres := (if_neg c3).symm.trans hres
      refine lv_iconst (v := 1) hx hb dX2_canGrow_38 (by decide) ?_
      refine lv_goto (tgt := 43) hx hb dX2_canGrow_39 (by decide) ?_
      subst hres
      exact kr_z (v := true) hx hb hr hlk hK hW hS dX2_canGrow_43
def fX2_canGrow_c0 (a : Nat) (h : HH) : Bool := if (bI (fX2_has a 4 h)) = 0 then (fX2_canGrow_c21 a (h a 4) h) else (fX2_canGrow_c21 a ((h a 4) + 1) h)
set_option maxRecDepth 100000 in
set_option maxHeartbeats 4000000 in
theorem xX2_canGrow_c0 {p : Program} {l : Launch} {e : Env} {s : State} {m : MethodId} {args : Array Value} {below : List Frame} {meth : Method} {c : Code} {X : Cx} {a : Nat} (hO : IsPl X a) (C0 : CT p s m args meth c X cX2_canGrow 2 (some .boolean) RX2) (h : HH) (H : Heap) (locs : List Loc) (ls : Array Slot) (res : Bool) (hl : lv_has ls 2 [(0, .ref a)]) (hW : WH X h H) (hS : va_S (xA X) s.heap H locs) (hres : fX2_canGrow_c0 a h = res) : W p l e rmX2_canGrow s m args below meth c H locs 0 0 (MQ below (QI X (bI res) h) args s 0 0 (xA X)) (F0 m 0 ls []) := by
  obtain ⟨hx, hb, hr, hlk, hml, hown, hts, hK⟩ := id C0
  refine lv_aload_n hx hb dX2_canGrow_0 rfl (lv_at hl 0 rfl) ?_
  refine lv_iconst (v := 4) hx hb dX2_canGrow_1 (by decide) ?_
  refine kV_i (As := [.int 4]) (rest := []) ⟨hx, hb, hml, hown, hts⟩ (kX2_has l X h a 4 hO) (wX2_has hts q1_206 ⟨Nat.le_of_ble_eq_true rfl, Nat.le_of_ble_eq_true rfl⟩) hK hW hS (va_recv hK.1 (hW.one hO.1) (ci := 2) (q0 := 0) rfl rfl) rfl hl.1 rfl (Nat.le_of_ble_eq_true rfl) dX2_canGrow_2 ⟨Nat.zero_le _, Nat.zero_le _⟩ (fun H locs hW hS => ?_)
  refine lv_if_eq (tgt := 17) hx hb dX2_canGrow_5 (by decide) (fun c1 => ?_) (fun c1 => ?_)
  · have hres := (if_pos c1).symm.trans hres
    refine lv_aload_n hx hb dX2_canGrow_17 rfl (lv_at hl 0 rfl) ?_
    refine g2_4 hx hb hts hown hK hW hO.1 (hts _ q1_63) dX2_canGrow_18 ?_
    exact xX2_canGrow_c21 hO C0 (h a 4) h _ _ _ _ (lv_sub hl [0] rfl) hW hS hres
  · have hres := (if_neg c1).symm.trans hres
    refine lv_aload_n hx hb dX2_canGrow_8 rfl (lv_at hl 0 rfl) ?_
    refine g2_4 hx hb hts hown hK hW hO.1 (hts _ q1_63) dX2_canGrow_9 ?_
    refine lv_iconst (v := 1) hx hb dX2_canGrow_12 (by decide) ?_
    refine lv_iadd hx hb dX2_canGrow_13 ?_
    refine lv_goto (tgt := 21) hx hb dX2_canGrow_14 (by decide) ?_
    exact xX2_canGrow_c21 hO C0 ((h a 4) + 1) h _ _ _ _ (lv_sub hl [0] rfl) hW hS hres
def fX2_canGrow (a : Nat) (h : HH) : Bool := fX2_canGrow_c0 a h
set_option maxRecDepth 100000 in
set_option maxHeartbeats 4000000 in
theorem kX2_canGrow (l : Launch) (X : Cx) (h : HH) (a : Nat) (hO : IsPl X a) : Met l yX2_canGrow vX2_canGrow rmX2_canGrow (va_Pc [.ref a] (fun U => WS X h U)) (QI X (bI (fX2_canGrow a h)) h) 0 0 (xA X) := by
  refine Met.ofW (cc := cX2_canGrow) (maxL := 2) (ret := some .boolean) (by decide) rfl ?_
  intro p e s m args below meth c s₁ B hml hv
  obtain ⟨rfl, hW, hK⟩ := hv
  have hl := lv_entry ([.ref a]) (n := 2) (Nat.le_of_ble_eq_true rfl)
  rw [lg_entry_eq]
  generalize (lg_sl ([.ref a]) ++ List.replicate (2 - (lg_sl ([.ref a])).length) Slot.unset).toArray = ls at hl ⊢
  have hl : lv_has ls 2 [(0, .ref a)] := hl
  exact xX2_canGrow_c0 hO ⟨B.exec, B.bytes, B.returns, B.notSynchronized, hml, findClass_of_methodNamed B.named, fun w hw => atoms_spec (ws := vX2_canGrow) B.pre w (List.mem_cons_of_mem _ hw), hK⟩ h _ _ ls _ (lv_sub hl [0] rfl) hW va_S.rf rfl
-- VillageBoard$Player.grow()V
abbrev rmX2_grow : Room := ({ frames := 0, cells := 0, slots := 0, locals := 0 } : Room)
abbrev vX2_grow : List Cond := Cond.code yX2_grow cX2_grow 1 none :: lwG
theorem wX2_grow {R : Room} {s : State} {args : Array Value} {own : String} {idx : Nat} (hg : ∀ w ∈ lwG, w.before args s = true) (hl : Cond.methodLink own idx yX2_grow ∈ lwG) (hR : rmX2_grow.frames + 1 ≤ R.frames ∧ 8 + (1 + 11) + rmX2_grow.locals ≤ R.locals) : CallW R s args own RX2 idx yX2_grow cX2_grow 1 none vX2_grow rmX2_grow 0 0 0 := cwV 0 hg (gV hl q2_177 q2_178 q1_4 q2_179) rfl rfl rfl (by decide +kernel) hR
def fX2_grow_c12 (a : Nat) (h : HH) : HH := hset h a 2 ((h a 2) + 1)
set_option maxRecDepth 100000 in
set_option maxHeartbeats 4000000 in
theorem xX2_grow_c12 {p : Program} {l : Launch} {e : Env} {s : State} {m : MethodId} {args : Array Value} {below : List Frame} {meth : Method} {c : Code} {X : Cx} {a : Nat} (hO : IsPl X a) (C0 : CT p s m args meth c X cX2_grow 1 none RX2) (h : HH) (H : Heap) (locs : List Loc) (ls : Array Slot) (res : HH) (hl : lv_has ls 1 []) (hW : WH X h H) (hS : va_S (xA X) s.heap H locs) (hres : fX2_grow_c12 a h = res) : W p l e rmX2_grow s m args below meth c H locs 0 0 (MQ below (QV X res) args s 0 0 (xA X)) (F0 m 12 ls [.ref a, .ref a]) := by
  obtain ⟨hx, hb, hr, hlk, hml, hown, hts, hK⟩ := id C0
  refine g2_2 hx hb hts hown hK hW hO.1 (hts _ q1_59) dX2_grow_12 ?_
  refine lv_iconst (v := 1) hx hb dX2_grow_15 (by decide) ?_
  refine lv_iadd hx hb dX2_grow_16 ?_
  refine p2_2 hx hb hts hown hK hW hS hO.1 (hts _ q1_59) dX2_grow_17 (fun H locs hW hS => ?_)
  subst hres
  exact kr_v hx hb hr hlk hK hW hS dX2_grow_20
def fX2_grow_c0 (a : Nat) (h : HH) : HH := fX2_grow_c12 a (hset h a 1 ((h a 1) + 1))
set_option maxRecDepth 100000 in
set_option maxHeartbeats 4000000 in
theorem xX2_grow_c0 {p : Program} {l : Launch} {e : Env} {s : State} {m : MethodId} {args : Array Value} {below : List Frame} {meth : Method} {c : Code} {X : Cx} {a : Nat} (hO : IsPl X a) (C0 : CT p s m args meth c X cX2_grow 1 none RX2) (h : HH) (H : Heap) (locs : List Loc) (ls : Array Slot) (res : HH) (hl : lv_has ls 1 [(0, .ref a)]) (hW : WH X h H) (hS : va_S (xA X) s.heap H locs) (hres : fX2_grow_c0 a h = res) : W p l e rmX2_grow s m args below meth c H locs 0 0 (MQ below (QV X res) args s 0 0 (xA X)) (F0 m 0 ls []) := by
  obtain ⟨hx, hb, hr, hlk, hml, hown, hts, hK⟩ := id C0
  refine lv_aload_n hx hb dX2_grow_0 rfl (lv_at hl 0 rfl) ?_
  refine lv_dup hx hb dX2_grow_1 rfl ?_
  refine g2_1 hx hb hts hown hK hW hO.1 (hts _ q1_58) dX2_grow_2 ?_
  refine lv_iconst (v := 1) hx hb dX2_grow_5 (by decide) ?_
  refine lv_iadd hx hb dX2_grow_6 ?_
  refine p2_1 hx hb hts hown hK hW hS hO.1 (hts _ q1_58) dX2_grow_7 (fun H locs hW hS => ?_)
  refine lv_aload_n hx hb dX2_grow_10 rfl (lv_at hl 0 rfl) ?_
  refine lv_dup hx hb dX2_grow_11 rfl ?_
  exact xX2_grow_c12 hO C0 (hset h a 1 ((h a 1) + 1)) _ _ _ _ (lv_sub hl [] rfl) hW hS hres
def fX2_grow (a : Nat) (h : HH) : HH := fX2_grow_c0 a h
set_option maxRecDepth 100000 in
set_option maxHeartbeats 4000000 in
theorem kX2_grow (l : Launch) (X : Cx) (h : HH) (a : Nat) (hO : IsPl X a) : Met l yX2_grow vX2_grow rmX2_grow (va_Pc [.ref a] (fun U => WS X h U)) (QV X (fX2_grow a h)) 0 0 (xA X) := by
  refine Met.ofW (cc := cX2_grow) (maxL := 1) (ret := none) (by decide) rfl ?_
  intro p e s m args below meth c s₁ B hml hv
  obtain ⟨rfl, hW, hK⟩ := hv
  have hl := lv_entry ([.ref a]) (n := 1) (Nat.le_of_ble_eq_true rfl)
  rw [lg_entry_eq]
  generalize (lg_sl ([.ref a]) ++ List.replicate (1 - (lg_sl ([.ref a])).length) Slot.unset).toArray = ls at hl ⊢
  have hl : lv_has ls 1 [(0, .ref a)] := hl
  exact xX2_grow_c0 hO ⟨B.exec, B.bytes, B.returns, B.notSynchronized, hml, findClass_of_methodNamed B.named, fun w hw => atoms_spec (ws := vX2_grow) B.pre w (List.mem_cons_of_mem _ hw), hK⟩ h _ _ ls _ (lv_sub hl [0] rfl) hW va_S.rf rfl
-- VillageBoard$Player.startRound()V
abbrev rmX2_startRound : Room := ({ frames := 1, cells := 0, slots := 0, locals := 21 } : Room)
abbrev vX2_startRound : List Cond := Cond.code yX2_startRound cX2_startRound 1 none :: lwG
theorem wX2_startRound {R : Room} {s : State} {args : Array Value} {own : String} {idx : Nat} (hg : ∀ w ∈ lwG, w.before args s = true) (hl : Cond.methodLink own idx yX2_startRound ∈ lwG) (hR : rmX2_startRound.frames + 1 ≤ R.frames ∧ 8 + (1 + 11) + rmX2_startRound.locals ≤ R.locals) : CallW R s args own RX2 idx yX2_startRound cX2_startRound 1 none vX2_startRound rmX2_startRound 0 0 0 := cwV 0 hg (gV hl q1_203 q1_204 q1_4 q1_205) rfl rfl rfl (by decide +kernel) hR
def fX2_startRound_c15 (a : Nat) (xs0 : Int32) (h : HH) : HH := if (bI (fX2_has a xs0 h)) = 0 then h else (hset h (a + 1) 4 ((h (a + 1) 4) + 1))
set_option maxRecDepth 100000 in
set_option maxHeartbeats 4000000 in
theorem xX2_startRound_c15 {p : Program} {l : Launch} {e : Env} {s : State} {m : MethodId} {args : Array Value} {below : List Frame} {meth : Method} {c : Code} {X : Cx} {a : Nat} (hO : IsPl X a) (C0 : CT p s m args meth c X cX2_startRound 1 none RX2) (xs0 : Int32) (h : HH) (H : Heap) (locs : List Loc) (ls : Array Slot) (res : HH) (hl : lv_has ls 1 [(0, .ref a)]) (hW : WH X h H) (hS : va_S (xA X) s.heap H locs) (hres : fX2_startRound_c15 a xs0 h = res) : W p l e rmX2_startRound s m args below meth c H locs 0 0 (MQ below (QV X res) args s 0 0 (xA X)) (F0 m 15 ls [.int xs0, .ref a]) := by
  obtain ⟨hx, hb, hr, hlk, hml, hown, hts, hK⟩ := id C0
  refine kV_i (As := [.int xs0]) (rest := []) ⟨hx, hb, hml, hown, hts⟩ (kX2_has l X h a xs0 hO) (wX2_has hts q1_206 ⟨Nat.le_of_ble_eq_true rfl, Nat.le_of_ble_eq_true rfl⟩) hK hW hS (va_recv hK.1 (hW.one hO.1) (ci := 2) (q0 := 0) rfl rfl) rfl hl.1 rfl (Nat.le_of_ble_eq_true rfl) dX2_startRound_15 ⟨Nat.zero_le _, Nat.zero_le _⟩ (fun H locs hW hS => ?_)
  refine lv_if_eq (tgt := 31) hx hb dX2_startRound_18 (by decide) (fun c1 => ?_) (fun c1 => ?_)
  · have hres := (if_pos c1).symm.trans hres
    subst hres
    exact kr_v hx hb hr hlk hK hW hS dX2_startRound_31
  · have hres := (if_neg c1).symm.trans hres
    refine lv_aload_n hx hb dX2_startRound_21 rfl (lv_at hl 0 rfl) ?_
    refine g2_0 hx hb hts hown hK hW hO.1 (hts _ q1_55) dX2_startRound_22 ?_
    refine lv_iconst (v := 4) hx hb dX2_startRound_25 (by decide) ?_
    refine lv_dup2_11 hx hb dX2_startRound_26 rfl rfl ?_
    refine kb_iald hx hb hK hW hO.2 (k := 4) (by decide) (vpd (by decide)) dX2_startRound_27 ?_
    refine lv_iconst (v := 1) hx hb dX2_startRound_28 (by decide) ?_
    refine lv_iadd hx hb dX2_startRound_29 ?_
    refine kb_iast hx hb hK hW hS hO.2 (k := 4) (by decide) (vpd (by decide)) dX2_startRound_30 (fun H locs hW hS => ?_)
    subst hres
    exact kr_v hx hb hr hlk hK hW hS dX2_startRound_31
def fX2_startRound_c7 (a : Nat) (h : HH) : HH := fX2_startRound_c15 a 5 (hset h a 3 (h a 1))
set_option maxRecDepth 100000 in
set_option maxHeartbeats 4000000 in
theorem xX2_startRound_c7 {p : Program} {l : Launch} {e : Env} {s : State} {m : MethodId} {args : Array Value} {below : List Frame} {meth : Method} {c : Code} {X : Cx} {a : Nat} (hO : IsPl X a) (C0 : CT p s m args meth c X cX2_startRound 1 none RX2) (h : HH) (H : Heap) (locs : List Loc) (ls : Array Slot) (res : HH) (hl : lv_has ls 1 [(0, .ref a)]) (hW : WH X h H) (hS : va_S (xA X) s.heap H locs) (hres : fX2_startRound_c7 a h = res) : W p l e rmX2_startRound s m args below meth c H locs 0 0 (MQ below (QV X res) args s 0 0 (xA X)) (F0 m 7 ls [.ref a, .ref a]) := by
  obtain ⟨hx, hb, hr, hlk, hml, hown, hts, hK⟩ := id C0
  refine g2_1 hx hb hts hown hK hW hO.1 (hts _ q1_58) dX2_startRound_7 ?_
  refine p2_3 hx hb hts hown hK hW hS hO.1 (hts _ q1_60) dX2_startRound_10 (fun H locs hW hS => ?_)
  refine lv_aload_n hx hb dX2_startRound_13 rfl (lv_at hl 0 rfl) ?_
  refine lv_iconst (v := 5) hx hb dX2_startRound_14 (by decide) ?_
  exact xX2_startRound_c15 hO C0 5 (hset h a 3 (h a 1)) _ _ _ _ (lv_sub hl [0] rfl) hW hS hres
def fX2_startRound_c0 (a : Nat) (h : HH) : HH := fX2_startRound_c7 a (hset h a 2 0)
set_option maxRecDepth 100000 in
set_option maxHeartbeats 4000000 in
theorem xX2_startRound_c0 {p : Program} {l : Launch} {e : Env} {s : State} {m : MethodId} {args : Array Value} {below : List Frame} {meth : Method} {c : Code} {X : Cx} {a : Nat} (hO : IsPl X a) (C0 : CT p s m args meth c X cX2_startRound 1 none RX2) (h : HH) (H : Heap) (locs : List Loc) (ls : Array Slot) (res : HH) (hl : lv_has ls 1 [(0, .ref a)]) (hW : WH X h H) (hS : va_S (xA X) s.heap H locs) (hres : fX2_startRound_c0 a h = res) : W p l e rmX2_startRound s m args below meth c H locs 0 0 (MQ below (QV X res) args s 0 0 (xA X)) (F0 m 0 ls []) := by
  obtain ⟨hx, hb, hr, hlk, hml, hown, hts, hK⟩ := id C0
  refine lv_aload_n hx hb dX2_startRound_0 rfl (lv_at hl 0 rfl) ?_
  refine lv_iconst (v := 0) hx hb dX2_startRound_1 (by decide) ?_
  refine p2_2 hx hb hts hown hK hW hS hO.1 (hts _ q1_59) dX2_startRound_2 (fun H locs hW hS => ?_)
  refine lv_aload_n hx hb dX2_startRound_5 rfl (lv_at hl 0 rfl) ?_
  refine lv_aload_n hx hb dX2_startRound_6 rfl (lv_at hl 0 rfl) ?_
  exact xX2_startRound_c7 hO C0 (hset h a 2 0) _ _ _ _ (lv_sub hl [0] rfl) hW hS hres
def fX2_startRound (a : Nat) (h : HH) : HH := fX2_startRound_c0 a h
set_option maxRecDepth 100000 in
set_option maxHeartbeats 4000000 in
theorem kX2_startRound (l : Launch) (X : Cx) (h : HH) (a : Nat) (hO : IsPl X a) : Met l yX2_startRound vX2_startRound rmX2_startRound (va_Pc [.ref a] (fun U => WS X h U)) (QV X (fX2_startRound a h)) 0 0 (xA X) := by
  refine Met.ofW (cc := cX2_startRound) (maxL := 1) (ret := none) (by decide) rfl ?_
  intro p e s m args below meth c s₁ B hml hv
  obtain ⟨rfl, hW, hK⟩ := hv
  have hl := lv_entry ([.ref a]) (n := 1) (Nat.le_of_ble_eq_true rfl)
  rw [lg_entry_eq]
  generalize (lg_sl ([.ref a]) ++ List.replicate (1 - (lg_sl ([.ref a])).length) Slot.unset).toArray = ls at hl ⊢
  have hl : lv_has ls 1 [(0, .ref a)] := hl
  exact xX2_startRound_c0 hO ⟨B.exec, B.bytes, B.returns, B.notSynchronized, hml, findClass_of_methodNamed B.named, fun w hw => atoms_spec (ws := vX2_startRound) B.pre w (List.mem_cons_of_mem _ hw), hK⟩ h _ _ ls _ (lv_sub hl [0] rfl) hW va_S.rf rfl
-- VillageBoard$Player.foodNeeded()I
abbrev rmX2_foodNeeded : Room := ({ frames := 0, cells := 0, slots := 0, locals := 0 } : Room)
abbrev vX2_foodNeeded : List Cond := Cond.code yX2_foodNeeded cX2_foodNeeded 1 (some .int) :: lwG
theorem wX2_foodNeeded {R : Room} {s : State} {args : Array Value} {own : String} {idx : Nat} (hg : ∀ w ∈ lwG, w.before args s = true) (hl : Cond.methodLink own idx yX2_foodNeeded ∈ lwG) (hR : rmX2_foodNeeded.frames + 1 ≤ R.frames ∧ 8 + (1 + 11) + rmX2_foodNeeded.locals ≤ R.locals) : CallW R s args own RX2 idx yX2_foodNeeded cX2_foodNeeded 1 (some .int) vX2_foodNeeded rmX2_foodNeeded 0 0 0 := cwV 0 hg (gV hl q2_74 q2_75 q1_4 q2_76) rfl rfl rfl (by decide +kernel) hR
def fX2_foodNeeded_c0 (a : Nat) (h : HH) : Int32 := (2 * (h a 1)) - (h a 2)
set_option maxRecDepth 100000 in
set_option maxHeartbeats 4000000 in
theorem xX2_foodNeeded_c0 {p : Program} {l : Launch} {e : Env} {s : State} {m : MethodId} {args : Array Value} {below : List Frame} {meth : Method} {c : Code} {X : Cx} {a : Nat} (hO : IsPl X a) (C0 : CT p s m args meth c X cX2_foodNeeded 1 (some .int) RX2) (h : HH) (H : Heap) (locs : List Loc) (ls : Array Slot) (res : Int32) (hl : lv_has ls 1 [(0, .ref a)]) (hW : WH X h H) (hS : va_S (xA X) s.heap H locs) (hres : fX2_foodNeeded_c0 a h = res) : W p l e rmX2_foodNeeded s m args below meth c H locs 0 0 (MQ below (QI X res h) args s 0 0 (xA X)) (F0 m 0 ls []) := by
  obtain ⟨hx, hb, hr, hlk, hml, hown, hts, hK⟩ := id C0
  refine lv_iconst (v := 2) hx hb dX2_foodNeeded_0 (by decide) ?_
  refine lv_aload_n hx hb dX2_foodNeeded_1 rfl (lv_at hl 0 rfl) ?_
  refine g2_1 hx hb hts hown hK hW hO.1 (hts _ q1_58) dX2_foodNeeded_2 ?_
  refine lv_imul hx hb dX2_foodNeeded_5 ?_
  refine lv_aload_n hx hb dX2_foodNeeded_6 rfl (lv_at hl 0 rfl) ?_
  refine g2_2 hx hb hts hown hK hW hO.1 (hts _ q1_59) dX2_foodNeeded_7 ?_
  refine lv_isub hx hb dX2_foodNeeded_10 ?_
  subst hres
  exact kr_i hx hb hr hlk hK hW hS dX2_foodNeeded_11
def fX2_foodNeeded (a : Nat) (h : HH) : Int32 := fX2_foodNeeded_c0 a h
set_option maxRecDepth 100000 in
set_option maxHeartbeats 4000000 in
theorem kX2_foodNeeded (l : Launch) (X : Cx) (h : HH) (a : Nat) (hO : IsPl X a) : Met l yX2_foodNeeded vX2_foodNeeded rmX2_foodNeeded (va_Pc [.ref a] (fun U => WS X h U)) (QI X (fX2_foodNeeded a h) h) 0 0 (xA X) := by
  refine Met.ofW (cc := cX2_foodNeeded) (maxL := 1) (ret := some .int) (by decide) rfl ?_
  intro p e s m args below meth c s₁ B hml hv
  obtain ⟨rfl, hW, hK⟩ := hv
  have hl := lv_entry ([.ref a]) (n := 1) (Nat.le_of_ble_eq_true rfl)
  rw [lg_entry_eq]
  generalize (lg_sl ([.ref a]) ++ List.replicate (1 - (lg_sl ([.ref a])).length) Slot.unset).toArray = ls at hl ⊢
  have hl : lv_has ls 1 [(0, .ref a)] := hl
  exact xX2_foodNeeded_c0 hO ⟨B.exec, B.bytes, B.returns, B.notSynchronized, hml, findClass_of_methodNamed B.named, fun w hw => atoms_spec (ws := vX2_foodNeeded) B.pre w (List.mem_cons_of_mem _ hw), hK⟩ h _ _ ls _ (lv_sub hl [0] rfl) hW va_S.rf rfl
-- VillageBoard$Player.feed()V
abbrev rmX2_feed : Room := ({ frames := 1, cells := 0, slots := 0, locals := 22 } : Room)
abbrev vX2_feed : List Cond := Cond.code yX2_feed cX2_feed 5 none :: lwG
theorem wX2_feed {R : Room} {s : State} {args : Array Value} {own : String} {idx : Nat} (hg : ∀ w ∈ lwG, w.before args s = true) (hl : Cond.methodLink own idx yX2_feed ∈ lwG) (hR : rmX2_feed.frames + 1 ≤ R.frames ∧ 8 + (5 + 11) + rmX2_feed.locals ≤ R.locals) : CallW R s args own RX2 idx yX2_feed cX2_feed 5 none vX2_feed rmX2_feed 0 0 0 := cwV 0 hg (gV hl q2_160 q0_8 q1_4 q2_161) rfl rfl rfl (by decide +kernel) hR
def fX2_feed_c101 (a : Nat) (x1 : Int32) (h : HH) : HH := if 0 ≤ x1 then (hset h a 5 ((h a 5) + x1)) else (hset h (a + 1) 4 ((h (a + 1) 4) - x1))
set_option maxRecDepth 100000 in
set_option maxHeartbeats 4000000 in
theorem xX2_feed_c101 {p : Program} {l : Launch} {e : Env} {s : State} {m : MethodId} {args : Array Value} {below : List Frame} {meth : Method} {c : Code} {X : Cx} {a : Nat} (hO : IsPl X a) (C0 : CT p s m args meth c X cX2_feed 5 none RX2) (x1 : Int32) (h : HH) (H : Heap) (locs : List Loc) (ls : Array Slot) (res : HH) (hl : lv_has ls 5 [(0, .ref a), (1, .int x1)]) (hW : WH X h H) (hS : va_S (xA X) s.heap H locs) (hres : fX2_feed_c101 a x1 h = res) : W p l e rmX2_feed s m args below meth c H locs 0 0 (MQ below (QV X res) args s 0 0 (xA X)) (F0 m 101 ls []) := by
  obtain ⟨hx, hb, hr, hlk, hml, hown, hts, hK⟩ := id C0
  refine lv_iload_n hx hb dX2_feed_101 rfl (lv_at hl 1 rfl) ?_
  refine lv_if_ge (tgt := 118) hx hb dX2_feed_102 (by decide) (fun c4 => ?_) (fun c4 => ?_)
  · have hres := (if_pos c4).symm.trans hres
    refine lv_aload_n hx hb dX2_feed_118 rfl (lv_at hl 0 rfl) ?_
    refine lv_dup hx hb dX2_feed_119 rfl ?_
    refine g2_5 hx hb hts hown hK hW hO.1 (hts _ q1_65) dX2_feed_120 ?_
    refine lv_iload_n hx hb dX2_feed_123 rfl (lv_at hl 1 rfl) ?_
    refine lv_iadd hx hb dX2_feed_124 ?_
    refine p2_5 hx hb hts hown hK hW hS hO.1 (hts _ q1_65) dX2_feed_125 (fun H locs hW hS => ?_)
    subst hres
    exact kr_v hx hb hr hlk hK hW hS dX2_feed_128
  · have hres := (if_neg c4).symm.trans hres
    refine lv_aload_n hx hb dX2_feed_105 rfl (lv_at hl 0 rfl) ?_
    refine g2_0 hx hb hts hown hK hW hO.1 (hts _ q1_55) dX2_feed_106 ?_
    refine lv_iconst (v := 4) hx hb dX2_feed_109 (by decide) ?_
    refine lv_dup2_11 hx hb dX2_feed_110 rfl rfl ?_
    refine kb_iald hx hb hK hW hO.2 (k := 4) (by decide) (vpd (by decide)) dX2_feed_111 ?_
    refine lv_iload_n hx hb dX2_feed_112 rfl (lv_at hl 1 rfl) ?_
    refine lv_isub hx hb dX2_feed_113 ?_
    refine kb_iast hx hb hK hW hS hO.2 (k := 4) (by decide) (vpd (by decide)) dX2_feed_114 (fun H locs hW hS => ?_)
    refine lv_goto (tgt := 128) hx hb dX2_feed_115 (by decide) ?_
    subst hres
    exact kr_v hx hb hr hlk hK hW hS dX2_feed_128
def fX2_feed_c70 (a : Nat) : Nat → Int32 → Int32 → HH → HH
  | 0, x1, x4, h => h
  | n + 1, x1, x4, h => if x1 ≤ 0 then (fX2_feed_c101 a x1 h) else (if (h (a + 1) 3) ≤ 0 then (fX2_feed_c101 a x1 h) else ((fX2_feed_c70 a n) (x1 - x4) x4 (hset h (a + 1) 3 ((h (a + 1) 3) - 1))))
def sX2_feed_c70 (a : Nat) : Nat → Int32 → Int32 → HH → Prop
  | 0, _, _, _ => False
  | n + 1, x1, x4, h => (x1 ≤ 0 → True) ∧ (¬ (x1 ≤ 0) → (((h (a + 1) 3) ≤ 0 → True) ∧ (¬ ((h (a + 1) 3) ≤ 0) → ((sX2_feed_c70 a n) (x1 - x4) x4 (hset h (a + 1) 3 ((h (a + 1) 3) - 1))))))
set_option maxRecDepth 100000 in
set_option maxHeartbeats 4000000 in
theorem xX2_feed_c70 {p : Program} {l : Launch} {e : Env} {s : State} {m : MethodId} {args : Array Value} {below : List Frame} {meth : Method} {c : Code} {X : Cx} {a : Nat} (hO : IsPl X a) (C0 : CT p s m args meth c X cX2_feed 5 none RX2) : ∀ (n : Nat) (x1 : Int32) (x4 : Int32) (h : HH) (H : Heap) (locs : List Loc) (ls : Array Slot) (res : HH) (hl : lv_has ls 5 [(0, .ref a), (1, .int x1), (4, .int x4)]) (hW : WH X h H) (hS : va_S (xA X) s.heap H locs) (hs : sX2_feed_c70 a n x1 x4 h) (hres : fX2_feed_c70 a n x1 x4 h = res), W p l e rmX2_feed s m args below meth c H locs 0 0 (MQ below (QV X res) args s 0 0 (xA X)) (F0 m 70 ls []) := by
  obtain ⟨hx, hb, hr, hlk, hml, hown, hts, hK⟩ := id C0
  intro n
  induction n with
  | zero =>
    intro _ _ _ _ _ _ _ _ _ _ hs _
    exact hs.elim
  | succ n ih =>
    intro x1 x4 h H locs ls res hl hW hS hs hres
    refine lv_iload_n hx hb dX2_feed_70 rfl (lv_at hl 1 rfl) ?_
    refine lv_if_le (tgt := 101) hx hb dX2_feed_71 (by decide) (fun c3 => ?_) (fun c3 => ?_)
    · have hres := (if_pos c3).symm.trans hres
      have hs := And.left hs c3
      exact xX2_feed_c101 hO C0 x1 h _ _ _ _ (lv_sub hl [0, 1] rfl) hW hS hres
    · have hres := (if_neg c3).symm.trans hres
      have hs := And.right hs c3
      refine lv_aload_n hx hb dX2_feed_74 rfl (lv_at hl 0 rfl) ?_
      refine g2_0 hx hb hts hown hK hW hO.1 (hts _ q1_55) dX2_feed_75 ?_
      refine lv_iconst (v := 3) hx hb dX2_feed_78 (by decide) ?_
      refine kb_iald hx hb hK hW hO.2 (k := 3) (by decide) (vpd (by decide)) dX2_feed_79 ?_
      refine lv_if_le (tgt := 101) hx hb dX2_feed_80 (by decide) (fun c5 => ?_) (fun c5 => ?_)
      · have hres := (if_pos c5).symm.trans hres
        have hs := And.left hs c5
        exact xX2_feed_c101 hO C0 x1 h _ _ _ _ (lv_sub hl [0, 1] rfl) hW hS hres
      · have hres := (if_neg c5).symm.trans hres
        have hs := And.right hs c5
        refine lv_aload_n hx hb dX2_feed_83 rfl (lv_at hl 0 rfl) ?_
        refine g2_0 hx hb hts hown hK hW hO.1 (hts _ q1_55) dX2_feed_84 ?_
        refine lv_iconst (v := 3) hx hb dX2_feed_87 (by decide) ?_
        refine lv_dup2_11 hx hb dX2_feed_88 rfl rfl ?_
        refine kb_iald hx hb hK hW hO.2 (k := 3) (by decide) (vpd (by decide)) dX2_feed_89 ?_
        refine lv_iconst (v := 1) hx hb dX2_feed_90 (by decide) ?_
        refine lv_isub hx hb dX2_feed_91 ?_
        refine kb_iast hx hb hK hW hS hO.2 (k := 3) (by decide) (vpd (by decide)) dX2_feed_92 (fun H locs hW hS => ?_)
        refine lv_iload_n hx hb dX2_feed_93 rfl (lv_at hl 1 rfl) ?_
        refine lv_iload hx hb dX2_feed_94 (lv_at hl 2 rfl) ?_
        refine lv_isub hx hb dX2_feed_96 ?_
        refine lv_istore_n (lv' := [(1, .int (x1 - x4)), (0, .ref a), (4, .int x4)]) hx hb dX2_feed_97 rfl hl (by decide) rfl (fun ls hl => ?_)
        refine lv_goto (tgt := 70) hx hb dX2_feed_98 (by decide) ?_
        exact ih (x1 - x4) x4 (hset h (a + 1) 3 ((h (a + 1) 3) - 1)) _ _ _ _ (lv_sub hl [1, 0, 2] rfl) hW hS hs hres
def fX2_feed_c68 (a : Nat) (x1 : Int32) (xs0 : Int32) (h : HH) : HH := fX2_feed_c70 a 12 x1 xs0 h
def sX2_feed_c68 (a : Nat) (x1 : Int32) (xs0 : Int32) (h : HH) : Prop := sX2_feed_c70 a 12 x1 xs0 h
set_option maxRecDepth 100000 in
set_option maxHeartbeats 4000000 in
theorem xX2_feed_c68 {p : Program} {l : Launch} {e : Env} {s : State} {m : MethodId} {args : Array Value} {below : List Frame} {meth : Method} {c : Code} {X : Cx} {a : Nat} (hO : IsPl X a) (C0 : CT p s m args meth c X cX2_feed 5 none RX2) (x1 : Int32) (xs0 : Int32) (h : HH) (H : Heap) (locs : List Loc) (ls : Array Slot) (res : HH) (hl : lv_has ls 5 [(0, .ref a), (1, .int x1)]) (hW : WH X h H) (hS : va_S (xA X) s.heap H locs) (hs : sX2_feed_c68 a x1 xs0 h) (hres : fX2_feed_c68 a x1 xs0 h = res) : W p l e rmX2_feed s m args below meth c H locs 0 0 (MQ below (QV X res) args s 0 0 (xA X)) (F0 m 68 ls [.int xs0]) := by
  obtain ⟨hx, hb, hr, hlk, hml, hown, hts, hK⟩ := id C0
  refine lv_istore (lv' := [(4, .int xs0), (0, .ref a), (1, .int x1)]) hx hb dX2_feed_68 hl (by decide) rfl (fun ls hl => ?_)
  exact xX2_feed_c70 hO C0 12 x1 xs0 h _ _ _ _ (lv_sub hl [1, 2, 0] rfl) hW hS hs hres
def fX2_feed_c57 (a : Nat) (x1 : Int32) (xs0 : Int32) (h : HH) : HH := if (bI (fX2_has a xs0 h)) = 0 then (fX2_feed_c68 a x1 2 h) else (fX2_feed_c68 a x1 4 h)
def sX2_feed_c57 (a : Nat) (x1 : Int32) (xs0 : Int32) (h : HH) : Prop := ((bI (fX2_has a xs0 h)) = 0 → (sX2_feed_c68 a x1 2 h)) ∧ (¬ ((bI (fX2_has a xs0 h)) = 0) → (sX2_feed_c68 a x1 4 h))
set_option maxRecDepth 100000 in
set_option maxHeartbeats 4000000 in
theorem xX2_feed_c57 {p : Program} {l : Launch} {e : Env} {s : State} {m : MethodId} {args : Array Value} {below : List Frame} {meth : Method} {c : Code} {X : Cx} {a : Nat} (hO : IsPl X a) (C0 : CT p s m args meth c X cX2_feed 5 none RX2) (x1 : Int32) (xs0 : Int32) (h : HH) (H : Heap) (locs : List Loc) (ls : Array Slot) (res : HH) (hl : lv_has ls 5 [(0, .ref a), (1, .int x1)]) (hW : WH X h H) (hS : va_S (xA X) s.heap H locs) (hs : sX2_feed_c57 a x1 xs0 h) (hres : fX2_feed_c57 a x1 xs0 h = res) : W p l e rmX2_feed s m args below meth c H locs 0 0 (MQ below (QV X res) args s 0 0 (xA X)) (F0 m 57 ls [.int xs0, .ref a]) := by
  obtain ⟨hx, hb, hr, hlk, hml, hown, hts, hK⟩ := id C0
  refine kV_i (As := [.int xs0]) (rest := []) ⟨hx, hb, hml, hown, hts⟩ (kX2_has l X h a xs0 hO) (wX2_has hts q1_206 ⟨Nat.le_of_ble_eq_true rfl, Nat.le_of_ble_eq_true rfl⟩) hK hW hS (va_recv hK.1 (hW.one hO.1) (ci := 2) (q0 := 0) rfl rfl) rfl hl.1 rfl (Nat.le_of_ble_eq_true rfl) dX2_feed_57 ⟨Nat.zero_le _, Nat.zero_le _⟩ (fun H locs hW hS => ?_)
  refine lv_if_eq (tgt := 67) hx hb dX2_feed_60 (by decide) (fun c2 => ?_) (fun c2 => ?_)
  · have hres := (if_pos c2).symm.trans hres
    have hs := And.left hs c2
    refine lv_iconst (v := 2) hx hb dX2_feed_67 (by decide) ?_
    exact xX2_feed_c68 hO C0 x1 2 h _ _ _ _ (lv_sub hl [0, 1] rfl) hW hS hs hres
  · have hres := (if_neg c2).symm.trans hres
    have hs := And.right hs c2
    refine lv_iconst (v := 4) hx hb dX2_feed_63 (by decide) ?_
    refine lv_goto (tgt := 68) hx hb dX2_feed_64 (by decide) ?_
    exact xX2_feed_c68 hO C0 x1 4 h _ _ _ _ (lv_sub hl [0, 1] rfl) hW hS hs hres
def fX2_feed_c36 (a : Nat) (x1 : Int32) (xs0 : Int32) (xs2 : Int32) (h : HH) : HH := fX2_feed_c57 a (x1 - (jmin xs2 (h (a + 1) xs0.toNatClampNeg))) 3 (hset h (a + 1) 2 ((h (a + 1) 2) - (jmin xs2 (h (a + 1) xs0.toNatClampNeg))))
def sX2_feed_c36 (a : Nat) (x1 : Int32) (xs0 : Int32) (xs2 : Int32) (h : HH) : Prop := (vp_in xs0 5) ∧ (sX2_feed_c57 a (x1 - (jmin xs2 (h (a + 1) xs0.toNatClampNeg))) 3 (hset h (a + 1) 2 ((h (a + 1) 2) - (jmin xs2 (h (a + 1) xs0.toNatClampNeg)))))
set_option maxRecDepth 100000 in
set_option maxHeartbeats 4000000 in
theorem xX2_feed_c36 {p : Program} {l : Launch} {e : Env} {s : State} {m : MethodId} {args : Array Value} {below : List Frame} {meth : Method} {c : Code} {X : Cx} {a : Nat} (hO : IsPl X a) (C0 : CT p s m args meth c X cX2_feed 5 none RX2) (x1 : Int32) (xs0 : Int32) (xs2 : Int32) (h : HH) (H : Heap) (locs : List Loc) (ls : Array Slot) (res : HH) (hl : lv_has ls 5 [(0, .ref a), (1, .int x1)]) (hW : WH X h H) (hS : va_S (xA X) s.heap H locs) (hs : sX2_feed_c36 a x1 xs0 xs2 h) (hres : fX2_feed_c36 a x1 xs0 xs2 h = res) : W p l e rmX2_feed s m args below meth c H locs 0 0 (MQ below (QV X res) args s 0 0 (xA X)) (F0 m 36 ls [.int xs0, .ref (a + 1), .int xs2]) := by
  obtain ⟨hx, hb, hr, hlk, hml, hown, hts, hK⟩ := id C0
  obtain ⟨hi1, hs⟩ := hs
  refine kb_iald hx hb hK hW hO.2 (k := xs0.toNatClampNeg) rfl hi1 dX2_feed_36 ?_
  refine kb_min hx hb (hml.trans hl.1.symm) hown (hts _ q2_86) (hts _ q2_87) (hts _ q1_13) (hts _ q2_88) (Nat.le_of_ble_eq_true rfl) (Nat.le_of_ble_eq_true rfl) (Nat.zero_le _) (Nat.zero_le _) dX2_feed_37 ?_
  refine lv_istore_n (lv' := [(3, .int (jmin xs2 (h (a + 1) xs0.toNatClampNeg))), (0, .ref a), (1, .int x1)]) hx hb dX2_feed_40 rfl hl (by decide) rfl (fun ls hl => ?_)
  refine lv_aload_n hx hb dX2_feed_41 rfl (lv_at hl 1 rfl) ?_
  refine g2_0 hx hb hts hown hK hW hO.1 (hts _ q1_55) dX2_feed_42 ?_
  refine lv_iconst (v := 2) hx hb dX2_feed_45 (by decide) ?_
  refine lv_dup2_11 hx hb dX2_feed_46 rfl rfl ?_
  refine kb_iald hx hb hK hW hO.2 (k := 2) (by decide) (vpd (by decide)) dX2_feed_47 ?_
  refine lv_iload_n hx hb dX2_feed_48 rfl (lv_at hl 0 rfl) ?_
  refine lv_isub hx hb dX2_feed_49 ?_
  refine kb_iast hx hb hK hW hS hO.2 (k := 2) (by decide) (vpd (by decide)) dX2_feed_50 (fun H locs hW hS => ?_)
  refine lv_iload_n hx hb dX2_feed_51 rfl (lv_at hl 2 rfl) ?_
  refine lv_iload_n hx hb dX2_feed_52 rfl (lv_at hl 0 rfl) ?_
  refine lv_isub hx hb dX2_feed_53 ?_
  refine lv_istore_n (lv' := [(1, .int (x1 - (jmin xs2 (h (a + 1) xs0.toNatClampNeg)))), (3, .int (jmin xs2 (h (a + 1) xs0.toNatClampNeg))), (0, .ref a)]) hx hb dX2_feed_54 rfl hl (by decide) rfl (fun ls hl => ?_)
  refine lv_aload_n hx hb dX2_feed_55 rfl (lv_at hl 2 rfl) ?_
  refine lv_iconst (v := 3) hx hb dX2_feed_56 (by decide) ?_
  exact xX2_feed_c57 hO C0 (x1 - (jmin xs2 (h (a + 1) xs0.toNatClampNeg))) 3 (hset h (a + 1) 2 ((h (a + 1) 2) - (jmin xs2 (h (a + 1) xs0.toNatClampNeg)))) _ _ _ _ (lv_sub hl [2, 0] rfl) hW hS hs hres
def fX2_feed_c0 (a : Nat) (h : HH) : HH := fX2_feed_c36 a ((fX2_foodNeeded a h) - (jmin (fX2_foodNeeded a h) (h (a + 1) 4))) 2 ((fX2_foodNeeded a h) - (jmin (fX2_foodNeeded a h) (h (a + 1) 4))) (hset h (a + 1) 4 ((h (a + 1) 4) - (jmin (fX2_foodNeeded a h) (h (a + 1) 4))))
def sX2_feed_c0 (a : Nat) (h : HH) : Prop := sX2_feed_c36 a ((fX2_foodNeeded a h) - (jmin (fX2_foodNeeded a h) (h (a + 1) 4))) 2 ((fX2_foodNeeded a h) - (jmin (fX2_foodNeeded a h) (h (a + 1) 4))) (hset h (a + 1) 4 ((h (a + 1) 4) - (jmin (fX2_foodNeeded a h) (h (a + 1) 4))))
set_option maxRecDepth 100000 in
set_option maxHeartbeats 4000000 in
theorem xX2_feed_c0 {p : Program} {l : Launch} {e : Env} {s : State} {m : MethodId} {args : Array Value} {below : List Frame} {meth : Method} {c : Code} {X : Cx} {a : Nat} (hO : IsPl X a) (C0 : CT p s m args meth c X cX2_feed 5 none RX2) (h : HH) (H : Heap) (locs : List Loc) (ls : Array Slot) (res : HH) (hl : lv_has ls 5 [(0, .ref a)]) (hW : WH X h H) (hS : va_S (xA X) s.heap H locs) (hs : sX2_feed_c0 a h) (hres : fX2_feed_c0 a h = res) : W p l e rmX2_feed s m args below meth c H locs 0 0 (MQ below (QV X res) args s 0 0 (xA X)) (F0 m 0 ls []) := by
  obtain ⟨hx, hb, hr, hlk, hml, hown, hts, hK⟩ := id C0
  refine lv_aload_n hx hb dX2_feed_0 rfl (lv_at hl 0 rfl) ?_
  refine kV_i (As := []) (rest := []) ⟨hx, hb, hml, hown, hts⟩ (kX2_foodNeeded l X h a hO) (wX2_foodNeeded hts q2_81 ⟨Nat.le_of_ble_eq_true rfl, Nat.le_of_ble_eq_true rfl⟩) hK hW hS (va_recv hK.1 (hW.one hO.1) (ci := 2) (q0 := 0) rfl rfl) rfl hl.1 rfl (Nat.le_of_ble_eq_true rfl) dX2_feed_1 ⟨Nat.zero_le _, Nat.zero_le _⟩ (fun H locs hW hS => ?_)
  refine lv_istore_n (lv' := [(1, .int (fX2_foodNeeded a h)), (0, .ref a)]) hx hb dX2_feed_4 rfl hl (by decide) rfl (fun ls hl => ?_)
  refine lv_iload_n hx hb dX2_feed_5 rfl (lv_at hl 0 rfl) ?_
  refine lv_aload_n hx hb dX2_feed_6 rfl (lv_at hl 1 rfl) ?_
  refine g2_0 hx hb hts hown hK hW hO.1 (hts _ q1_55) dX2_feed_7 ?_
  refine lv_iconst (v := 4) hx hb dX2_feed_10 (by decide) ?_
  refine kb_iald hx hb hK hW hO.2 (k := 4) (by decide) (vpd (by decide)) dX2_feed_11 ?_
  refine kb_min hx hb (hml.trans hl.1.symm) hown (hts _ q2_86) (hts _ q2_87) (hts _ q1_13) (hts _ q2_88) (Nat.le_of_ble_eq_true rfl) (Nat.le_of_ble_eq_true rfl) (Nat.zero_le _) (Nat.zero_le _) dX2_feed_12 ?_
  refine lv_istore_n (lv' := [(2, .int (jmin (fX2_foodNeeded a h) (h (a + 1) 4))), (1, .int (fX2_foodNeeded a h)), (0, .ref a)]) hx hb dX2_feed_15 rfl hl (by decide) rfl (fun ls hl => ?_)
  refine lv_aload_n hx hb dX2_feed_16 rfl (lv_at hl 2 rfl) ?_
  refine g2_0 hx hb hts hown hK hW hO.1 (hts _ q1_55) dX2_feed_17 ?_
  refine lv_iconst (v := 4) hx hb dX2_feed_20 (by decide) ?_
  refine lv_dup2_11 hx hb dX2_feed_21 rfl rfl ?_
  refine kb_iald hx hb hK hW hO.2 (k := 4) (by decide) (vpd (by decide)) dX2_feed_22 ?_
  refine lv_iload_n hx hb dX2_feed_23 rfl (lv_at hl 0 rfl) ?_
  refine lv_isub hx hb dX2_feed_24 ?_
  refine kb_iast hx hb hK hW hS hO.2 (k := 4) (by decide) (vpd (by decide)) dX2_feed_25 (fun H locs hW hS => ?_)
  refine lv_iload_n hx hb dX2_feed_26 rfl (lv_at hl 1 rfl) ?_
  refine lv_iload_n hx hb dX2_feed_27 rfl (lv_at hl 0 rfl) ?_
  refine lv_isub hx hb dX2_feed_28 ?_
  refine lv_istore_n (lv' := [(1, .int ((fX2_foodNeeded a h) - (jmin (fX2_foodNeeded a h) (h (a + 1) 4)))), (2, .int (jmin (fX2_foodNeeded a h) (h (a + 1) 4))), (0, .ref a)]) hx hb dX2_feed_29 rfl hl (by decide) rfl (fun ls hl => ?_)
  refine lv_iload_n hx hb dX2_feed_30 rfl (lv_at hl 0 rfl) ?_
  refine lv_aload_n hx hb dX2_feed_31 rfl (lv_at hl 2 rfl) ?_
  refine g2_0 hx hb hts hown hK hW hO.1 (hts _ q1_55) dX2_feed_32 ?_
  refine lv_iconst (v := 2) hx hb dX2_feed_35 (by decide) ?_
  exact xX2_feed_c36 hO C0 ((fX2_foodNeeded a h) - (jmin (fX2_foodNeeded a h) (h (a + 1) 4))) 2 ((fX2_foodNeeded a h) - (jmin (fX2_foodNeeded a h) (h (a + 1) 4))) (hset h (a + 1) 4 ((h (a + 1) 4) - (jmin (fX2_foodNeeded a h) (h (a + 1) 4)))) _ _ _ _ (lv_sub hl [2, 0] rfl) hW hS hs hres
def fX2_feed (a : Nat) (h : HH) : HH := fX2_feed_c0 a h
def sX2_feed (a : Nat) (h : HH) : Prop := sX2_feed_c0 a h
set_option maxRecDepth 100000 in
set_option maxHeartbeats 4000000 in
theorem kX2_feed (l : Launch) (X : Cx) (h : HH) (a : Nat) (hO : IsPl X a) (hs : sX2_feed a h) : Met l yX2_feed vX2_feed rmX2_feed (va_Pc [.ref a] (fun U => WS X h U)) (QV X (fX2_feed a h)) 0 0 (xA X) := by
  refine Met.ofW (cc := cX2_feed) (maxL := 5) (ret := none) (by decide) rfl ?_
  intro p e s m args below meth c s₁ B hml hv
  obtain ⟨rfl, hW, hK⟩ := hv
  have hl := lv_entry ([.ref a]) (n := 5) (Nat.le_of_ble_eq_true rfl)
  rw [lg_entry_eq]
  generalize (lg_sl ([.ref a]) ++ List.replicate (5 - (lg_sl ([.ref a])).length) Slot.unset).toArray = ls at hl ⊢
  have hl : lv_has ls 5 [(0, .ref a)] := hl
  exact xX2_feed_c0 hO ⟨B.exec, B.bytes, B.returns, B.notSynchronized, hml, findClass_of_methodNamed B.named, fun w hw => atoms_spec (ws := vX2_feed) B.pre w (List.mem_cons_of_mem _ hw), hK⟩ h _ _ ls _ (lv_sub hl [0] rfl) hW va_S.rf hs rfl
-- VillageBoard$Player.breed()V
abbrev rmX2_breed : Room := ({ frames := 0, cells := 0, slots := 0, locals := 0 } : Room)
abbrev vX2_breed : List Cond := Cond.code yX2_breed cX2_breed 1 none :: lwG
theorem wX2_breed {R : Room} {s : State} {args : Array Value} {own : String} {idx : Nat} (hg : ∀ w ∈ lwG, w.before args s = true) (hl : Cond.methodLink own idx yX2_breed ∈ lwG) (hR : rmX2_breed.frames + 1 ≤ R.frames ∧ 8 + (1 + 11) + rmX2_breed.locals ≤ R.locals) : CallW R s args own RX2 idx yX2_breed cX2_breed 1 none vX2_breed rmX2_breed 0 0 0 := cwV 0 hg (gV hl q2_164 q0_9 q1_4 q2_165) rfl rfl rfl (by decide +kernel) hR
def fX2_breed_c0 (a : Nat) (h : HH) : HH := if (h (a + 1) 3) < 2 then h else (hset h (a + 1) 3 ((h (a + 1) 3) + 1))
set_option maxRecDepth 100000 in
set_option maxHeartbeats 4000000 in
theorem xX2_breed_c0 {p : Program} {l : Launch} {e : Env} {s : State} {m : MethodId} {args : Array Value} {below : List Frame} {meth : Method} {c : Code} {X : Cx} {a : Nat} (hO : IsPl X a) (C0 : CT p s m args meth c X cX2_breed 1 none RX2) (h : HH) (H : Heap) (locs : List Loc) (ls : Array Slot) (res : HH) (hl : lv_has ls 1 [(0, .ref a)]) (hW : WH X h H) (hS : va_S (xA X) s.heap H locs) (hres : fX2_breed_c0 a h = res) : W p l e rmX2_breed s m args below meth c H locs 0 0 (MQ below (QV X res) args s 0 0 (xA X)) (F0 m 0 ls []) := by
  obtain ⟨hx, hb, hr, hlk, hml, hown, hts, hK⟩ := id C0
  refine lv_aload_n hx hb dX2_breed_0 rfl (lv_at hl 0 rfl) ?_
  refine g2_0 hx hb hts hown hK hW hO.1 (hts _ q1_55) dX2_breed_1 ?_
  refine lv_iconst (v := 3) hx hb dX2_breed_4 (by decide) ?_
  refine kb_iald hx hb hK hW hO.2 (k := 3) (by decide) (vpd (by decide)) dX2_breed_5 ?_
  refine lv_iconst (v := 2) hx hb dX2_breed_6 (by decide) ?_
  refine lv_icmp_lt (tgt := 20) hx hb dX2_breed_7 (by decide) (fun c1 => ?_) (fun c1 => ?_)
  · have hres := (if_pos c1).symm.trans hres
    subst hres
    exact kr_v hx hb hr hlk hK hW hS dX2_breed_20
  · have hres := (if_neg c1).symm.trans hres
    refine lv_aload_n hx hb dX2_breed_10 rfl (lv_at hl 0 rfl) ?_
    refine g2_0 hx hb hts hown hK hW hO.1 (hts _ q1_55) dX2_breed_11 ?_
    refine lv_iconst (v := 3) hx hb dX2_breed_14 (by decide) ?_
    refine lv_dup2_11 hx hb dX2_breed_15 rfl rfl ?_
    refine kb_iald hx hb hK hW hO.2 (k := 3) (by decide) (vpd (by decide)) dX2_breed_16 ?_
    refine lv_iconst (v := 1) hx hb dX2_breed_17 (by decide) ?_
    refine lv_iadd hx hb dX2_breed_18 ?_
    refine kb_iast hx hb hK hW hS hO.2 (k := 3) (by decide) (vpd (by decide)) dX2_breed_19 (fun H locs hW hS => ?_)
    subst hres
    exact kr_v hx hb hr hlk hK hW hS dX2_breed_20
def fX2_breed (a : Nat) (h : HH) : HH := fX2_breed_c0 a h
set_option maxRecDepth 100000 in
set_option maxHeartbeats 4000000 in
theorem kX2_breed (l : Launch) (X : Cx) (h : HH) (a : Nat) (hO : IsPl X a) : Met l yX2_breed vX2_breed rmX2_breed (va_Pc [.ref a] (fun U => WS X h U)) (QV X (fX2_breed a h)) 0 0 (xA X) := by
  refine Met.ofW (cc := cX2_breed) (maxL := 1) (ret := none) (by decide) rfl ?_
  intro p e s m args below meth c s₁ B hml hv
  obtain ⟨rfl, hW, hK⟩ := hv
  have hl := lv_entry ([.ref a]) (n := 1) (Nat.le_of_ble_eq_true rfl)
  rw [lg_entry_eq]
  generalize (lg_sl ([.ref a]) ++ List.replicate (1 - (lg_sl ([.ref a])).length) Slot.unset).toArray = ls at hl ⊢
  have hl : lv_has ls 1 [(0, .ref a)] := hl
  exact xX2_breed_c0 hO ⟨B.exec, B.bytes, B.returns, B.notSynchronized, hml, findClass_of_methodNamed B.named, fun w hw => atoms_spec (ws := vX2_breed) B.pre w (List.mem_cons_of_mem _ hw), hK⟩ h _ _ ls _ (lv_sub hl [0] rfl) hW va_S.rf rfl
-- VillageBoard$Player.endRound(Z)V
abbrev rmX2_endRound : Room := ({ frames := 2, cells := 0, slots := 0, locals := 46 } : Room)
abbrev vX2_endRound : List Cond := Cond.code yX2_endRound cX2_endRound 2 none :: lwG
theorem wX2_endRound {R : Room} {s : State} {args : Array Value} {own : String} {idx : Nat} (hg : ∀ w ∈ lwG, w.before args s = true) (hl : Cond.methodLink own idx yX2_endRound ∈ lwG) (hR : rmX2_endRound.frames + 1 ≤ R.frames ∧ 8 + (2 + 11) + rmX2_endRound.locals ≤ R.locals) : CallW R s args own RX2 idx yX2_endRound cX2_endRound 2 none vX2_endRound rmX2_endRound 0 0 1 := cwV 1 hg (gV hl q2_155 q2_156 q1_4 q2_157) rfl rfl rfl (by decide +kernel) hR
def fX2_endRound_c12 (a : Nat) (h : HH) : HH := if (h (a + 1) 2) ≤ 3 then h else (if (bI (fX2_has a 2 h)) = 0 then (hset h (a + 1) 2 3) else h)
set_option maxRecDepth 100000 in
set_option maxHeartbeats 4000000 in
theorem xX2_endRound_c12 {p : Program} {l : Launch} {e : Env} {s : State} {m : MethodId} {args : Array Value} {below : List Frame} {meth : Method} {c : Code} {X : Cx} {a : Nat} (hO : IsPl X a) (C0 : CT p s m args meth c X cX2_endRound 2 none RX2) (h : HH) (H : Heap) (locs : List Loc) (ls : Array Slot) (res : HH) (hl : lv_has ls 2 [(0, .ref a)]) (hW : WH X h H) (hS : va_S (xA X) s.heap H locs) (hres : fX2_endRound_c12 a h = res) : W p l e rmX2_endRound s m args below meth c H locs 0 0 (MQ below (QV X res) args s 0 0 (xA X)) (F0 m 12 ls []) := by
  obtain ⟨hx, hb, hr, hlk, hml, hown, hts, hK⟩ := id C0
  refine lv_aload_n hx hb dX2_endRound_12 rfl (lv_at hl 0 rfl) ?_
  refine g2_0 hx hb hts hown hK hW hO.1 (hts _ q1_55) dX2_endRound_13 ?_
  refine lv_iconst (v := 2) hx hb dX2_endRound_16 (by decide) ?_
  refine kb_iald hx hb hK hW hO.2 (k := 2) (by decide) (vpd (by decide)) dX2_endRound_17 ?_
  refine lv_iconst (v := 3) hx hb dX2_endRound_18 (by decide) ?_
  refine lv_icmp_le (tgt := 37) hx hb dX2_endRound_19 (by decide) (fun c2 => ?_) (fun c2 => ?_)
  · have hres := (if_pos c2).symm.trans hres
    subst hres
    exact kr_v hx hb hr hlk hK hW hS dX2_endRound_37
  · have hres := (if_neg c2).symm.trans hres
    refine lv_aload_n hx hb dX2_endRound_22 rfl (lv_at hl 0 rfl) ?_
    refine lv_iconst (v := 2) hx hb dX2_endRound_23 (by decide) ?_
    refine kV_i (As := [.int 2]) (rest := []) ⟨hx, hb, hml, hown, hts⟩ (kX2_has l X h a 2 hO) (wX2_has hts q1_206 ⟨Nat.le_of_ble_eq_true rfl, Nat.le_of_ble_eq_true rfl⟩) hK hW hS (va_recv hK.1 (hW.one hO.1) (ci := 2) (q0 := 0) rfl rfl) rfl hl.1 rfl (Nat.le_of_ble_eq_true rfl) dX2_endRound_24 ⟨Nat.zero_le _, Nat.zero_le _⟩ (fun H locs hW hS => ?_)
    refine lv_if_ne (tgt := 37) hx hb dX2_endRound_27 (by decide) (fun c3 => ?_) (fun c3 => ?_)
    · have hres := (if_neg c3).symm.trans hres
      subst hres
      exact kr_v hx hb hr hlk hK hW hS dX2_endRound_37
    · have hres := (if_pos c3).symm.trans hres
      refine lv_aload_n hx hb dX2_endRound_30 rfl (lv_at hl 0 rfl) ?_
      refine g2_0 hx hb hts hown hK hW hO.1 (hts _ q1_55) dX2_endRound_31 ?_
      refine lv_iconst (v := 2) hx hb dX2_endRound_34 (by decide) ?_
      refine lv_iconst (v := 3) hx hb dX2_endRound_35 (by decide) ?_
      refine kb_iast hx hb hK hW hS hO.2 (k := 2) (by decide) (vpd (by decide)) dX2_endRound_36 (fun H locs hW hS => ?_)
      subst hres
      exact kr_v hx hb hr hlk hK hW hS dX2_endRound_37
def fX2_endRound_c9 (a : Nat) (h : HH) : HH := fX2_endRound_c12 a (fX2_breed a h)
set_option maxRecDepth 100000 in
set_option maxHeartbeats 4000000 in
theorem xX2_endRound_c9 {p : Program} {l : Launch} {e : Env} {s : State} {m : MethodId} {args : Array Value} {below : List Frame} {meth : Method} {c : Code} {X : Cx} {a : Nat} (hO : IsPl X a) (C0 : CT p s m args meth c X cX2_endRound 2 none RX2) (h : HH) (H : Heap) (locs : List Loc) (ls : Array Slot) (res : HH) (hl : lv_has ls 2 [(0, .ref a)]) (hW : WH X h H) (hS : va_S (xA X) s.heap H locs) (hres : fX2_endRound_c9 a h = res) : W p l e rmX2_endRound s m args below meth c H locs 0 0 (MQ below (QV X res) args s 0 0 (xA X)) (F0 m 9 ls [.ref a]) := by
  obtain ⟨hx, hb, hr, hlk, hml, hown, hts, hK⟩ := id C0
  refine kV_v (As := []) (rest := []) ⟨hx, hb, hml, hown, hts⟩ (kX2_breed l X h a hO) (wX2_breed hts q2_162 ⟨Nat.le_of_ble_eq_true rfl, Nat.le_of_ble_eq_true rfl⟩) hK hW hS (va_recv hK.1 (hW.one hO.1) (ci := 2) (q0 := 0) rfl rfl) rfl hl.1 rfl (Nat.le_of_ble_eq_true rfl) dX2_endRound_9 ⟨Nat.zero_le _, Nat.zero_le _⟩ (fun H locs hW hS => ?_)
  exact xX2_endRound_c12 hO C0 (fX2_breed a h) _ _ _ _ (lv_sub hl [0] rfl) hW hS hres
def fX2_endRound_c0 (a : Nat) (x1 : Int32) (h : HH) : HH := if x1 = 0 then (fX2_endRound_c12 a h) else (fX2_endRound_c9 a (fX2_feed a h))
def sX2_endRound_c0 (a : Nat) (x1 : Int32) (h : HH) : Prop := (x1 = 0 → True) ∧ (¬ (x1 = 0) → (sX2_feed a h))
set_option maxRecDepth 100000 in
set_option maxHeartbeats 4000000 in
theorem xX2_endRound_c0 {p : Program} {l : Launch} {e : Env} {s : State} {m : MethodId} {args : Array Value} {below : List Frame} {meth : Method} {c : Code} {X : Cx} {a : Nat} (hO : IsPl X a) (C0 : CT p s m args meth c X cX2_endRound 2 none RX2) (x1 : Int32) (h : HH) (H : Heap) (locs : List Loc) (ls : Array Slot) (res : HH) (hl : lv_has ls 2 [(0, .ref a), (1, .int x1)]) (hW : WH X h H) (hS : va_S (xA X) s.heap H locs) (hs : sX2_endRound_c0 a x1 h) (hres : fX2_endRound_c0 a x1 h = res) : W p l e rmX2_endRound s m args below meth c H locs 0 0 (MQ below (QV X res) args s 0 0 (xA X)) (F0 m 0 ls []) := by
  obtain ⟨hx, hb, hr, hlk, hml, hown, hts, hK⟩ := id C0
  refine lv_iload_n hx hb dX2_endRound_0 rfl (lv_at hl 1 rfl) ?_
  refine lv_if_eq (tgt := 12) hx hb dX2_endRound_1 (by decide) (fun c1 => ?_) (fun c1 => ?_)
  · have hres := (if_pos c1).symm.trans hres
    have hs := And.left hs c1
    exact xX2_endRound_c12 hO C0 h _ _ _ _ (lv_sub hl [0] rfl) hW hS hres
  · have hres := (if_neg c1).symm.trans hres
    have hs := And.right hs c1
    refine lv_aload_n hx hb dX2_endRound_4 rfl (lv_at hl 0 rfl) ?_
    have hc4 := hs
    refine kV_v (As := []) (rest := []) ⟨hx, hb, hml, hown, hts⟩ (kX2_feed l X h a hO hc4) (wX2_feed hts q2_158 ⟨Nat.le_of_ble_eq_true rfl, Nat.le_of_ble_eq_true rfl⟩) hK hW hS (va_recv hK.1 (hW.one hO.1) (ci := 2) (q0 := 0) rfl rfl) rfl hl.1 rfl (Nat.le_of_ble_eq_true rfl) dX2_endRound_5 ⟨Nat.zero_le _, Nat.zero_le _⟩ (fun H locs hW hS => ?_)
    refine lv_aload_n hx hb dX2_endRound_8 rfl (lv_at hl 0 rfl) ?_
    exact xX2_endRound_c9 hO C0 (fX2_feed a h) _ _ _ _ (lv_sub hl [0] rfl) hW hS hres
def fX2_endRound (a : Nat) (x1 : Int32) (h : HH) : HH := fX2_endRound_c0 a x1 h
def sX2_endRound (a : Nat) (x1 : Int32) (h : HH) : Prop := sX2_endRound_c0 a x1 h
set_option maxRecDepth 100000 in
set_option maxHeartbeats 4000000 in
theorem kX2_endRound (l : Launch) (X : Cx) (h : HH) (a : Nat) (x1 : Int32) (hO : IsPl X a) (hs : sX2_endRound a x1 h) : Met l yX2_endRound vX2_endRound rmX2_endRound (va_Pc [.ref a, .int x1] (fun U => WS X h U)) (QV X (fX2_endRound a x1 h)) 0 0 (xA X) := by
  refine Met.ofW (cc := cX2_endRound) (maxL := 2) (ret := none) (by decide) rfl ?_
  intro p e s m args below meth c s₁ B hml hv
  obtain ⟨rfl, hW, hK⟩ := hv
  have hl := lv_entry ([.ref a, .int x1]) (n := 2) (Nat.le_of_ble_eq_true rfl)
  rw [lg_entry_eq]
  generalize (lg_sl ([.ref a, .int x1]) ++ List.replicate (2 - (lg_sl ([.ref a, .int x1])).length) Slot.unset).toArray = ls at hl ⊢
  have hl : lv_has ls 2 [(0, .ref a), (1, .int x1)] := hl
  exact xX2_endRound_c0 hO ⟨B.exec, B.bytes, B.returns, B.notSynchronized, hml, findClass_of_methodNamed B.named, fun w hw => atoms_spec (ws := vX2_endRound) B.pre w (List.mem_cons_of_mem _ hw), hK⟩ x1 h _ _ ls _ (lv_sub hl [0, 1] rfl) hW va_S.rf hs rfl
-- VillageBoard$Player.foodMissing()I
abbrev rmX2_foodMissing : Room := ({ frames := 1, cells := 0, slots := 0, locals := 22 } : Room)
abbrev vX2_foodMissing : List Cond := Cond.code yX2_foodMissing cX2_foodMissing 3 (some .int) :: lwG
theorem wX2_foodMissing {R : Room} {s : State} {args : Array Value} {own : String} {idx : Nat} (hg : ∀ w ∈ lwG, w.before args s = true) (hl : Cond.methodLink own idx yX2_foodMissing ∈ lwG) (hR : rmX2_foodMissing.frames + 1 ≤ R.frames ∧ 8 + (3 + 11) + rmX2_foodMissing.locals ≤ R.locals) : CallW R s args own RX2 idx yX2_foodMissing cX2_foodMissing 3 (some .int) vX2_foodMissing rmX2_foodMissing 0 0 0 := cwV 0 hg (gV hl q2_78 q2_79 q1_4 q2_80) rfl rfl rfl (by decide +kernel) hR
def fX2_foodMissing_c13 (a : Nat) (xs0 : Int32) (h : HH) : Int32 := jmax 0 ((fX2_foodNeeded a h) - (((h (a + 1) 4) + (h (a + 1) 2)) + ((h (a + 1) 3) * xs0)))
set_option maxRecDepth 100000 in
set_option maxHeartbeats 4000000 in
theorem xX2_foodMissing_c13 {p : Program} {l : Launch} {e : Env} {s : State} {m : MethodId} {args : Array Value} {below : List Frame} {meth : Method} {c : Code} {X : Cx} {a : Nat} (hO : IsPl X a) (C0 : CT p s m args meth c X cX2_foodMissing 3 (some .int) RX2) (xs0 : Int32) (h : HH) (H : Heap) (locs : List Loc) (ls : Array Slot) (res : Int32) (hl : lv_has ls 3 [(0, .ref a)]) (hW : WH X h H) (hS : va_S (xA X) s.heap H locs) (hres : fX2_foodMissing_c13 a xs0 h = res) : W p l e rmX2_foodMissing s m args below meth c H locs 0 0 (MQ below (QI X res h) args s 0 0 (xA X)) (F0 m 13 ls [.int xs0]) := by
  obtain ⟨hx, hb, hr, hlk, hml, hown, hts, hK⟩ := id C0
  refine lv_istore_n (lv' := [(1, .int xs0), (0, .ref a)]) hx hb dX2_foodMissing_13 rfl hl (by decide) rfl (fun ls hl => ?_)
  refine lv_aload_n hx hb dX2_foodMissing_14 rfl (lv_at hl 1 rfl) ?_
  refine g2_0 hx hb hts hown hK hW hO.1 (hts _ q1_55) dX2_foodMissing_15 ?_
  refine lv_iconst (v := 4) hx hb dX2_foodMissing_18 (by decide) ?_
  refine kb_iald hx hb hK hW hO.2 (k := 4) (by decide) (vpd (by decide)) dX2_foodMissing_19 ?_
  refine lv_aload_n hx hb dX2_foodMissing_20 rfl (lv_at hl 1 rfl) ?_
  refine g2_0 hx hb hts hown hK hW hO.1 (hts _ q1_55) dX2_foodMissing_21 ?_
  refine lv_iconst (v := 2) hx hb dX2_foodMissing_24 (by decide) ?_
  refine kb_iald hx hb hK hW hO.2 (k := 2) (by decide) (vpd (by decide)) dX2_foodMissing_25 ?_
  refine lv_iadd hx hb dX2_foodMissing_26 ?_
  refine lv_aload_n hx hb dX2_foodMissing_27 rfl (lv_at hl 1 rfl) ?_
  refine g2_0 hx hb hts hown hK hW hO.1 (hts _ q1_55) dX2_foodMissing_28 ?_
  refine lv_iconst (v := 3) hx hb dX2_foodMissing_31 (by decide) ?_
  refine kb_iald hx hb hK hW hO.2 (k := 3) (by decide) (vpd (by decide)) dX2_foodMissing_32 ?_
  refine lv_iload_n hx hb dX2_foodMissing_33 rfl (lv_at hl 0 rfl) ?_
  refine lv_imul hx hb dX2_foodMissing_34 ?_
  refine lv_iadd hx hb dX2_foodMissing_35 ?_
  refine lv_istore_n (lv' := [(2, .int (((h (a + 1) 4) + (h (a + 1) 2)) + ((h (a + 1) 3) * xs0))), (1, .int xs0), (0, .ref a)]) hx hb dX2_foodMissing_36 rfl hl (by decide) rfl (fun ls hl => ?_)
  refine lv_iconst (v := 0) hx hb dX2_foodMissing_37 (by decide) ?_
  refine lv_aload_n hx hb dX2_foodMissing_38 rfl (lv_at hl 2 rfl) ?_
  refine kV_i (As := []) (rest := [.int 0]) ⟨hx, hb, hml, hown, hts⟩ (kX2_foodNeeded l X h a hO) (wX2_foodNeeded hts q2_81 ⟨Nat.le_of_ble_eq_true rfl, Nat.le_of_ble_eq_true rfl⟩) hK hW hS (va_recv hK.1 (hW.one hO.1) (ci := 2) (q0 := 0) rfl rfl) rfl hl.1 rfl (Nat.le_of_ble_eq_true rfl) dX2_foodMissing_39 ⟨Nat.zero_le _, Nat.zero_le _⟩ (fun H locs hW hS => ?_)
  refine lv_iload_n hx hb dX2_foodMissing_42 rfl (lv_at hl 0 rfl) ?_
  refine lv_isub hx hb dX2_foodMissing_43 ?_
  refine kb_max hx hb (hml.trans hl.1.symm) hown (hts _ q2_40) (hts _ q2_41) (hts _ q1_13) (hts _ q2_42) (Nat.le_of_ble_eq_true rfl) (Nat.le_of_ble_eq_true rfl) (Nat.zero_le _) (Nat.zero_le _) dX2_foodMissing_44 ?_
  subst hres
  exact kr_i hx hb hr hlk hK hW hS dX2_foodMissing_47
def fX2_foodMissing_c0 (a : Nat) (h : HH) : Int32 := if (bI (fX2_has a 3 h)) = 0 then (fX2_foodMissing_c13 a 2 h) else (fX2_foodMissing_c13 a 4 h)
set_option maxRecDepth 100000 in
set_option maxHeartbeats 4000000 in
theorem xX2_foodMissing_c0 {p : Program} {l : Launch} {e : Env} {s : State} {m : MethodId} {args : Array Value} {below : List Frame} {meth : Method} {c : Code} {X : Cx} {a : Nat} (hO : IsPl X a) (C0 : CT p s m args meth c X cX2_foodMissing 3 (some .int) RX2) (h : HH) (H : Heap) (locs : List Loc) (ls : Array Slot) (res : Int32) (hl : lv_has ls 3 [(0, .ref a)]) (hW : WH X h H) (hS : va_S (xA X) s.heap H locs) (hres : fX2_foodMissing_c0 a h = res) : W p l e rmX2_foodMissing s m args below meth c H locs 0 0 (MQ below (QI X res h) args s 0 0 (xA X)) (F0 m 0 ls []) := by
  obtain ⟨hx, hb, hr, hlk, hml, hown, hts, hK⟩ := id C0
  refine lv_aload_n hx hb dX2_foodMissing_0 rfl (lv_at hl 0 rfl) ?_
  refine lv_iconst (v := 3) hx hb dX2_foodMissing_1 (by decide) ?_
  refine kV_i (As := [.int 3]) (rest := []) ⟨hx, hb, hml, hown, hts⟩ (kX2_has l X h a 3 hO) (wX2_has hts q1_206 ⟨Nat.le_of_ble_eq_true rfl, Nat.le_of_ble_eq_true rfl⟩) hK hW hS (va_recv hK.1 (hW.one hO.1) (ci := 2) (q0 := 0) rfl rfl) rfl hl.1 rfl (Nat.le_of_ble_eq_true rfl) dX2_foodMissing_2 ⟨Nat.zero_le _, Nat.zero_le _⟩ (fun H locs hW hS => ?_)
  refine lv_if_eq (tgt := 12) hx hb dX2_foodMissing_5 (by decide) (fun c1 => ?_) (fun c1 => ?_)
  · have hres := (if_pos c1).symm.trans hres
    refine lv_iconst (v := 2) hx hb dX2_foodMissing_12 (by decide) ?_
    exact xX2_foodMissing_c13 hO C0 2 h _ _ _ _ (lv_sub hl [0] rfl) hW hS hres
  · have hres := (if_neg c1).symm.trans hres
    refine lv_iconst (v := 4) hx hb dX2_foodMissing_8 (by decide) ?_
    refine lv_goto (tgt := 13) hx hb dX2_foodMissing_9 (by decide) ?_
    exact xX2_foodMissing_c13 hO C0 4 h _ _ _ _ (lv_sub hl [0] rfl) hW hS hres
def fX2_foodMissing (a : Nat) (h : HH) : Int32 := fX2_foodMissing_c0 a h
set_option maxRecDepth 100000 in
set_option maxHeartbeats 4000000 in
theorem kX2_foodMissing (l : Launch) (X : Cx) (h : HH) (a : Nat) (hO : IsPl X a) : Met l yX2_foodMissing vX2_foodMissing rmX2_foodMissing (va_Pc [.ref a] (fun U => WS X h U)) (QI X (fX2_foodMissing a h) h) 0 0 (xA X) := by
  refine Met.ofW (cc := cX2_foodMissing) (maxL := 3) (ret := some .int) (by decide) rfl ?_
  intro p e s m args below meth c s₁ B hml hv
  obtain ⟨rfl, hW, hK⟩ := hv
  have hl := lv_entry ([.ref a]) (n := 3) (Nat.le_of_ble_eq_true rfl)
  rw [lg_entry_eq]
  generalize (lg_sl ([.ref a]) ++ List.replicate (3 - (lg_sl ([.ref a])).length) Slot.unset).toArray = ls at hl ⊢
  have hl : lv_has ls 3 [(0, .ref a)] := hl
  exact xX2_foodMissing_c0 hO ⟨B.exec, B.bytes, B.returns, B.notSynchronized, hml, findClass_of_methodNamed B.named, fun w hw => atoms_spec (ws := vX2_foodMissing) B.pre w (List.mem_cons_of_mem _ hw), hK⟩ h _ _ ls _ (lv_sub hl [0] rfl) hW va_S.rf rfl
-- VillageBoard$Player.foodOfMilledGrain()I
abbrev rmX2_foodOfMilledGrain : Room := ({ frames := 1, cells := 0, slots := 0, locals := 21 } : Room)
abbrev vX2_foodOfMilledGrain : List Cond := Cond.code yX2_foodOfMilledGrain cX2_foodOfMilledGrain 1 (some .int) :: lwG
theorem wX2_foodOfMilledGrain {R : Room} {s : State} {args : Array Value} {own : String} {idx : Nat} (hg : ∀ w ∈ lwG, w.before args s = true) (hl : Cond.methodLink own idx yX2_foodOfMilledGrain ∈ lwG) (hR : rmX2_foodOfMilledGrain.frames + 1 ≤ R.frames ∧ 8 + (1 + 11) + rmX2_foodOfMilledGrain.locals ≤ R.locals) : CallW R s args own RX2 idx yX2_foodOfMilledGrain cX2_foodOfMilledGrain 1 (some .int) vX2_foodOfMilledGrain rmX2_foodOfMilledGrain 0 0 0 := cwV 0 hg (gV hl q2_181 q2_182 q1_4 q2_183) rfl rfl rfl (by decide +kernel) hR
def fX2_foodOfMilledGrain_c0 (a : Nat) (h : HH) : Int32 := if (bI (fX2_has a 0 h)) = 0 then 3 else 5
set_option maxRecDepth 100000 in
set_option maxHeartbeats 4000000 in
theorem xX2_foodOfMilledGrain_c0 {p : Program} {l : Launch} {e : Env} {s : State} {m : MethodId} {args : Array Value} {below : List Frame} {meth : Method} {c : Code} {X : Cx} {a : Nat} (hO : IsPl X a) (C0 : CT p s m args meth c X cX2_foodOfMilledGrain 1 (some .int) RX2) (h : HH) (H : Heap) (locs : List Loc) (ls : Array Slot) (res : Int32) (hl : lv_has ls 1 [(0, .ref a)]) (hW : WH X h H) (hS : va_S (xA X) s.heap H locs) (hres : fX2_foodOfMilledGrain_c0 a h = res) : W p l e rmX2_foodOfMilledGrain s m args below meth c H locs 0 0 (MQ below (QI X res h) args s 0 0 (xA X)) (F0 m 0 ls []) := by
  obtain ⟨hx, hb, hr, hlk, hml, hown, hts, hK⟩ := id C0
  refine lv_aload_n hx hb dX2_foodOfMilledGrain_0 rfl (lv_at hl 0 rfl) ?_
  refine lv_iconst (v := 0) hx hb dX2_foodOfMilledGrain_1 (by decide) ?_
  refine kV_i (As := [.int 0]) (rest := []) ⟨hx, hb, hml, hown, hts⟩ (kX2_has l X h a 0 hO) (wX2_has hts q1_206 ⟨Nat.le_of_ble_eq_true rfl, Nat.le_of_ble_eq_true rfl⟩) hK hW hS (va_recv hK.1 (hW.one hO.1) (ci := 2) (q0 := 0) rfl rfl) rfl hl.1 rfl (Nat.le_of_ble_eq_true rfl) dX2_foodOfMilledGrain_2 ⟨Nat.zero_le _, Nat.zero_le _⟩ (fun H locs hW hS => ?_)
  refine lv_if_eq (tgt := 12) hx hb dX2_foodOfMilledGrain_5 (by decide) (fun c1 => ?_) (fun c1 => ?_)
  · have hres := (if_pos c1).symm.trans hres
    refine lv_iconst (v := 3) hx hb dX2_foodOfMilledGrain_12 (by decide) ?_
    subst hres
    exact kr_i hx hb hr hlk hK hW hS dX2_foodOfMilledGrain_13
  · have hres := (if_neg c1).symm.trans hres
    refine lv_iconst (v := 5) hx hb dX2_foodOfMilledGrain_8 (by decide) ?_
    refine lv_goto (tgt := 13) hx hb dX2_foodOfMilledGrain_9 (by decide) ?_
    subst hres
    exact kr_i hx hb hr hlk hK hW hS dX2_foodOfMilledGrain_13
def fX2_foodOfMilledGrain (a : Nat) (h : HH) : Int32 := fX2_foodOfMilledGrain_c0 a h
set_option maxRecDepth 100000 in
set_option maxHeartbeats 4000000 in
theorem kX2_foodOfMilledGrain (l : Launch) (X : Cx) (h : HH) (a : Nat) (hO : IsPl X a) : Met l yX2_foodOfMilledGrain vX2_foodOfMilledGrain rmX2_foodOfMilledGrain (va_Pc [.ref a] (fun U => WS X h U)) (QI X (fX2_foodOfMilledGrain a h) h) 0 0 (xA X) := by
  refine Met.ofW (cc := cX2_foodOfMilledGrain) (maxL := 1) (ret := some .int) (by decide) rfl ?_
  intro p e s m args below meth c s₁ B hml hv
  obtain ⟨rfl, hW, hK⟩ := hv
  have hl := lv_entry ([.ref a]) (n := 1) (Nat.le_of_ble_eq_true rfl)
  rw [lg_entry_eq]
  generalize (lg_sl ([.ref a]) ++ List.replicate (1 - (lg_sl ([.ref a])).length) Slot.unset).toArray = ls at hl ⊢
  have hl : lv_has ls 1 [(0, .ref a)] := hl
  exact xX2_foodOfMilledGrain_c0 hO ⟨B.exec, B.bytes, B.returns, B.notSynchronized, hml, findClass_of_methodNamed B.named, fun w hw => atoms_spec (ws := vX2_foodOfMilledGrain) B.pre w (List.mem_cons_of_mem _ hw), hK⟩ h _ _ ls _ (lv_sub hl [0] rfl) hW va_S.rf rfl
-- VillageBoard$Player.buildingPoints()I
abbrev rmX2_buildingPoints : Room := ({ frames := 0, cells := 0, slots := 0, locals := 0 } : Room)
abbrev vX2_buildingPoints : List Cond := Cond.code yX2_buildingPoints cX2_buildingPoints 3 (some .int) :: lwG
theorem wX2_buildingPoints {R : Room} {s : State} {args : Array Value} {own : String} {idx : Nat} (hg : ∀ w ∈ lwG, w.before args s = true) (hl : Cond.methodLink own idx yX2_buildingPoints ∈ lwG) (hR : rmX2_buildingPoints.frames + 1 ≤ R.frames ∧ 8 + (3 + 11) + rmX2_buildingPoints.locals ≤ R.locals) : CallW R s args own RX2 idx yX2_buildingPoints cX2_buildingPoints 3 (some .int) vX2_buildingPoints rmX2_buildingPoints 0 0 0 := cwV 0 hg (gV hl q2_91 q0_4 q1_4 q2_92) rfl rfl rfl (by decide +kernel) hR
def fX2_buildingPoints_c4 (a : Nat) : Nat → Int32 → Int32 → HH → Int32
  | 0, x1, x2, h => 0
  | n + 1, x1, x2, h => if 8 ≤ x2 then x1 else ((fX2_buildingPoints_c4 a n) (x1 + ((tBUILDING_POINTS x2.toNatClampNeg) * (((h a 6) >>> (x2 &&& 31)) &&& 1))) (x2 + 1) h)
def sX2_buildingPoints_c4 (a : Nat) : Nat → Int32 → Int32 → HH → Prop
  | 0, _, _, _ => False
  | n + 1, x1, x2, h => (8 ≤ x2 → True) ∧ (¬ (8 ≤ x2) → ((vp_in x2 8) ∧ ((sX2_buildingPoints_c4 a n) (x1 + ((tBUILDING_POINTS x2.toNatClampNeg) * (((h a 6) >>> (x2 &&& 31)) &&& 1))) (x2 + 1) h)))
set_option maxRecDepth 100000 in
set_option maxHeartbeats 4000000 in
theorem xX2_buildingPoints_c4 {p : Program} {l : Launch} {e : Env} {s : State} {m : MethodId} {args : Array Value} {below : List Frame} {meth : Method} {c : Code} {X : Cx} {a : Nat} (hO : IsPl X a) (C0 : CT p s m args meth c X cX2_buildingPoints 3 (some .int) RX2) : ∀ (n : Nat) (x1 : Int32) (x2 : Int32) (h : HH) (H : Heap) (locs : List Loc) (ls : Array Slot) (res : Int32) (hl : lv_has ls 3 [(0, .ref a), (1, .int x1), (2, .int x2)]) (hW : WH X h H) (hS : va_S (xA X) s.heap H locs) (hs : sX2_buildingPoints_c4 a n x1 x2 h) (hres : fX2_buildingPoints_c4 a n x1 x2 h = res), W p l e rmX2_buildingPoints s m args below meth c H locs 0 0 (MQ below (QI X res h) args s 0 0 (xA X)) (F0 m 4 ls []) := by
  obtain ⟨hx, hb, hr, hlk, hml, hown, hts, hK⟩ := id C0
  intro n
  induction n with
  | zero =>
    intro _ _ _ _ _ _ _ _ _ _ hs _
    exact hs.elim
  | succ n ih =>
    intro x1 x2 h H locs ls res hl hW hS hs hres
    refine lv_iload_n hx hb dX2_buildingPoints_4 rfl (lv_at hl 2 rfl) ?_
    refine lv_bipush (v := 8) hx hb dX2_buildingPoints_5 (by decide) ?_
    refine lv_icmp_ge (tgt := 33) hx hb dX2_buildingPoints_7 (by decide) (fun c1 => ?_) (fun c1 => ?_)
    · have hres := (if_pos c1).symm.trans hres
      have hs := And.left hs c1
      refine lv_iload_n hx hb dX2_buildingPoints_33 rfl (lv_at hl 1 rfl) ?_
      subst hres
      exact kr_i hx hb hr hlk hK hW hS dX2_buildingPoints_34
    · have hres := (if_neg c1).symm.trans hres
      have hs := And.right hs c1
      refine lv_iload_n hx hb dX2_buildingPoints_10 rfl (lv_at hl 1 rfl) ?_
      refine kb_gets hx hb hK.2.1.2.2.2.2.2.2 hS hown dX2_buildingPoints_11 ?_
      refine lv_iload_n hx hb dX2_buildingPoints_14 rfl (lv_at hl 2 rfl) ?_
      obtain ⟨hi2, hs⟩ := hs
      refine kb_tald hx hb hK.2.1.2.2.2.2.2.2 hS (k := x2.toNatClampNeg) rfl hi2 dX2_buildingPoints_15 ?_
      refine lv_aload_n hx hb dX2_buildingPoints_16 rfl (lv_at hl 0 rfl) ?_
      refine g2_6 hx hb hts hown hK hW hO.1 (hts _ q1_66) dX2_buildingPoints_17 ?_
      refine lv_iload_n hx hb dX2_buildingPoints_20 rfl (lv_at hl 2 rfl) ?_
      refine lv_ishr hx hb dX2_buildingPoints_21 ?_
      refine lv_iconst (v := 1) hx hb dX2_buildingPoints_22 (by decide) ?_
      refine lv_iand hx hb dX2_buildingPoints_23 ?_
      refine lv_imul hx hb dX2_buildingPoints_24 ?_
      refine lv_iadd hx hb dX2_buildingPoints_25 ?_
      refine lv_istore_n (lv' := [(1, .int (x1 + ((tBUILDING_POINTS x2.toNatClampNeg) * (((h a 6) >>> (x2 &&& 31)) &&& 1)))), (0, .ref a), (2, .int x2)]) hx hb dX2_buildingPoints_26 rfl hl (by decide) rfl (fun ls hl => ?_)
      refine lv_iinc (v := x2 + 1) (lv' := [(2, .int (x2 + 1)), (1, .int (x1 + ((tBUILDING_POINTS x2.toNatClampNeg) * (((h a 6) >>> (x2 &&& 31)) &&& 1)))), (0, .ref a)]) hx hb dX2_buildingPoints_27 hl (k := 2) rfl rfl (by decide) rfl (fun ls hl => ?_)
      refine lv_goto (tgt := 4) hx hb dX2_buildingPoints_30 (by decide) ?_
      exact ih (x1 + ((tBUILDING_POINTS x2.toNatClampNeg) * (((h a 6) >>> (x2 &&& 31)) &&& 1))) (x2 + 1) h _ _ _ _ (lv_sub hl [2, 1, 0] rfl) hW hS hs hres
def fX2_buildingPoints_c0 (a : Nat) (h : HH) : Int32 := fX2_buildingPoints_c4 a 9 0 0 h
def sX2_buildingPoints_c0 (a : Nat) (h : HH) : Prop := sX2_buildingPoints_c4 a 9 0 0 h
set_option maxRecDepth 100000 in
set_option maxHeartbeats 4000000 in
theorem xX2_buildingPoints_c0 {p : Program} {l : Launch} {e : Env} {s : State} {m : MethodId} {args : Array Value} {below : List Frame} {meth : Method} {c : Code} {X : Cx} {a : Nat} (hO : IsPl X a) (C0 : CT p s m args meth c X cX2_buildingPoints 3 (some .int) RX2) (h : HH) (H : Heap) (locs : List Loc) (ls : Array Slot) (res : Int32) (hl : lv_has ls 3 [(0, .ref a)]) (hW : WH X h H) (hS : va_S (xA X) s.heap H locs) (hs : sX2_buildingPoints_c0 a h) (hres : fX2_buildingPoints_c0 a h = res) : W p l e rmX2_buildingPoints s m args below meth c H locs 0 0 (MQ below (QI X res h) args s 0 0 (xA X)) (F0 m 0 ls []) := by
  obtain ⟨hx, hb, hr, hlk, hml, hown, hts, hK⟩ := id C0
  refine lv_iconst (v := 0) hx hb dX2_buildingPoints_0 (by decide) ?_
  refine lv_istore_n (lv' := [(1, .int 0), (0, .ref a)]) hx hb dX2_buildingPoints_1 rfl hl (by decide) rfl (fun ls hl => ?_)
  refine lv_iconst (v := 0) hx hb dX2_buildingPoints_2 (by decide) ?_
  refine lv_istore_n (lv' := [(2, .int 0), (1, .int 0), (0, .ref a)]) hx hb dX2_buildingPoints_3 rfl hl (by decide) rfl (fun ls hl => ?_)
  exact xX2_buildingPoints_c4 hO C0 9 0 0 h _ _ _ _ (lv_sub hl [2, 1, 0] rfl) hW hS hs hres
def fX2_buildingPoints (a : Nat) (h : HH) : Int32 := fX2_buildingPoints_c0 a h
def sX2_buildingPoints (a : Nat) (h : HH) : Prop := sX2_buildingPoints_c0 a h
set_option maxRecDepth 100000 in
set_option maxHeartbeats 4000000 in
theorem kX2_buildingPoints (l : Launch) (X : Cx) (h : HH) (a : Nat) (hO : IsPl X a) (hs : sX2_buildingPoints a h) : Met l yX2_buildingPoints vX2_buildingPoints rmX2_buildingPoints (va_Pc [.ref a] (fun U => WS X h U)) (QI X (fX2_buildingPoints a h) h) 0 0 (xA X) := by
  refine Met.ofW (cc := cX2_buildingPoints) (maxL := 3) (ret := some .int) (by decide) rfl ?_
  intro p e s m args below meth c s₁ B hml hv
  obtain ⟨rfl, hW, hK⟩ := hv
  have hl := lv_entry ([.ref a]) (n := 3) (Nat.le_of_ble_eq_true rfl)
  rw [lg_entry_eq]
  generalize (lg_sl ([.ref a]) ++ List.replicate (3 - (lg_sl ([.ref a])).length) Slot.unset).toArray = ls at hl ⊢
  have hl : lv_has ls 3 [(0, .ref a)] := hl
  exact xX2_buildingPoints_c0 hO ⟨B.exec, B.bytes, B.returns, B.notSynchronized, hml, findClass_of_methodNamed B.named, fun w hw => atoms_spec (ws := vX2_buildingPoints) B.pre w (List.mem_cons_of_mem _ hw), hK⟩ h _ _ ls _ (lv_sub hl [0] rfl) hW va_S.rf hs rfl
-- VillageBoard$Player.scorePart(I)I
abbrev rmX2_scorePart : Room := ({ frames := 1, cells := 0, slots := 0, locals := 22 } : Room)
abbrev vX2_scorePart : List Cond := Cond.code yX2_scorePart cX2_scorePart 2 (some .int) :: lwG
theorem wX2_scorePart {R : Room} {s : State} {args : Array Value} {own : String} {idx : Nat} (hg : ∀ w ∈ lwG, w.before args s = true) (hl : Cond.methodLink own idx yX2_scorePart ∈ lwG) (hR : rmX2_scorePart.frames + 1 ≤ R.frames ∧ 8 + (2 + 11) + rmX2_scorePart.locals ≤ R.locals) : CallW R s args own RX2 idx yX2_scorePart cX2_scorePart 2 (some .int) vX2_scorePart rmX2_scorePart 0 0 1 := cwV 1 hg (gV hl q2_83 q2_84 q1_4 q2_85) rfl rfl rfl (by decide +kernel) hR
def fX2_scorePart_c0 (a : Nat) (x1 : Int32) (h : HH) : Int32 := if x1 = 0 then (3 * (h a 1)) else (if x1 = 1 then (h a 4) else (if x1 = 2 then (jmin 5 (h (a + 1) 3)) else (if x1 = 3 then ((h (a + 1) 2) / 2) else (if x1 = 4 then (fX2_buildingPoints a h) else ((-3) * (h a 5))))))
def sX2_scorePart_c0 (a : Nat) (x1 : Int32) (h : HH) : Prop := (x1 = 0 → True) ∧ (¬ (x1 = 0) → ((x1 = 1 → True) ∧ (¬ (x1 = 1) → ((x1 = 2 → True) ∧ (¬ (x1 = 2) → ((x1 = 3 → True) ∧ (¬ (x1 = 3) → ((x1 = 4 → (sX2_buildingPoints a h)) ∧ (¬ (x1 = 4) → True)))))))))
set_option maxRecDepth 100000 in
set_option maxHeartbeats 4000000 in
theorem xX2_scorePart_c0 {p : Program} {l : Launch} {e : Env} {s : State} {m : MethodId} {args : Array Value} {below : List Frame} {meth : Method} {c : Code} {X : Cx} {a : Nat} (hO : IsPl X a) (C0 : CT p s m args meth c X cX2_scorePart 2 (some .int) RX2) (x1 : Int32) (h : HH) (H : Heap) (locs : List Loc) (ls : Array Slot) (res : Int32) (hl : lv_has ls 2 [(0, .ref a), (1, .int x1)]) (hW : WH X h H) (hS : va_S (xA X) s.heap H locs) (hs : sX2_scorePart_c0 a x1 h) (hres : fX2_scorePart_c0 a x1 h = res) : W p l e rmX2_scorePart s m args below meth c H locs 0 0 (MQ below (QI X res h) args s 0 0 (xA X)) (F0 m 0 ls []) := by
  obtain ⟨hx, hb, hr, hlk, hml, hown, hts, hK⟩ := id C0
  refine lv_iload_n hx hb dX2_scorePart_0 rfl (lv_at hl 1 rfl) ?_
  by_cases c1 : x1 = 0
  · have hres := (if_pos c1).symm.trans hres
    have hs := And.left hs c1
    refine ksw_in (tgt := 36) hx hb 0 c1 dX2_scorePart_1 (by decide) (by decide) rfl (by decide) ?_
    refine lv_iconst (v := 3) hx hb dX2_scorePart_36 (by decide) ?_
    refine lv_aload_n hx hb dX2_scorePart_37 rfl (lv_at hl 0 rfl) ?_
    refine g2_1 hx hb hts hown hK hW hO.1 (hts _ q1_58) dX2_scorePart_38 ?_
    refine lv_imul hx hb dX2_scorePart_41 ?_
    subst hres
    exact kr_i hx hb hr hlk hK hW hS dX2_scorePart_42
  · have hres := (if_neg c1).symm.trans hres
    have hs := And.right hs c1
    by_cases c2 : x1 = 1
    · have hres := (if_pos c2).symm.trans hres
      have hs := And.left hs c2
      refine ksw_in (tgt := 43) hx hb 1 c2 dX2_scorePart_1 (by decide) (by decide) rfl (by decide) ?_
      refine lv_aload_n hx hb dX2_scorePart_43 rfl (lv_at hl 0 rfl) ?_
      refine g2_4 hx hb hts hown hK hW hO.1 (hts _ q1_63) dX2_scorePart_44 ?_
      subst hres
      exact kr_i hx hb hr hlk hK hW hS dX2_scorePart_47
    · have hres := (if_neg c2).symm.trans hres
      have hs := And.right hs c2
      by_cases c3 : x1 = 2
      · have hres := (if_pos c3).symm.trans hres
        have hs := And.left hs c3
        refine ksw_in (tgt := 48) hx hb 2 c3 dX2_scorePart_1 (by decide) (by decide) rfl (by decide) ?_
        refine lv_iconst (v := 5) hx hb dX2_scorePart_48 (by decide) ?_
        refine lv_aload_n hx hb dX2_scorePart_49 rfl (lv_at hl 0 rfl) ?_
        refine g2_0 hx hb hts hown hK hW hO.1 (hts _ q1_55) dX2_scorePart_50 ?_
        refine lv_iconst (v := 3) hx hb dX2_scorePart_53 (by decide) ?_
        refine kb_iald hx hb hK hW hO.2 (k := 3) (by decide) (vpd (by decide)) dX2_scorePart_54 ?_
        refine kb_min hx hb (hml.trans hl.1.symm) hown (hts _ q2_86) (hts _ q2_87) (hts _ q1_13) (hts _ q2_88) (Nat.le_of_ble_eq_true rfl) (Nat.le_of_ble_eq_true rfl) (Nat.zero_le _) (Nat.zero_le _) dX2_scorePart_55 ?_
        subst hres
        exact kr_i hx hb hr hlk hK hW hS dX2_scorePart_58
      · have hres := (if_neg c3).symm.trans hres
        have hs := And.right hs c3
        by_cases c4 : x1 = 3
        · have hres := (if_pos c4).symm.trans hres
          have hs := And.left hs c4
          refine ksw_in (tgt := 59) hx hb 3 c4 dX2_scorePart_1 (by decide) (by decide) rfl (by decide) ?_
          refine lv_aload_n hx hb dX2_scorePart_59 rfl (lv_at hl 0 rfl) ?_
          refine g2_0 hx hb hts hown hK hW hO.1 (hts _ q1_55) dX2_scorePart_60 ?_
          refine lv_iconst (v := 2) hx hb dX2_scorePart_63 (by decide) ?_
          refine kb_iald hx hb hK hW hO.2 (k := 2) (by decide) (vpd (by decide)) dX2_scorePart_64 ?_
          refine lv_iconst (v := 2) hx hb dX2_scorePart_65 (by decide) ?_
          refine lv_idiv hx hb dX2_scorePart_66 (by decide) ?_
          subst hres
          exact kr_i hx hb hr hlk hK hW hS dX2_scorePart_67
        · have hres := (if_neg c4).symm.trans hres
          have hs := And.right hs c4
          by_cases c5 : x1 = 4
          · have hres := (if_pos c5).symm.trans hres
            have hs := And.left hs c5
            refine ksw_in (tgt := 68) hx hb 4 c5 dX2_scorePart_1 (by decide) (by decide) rfl (by decide) ?_
            refine lv_aload_n hx hb dX2_scorePart_68 rfl (lv_at hl 0 rfl) ?_
            have hc6 := hs
            refine kV_i (As := []) (rest := []) ⟨hx, hb, hml, hown, hts⟩ (kX2_buildingPoints l X h a hO hc6) (wX2_buildingPoints hts q2_89 ⟨Nat.le_of_ble_eq_true rfl, Nat.le_of_ble_eq_true rfl⟩) hK hW hS (va_recv hK.1 (hW.one hO.1) (ci := 2) (q0 := 0) rfl rfl) rfl hl.1 rfl (Nat.le_of_ble_eq_true rfl) dX2_scorePart_69 ⟨Nat.zero_le _, Nat.zero_le _⟩ (fun H locs hW hS => ?_)
            subst hres
            exact kr_i hx hb hr hlk hK hW hS dX2_scorePart_72
          · have hres := (if_neg c5).symm.trans hres
            have hs := And.right hs c5
            refine lv_tableOut (tgt := 73) hx hb dX2_scorePart_1 (by have := lv_neT (a := 0) c1 (by decide); have := lv_neT (a := 1) c2 (by decide); have := lv_neT (a := 2) c3 (by decide); have := lv_neT (a := 3) c4 (by decide); have := lv_neT (a := 4) c5 (by decide); omega) (by decide) ?_
            refine lv_bipush (v := (-3)) hx hb dX2_scorePart_73 (by decide) ?_
            refine lv_aload_n hx hb dX2_scorePart_75 rfl (lv_at hl 0 rfl) ?_
            refine g2_5 hx hb hts hown hK hW hO.1 (hts _ q1_65) dX2_scorePart_76 ?_
            refine lv_imul hx hb dX2_scorePart_79 ?_
            subst hres
            exact kr_i hx hb hr hlk hK hW hS dX2_scorePart_80
def fX2_scorePart (a : Nat) (x1 : Int32) (h : HH) : Int32 := fX2_scorePart_c0 a x1 h
def sX2_scorePart (a : Nat) (x1 : Int32) (h : HH) : Prop := sX2_scorePart_c0 a x1 h
set_option maxRecDepth 100000 in
set_option maxHeartbeats 4000000 in
theorem kX2_scorePart (l : Launch) (X : Cx) (h : HH) (a : Nat) (x1 : Int32) (hO : IsPl X a) (hs : sX2_scorePart a x1 h) : Met l yX2_scorePart vX2_scorePart rmX2_scorePart (va_Pc [.ref a, .int x1] (fun U => WS X h U)) (QI X (fX2_scorePart a x1 h) h) 0 0 (xA X) := by
  refine Met.ofW (cc := cX2_scorePart) (maxL := 2) (ret := some .int) (by decide) rfl ?_
  intro p e s m args below meth c s₁ B hml hv
  obtain ⟨rfl, hW, hK⟩ := hv
  have hl := lv_entry ([.ref a, .int x1]) (n := 2) (Nat.le_of_ble_eq_true rfl)
  rw [lg_entry_eq]
  generalize (lg_sl ([.ref a, .int x1]) ++ List.replicate (2 - (lg_sl ([.ref a, .int x1])).length) Slot.unset).toArray = ls at hl ⊢
  have hl : lv_has ls 2 [(0, .ref a), (1, .int x1)] := hl
  exact xX2_scorePart_c0 hO ⟨B.exec, B.bytes, B.returns, B.notSynchronized, hml, findClass_of_methodNamed B.named, fun w hw => atoms_spec (ws := vX2_scorePart) B.pre w (List.mem_cons_of_mem _ hw), hK⟩ x1 h _ _ ls _ (lv_sub hl [0, 1] rfl) hW va_S.rf hs rfl
-- VillageBoard$Player.wholeScore()I
abbrev rmX2_wholeScore : Room := ({ frames := 2, cells := 0, slots := 0, locals := 43 } : Room)
abbrev vX2_wholeScore : List Cond := Cond.code yX2_wholeScore cX2_wholeScore 3 (some .int) :: lwG
theorem wX2_wholeScore {R : Room} {s : State} {args : Array Value} {own : String} {idx : Nat} (hg : ∀ w ∈ lwG, w.before args s = true) (hl : Cond.methodLink own idx yX2_wholeScore ∈ lwG) (hR : rmX2_wholeScore.frames + 1 ≤ R.frames ∧ 8 + (3 + 11) + rmX2_wholeScore.locals ≤ R.locals) : CallW R s args own RX2 idx yX2_wholeScore cX2_wholeScore 3 (some .int) vX2_wholeScore rmX2_wholeScore 0 0 0 := cwV 0 hg (gV hl q2_96 q2_97 q1_4 q2_98) rfl rfl rfl (by decide +kernel) hR
def fX2_wholeScore_c4 (a : Nat) : Nat → Int32 → Int32 → HH → Int32
  | 0, x1, x2, h => 0
  | n + 1, x1, x2, h => if 6 ≤ x2 then x1 else ((fX2_wholeScore_c4 a n) (x1 + (fX2_scorePart a x2 h)) (x2 + 1) h)
def sX2_wholeScore_c4 (a : Nat) : Nat → Int32 → Int32 → HH → Prop
  | 0, _, _, _ => False
  | n + 1, x1, x2, h => (6 ≤ x2 → True) ∧ (¬ (6 ≤ x2) → ((sX2_scorePart a x2 h) ∧ ((sX2_wholeScore_c4 a n) (x1 + (fX2_scorePart a x2 h)) (x2 + 1) h)))
set_option maxRecDepth 100000 in
set_option maxHeartbeats 4000000 in
theorem xX2_wholeScore_c4 {p : Program} {l : Launch} {e : Env} {s : State} {m : MethodId} {args : Array Value} {below : List Frame} {meth : Method} {c : Code} {X : Cx} {a : Nat} (hO : IsPl X a) (C0 : CT p s m args meth c X cX2_wholeScore 3 (some .int) RX2) : ∀ (n : Nat) (x1 : Int32) (x2 : Int32) (h : HH) (H : Heap) (locs : List Loc) (ls : Array Slot) (res : Int32) (hl : lv_has ls 3 [(0, .ref a), (1, .int x1), (2, .int x2)]) (hW : WH X h H) (hS : va_S (xA X) s.heap H locs) (hs : sX2_wholeScore_c4 a n x1 x2 h) (hres : fX2_wholeScore_c4 a n x1 x2 h = res), W p l e rmX2_wholeScore s m args below meth c H locs 0 0 (MQ below (QI X res h) args s 0 0 (xA X)) (F0 m 4 ls []) := by
  obtain ⟨hx, hb, hr, hlk, hml, hown, hts, hK⟩ := id C0
  intro n
  induction n with
  | zero =>
    intro _ _ _ _ _ _ _ _ _ _ hs _
    exact hs.elim
  | succ n ih =>
    intro x1 x2 h H locs ls res hl hW hS hs hres
    refine lv_iload_n hx hb dX2_wholeScore_4 rfl (lv_at hl 2 rfl) ?_
    refine lv_bipush (v := 6) hx hb dX2_wholeScore_5 (by decide) ?_
    refine lv_icmp_ge (tgt := 24) hx hb dX2_wholeScore_7 (by decide) (fun c1 => ?_) (fun c1 => ?_)
    · have hres := (if_pos c1).symm.trans hres
      have hs := And.left hs c1
      refine lv_iload_n hx hb dX2_wholeScore_24 rfl (lv_at hl 1 rfl) ?_
      subst hres
      exact kr_i hx hb hr hlk hK hW hS dX2_wholeScore_25
    · have hres := (if_neg c1).symm.trans hres
      have hs := And.right hs c1
      refine lv_iload_n hx hb dX2_wholeScore_10 rfl (lv_at hl 1 rfl) ?_
      refine lv_aload_n hx hb dX2_wholeScore_11 rfl (lv_at hl 0 rfl) ?_
      refine lv_iload_n hx hb dX2_wholeScore_12 rfl (lv_at hl 2 rfl) ?_
      obtain ⟨hc2, hs⟩ := hs
      refine kV_i (As := [.int x2]) (rest := [.int x1]) ⟨hx, hb, hml, hown, hts⟩ (kX2_scorePart l X h a x2 hO hc2) (wX2_scorePart hts q2_99 ⟨Nat.le_of_ble_eq_true rfl, Nat.le_of_ble_eq_true rfl⟩) hK hW hS (va_recv hK.1 (hW.one hO.1) (ci := 2) (q0 := 0) rfl rfl) rfl hl.1 rfl (Nat.le_of_ble_eq_true rfl) dX2_wholeScore_13 ⟨Nat.zero_le _, Nat.zero_le _⟩ (fun H locs hW hS => ?_)
      refine lv_iadd hx hb dX2_wholeScore_16 ?_
      refine lv_istore_n (lv' := [(1, .int (x1 + (fX2_scorePart a x2 h))), (0, .ref a), (2, .int x2)]) hx hb dX2_wholeScore_17 rfl hl (by decide) rfl (fun ls hl => ?_)
      refine lv_iinc (v := x2 + 1) (lv' := [(2, .int (x2 + 1)), (1, .int (x1 + (fX2_scorePart a x2 h))), (0, .ref a)]) hx hb dX2_wholeScore_18 hl (k := 2) rfl rfl (by decide) rfl (fun ls hl => ?_)
      refine lv_goto (tgt := 4) hx hb dX2_wholeScore_21 (by decide) ?_
      exact ih (x1 + (fX2_scorePart a x2 h)) (x2 + 1) h _ _ _ _ (lv_sub hl [2, 1, 0] rfl) hW hS hs hres
def fX2_wholeScore_c0 (a : Nat) (h : HH) : Int32 := fX2_wholeScore_c4 a 7 0 0 h
def sX2_wholeScore_c0 (a : Nat) (h : HH) : Prop := sX2_wholeScore_c4 a 7 0 0 h
set_option maxRecDepth 100000 in
set_option maxHeartbeats 4000000 in
theorem xX2_wholeScore_c0 {p : Program} {l : Launch} {e : Env} {s : State} {m : MethodId} {args : Array Value} {below : List Frame} {meth : Method} {c : Code} {X : Cx} {a : Nat} (hO : IsPl X a) (C0 : CT p s m args meth c X cX2_wholeScore 3 (some .int) RX2) (h : HH) (H : Heap) (locs : List Loc) (ls : Array Slot) (res : Int32) (hl : lv_has ls 3 [(0, .ref a)]) (hW : WH X h H) (hS : va_S (xA X) s.heap H locs) (hs : sX2_wholeScore_c0 a h) (hres : fX2_wholeScore_c0 a h = res) : W p l e rmX2_wholeScore s m args below meth c H locs 0 0 (MQ below (QI X res h) args s 0 0 (xA X)) (F0 m 0 ls []) := by
  obtain ⟨hx, hb, hr, hlk, hml, hown, hts, hK⟩ := id C0
  refine lv_iconst (v := 0) hx hb dX2_wholeScore_0 (by decide) ?_
  refine lv_istore_n (lv' := [(1, .int 0), (0, .ref a)]) hx hb dX2_wholeScore_1 rfl hl (by decide) rfl (fun ls hl => ?_)
  refine lv_iconst (v := 0) hx hb dX2_wholeScore_2 (by decide) ?_
  refine lv_istore_n (lv' := [(2, .int 0), (1, .int 0), (0, .ref a)]) hx hb dX2_wholeScore_3 rfl hl (by decide) rfl (fun ls hl => ?_)
  exact xX2_wholeScore_c4 hO C0 7 0 0 h _ _ _ _ (lv_sub hl [2, 1, 0] rfl) hW hS hs hres
def fX2_wholeScore (a : Nat) (h : HH) : Int32 := fX2_wholeScore_c0 a h
def sX2_wholeScore (a : Nat) (h : HH) : Prop := sX2_wholeScore_c0 a h
set_option maxRecDepth 100000 in
set_option maxHeartbeats 4000000 in
theorem kX2_wholeScore (l : Launch) (X : Cx) (h : HH) (a : Nat) (hO : IsPl X a) (hs : sX2_wholeScore a h) : Met l yX2_wholeScore vX2_wholeScore rmX2_wholeScore (va_Pc [.ref a] (fun U => WS X h U)) (QI X (fX2_wholeScore a h) h) 0 0 (xA X) := by
  refine Met.ofW (cc := cX2_wholeScore) (maxL := 3) (ret := some .int) (by decide) rfl ?_
  intro p e s m args below meth c s₁ B hml hv
  obtain ⟨rfl, hW, hK⟩ := hv
  have hl := lv_entry ([.ref a]) (n := 3) (Nat.le_of_ble_eq_true rfl)
  rw [lg_entry_eq]
  generalize (lg_sl ([.ref a]) ++ List.replicate (3 - (lg_sl ([.ref a])).length) Slot.unset).toArray = ls at hl ⊢
  have hl : lv_has ls 3 [(0, .ref a)] := hl
  exact xX2_wholeScore_c0 hO ⟨B.exec, B.bytes, B.returns, B.notSynchronized, hml, findClass_of_methodNamed B.named, fun w hw => atoms_spec (ws := vX2_wholeScore) B.pre w (List.mem_cons_of_mem _ hw), hK⟩ h _ _ ls _ (lv_sub hl [0] rfl) hW va_S.rf hs rfl
-- VillageBoard$Player.isAheadOf(LVillageBoard$Player;)Z
abbrev rmX2_isAheadOf : Room := ({ frames := 3, cells := 0, slots := 0, locals := 65 } : Room)
abbrev vX2_isAheadOf : List Cond := Cond.code yX2_isAheadOf cX2_isAheadOf 4 (some .boolean) :: lwG
theorem wX2_isAheadOf {R : Room} {s : State} {args : Array Value} {own : String} {idx : Nat} (hg : ∀ w ∈ lwG, w.before args s = true) (hl : Cond.methodLink own idx yX2_isAheadOf ∈ lwG) (hR : rmX2_isAheadOf.frames + 1 ≤ R.frames ∧ 8 + (4 + 11) + rmX2_isAheadOf.locals ≤ R.locals) : CallW R s args own RX2 idx yX2_isAheadOf cX2_isAheadOf 4 (some .boolean) vX2_isAheadOf rmX2_isAheadOf 0 0 1 := cwV 1 hg (gV hl q2_105 q2_106 q1_4 q2_107) rfl rfl rfl (by decide +kernel) hR
def fX2_isAheadOf_c35 (a : Nat) (r1 : Nat) (h : HH) : Bool := true
set_option maxRecDepth 100000 in
set_option maxHeartbeats 4000000 in
theorem xX2_isAheadOf_c35 {p : Program} {l : Launch} {e : Env} {s : State} {m : MethodId} {args : Array Value} {below : List Frame} {meth : Method} {c : Code} {X : Cx} {a : Nat} {r1 : Nat} (hO : IsPl X a) (hr1 : IsPl X r1) (C0 : CT p s m args meth c X cX2_isAheadOf 4 (some .boolean) RX2) (h : HH) (H : Heap) (locs : List Loc) (ls : Array Slot) (res : Bool) (hl : lv_has ls 4 []) (hW : WH X h H) (hS : va_S (xA X) s.heap H locs) (hres : fX2_isAheadOf_c35 a r1 h = res) : W p l e rmX2_isAheadOf s m args below meth c H locs 0 0 (MQ below (QI X (bI res) h) args s 0 0 (xA X)) (F0 m 35 ls []) := by
  obtain ⟨hx, hb, hr, hlk, hml, hown, hts, hK⟩ := id C0
  refine lv_iconst (v := 1) hx hb dX2_isAheadOf_35 (by decide) ?_
  refine lv_goto (tgt := 40) hx hb dX2_isAheadOf_36 (by decide) ?_
  subst hres
  exact kr_z (v := true) hx hb hr hlk hK hW hS dX2_isAheadOf_40
def fX2_isAheadOf_c0 (a : Nat) (r1 : Nat) (h : HH) : Bool := if (fX2_wholeScore r1 h) < (fX2_wholeScore a h) then (fX2_isAheadOf_c35 a r1 h) else (if (fX2_wholeScore a h) = (fX2_wholeScore r1 h) then (if (h (a + 1) 4) ≤ (h (r1 + 1) 4) then false else (fX2_isAheadOf_c35 a r1 h)) else false)
def sX2_isAheadOf_c0 (a : Nat) (r1 : Nat) (h : HH) : Prop := (sX2_wholeScore a h) ∧ (sX2_wholeScore r1 h)
set_option maxRecDepth 100000 in
set_option maxHeartbeats 4000000 in
theorem xX2_isAheadOf_c0 {p : Program} {l : Launch} {e : Env} {s : State} {m : MethodId} {args : Array Value} {below : List Frame} {meth : Method} {c : Code} {X : Cx} {a : Nat} {r1 : Nat} (hO : IsPl X a) (hr1 : IsPl X r1) (C0 : CT p s m args meth c X cX2_isAheadOf 4 (some .boolean) RX2) (h : HH) (H : Heap) (locs : List Loc) (ls : Array Slot) (res : Bool) (hl : lv_has ls 4 [(0, .ref a), (1, .ref r1)]) (hW : WH X h H) (hS : va_S (xA X) s.heap H locs) (hs : sX2_isAheadOf_c0 a r1 h) (hres : fX2_isAheadOf_c0 a r1 h = res) : W p l e rmX2_isAheadOf s m args below meth c H locs 0 0 (MQ below (QI X (bI res) h) args s 0 0 (xA X)) (F0 m 0 ls []) := by
  obtain ⟨hx, hb, hr, hlk, hml, hown, hts, hK⟩ := id C0
  refine lv_aload_n hx hb dX2_isAheadOf_0 rfl (lv_at hl 0 rfl) ?_
  obtain ⟨hc1, hs⟩ := hs
  refine kV_i (As := []) (rest := []) ⟨hx, hb, hml, hown, hts⟩ (kX2_wholeScore l X h a hO hc1) (wX2_wholeScore hts q2_108 ⟨Nat.le_of_ble_eq_true rfl, Nat.le_of_ble_eq_true rfl⟩) hK hW hS (va_recv hK.1 (hW.one hO.1) (ci := 2) (q0 := 0) rfl rfl) rfl hl.1 rfl (Nat.le_of_ble_eq_true rfl) dX2_isAheadOf_1 ⟨Nat.zero_le _, Nat.zero_le _⟩ (fun H locs hW hS => ?_)
  refine lv_istore_n (lv' := [(2, .int (fX2_wholeScore a h)), (0, .ref a), (1, .ref r1)]) hx hb dX2_isAheadOf_4 rfl hl (by decide) rfl (fun ls hl => ?_)
  refine lv_aload_n hx hb dX2_isAheadOf_5 rfl (lv_at hl 2 rfl) ?_
  have hc2 := hs
  refine kV_i (As := []) (rest := []) ⟨hx, hb, hml, hown, hts⟩ (kX2_wholeScore l X h r1 hr1 hc2) (wX2_wholeScore hts q2_108 ⟨Nat.le_of_ble_eq_true rfl, Nat.le_of_ble_eq_true rfl⟩) hK hW hS (va_recv hK.1 (hW.one hr1.1) (ci := 2) (q0 := 0) rfl rfl) rfl hl.1 rfl (Nat.le_of_ble_eq_true rfl) dX2_isAheadOf_6 ⟨Nat.zero_le _, Nat.zero_le _⟩ (fun H locs hW hS => ?_)
  refine lv_istore_n (lv' := [(3, .int (fX2_wholeScore r1 h)), (2, .int (fX2_wholeScore a h)), (0, .ref a), (1, .ref r1)]) hx hb dX2_isAheadOf_9 rfl hl (by decide) rfl (fun ls hl => ?_)
  refine lv_iload_n hx hb dX2_isAheadOf_10 rfl (lv_at hl 1 rfl) ?_
  refine lv_iload_n hx hb dX2_isAheadOf_11 rfl (lv_at hl 0 rfl) ?_
  refine lv_icmp_gt (tgt := 35) hx hb dX2_isAheadOf_12 (by decide) (fun c3 => ?_) (fun c3 => ?_)
  · have hres := (if_pos c3).symm.trans hres
    exact xX2_isAheadOf_c35 hO hr1 C0 h _ _ _ _ (lv_sub hl [] rfl) hW hS hres
  · have hres := (if_neg c3).symm.trans hres
    refine lv_iload_n hx hb dX2_isAheadOf_15 rfl (lv_at hl 1 rfl) ?_
    refine lv_iload_n hx hb dX2_isAheadOf_16 rfl (lv_at hl 0 rfl) ?_
    refine lv_icmp_ne (tgt := 39) hx hb dX2_isAheadOf_17 (by decide) (fun c4 => ?_) (fun c4 => ?_)
    · have hres := (if_neg c4).symm.trans hres
      refine lv_iconst (v := 0) hx hb dX2_isAheadOf_39 (by decide) ?_
      subst hres
      exact kr_z (v := false) hx hb hr hlk hK hW hS dX2_isAheadOf_40
    · have hres := (if_pos c4).symm.trans hres
      refine lv_aload_n hx hb dX2_isAheadOf_20 rfl (lv_at hl 2 rfl) ?_
      refine g2_0 hx hb hts hown hK hW hO.1 (hts _ q1_55) dX2_isAheadOf_21 ?_
      refine lv_iconst (v := 4) hx hb dX2_isAheadOf_24 (by decide) ?_
      refine kb_iald hx hb hK hW hO.2 (k := 4) (by decide) (vpd (by decide)) dX2_isAheadOf_25 ?_
      refine lv_aload_n hx hb dX2_isAheadOf_26 rfl (lv_at hl 3 rfl) ?_
      refine g2_0 hx hb hts hown hK hW hr1.1 (hts _ q1_55) dX2_isAheadOf_27 ?_
      refine lv_iconst (v := 4) hx hb dX2_isAheadOf_30 (by decide) ?_
      refine kb_iald hx hb hK hW hr1.2 (k := 4) (by decide) (vpd (by decide)) dX2_isAheadOf_31 ?_
      refine lv_icmp_le (tgt := 39) hx hb dX2_isAheadOf_32 (by decide) (fun c5 => ?_) (fun c5 => ?_)
      · have hres := (if_pos c5).symm.trans hres
        refine lv_iconst (v := 0) hx hb dX2_isAheadOf_39 (by decide) ?_
        subst hres
        exact kr_z (v := false) hx hb hr hlk hK hW hS dX2_isAheadOf_40
      · have hres := (if_neg c5).symm.trans hres
        exact xX2_isAheadOf_c35 hO hr1 C0 h _ _ _ _ (lv_sub hl [] rfl) hW hS hres
def fX2_isAheadOf (a : Nat) (r1 : Nat) (h : HH) : Bool := fX2_isAheadOf_c0 a r1 h
def sX2_isAheadOf (a : Nat) (r1 : Nat) (h : HH) : Prop := sX2_isAheadOf_c0 a r1 h
set_option maxRecDepth 100000 in
set_option maxHeartbeats 4000000 in
theorem kX2_isAheadOf (l : Launch) (X : Cx) (h : HH) (a : Nat) (r1 : Nat) (hO : IsPl X a) (hr1 : IsPl X r1) (hs : sX2_isAheadOf a r1 h) : Met l yX2_isAheadOf vX2_isAheadOf rmX2_isAheadOf (va_Pc [.ref a, .ref r1] (fun U => WS X h U)) (QI X (bI (fX2_isAheadOf a r1 h)) h) 0 0 (xA X) := by
  refine Met.ofW (cc := cX2_isAheadOf) (maxL := 4) (ret := some .boolean) (by decide) rfl ?_
  intro p e s m args below meth c s₁ B hml hv
  obtain ⟨rfl, hW, hK⟩ := hv
  have hl := lv_entry ([.ref a, .ref r1]) (n := 4) (Nat.le_of_ble_eq_true rfl)
  rw [lg_entry_eq]
  generalize (lg_sl ([.ref a, .ref r1]) ++ List.replicate (4 - (lg_sl ([.ref a, .ref r1])).length) Slot.unset).toArray = ls at hl ⊢
  have hl : lv_has ls 4 [(0, .ref a), (1, .ref r1)] := hl
  exact xX2_isAheadOf_c0 hO hr1 ⟨B.exec, B.bytes, B.returns, B.notSynchronized, hml, findClass_of_methodNamed B.named, fun w hw => atoms_spec (ws := vX2_isAheadOf) B.pre w (List.mem_cons_of_mem _ hw), hK⟩ h _ _ ls _ (lv_sub hl [0, 1] rfl) hW va_S.rf hs rfl
