-- VillageBoard$Game.startRound()V
abbrev rmX0_startRound : Room := ({ frames := 2, cells := 0, slots := 0, locals := 41 } : Room)
abbrev vX0_startRound : List Cond := Cond.code yX0_startRound cX0_startRound 2 none :: lwG
theorem wX0_startRound {R : Room} {s : State} {args : Array Value} {own : String} {idx : Nat} (hg : ∀ w ∈ lwG, w.before args s = true) (hl : Cond.methodLink own idx yX0_startRound ∈ lwG) (hR : rmX0_startRound.frames + 1 ≤ R.frames ∧ 8 + (2 + 11) + rmX0_startRound.locals ≤ R.locals) : CallW R s args own RX0 idx yX0_startRound cX0_startRound 2 none vX0_startRound rmX0_startRound 0 0 0 := cwV 0 hg (gV hl q1_198 q0_0 q1_2 q1_199) rfl rfl rfl (by decide +kernel) hR
def fX0_startRound_c44 (a : Nat) : Nat → Int32 → HH → HH
  | 0, x1, h => h
  | n + 1, x1, h => if (h a 0) ≤ x1 then (hset h a 3 (h a 4)) else ((fX0_startRound_c44 a n) (x1 + 1) (fX2_startRound (a + 7 + 2 * x1.toNatClampNeg) h))
def sX0_startRound_c44 (a : Nat) : Nat → Int32 → HH → Prop
  | 0, _, _ => False
  | n + 1, x1, h => ((h a 0) ≤ x1 → True) ∧ (¬ ((h a 0) ≤ x1) → ((vp_in x1 4) ∧ ((sX0_startRound_c44 a n) (x1 + 1) (fX2_startRound (a + 7 + 2 * x1.toNatClampNeg) h))))
set_option maxRecDepth 100000 in
set_option maxHeartbeats 4000000 in
theorem xX0_startRound_c44 {p : Program} {l : Launch} {e : Env} {s : State} {m : MethodId} {args : Array Value} {below : List Frame} {meth : Method} {c : Code} {X : Cx} {a : Nat} (hO : IsGm X a) (C0 : CT p s m args meth c X cX0_startRound 2 none RX0) : ∀ (n : Nat) (x1 : Int32) (h : HH) (H : Heap) (locs : List Loc) (ls : Array Slot) (res : HH) (hl : lv_has ls 2 [(0, .ref a), (1, .int x1)]) (hW : WH X h H) (hS : va_S (xA X) s.heap H locs) (hs : sX0_startRound_c44 a n x1 h) (hres : fX0_startRound_c44 a n x1 h = res), W p l e rmX0_startRound s m args below meth c H locs 0 0 (MQ below (QV X res) args s 0 0 (xA X)) (F0 m 44 ls []) := by
  obtain ⟨hx, hb, hr, hlk, hml, hown, hts, hK⟩ := id C0
  intro n
  induction n with
  | zero =>
    intro _ _ _ _ _ _ _ _ _ hs _
    exact hs.elim
  | succ n ih =>
    intro x1 h H locs ls res hl hW hS hs hres
    refine lv_iload_n hx hb dX0_startRound_44 rfl (lv_at hl 1 rfl) ?_
    refine lv_aload_n hx hb dX0_startRound_45 rfl (lv_at hl 0 rfl) ?_
    refine g0_0 hx hb hts hown hK hW hO.1 (hts _ q1_83) dX0_startRound_46 ?_
    refine lv_icmp_ge (tgt := 67) hx hb dX0_startRound_49 (by decide) (fun c2 => ?_) (fun c2 => ?_)
    · have hres := (if_pos c2).symm.trans hres
      have hs := And.left hs c2
      refine lv_aload_n hx hb dX0_startRound_67 rfl (lv_at hl 0 rfl) ?_
      refine lv_aload_n hx hb dX0_startRound_68 rfl (lv_at hl 0 rfl) ?_
      refine g0_4 hx hb hts hown hK hW hO.1 (hts _ q1_92) dX0_startRound_69 ?_
      refine p0_3 hx hb hts hown hK hW hS hO.1 (hts _ q1_89) dX0_startRound_72 (fun H locs hW hS => ?_)
      subst hres
      exact kr_v hx hb hr hlk hK hW hS dX0_startRound_75
    · have hres := (if_neg c2).symm.trans hres
      have hs := And.right hs c2
      refine lv_aload_n hx hb dX0_startRound_52 rfl (lv_at hl 0 rfl) ?_
      refine g0_5 hx hb hts hown hK hW hO.1 (hts _ q1_94) dX0_startRound_53 ?_
      refine lv_iload_n hx hb dX0_startRound_56 rfl (lv_at hl 1 rfl) ?_
      obtain ⟨hi3, hs⟩ := hs
      refine kb_aald (j := 1) hx hb hK hW hO.2.1 rfl rfl (k := x1.toNatClampNeg) rfl hi3 rfl dX0_startRound_57 ?_
      refine kV_v (As := []) (rest := []) ⟨hx, hb, hml, hown, hts⟩ (kX2_startRound l X h (a + 7 + 2 * x1.toNatClampNeg) (hO.2.2.2.2.2.2 x1.toNatClampNeg (kin hi3))) (wX2_startRound hts q1_202 ⟨Nat.le_of_ble_eq_true rfl, Nat.le_of_ble_eq_true rfl⟩) hK hW hS (va_recv hK.1 (hW.one (hO.2.2.2.2.2.2 x1.toNatClampNeg (kin hi3)).1) (ci := 2) (q0 := 0) rfl rfl) rfl hl.1 rfl (Nat.le_of_ble_eq_true rfl) dX0_startRound_58 ⟨Nat.zero_le _, Nat.zero_le _⟩ (fun H locs hW hS => ?_)
      refine lv_iinc (v := x1 + 1) (lv' := [(1, .int (x1 + 1)), (0, .ref a)]) hx hb dX0_startRound_61 hl (k := 1) rfl rfl (by decide) rfl (fun ls hl => ?_)
      refine lv_goto (tgt := 44) hx hb dX0_startRound_64 (by decide) ?_
      exact ih (x1 + 1) (fX2_startRound (a + 7 + 2 * x1.toNatClampNeg) h) _ _ _ _ (lv_sub hl [1, 0] rfl) hW hS hs hres
def fX0_startRound_c2 (a : Nat) : Nat → Int32 → HH → HH
  | 0, x1, h => h
  | n + 1, x1, h => if 12 ≤ x1 then (fX0_startRound_c44 a 5 0 h) else ((fX0_startRound_c2 a n) (x1 + 1) (hset (hset (hset h (a + 2) x1.toNatClampNeg ((h (a + 2) x1.toNatClampNeg) + (tSUPPLY x1.toNatClampNeg))) (a + 3) x1.toNatClampNeg 0) (a + 4) x1.toNatClampNeg (-1)))
def sX0_startRound_c2 (a : Nat) : Nat → Int32 → HH → Prop
  | 0, _, _ => False
  | n + 1, x1, h => (12 ≤ x1 → (sX0_startRound_c44 a 5 0 h)) ∧ (¬ (12 ≤ x1) → ((vp_in x1 12) ∧ ((vp_in x1 12) ∧ ((vp_in x1 12) ∧ ((vp_in x1 12) ∧ ((vp_in x1 12) ∧ ((sX0_startRound_c2 a n) (x1 + 1) (hset (hset (hset h (a + 2) x1.toNatClampNeg ((h (a + 2) x1.toNatClampNeg) + (tSUPPLY x1.toNatClampNeg))) (a + 3) x1.toNatClampNeg 0) (a + 4) x1.toNatClampNeg (-1)))))))))
set_option maxRecDepth 100000 in
set_option maxHeartbeats 4000000 in
theorem xX0_startRound_c2 {p : Program} {l : Launch} {e : Env} {s : State} {m : MethodId} {args : Array Value} {below : List Frame} {meth : Method} {c : Code} {X : Cx} {a : Nat} (hO : IsGm X a) (C0 : CT p s m args meth c X cX0_startRound 2 none RX0) : ∀ (n : Nat) (x1 : Int32) (h : HH) (H : Heap) (locs : List Loc) (ls : Array Slot) (res : HH) (hl : lv_has ls 2 [(0, .ref a), (1, .int x1)]) (hW : WH X h H) (hS : va_S (xA X) s.heap H locs) (hs : sX0_startRound_c2 a n x1 h) (hres : fX0_startRound_c2 a n x1 h = res), W p l e rmX0_startRound s m args below meth c H locs 0 0 (MQ below (QV X res) args s 0 0 (xA X)) (F0 m 2 ls []) := by
  obtain ⟨hx, hb, hr, hlk, hml, hown, hts, hK⟩ := id C0
  intro n
  induction n with
  | zero =>
    intro _ _ _ _ _ _ _ _ _ hs _
    exact hs.elim
  | succ n ih =>
    intro x1 h H locs ls res hl hW hS hs hres
    refine lv_iload_n hx hb dX0_startRound_2 rfl (lv_at hl 1 rfl) ?_
    refine lv_bipush (v := 12) hx hb dX0_startRound_3 (by decide) ?_
    refine lv_icmp_ge (tgt := 42) hx hb dX0_startRound_5 (by decide) (fun c1 => ?_) (fun c1 => ?_)
    · have hres := (if_pos c1).symm.trans hres
      have hs := And.left hs c1
      refine lv_iconst (v := 0) hx hb dX0_startRound_42 (by decide) ?_
      refine lv_istore_n (lv' := [(1, .int 0), (0, .ref a)]) hx hb dX0_startRound_43 rfl hl (by decide) rfl (fun ls hl => ?_)
      exact xX0_startRound_c44 hO C0 5 0 h _ _ _ _ (lv_sub hl [1, 0] rfl) hW hS hs hres
    · have hres := (if_neg c1).symm.trans hres
      have hs := And.right hs c1
      refine lv_aload_n hx hb dX0_startRound_8 rfl (lv_at hl 0 rfl) ?_
      refine g0_6 hx hb hts hown hK hW hO.1 (hts _ q1_97) dX0_startRound_9 ?_
      refine lv_iload_n hx hb dX0_startRound_12 rfl (lv_at hl 1 rfl) ?_
      refine lv_dup2_11 hx hb dX0_startRound_13 rfl rfl ?_
      obtain ⟨hi4, hs⟩ := hs
      refine kb_iald hx hb hK hW hO.2.2.1 (k := x1.toNatClampNeg) rfl hi4 dX0_startRound_14 ?_
      refine kb_gets hx hb hK.2.1.1 hS hown dX0_startRound_15 ?_
      refine lv_iload_n hx hb dX0_startRound_18 rfl (lv_at hl 1 rfl) ?_
      obtain ⟨hi5, hs⟩ := hs
      refine kb_tald hx hb hK.2.1.1 hS (k := x1.toNatClampNeg) rfl hi5 dX0_startRound_19 ?_
      refine lv_iadd hx hb dX0_startRound_20 ?_
      obtain ⟨hi6, hs⟩ := hs
      refine kb_iast hx hb hK hW hS hO.2.2.1 (k := x1.toNatClampNeg) rfl hi6 dX0_startRound_21 (fun H locs hW hS => ?_)
      refine lv_aload_n hx hb dX0_startRound_22 rfl (lv_at hl 0 rfl) ?_
      refine g0_7 hx hb hts hown hK hW hO.1 (hts _ q1_98) dX0_startRound_23 ?_
      refine lv_iload_n hx hb dX0_startRound_26 rfl (lv_at hl 1 rfl) ?_
      refine lv_iconst (v := 0) hx hb dX0_startRound_27 (by decide) ?_
      obtain ⟨hi7, hs⟩ := hs
      refine kb_iast hx hb hK hW hS hO.2.2.2.1 (k := x1.toNatClampNeg) rfl hi7 dX0_startRound_28 (fun H locs hW hS => ?_)
      refine lv_aload_n hx hb dX0_startRound_29 rfl (lv_at hl 0 rfl) ?_
      refine g0_8 hx hb hts hown hK hW hO.1 (hts _ q1_100) dX0_startRound_30 ?_
      refine lv_iload_n hx hb dX0_startRound_33 rfl (lv_at hl 1 rfl) ?_
      refine lv_iconst (v := (-1)) hx hb dX0_startRound_34 (by decide) ?_
      obtain ⟨hi8, hs⟩ := hs
      refine kb_iast hx hb hK hW hS hO.2.2.2.2.1 (k := x1.toNatClampNeg) rfl hi8 dX0_startRound_35 (fun H locs hW hS => ?_)
      refine lv_iinc (v := x1 + 1) (lv' := [(1, .int (x1 + 1)), (0, .ref a)]) hx hb dX0_startRound_36 hl (k := 1) rfl rfl (by decide) rfl (fun ls hl => ?_)
      refine lv_goto (tgt := 2) hx hb dX0_startRound_39 (by decide) ?_
      exact ih (x1 + 1) (hset (hset (hset h (a + 2) x1.toNatClampNeg ((h (a + 2) x1.toNatClampNeg) + (tSUPPLY x1.toNatClampNeg))) (a + 3) x1.toNatClampNeg 0) (a + 4) x1.toNatClampNeg (-1)) _ _ _ _ (lv_sub hl [1, 0] rfl) hW hS hs hres
def fX0_startRound_c0 (a : Nat) (h : HH) : HH := fX0_startRound_c2 a 13 0 h
def sX0_startRound_c0 (a : Nat) (h : HH) : Prop := sX0_startRound_c2 a 13 0 h
set_option maxRecDepth 100000 in
set_option maxHeartbeats 4000000 in
theorem xX0_startRound_c0 {p : Program} {l : Launch} {e : Env} {s : State} {m : MethodId} {args : Array Value} {below : List Frame} {meth : Method} {c : Code} {X : Cx} {a : Nat} (hO : IsGm X a) (C0 : CT p s m args meth c X cX0_startRound 2 none RX0) (h : HH) (H : Heap) (locs : List Loc) (ls : Array Slot) (res : HH) (hl : lv_has ls 2 [(0, .ref a)]) (hW : WH X h H) (hS : va_S (xA X) s.heap H locs) (hs : sX0_startRound_c0 a h) (hres : fX0_startRound_c0 a h = res) : W p l e rmX0_startRound s m args below meth c H locs 0 0 (MQ below (QV X res) args s 0 0 (xA X)) (F0 m 0 ls []) := by
  obtain ⟨hx, hb, hr, hlk, hml, hown, hts, hK⟩ := id C0
  refine lv_iconst (v := 0) hx hb dX0_startRound_0 (by decide) ?_
  refine lv_istore_n (lv' := [(1, .int 0), (0, .ref a)]) hx hb dX0_startRound_1 rfl hl (by decide) rfl (fun ls hl => ?_)
  exact xX0_startRound_c2 hO C0 13 0 h _ _ _ _ (lv_sub hl [1, 0] rfl) hW hS hs hres
def fX0_startRound (a : Nat) (h : HH) : HH := fX0_startRound_c0 a h
def sX0_startRound (a : Nat) (h : HH) : Prop := sX0_startRound_c0 a h
set_option maxRecDepth 100000 in
set_option maxHeartbeats 4000000 in
theorem kX0_startRound (l : Launch) (X : Cx) (h : HH) (a : Nat) (hO : IsGm X a) (hs : sX0_startRound a h) : Met l yX0_startRound vX0_startRound rmX0_startRound (va_Pc [.ref a] (fun U => WS X h U)) (QV X (fX0_startRound a h)) 0 0 (xA X) := by
  refine Met.ofW (cc := cX0_startRound) (maxL := 2) (ret := none) (by decide) rfl ?_
  intro p e s m args below meth c s₁ B hml hv
  obtain ⟨rfl, hW, hK⟩ := hv
  have hl := lv_entry ([.ref a]) (n := 2) (Nat.le_of_ble_eq_true rfl)
  rw [lg_entry_eq]
  generalize (lg_sl ([.ref a]) ++ List.replicate (2 - (lg_sl ([.ref a])).length) Slot.unset).toArray = ls at hl ⊢
  have hl : lv_has ls 2 [(0, .ref a)] := hl
  exact xX0_startRound_c0 hO ⟨B.exec, B.bytes, B.returns, B.notSynchronized, hml, findClass_of_methodNamed B.named, fun w hw => atoms_spec (ws := vX0_startRound) B.pre w (List.mem_cons_of_mem _ hw), hK⟩ h _ _ ls _ (lv_sub hl [0] rfl) hW va_S.rf hs rfl
-- VillageBoard$Game.begin(II)V
abbrev rmX0_begin : Room := ({ frames := 3, cells := 0, slots := 0, locals := 62 } : Room)
abbrev vX0_begin : List Cond := Cond.code yX0_begin cX0_begin 4 none :: lwG
theorem wX0_begin {R : Room} {s : State} {args : Array Value} {own : String} {idx : Nat} (hg : ∀ w ∈ lwG, w.before args s = true) (hl : Cond.methodLink own idx yX0_begin ∈ lwG) (hR : rmX0_begin.frames + 1 ≤ R.frames ∧ 8 + (4 + 11) + rmX0_begin.locals ≤ R.locals) : CallW R s args own RX0 idx yX0_begin cX0_begin 4 none vX0_begin rmX0_begin 0 0 2 := cwV 2 hg (gV hl q1_185 q1_186 q1_2 q1_187) rfl rfl rfl (by decide +kernel) hR
def fX0_begin_c60 (a : Nat) : Nat → Int32 → HH → HH
  | 0, x3, h => h
  | n + 1, x3, h => if 12 ≤ x3 then (fX0_startRound a h) else ((fX0_begin_c60 a n) (x3 + 1) (hset h (a + 2) x3.toNatClampNeg 0))
def sX0_begin_c60 (a : Nat) : Nat → Int32 → HH → Prop
  | 0, _, _ => False
  | n + 1, x3, h => (12 ≤ x3 → (sX0_startRound a h)) ∧ (¬ (12 ≤ x3) → ((vp_in x3 12) ∧ ((sX0_begin_c60 a n) (x3 + 1) (hset h (a + 2) x3.toNatClampNeg 0))))
set_option maxRecDepth 100000 in
set_option maxHeartbeats 4000000 in
theorem xX0_begin_c60 {p : Program} {l : Launch} {e : Env} {s : State} {m : MethodId} {args : Array Value} {below : List Frame} {meth : Method} {c : Code} {X : Cx} {a : Nat} (hO : IsGm X a) (C0 : CT p s m args meth c X cX0_begin 4 none RX0) : ∀ (n : Nat) (x3 : Int32) (h : HH) (H : Heap) (locs : List Loc) (ls : Array Slot) (res : HH) (hl : lv_has ls 4 [(0, .ref a), (3, .int x3)]) (hW : WH X h H) (hS : va_S (xA X) s.heap H locs) (hs : sX0_begin_c60 a n x3 h) (hres : fX0_begin_c60 a n x3 h = res), W p l e rmX0_begin s m args below meth c H locs 0 0 (MQ below (QV X res) args s 0 0 (xA X)) (F0 m 60 ls []) := by
  obtain ⟨hx, hb, hr, hlk, hml, hown, hts, hK⟩ := id C0
  intro n
  induction n with
  | zero =>
    intro _ _ _ _ _ _ _ _ _ hs _
    exact hs.elim
  | succ n ih =>
    intro x3 h H locs ls res hl hW hS hs hres
    refine lv_iload_n hx hb dX0_begin_60 rfl (lv_at hl 1 rfl) ?_
    refine lv_bipush (v := 12) hx hb dX0_begin_61 (by decide) ?_
    refine lv_icmp_ge (tgt := 79) hx hb dX0_begin_63 (by decide) (fun c2 => ?_) (fun c2 => ?_)
    · have hres := (if_pos c2).symm.trans hres
      have hs := And.left hs c2
      refine lv_aload_n hx hb dX0_begin_79 rfl (lv_at hl 0 rfl) ?_
      have hc3 := hs
      refine kV_v (As := []) (rest := []) ⟨hx, hb, hml, hown, hts⟩ (kX0_startRound l X h a hO hc3) (wX0_startRound hts q1_196 ⟨Nat.le_of_ble_eq_true rfl, Nat.le_of_ble_eq_true rfl⟩) hK hW hS (va_recv hK.1 (hW.one hO.1) (ci := 0) (q0 := 0) rfl rfl) rfl hl.1 rfl (Nat.le_of_ble_eq_true rfl) dX0_begin_80 ⟨Nat.zero_le _, Nat.zero_le _⟩ (fun H locs hW hS => ?_)
      subst hres
      exact kr_v hx hb hr hlk hK hW hS dX0_begin_83
    · have hres := (if_neg c2).symm.trans hres
      have hs := And.right hs c2
      refine lv_aload_n hx hb dX0_begin_66 rfl (lv_at hl 0 rfl) ?_
      refine g0_6 hx hb hts hown hK hW hO.1 (hts _ q1_97) dX0_begin_67 ?_
      refine lv_iload_n hx hb dX0_begin_70 rfl (lv_at hl 1 rfl) ?_
      refine lv_iconst (v := 0) hx hb dX0_begin_71 (by decide) ?_
      obtain ⟨hi4, hs⟩ := hs
      refine kb_iast hx hb hK hW hS hO.2.2.1 (k := x3.toNatClampNeg) rfl hi4 dX0_begin_72 (fun H locs hW hS => ?_)
      refine lv_iinc (v := x3 + 1) (lv' := [(3, .int (x3 + 1)), (0, .ref a)]) hx hb dX0_begin_73 hl (k := 1) rfl rfl (by decide) rfl (fun ls hl => ?_)
      refine lv_goto (tgt := 60) hx hb dX0_begin_76 (by decide) ?_
      exact ih (x3 + 1) (hset h (a + 2) x3.toNatClampNeg 0) _ _ _ _ (lv_sub hl [1, 0] rfl) hW hS hs hres
def fX0_begin_c49 (a : Nat) (k29 : Int32 → HH → HH) (x3 : Int32) (xs0 : Int32) (rs1 : Nat) (h : HH) : HH := k29 (x3 + 1) (fX2_begin rs1 xs0 h)
def sX0_begin_c49 (a : Nat) (K29 : Int32 → HH → Prop) (x3 : Int32) (xs0 : Int32) (rs1 : Nat) (h : HH) : Prop := (sX2_begin rs1 xs0 h) ∧ (K29 (x3 + 1) (fX2_begin rs1 xs0 h))
set_option maxRecDepth 100000 in
set_option maxHeartbeats 4000000 in
theorem xX0_begin_c49 {p : Program} {l : Launch} {e : Env} {s : State} {m : MethodId} {args : Array Value} {below : List Frame} {meth : Method} {c : Code} {X : Cx} {a : Nat} (hO : IsGm X a) (C0 : CT p s m args meth c X cX0_begin 4 none RX0) {k29 : Int32 → HH → HH} {K29 : Int32 → HH → Prop} (hk29 : ∀ (x3 : Int32) (h : HH) (H : Heap) (locs : List Loc) (ls : Array Slot) (res : HH) (hl : lv_has ls 4 [(0, .ref a), (3, .int x3)]) (hW : WH X h H) (hS : va_S (xA X) s.heap H locs) (_ : K29 x3 h) (hres : k29 x3 h = res), W p l e rmX0_begin s m args below meth c H locs 0 0 (MQ below (QV X res) args s 0 0 (xA X)) (F0 m 29 ls [])) (x3 : Int32) (xs0 : Int32) (rs1 : Nat) (hrs1 : IsPl X rs1) (h : HH) (H : Heap) (locs : List Loc) (ls : Array Slot) (res : HH) (hl : lv_has ls 4 [(0, .ref a), (3, .int x3)]) (hW : WH X h H) (hS : va_S (xA X) s.heap H locs) (hs : sX0_begin_c49 a K29 x3 xs0 rs1 h) (hres : fX0_begin_c49 a k29 x3 xs0 rs1 h = res) : W p l e rmX0_begin s m args below meth c H locs 0 0 (MQ below (QV X res) args s 0 0 (xA X)) (F0 m 49 ls [.int xs0, .ref rs1]) := by
  obtain ⟨hx, hb, hr, hlk, hml, hown, hts, hK⟩ := id C0
  obtain ⟨hc7, hs⟩ := hs
  refine kV_v (As := [.int xs0]) (rest := []) ⟨hx, hb, hml, hown, hts⟩ (kX2_begin l X h rs1 xs0 hrs1 hc7) (wX2_begin hts q1_192 ⟨Nat.le_of_ble_eq_true rfl, Nat.le_of_ble_eq_true rfl⟩) hK hW hS (va_recv hK.1 (hW.one hrs1.1) (ci := 2) (q0 := 0) rfl rfl) rfl hl.1 rfl (Nat.le_of_ble_eq_true rfl) dX0_begin_49 ⟨Nat.zero_le _, Nat.zero_le _⟩ (fun H locs hW hS => ?_)
  refine lv_iinc (v := x3 + 1) (lv' := [(3, .int (x3 + 1)), (0, .ref a)]) hx hb dX0_begin_52 hl (k := 1) rfl rfl (by decide) rfl (fun ls hl => ?_)
  refine lv_goto (tgt := 29) hx hb dX0_begin_55 (by decide) ?_
  exact hk29 (x3 + 1) (fX2_begin rs1 xs0 h) _ _ _ _ (lv_sub hl [1, 0] rfl) hW hS hs hres
def fX0_begin_c29 (a : Nat) : Nat → Int32 → HH → HH
  | 0, x3, h => h
  | n + 1, x3, h => if 4 ≤ x3 then (fX0_begin_c60 a 13 0 h) else (if x3 = 0 then (fX0_begin_c49 a (fX0_begin_c29 a n) x3 2 (a + 7 + 2 * x3.toNatClampNeg) h) else (fX0_begin_c49 a (fX0_begin_c29 a n) x3 3 (a + 7 + 2 * x3.toNatClampNeg) h))
def sX0_begin_c29 (a : Nat) : Nat → Int32 → HH → Prop
  | 0, _, _ => False
  | n + 1, x3, h => (4 ≤ x3 → (sX0_begin_c60 a 13 0 h)) ∧ (¬ (4 ≤ x3) → ((vp_in x3 4) ∧ ((x3 = 0 → (sX0_begin_c49 a (sX0_begin_c29 a n) x3 2 (a + 7 + 2 * x3.toNatClampNeg) h)) ∧ (¬ (x3 = 0) → (sX0_begin_c49 a (sX0_begin_c29 a n) x3 3 (a + 7 + 2 * x3.toNatClampNeg) h)))))
set_option maxRecDepth 100000 in
set_option maxHeartbeats 4000000 in
theorem xX0_begin_c29 {p : Program} {l : Launch} {e : Env} {s : State} {m : MethodId} {args : Array Value} {below : List Frame} {meth : Method} {c : Code} {X : Cx} {a : Nat} (hO : IsGm X a) (C0 : CT p s m args meth c X cX0_begin 4 none RX0) : ∀ (n : Nat) (x3 : Int32) (h : HH) (H : Heap) (locs : List Loc) (ls : Array Slot) (res : HH) (hl : lv_has ls 4 [(0, .ref a), (3, .int x3)]) (hW : WH X h H) (hS : va_S (xA X) s.heap H locs) (hs : sX0_begin_c29 a n x3 h) (hres : fX0_begin_c29 a n x3 h = res), W p l e rmX0_begin s m args below meth c H locs 0 0 (MQ below (QV X res) args s 0 0 (xA X)) (F0 m 29 ls []) := by
  obtain ⟨hx, hb, hr, hlk, hml, hown, hts, hK⟩ := id C0
  intro n
  induction n with
  | zero =>
    intro _ _ _ _ _ _ _ _ _ hs _
    exact hs.elim
  | succ n ih =>
    intro x3 h H locs ls res hl hW hS hs hres
    refine lv_iload_n hx hb dX0_begin_29 rfl (lv_at hl 1 rfl) ?_
    refine lv_iconst (v := 4) hx hb dX0_begin_30 (by decide) ?_
    refine lv_icmp_ge (tgt := 58) hx hb dX0_begin_31 (by decide) (fun c1 => ?_) (fun c1 => ?_)
    · have hres := (if_pos c1).symm.trans hres
      have hs := And.left hs c1
      refine lv_iconst (v := 0) hx hb dX0_begin_58 (by decide) ?_
      refine lv_istore_n (lv' := [(3, .int 0), (0, .ref a)]) hx hb dX0_begin_59 rfl hl (by decide) rfl (fun ls hl => ?_)
      exact xX0_begin_c60 hO C0 13 0 h _ _ _ _ (lv_sub hl [1, 0] rfl) hW hS hs hres
    · have hres := (if_neg c1).symm.trans hres
      have hs := And.right hs c1
      refine lv_aload_n hx hb dX0_begin_34 rfl (lv_at hl 0 rfl) ?_
      refine g0_5 hx hb hts hown hK hW hO.1 (hts _ q1_94) dX0_begin_35 ?_
      refine lv_iload_n hx hb dX0_begin_38 rfl (lv_at hl 1 rfl) ?_
      obtain ⟨hi5, hs⟩ := hs
      refine kb_aald (j := 1) hx hb hK hW hO.2.1 rfl rfl (k := x3.toNatClampNeg) rfl hi5 rfl dX0_begin_39 ?_
      refine lv_iload_n hx hb dX0_begin_40 rfl (lv_at hl 1 rfl) ?_
      refine lv_if_ne (tgt := 48) hx hb dX0_begin_41 (by decide) (fun c6 => ?_) (fun c6 => ?_)
      · have hres := (if_neg c6).symm.trans hres
        have hs := And.right hs c6
        refine lv_iconst (v := 3) hx hb dX0_begin_48 (by decide) ?_
        exact xX0_begin_c49 hO C0 ih x3 3 (a + 7 + 2 * x3.toNatClampNeg) (hO.2.2.2.2.2.2 x3.toNatClampNeg (kin hi5)) h _ _ _ _ (lv_sub hl [0, 1] rfl) hW hS hs hres
      · have hres := (if_pos c6).symm.trans hres
        have hs := And.left hs c6
        refine lv_iconst (v := 2) hx hb dX0_begin_44 (by decide) ?_
        refine lv_goto (tgt := 49) hx hb dX0_begin_45 (by decide) ?_
        exact xX0_begin_c49 hO C0 ih x3 2 (a + 7 + 2 * x3.toNatClampNeg) (hO.2.2.2.2.2.2 x3.toNatClampNeg (kin hi5)) h _ _ _ _ (lv_sub hl [0, 1] rfl) hW hS hs hres
def fX0_begin_c24 (a : Nat) (h : HH) : HH := fX0_begin_c29 a 5 0 (fX1_clear (a + 5) h)
def sX0_begin_c24 (a : Nat) (h : HH) : Prop := sX0_begin_c29 a 5 0 (fX1_clear (a + 5) h)
set_option maxRecDepth 100000 in
set_option maxHeartbeats 4000000 in
theorem xX0_begin_c24 {p : Program} {l : Launch} {e : Env} {s : State} {m : MethodId} {args : Array Value} {below : List Frame} {meth : Method} {c : Code} {X : Cx} {a : Nat} (hO : IsGm X a) (C0 : CT p s m args meth c X cX0_begin 4 none RX0) (h : HH) (H : Heap) (locs : List Loc) (ls : Array Slot) (res : HH) (hl : lv_has ls 4 [(0, .ref a)]) (hW : WH X h H) (hS : va_S (xA X) s.heap H locs) (hs : sX0_begin_c24 a h) (hres : fX0_begin_c24 a h = res) : W p l e rmX0_begin s m args below meth c H locs 0 0 (MQ below (QV X res) args s 0 0 (xA X)) (F0 m 24 ls [.ref (a + 5)]) := by
  obtain ⟨hx, hb, hr, hlk, hml, hown, hts, hK⟩ := id C0
  refine kV_v (As := []) (rest := []) ⟨hx, hb, hml, hown, hts⟩ (kX1_clear l X h (a + 5) hO.2.2.2.2.2.1) (wX1_clear hts q1_188 ⟨Nat.le_of_ble_eq_true rfl, Nat.le_of_ble_eq_true rfl⟩) hK hW hS (va_recv hK.1 (hW.one hO.2.2.2.2.2.1.1) (ci := 1) (q0 := 0) rfl rfl) rfl hl.1 rfl (Nat.le_of_ble_eq_true rfl) dX0_begin_24 ⟨Nat.zero_le _, Nat.zero_le _⟩ (fun H locs hW hS => ?_)
  refine lv_iconst (v := 0) hx hb dX0_begin_27 (by decide) ?_
  refine lv_istore_n (lv' := [(3, .int 0), (0, .ref a)]) hx hb dX0_begin_28 rfl hl (by decide) rfl (fun ls hl => ?_)
  exact xX0_begin_c29 hO C0 5 0 (fX1_clear (a + 5) h) _ _ _ _ (lv_sub hl [1, 0] rfl) hW hS hs hres
def fX0_begin_c0 (a : Nat) (x1 : Int32) (x2 : Int32) (h : HH) : HH := fX0_begin_c24 a (hset (hset (hset (hset h a 0 x1) a 1 x2) a 2 1) a 4 0)
def sX0_begin_c0 (a : Nat) (x1 : Int32) (x2 : Int32) (h : HH) : Prop := sX0_begin_c24 a (hset (hset (hset (hset h a 0 x1) a 1 x2) a 2 1) a 4 0)
set_option maxRecDepth 100000 in
set_option maxHeartbeats 4000000 in
theorem xX0_begin_c0 {p : Program} {l : Launch} {e : Env} {s : State} {m : MethodId} {args : Array Value} {below : List Frame} {meth : Method} {c : Code} {X : Cx} {a : Nat} (hO : IsGm X a) (C0 : CT p s m args meth c X cX0_begin 4 none RX0) (x1 : Int32) (x2 : Int32) (h : HH) (H : Heap) (locs : List Loc) (ls : Array Slot) (res : HH) (hl : lv_has ls 4 [(0, .ref a), (1, .int x1), (2, .int x2)]) (hW : WH X h H) (hS : va_S (xA X) s.heap H locs) (hs : sX0_begin_c0 a x1 x2 h) (hres : fX0_begin_c0 a x1 x2 h = res) : W p l e rmX0_begin s m args below meth c H locs 0 0 (MQ below (QV X res) args s 0 0 (xA X)) (F0 m 0 ls []) := by
  obtain ⟨hx, hb, hr, hlk, hml, hown, hts, hK⟩ := id C0
  refine lv_aload_n hx hb dX0_begin_0 rfl (lv_at hl 0 rfl) ?_
  refine lv_iload_n hx hb dX0_begin_1 rfl (lv_at hl 1 rfl) ?_
  refine p0_0 hx hb hts hown hK hW hS hO.1 (hts _ q1_83) dX0_begin_2 (fun H locs hW hS => ?_)
  refine lv_aload_n hx hb dX0_begin_5 rfl (lv_at hl 0 rfl) ?_
  refine lv_iload_n hx hb dX0_begin_6 rfl (lv_at hl 2 rfl) ?_
  refine p0_1 hx hb hts hown hK hW hS hO.1 (hts _ q1_85) dX0_begin_7 (fun H locs hW hS => ?_)
  refine lv_aload_n hx hb dX0_begin_10 rfl (lv_at hl 0 rfl) ?_
  refine lv_iconst (v := 1) hx hb dX0_begin_11 (by decide) ?_
  refine p0_2 hx hb hts hown hK hW hS hO.1 (hts _ q1_87) dX0_begin_12 (fun H locs hW hS => ?_)
  refine lv_aload_n hx hb dX0_begin_15 rfl (lv_at hl 0 rfl) ?_
  refine lv_iconst (v := 0) hx hb dX0_begin_16 (by decide) ?_
  refine p0_4 hx hb hts hown hK hW hS hO.1 (hts _ q1_92) dX0_begin_17 (fun H locs hW hS => ?_)
  refine lv_aload_n hx hb dX0_begin_20 rfl (lv_at hl 0 rfl) ?_
  refine g0_9 hx hb hts hown hK hW hO.1 (hts _ q1_101) dX0_begin_21 ?_
  exact xX0_begin_c24 hO C0 (hset (hset (hset (hset h a 0 x1) a 1 x2) a 2 1) a 4 0) _ _ _ _ (lv_sub hl [0] rfl) hW hS hs hres
def fX0_begin (a : Nat) (x1 : Int32) (x2 : Int32) (h : HH) : HH := fX0_begin_c0 a x1 x2 h
def sX0_begin (a : Nat) (x1 : Int32) (x2 : Int32) (h : HH) : Prop := sX0_begin_c0 a x1 x2 h
set_option maxRecDepth 100000 in
set_option maxHeartbeats 4000000 in
theorem kX0_begin (l : Launch) (X : Cx) (h : HH) (a : Nat) (x1 : Int32) (x2 : Int32) (hO : IsGm X a) (hs : sX0_begin a x1 x2 h) : Met l yX0_begin vX0_begin rmX0_begin (va_Pc [.ref a, .int x1, .int x2] (fun U => WS X h U)) (QV X (fX0_begin a x1 x2 h)) 0 0 (xA X) := by
  refine Met.ofW (cc := cX0_begin) (maxL := 4) (ret := none) (by decide) rfl ?_
  intro p e s m args below meth c s₁ B hml hv
  obtain ⟨rfl, hW, hK⟩ := hv
  have hl := lv_entry ([.ref a, .int x1, .int x2]) (n := 4) (Nat.le_of_ble_eq_true rfl)
  rw [lg_entry_eq]
  generalize (lg_sl ([.ref a, .int x1, .int x2]) ++ List.replicate (4 - (lg_sl ([.ref a, .int x1, .int x2])).length) Slot.unset).toArray = ls at hl ⊢
  have hl : lv_has ls 4 [(0, .ref a), (1, .int x1), (2, .int x2)] := hl
  exact xX0_begin_c0 hO ⟨B.exec, B.bytes, B.returns, B.notSynchronized, hml, findClass_of_methodNamed B.named, fun w hw => atoms_spec (ws := vX0_begin) B.pre w (List.mem_cons_of_mem _ hw), hK⟩ x1 x2 h _ _ ls _ (lv_sub hl [0, 1, 2] rfl) hW va_S.rf hs rfl
-- VillageBoard$Game.copyFrom(LVillageBoard$Game;)V
abbrev rmX0_copyFrom : Room := ({ frames := 2, cells := 0, slots := 0, locals := 81 } : Room)
abbrev vX0_copyFrom : List Cond := Cond.code yX0_copyFrom cX0_copyFrom 3 none :: lwG
theorem wX0_copyFrom {R : Room} {s : State} {args : Array Value} {own : String} {idx : Nat} (hg : ∀ w ∈ lwG, w.before args s = true) (hl : Cond.methodLink own idx yX0_copyFrom ∈ lwG) (hR : rmX0_copyFrom.frames + 1 ≤ R.frames ∧ 8 + (3 + 11) + rmX0_copyFrom.locals ≤ R.locals) : CallW R s args own RX0 idx yX0_copyFrom cX0_copyFrom 3 none vX0_copyFrom rmX0_copyFrom 0 0 1 := cwV 1 hg (gV hl q2_124 q2_125 q1_2 q2_126) rfl rfl rfl (by decide +kernel) hR
def fX0_copyFrom_c121 (a : Nat) (r1 : Nat) (h : HH) : HH := fX1_copyFrom (a + 5) (r1 + 5) h
set_option maxRecDepth 100000 in
set_option maxHeartbeats 4000000 in
theorem xX0_copyFrom_c121 {p : Program} {l : Launch} {e : Env} {s : State} {m : MethodId} {args : Array Value} {below : List Frame} {meth : Method} {c : Code} {X : Cx} {a : Nat} {r1 : Nat} (hO : IsGm X a) (hr1 : IsGm X r1) (C0 : CT p s m args meth c X cX0_copyFrom 3 none RX0) (h : HH) (H : Heap) (locs : List Loc) (ls : Array Slot) (res : HH) (hl : lv_has ls 3 []) (hW : WH X h H) (hS : va_S (xA X) s.heap H locs) (hres : fX0_copyFrom_c121 a r1 h = res) : W p l e rmX0_copyFrom s m args below meth c H locs 0 0 (MQ below (QV X res) args s 0 0 (xA X)) (F0 m 121 ls [.ref (r1 + 5), .ref (a + 5)]) := by
  obtain ⟨hx, hb, hr, hlk, hml, hown, hts, hK⟩ := id C0
  refine kV_v (As := [.ref (r1 + 5)]) (rest := []) ⟨hx, hb, hml, hown, hts⟩ (kX1_copyFrom l X h (a + 5) (r1 + 5) hO.2.2.2.2.2.1 hr1.2.2.2.2.2.1) (wX1_copyFrom hts q2_135 ⟨Nat.le_of_ble_eq_true rfl, Nat.le_of_ble_eq_true rfl⟩) hK hW hS (va_recv hK.1 (hW.one hO.2.2.2.2.2.1.1) (ci := 1) (q0 := 0) rfl rfl) rfl hl.1 rfl (Nat.le_of_ble_eq_true rfl) dX0_copyFrom_121 ⟨Nat.zero_le _, Nat.zero_le _⟩ (fun H locs hW hS => ?_)
  subst hres
  exact kr_v hx hb hr hlk hK hW hS dX0_copyFrom_124
def fX0_copyFrom_c42 (a : Nat) (r1 : Nat) : Nat → Int32 → HH → HH
  | 0, x2, h => h
  | n + 1, x2, h => if 4 ≤ x2 then (fX0_copyFrom_c121 a r1 (hcpy (hcpy (hcpy h (r1 + 2) (a + 2) 0 0 12) (r1 + 3) (a + 3) 0 0 12) (r1 + 4) (a + 4) 0 0 12)) else ((fX0_copyFrom_c42 a r1 n) (x2 + 1) (fX2_copyFrom (a + 7 + 2 * x2.toNatClampNeg) (r1 + 7 + 2 * x2.toNatClampNeg) h))
def sX0_copyFrom_c42 (a : Nat) (r1 : Nat) : Nat → Int32 → HH → Prop
  | 0, _, _ => False
  | n + 1, x2, h => (4 ≤ x2 → True) ∧ (¬ (4 ≤ x2) → ((vp_in x2 4) ∧ ((vp_in x2 4) ∧ ((sX0_copyFrom_c42 a r1 n) (x2 + 1) (fX2_copyFrom (a + 7 + 2 * x2.toNatClampNeg) (r1 + 7 + 2 * x2.toNatClampNeg) h)))))
set_option maxRecDepth 100000 in
set_option maxHeartbeats 4000000 in
theorem xX0_copyFrom_c42 {p : Program} {l : Launch} {e : Env} {s : State} {m : MethodId} {args : Array Value} {below : List Frame} {meth : Method} {c : Code} {X : Cx} {a : Nat} {r1 : Nat} (hO : IsGm X a) (hr1 : IsGm X r1) (C0 : CT p s m args meth c X cX0_copyFrom 3 none RX0) : ∀ (n : Nat) (x2 : Int32) (h : HH) (H : Heap) (locs : List Loc) (ls : Array Slot) (res : HH) (hl : lv_has ls 3 [(0, .ref a), (1, .ref r1), (2, .int x2)]) (hW : WH X h H) (hS : va_S (xA X) s.heap H locs) (hs : sX0_copyFrom_c42 a r1 n x2 h) (hres : fX0_copyFrom_c42 a r1 n x2 h = res), W p l e rmX0_copyFrom s m args below meth c H locs 0 0 (MQ below (QV X res) args s 0 0 (xA X)) (F0 m 42 ls []) := by
  obtain ⟨hx, hb, hr, hlk, hml, hown, hts, hK⟩ := id C0
  intro n
  induction n with
  | zero =>
    intro _ _ _ _ _ _ _ _ _ hs _
    exact hs.elim
  | succ n ih =>
    intro x2 h H locs ls res hl hW hS hs hres
    refine lv_iload_n hx hb dX0_copyFrom_42 rfl (lv_at hl 2 rfl) ?_
    refine lv_iconst (v := 4) hx hb dX0_copyFrom_43 (by decide) ?_
    refine lv_icmp_ge (tgt := 68) hx hb dX0_copyFrom_44 (by decide) (fun c1 => ?_) (fun c1 => ?_)
    · have hres := (if_pos c1).symm.trans hres
      have hs := And.left hs c1
      refine lv_aload_n hx hb dX0_copyFrom_68 rfl (lv_at hl 1 rfl) ?_
      refine g0_6 hx hb hts hown hK hW hr1.1 (hts _ q1_97) dX0_copyFrom_69 ?_
      refine lv_iconst (v := 0) hx hb dX0_copyFrom_72 (by decide) ?_
      refine lv_aload_n hx hb dX0_copyFrom_73 rfl (lv_at hl 0 rfl) ?_
      refine g0_6 hx hb hts hown hK hW hO.1 (hts _ q1_97) dX0_copyFrom_74 ?_
      refine lv_iconst (v := 0) hx hb dX0_copyFrom_77 (by decide) ?_
      refine lv_bipush (v := 12) hx hb dX0_copyFrom_78 (by decide) ?_
      refine kb_copy (sp' := 0) (dp' := 0) (n' := 12) hx hb (hml.trans hl.1.symm) hown (hts _ q2_134) (hts _ q2_133) (hts _ q2_132) (hts _ q1_12) hK hW hS hr1.2.2.1 hO.2.2.1 (by decide) (by decide) (by decide) (by decide) (by decide) (by decide) (by decide) (by decide) (Nat.le_of_ble_eq_true rfl) (Nat.le_of_ble_eq_true rfl) dX0_copyFrom_80 (fun H locs hW hS => ?_)
      refine lv_aload_n hx hb dX0_copyFrom_83 rfl (lv_at hl 1 rfl) ?_
      refine g0_7 hx hb hts hown hK hW hr1.1 (hts _ q1_98) dX0_copyFrom_84 ?_
      refine lv_iconst (v := 0) hx hb dX0_copyFrom_87 (by decide) ?_
      refine lv_aload_n hx hb dX0_copyFrom_88 rfl (lv_at hl 0 rfl) ?_
      refine g0_7 hx hb hts hown hK hW hO.1 (hts _ q1_98) dX0_copyFrom_89 ?_
      refine lv_iconst (v := 0) hx hb dX0_copyFrom_92 (by decide) ?_
      refine lv_bipush (v := 12) hx hb dX0_copyFrom_93 (by decide) ?_
      refine kb_copy (sp' := 0) (dp' := 0) (n' := 12) hx hb (hml.trans hl.1.symm) hown (hts _ q2_134) (hts _ q2_133) (hts _ q2_132) (hts _ q1_12) hK hW hS hr1.2.2.2.1 hO.2.2.2.1 (by decide) (by decide) (by decide) (by decide) (by decide) (by decide) (by decide) (by decide) (Nat.le_of_ble_eq_true rfl) (Nat.le_of_ble_eq_true rfl) dX0_copyFrom_95 (fun H locs hW hS => ?_)
      refine lv_aload_n hx hb dX0_copyFrom_98 rfl (lv_at hl 1 rfl) ?_
      refine g0_8 hx hb hts hown hK hW hr1.1 (hts _ q1_100) dX0_copyFrom_99 ?_
      refine lv_iconst (v := 0) hx hb dX0_copyFrom_102 (by decide) ?_
      refine lv_aload_n hx hb dX0_copyFrom_103 rfl (lv_at hl 0 rfl) ?_
      refine g0_8 hx hb hts hown hK hW hO.1 (hts _ q1_100) dX0_copyFrom_104 ?_
      refine lv_iconst (v := 0) hx hb dX0_copyFrom_107 (by decide) ?_
      refine lv_bipush (v := 12) hx hb dX0_copyFrom_108 (by decide) ?_
      refine kb_copy (sp' := 0) (dp' := 0) (n' := 12) hx hb (hml.trans hl.1.symm) hown (hts _ q2_134) (hts _ q2_133) (hts _ q2_132) (hts _ q1_12) hK hW hS hr1.2.2.2.2.1 hO.2.2.2.2.1 (by decide) (by decide) (by decide) (by decide) (by decide) (by decide) (by decide) (by decide) (Nat.le_of_ble_eq_true rfl) (Nat.le_of_ble_eq_true rfl) dX0_copyFrom_110 (fun H locs hW hS => ?_)
      refine lv_aload_n hx hb dX0_copyFrom_113 rfl (lv_at hl 0 rfl) ?_
      refine g0_9 hx hb hts hown hK hW hO.1 (hts _ q1_101) dX0_copyFrom_114 ?_
      refine lv_aload_n hx hb dX0_copyFrom_117 rfl (lv_at hl 1 rfl) ?_
      refine g0_9 hx hb hts hown hK hW hr1.1 (hts _ q1_101) dX0_copyFrom_118 ?_
      exact xX0_copyFrom_c121 hO hr1 C0 (hcpy (hcpy (hcpy h (r1 + 2) (a + 2) 0 0 12) (r1 + 3) (a + 3) 0 0 12) (r1 + 4) (a + 4) 0 0 12) _ _ _ _ (lv_sub hl [] rfl) hW hS hres
    · have hres := (if_neg c1).symm.trans hres
      have hs := And.right hs c1
      refine lv_aload_n hx hb dX0_copyFrom_47 rfl (lv_at hl 0 rfl) ?_
      refine g0_5 hx hb hts hown hK hW hO.1 (hts _ q1_94) dX0_copyFrom_48 ?_
      refine lv_iload_n hx hb dX0_copyFrom_51 rfl (lv_at hl 2 rfl) ?_
      obtain ⟨hi2, hs⟩ := hs
      refine kb_aald (j := 1) hx hb hK hW hO.2.1 rfl rfl (k := x2.toNatClampNeg) rfl hi2 rfl dX0_copyFrom_52 ?_
      refine lv_aload_n hx hb dX0_copyFrom_53 rfl (lv_at hl 1 rfl) ?_
      refine g0_5 hx hb hts hown hK hW hr1.1 (hts _ q1_94) dX0_copyFrom_54 ?_
      refine lv_iload_n hx hb dX0_copyFrom_57 rfl (lv_at hl 2 rfl) ?_
      obtain ⟨hi3, hs⟩ := hs
      refine kb_aald (j := 1) hx hb hK hW hr1.2.1 rfl rfl (k := x2.toNatClampNeg) rfl hi3 rfl dX0_copyFrom_58 ?_
      refine kV_v (As := [.ref (r1 + 7 + 2 * x2.toNatClampNeg)]) (rest := []) ⟨hx, hb, hml, hown, hts⟩ (kX2_copyFrom l X h (a + 7 + 2 * x2.toNatClampNeg) (r1 + 7 + 2 * x2.toNatClampNeg) (hO.2.2.2.2.2.2 x2.toNatClampNeg (kin hi2)) (hr1.2.2.2.2.2.2 x2.toNatClampNeg (kin hi3))) (wX2_copyFrom hts q2_127 ⟨Nat.le_of_ble_eq_true rfl, Nat.le_of_ble_eq_true rfl⟩) hK hW hS (va_recv hK.1 (hW.one (hO.2.2.2.2.2.2 x2.toNatClampNeg (kin hi2)).1) (ci := 2) (q0 := 0) rfl rfl) rfl hl.1 rfl (Nat.le_of_ble_eq_true rfl) dX0_copyFrom_59 ⟨Nat.zero_le _, Nat.zero_le _⟩ (fun H locs hW hS => ?_)
      refine lv_iinc (v := x2 + 1) (lv' := [(2, .int (x2 + 1)), (0, .ref a), (1, .ref r1)]) hx hb dX0_copyFrom_62 hl (k := 2) rfl rfl (by decide) rfl (fun ls hl => ?_)
      refine lv_goto (tgt := 42) hx hb dX0_copyFrom_65 (by decide) ?_
      exact ih (x2 + 1) (fX2_copyFrom (a + 7 + 2 * x2.toNatClampNeg) (r1 + 7 + 2 * x2.toNatClampNeg) h) _ _ _ _ (lv_sub hl [1, 2, 0] rfl) hW hS hs hres
def fX0_copyFrom_c34 (a : Nat) (r1 : Nat) (h : HH) : HH := fX0_copyFrom_c42 a r1 5 0 (hset h a 4 (h r1 4))
def sX0_copyFrom_c34 (a : Nat) (r1 : Nat) (h : HH) : Prop := sX0_copyFrom_c42 a r1 5 0 (hset h a 4 (h r1 4))
set_option maxRecDepth 100000 in
set_option maxHeartbeats 4000000 in
theorem xX0_copyFrom_c34 {p : Program} {l : Launch} {e : Env} {s : State} {m : MethodId} {args : Array Value} {below : List Frame} {meth : Method} {c : Code} {X : Cx} {a : Nat} {r1 : Nat} (hO : IsGm X a) (hr1 : IsGm X r1) (C0 : CT p s m args meth c X cX0_copyFrom 3 none RX0) (h : HH) (H : Heap) (locs : List Loc) (ls : Array Slot) (res : HH) (hl : lv_has ls 3 [(0, .ref a), (1, .ref r1)]) (hW : WH X h H) (hS : va_S (xA X) s.heap H locs) (hs : sX0_copyFrom_c34 a r1 h) (hres : fX0_copyFrom_c34 a r1 h = res) : W p l e rmX0_copyFrom s m args below meth c H locs 0 0 (MQ below (QV X res) args s 0 0 (xA X)) (F0 m 34 ls [.ref r1, .ref a]) := by
  obtain ⟨hx, hb, hr, hlk, hml, hown, hts, hK⟩ := id C0
  refine g0_4 hx hb hts hown hK hW hr1.1 (hts _ q1_92) dX0_copyFrom_34 ?_
  refine p0_4 hx hb hts hown hK hW hS hO.1 (hts _ q1_92) dX0_copyFrom_37 (fun H locs hW hS => ?_)
  refine lv_iconst (v := 0) hx hb dX0_copyFrom_40 (by decide) ?_
  refine lv_istore_n (lv' := [(2, .int 0), (0, .ref a), (1, .ref r1)]) hx hb dX0_copyFrom_41 rfl hl (by decide) rfl (fun ls hl => ?_)
  exact xX0_copyFrom_c42 hO hr1 C0 5 0 (hset h a 4 (h r1 4)) _ _ _ _ (lv_sub hl [1, 2, 0] rfl) hW hS hs hres
def fX0_copyFrom_c26 (a : Nat) (r1 : Nat) (h : HH) : HH := fX0_copyFrom_c34 a r1 (hset h a 3 (h r1 3))
def sX0_copyFrom_c26 (a : Nat) (r1 : Nat) (h : HH) : Prop := sX0_copyFrom_c34 a r1 (hset h a 3 (h r1 3))
set_option maxRecDepth 100000 in
set_option maxHeartbeats 4000000 in
theorem xX0_copyFrom_c26 {p : Program} {l : Launch} {e : Env} {s : State} {m : MethodId} {args : Array Value} {below : List Frame} {meth : Method} {c : Code} {X : Cx} {a : Nat} {r1 : Nat} (hO : IsGm X a) (hr1 : IsGm X r1) (C0 : CT p s m args meth c X cX0_copyFrom 3 none RX0) (h : HH) (H : Heap) (locs : List Loc) (ls : Array Slot) (res : HH) (hl : lv_has ls 3 [(0, .ref a), (1, .ref r1)]) (hW : WH X h H) (hS : va_S (xA X) s.heap H locs) (hs : sX0_copyFrom_c26 a r1 h) (hres : fX0_copyFrom_c26 a r1 h = res) : W p l e rmX0_copyFrom s m args below meth c H locs 0 0 (MQ below (QV X res) args s 0 0 (xA X)) (F0 m 26 ls [.ref r1, .ref a]) := by
  obtain ⟨hx, hb, hr, hlk, hml, hown, hts, hK⟩ := id C0
  refine g0_3 hx hb hts hown hK hW hr1.1 (hts _ q1_89) dX0_copyFrom_26 ?_
  refine p0_3 hx hb hts hown hK hW hS hO.1 (hts _ q1_89) dX0_copyFrom_29 (fun H locs hW hS => ?_)
  refine lv_aload_n hx hb dX0_copyFrom_32 rfl (lv_at hl 0 rfl) ?_
  refine lv_aload_n hx hb dX0_copyFrom_33 rfl (lv_at hl 1 rfl) ?_
  exact xX0_copyFrom_c34 hO hr1 C0 (hset h a 3 (h r1 3)) _ _ _ _ (lv_sub hl [0, 1] rfl) hW hS hs hres
def fX0_copyFrom_c18 (a : Nat) (r1 : Nat) (h : HH) : HH := fX0_copyFrom_c26 a r1 (hset h a 2 (h r1 2))
def sX0_copyFrom_c18 (a : Nat) (r1 : Nat) (h : HH) : Prop := sX0_copyFrom_c26 a r1 (hset h a 2 (h r1 2))
set_option maxRecDepth 100000 in
set_option maxHeartbeats 4000000 in
theorem xX0_copyFrom_c18 {p : Program} {l : Launch} {e : Env} {s : State} {m : MethodId} {args : Array Value} {below : List Frame} {meth : Method} {c : Code} {X : Cx} {a : Nat} {r1 : Nat} (hO : IsGm X a) (hr1 : IsGm X r1) (C0 : CT p s m args meth c X cX0_copyFrom 3 none RX0) (h : HH) (H : Heap) (locs : List Loc) (ls : Array Slot) (res : HH) (hl : lv_has ls 3 [(0, .ref a), (1, .ref r1)]) (hW : WH X h H) (hS : va_S (xA X) s.heap H locs) (hs : sX0_copyFrom_c18 a r1 h) (hres : fX0_copyFrom_c18 a r1 h = res) : W p l e rmX0_copyFrom s m args below meth c H locs 0 0 (MQ below (QV X res) args s 0 0 (xA X)) (F0 m 18 ls [.ref r1, .ref a]) := by
  obtain ⟨hx, hb, hr, hlk, hml, hown, hts, hK⟩ := id C0
  refine g0_2 hx hb hts hown hK hW hr1.1 (hts _ q1_87) dX0_copyFrom_18 ?_
  refine p0_2 hx hb hts hown hK hW hS hO.1 (hts _ q1_87) dX0_copyFrom_21 (fun H locs hW hS => ?_)
  refine lv_aload_n hx hb dX0_copyFrom_24 rfl (lv_at hl 0 rfl) ?_
  refine lv_aload_n hx hb dX0_copyFrom_25 rfl (lv_at hl 1 rfl) ?_
  exact xX0_copyFrom_c26 hO hr1 C0 (hset h a 2 (h r1 2)) _ _ _ _ (lv_sub hl [0, 1] rfl) hW hS hs hres
def fX0_copyFrom_c10 (a : Nat) (r1 : Nat) (h : HH) : HH := fX0_copyFrom_c18 a r1 (hset h a 1 (h r1 1))
def sX0_copyFrom_c10 (a : Nat) (r1 : Nat) (h : HH) : Prop := sX0_copyFrom_c18 a r1 (hset h a 1 (h r1 1))
set_option maxRecDepth 100000 in
set_option maxHeartbeats 4000000 in
theorem xX0_copyFrom_c10 {p : Program} {l : Launch} {e : Env} {s : State} {m : MethodId} {args : Array Value} {below : List Frame} {meth : Method} {c : Code} {X : Cx} {a : Nat} {r1 : Nat} (hO : IsGm X a) (hr1 : IsGm X r1) (C0 : CT p s m args meth c X cX0_copyFrom 3 none RX0) (h : HH) (H : Heap) (locs : List Loc) (ls : Array Slot) (res : HH) (hl : lv_has ls 3 [(0, .ref a), (1, .ref r1)]) (hW : WH X h H) (hS : va_S (xA X) s.heap H locs) (hs : sX0_copyFrom_c10 a r1 h) (hres : fX0_copyFrom_c10 a r1 h = res) : W p l e rmX0_copyFrom s m args below meth c H locs 0 0 (MQ below (QV X res) args s 0 0 (xA X)) (F0 m 10 ls [.ref r1, .ref a]) := by
  obtain ⟨hx, hb, hr, hlk, hml, hown, hts, hK⟩ := id C0
  refine g0_1 hx hb hts hown hK hW hr1.1 (hts _ q1_85) dX0_copyFrom_10 ?_
  refine p0_1 hx hb hts hown hK hW hS hO.1 (hts _ q1_85) dX0_copyFrom_13 (fun H locs hW hS => ?_)
  refine lv_aload_n hx hb dX0_copyFrom_16 rfl (lv_at hl 0 rfl) ?_
  refine lv_aload_n hx hb dX0_copyFrom_17 rfl (lv_at hl 1 rfl) ?_
  exact xX0_copyFrom_c18 hO hr1 C0 (hset h a 1 (h r1 1)) _ _ _ _ (lv_sub hl [0, 1] rfl) hW hS hs hres
def fX0_copyFrom_c0 (a : Nat) (r1 : Nat) (h : HH) : HH := fX0_copyFrom_c10 a r1 (hset h a 0 (h r1 0))
def sX0_copyFrom_c0 (a : Nat) (r1 : Nat) (h : HH) : Prop := sX0_copyFrom_c10 a r1 (hset h a 0 (h r1 0))
set_option maxRecDepth 100000 in
set_option maxHeartbeats 4000000 in
theorem xX0_copyFrom_c0 {p : Program} {l : Launch} {e : Env} {s : State} {m : MethodId} {args : Array Value} {below : List Frame} {meth : Method} {c : Code} {X : Cx} {a : Nat} {r1 : Nat} (hO : IsGm X a) (hr1 : IsGm X r1) (C0 : CT p s m args meth c X cX0_copyFrom 3 none RX0) (h : HH) (H : Heap) (locs : List Loc) (ls : Array Slot) (res : HH) (hl : lv_has ls 3 [(0, .ref a), (1, .ref r1)]) (hW : WH X h H) (hS : va_S (xA X) s.heap H locs) (hs : sX0_copyFrom_c0 a r1 h) (hres : fX0_copyFrom_c0 a r1 h = res) : W p l e rmX0_copyFrom s m args below meth c H locs 0 0 (MQ below (QV X res) args s 0 0 (xA X)) (F0 m 0 ls []) := by
  obtain ⟨hx, hb, hr, hlk, hml, hown, hts, hK⟩ := id C0
  refine lv_aload_n hx hb dX0_copyFrom_0 rfl (lv_at hl 0 rfl) ?_
  refine lv_aload_n hx hb dX0_copyFrom_1 rfl (lv_at hl 1 rfl) ?_
  refine g0_0 hx hb hts hown hK hW hr1.1 (hts _ q1_83) dX0_copyFrom_2 ?_
  refine p0_0 hx hb hts hown hK hW hS hO.1 (hts _ q1_83) dX0_copyFrom_5 (fun H locs hW hS => ?_)
  refine lv_aload_n hx hb dX0_copyFrom_8 rfl (lv_at hl 0 rfl) ?_
  refine lv_aload_n hx hb dX0_copyFrom_9 rfl (lv_at hl 1 rfl) ?_
  exact xX0_copyFrom_c10 hO hr1 C0 (hset h a 0 (h r1 0)) _ _ _ _ (lv_sub hl [0, 1] rfl) hW hS hs hres
def fX0_copyFrom (a : Nat) (r1 : Nat) (h : HH) : HH := fX0_copyFrom_c0 a r1 h
def sX0_copyFrom (a : Nat) (r1 : Nat) (h : HH) : Prop := sX0_copyFrom_c0 a r1 h
set_option maxRecDepth 100000 in
set_option maxHeartbeats 4000000 in
theorem kX0_copyFrom (l : Launch) (X : Cx) (h : HH) (a : Nat) (r1 : Nat) (hO : IsGm X a) (hr1 : IsGm X r1) (hs : sX0_copyFrom a r1 h) : Met l yX0_copyFrom vX0_copyFrom rmX0_copyFrom (va_Pc [.ref a, .ref r1] (fun U => WS X h U)) (QV X (fX0_copyFrom a r1 h)) 0 0 (xA X) := by
  refine Met.ofW (cc := cX0_copyFrom) (maxL := 3) (ret := none) (by decide) rfl ?_
  intro p e s m args below meth c s₁ B hml hv
  obtain ⟨rfl, hW, hK⟩ := hv
  have hl := lv_entry ([.ref a, .ref r1]) (n := 3) (Nat.le_of_ble_eq_true rfl)
  rw [lg_entry_eq]
  generalize (lg_sl ([.ref a, .ref r1]) ++ List.replicate (3 - (lg_sl ([.ref a, .ref r1])).length) Slot.unset).toArray = ls at hl ⊢
  have hl : lv_has ls 3 [(0, .ref a), (1, .ref r1)] := hl
  exact xX0_copyFrom_c0 hO hr1 ⟨B.exec, B.bytes, B.returns, B.notSynchronized, hml, findClass_of_methodNamed B.named, fun w hw => atoms_spec (ws := vX0_copyFrom) B.pre w (List.mem_cons_of_mem _ hw), hK⟩ h _ _ ls _ (lv_sub hl [0, 1] rfl) hW va_S.rf hs rfl
-- VillageBoard$Game.isOver()Z
abbrev rmX0_isOver : Room := ({ frames := 0, cells := 0, slots := 0, locals := 0 } : Room)
abbrev vX0_isOver : List Cond := Cond.code yX0_isOver cX0_isOver 1 (some .boolean) :: lwG
theorem wX0_isOver {R : Room} {s : State} {args : Array Value} {own : String} {idx : Nat} (hg : ∀ w ∈ lwG, w.before args s = true) (hl : Cond.methodLink own idx yX0_isOver ∈ lwG) (hR : rmX0_isOver.frames + 1 ≤ R.frames ∧ 8 + (1 + 11) + rmX0_isOver.locals ≤ R.locals) : CallW R s args own RX0 idx yX0_isOver cX0_isOver 1 (some .boolean) vX0_isOver rmX0_isOver 0 0 0 := cwV 0 hg (gV hl q2_12 q2_13 q1_2 q2_14) rfl rfl rfl (by decide +kernel) hR
def fX0_isOver_c0 (a : Nat) (h : HH) : Bool := if (h a 3) = (-1) then true else false
set_option maxRecDepth 100000 in
set_option maxHeartbeats 4000000 in
theorem xX0_isOver_c0 {p : Program} {l : Launch} {e : Env} {s : State} {m : MethodId} {args : Array Value} {below : List Frame} {meth : Method} {c : Code} {X : Cx} {a : Nat} (hO : IsGm X a) (C0 : CT p s m args meth c X cX0_isOver 1 (some .boolean) RX0) (h : HH) (H : Heap) (locs : List Loc) (ls : Array Slot) (res : Bool) (hl : lv_has ls 1 [(0, .ref a)]) (hW : WH X h H) (hS : va_S (xA X) s.heap H locs) (hres : fX0_isOver_c0 a h = res) : W p l e rmX0_isOver s m args below meth c H locs 0 0 (MQ below (QI X (bI res) h) args s 0 0 (xA X)) (F0 m 0 ls []) := by
  obtain ⟨hx, hb, hr, hlk, hml, hown, hts, hK⟩ := id C0
  refine lv_aload_n hx hb dX0_isOver_0 rfl (lv_at hl 0 rfl) ?_
  refine g0_3 hx hb hts hown hK hW hO.1 (hts _ q1_89) dX0_isOver_1 ?_
  refine lv_iconst (v := (-1)) hx hb dX0_isOver_4 (by decide) ?_
  refine lv_icmp_ne (tgt := 12) hx hb dX0_isOver_5 (by decide) (fun c1 => ?_) (fun c1 => ?_)
  · have hres := (if_neg c1).symm.trans hres
    refine lv_iconst (v := 0) hx hb dX0_isOver_12 (by decide) ?_
    subst hres
    exact kr_z (v := false) hx hb hr hlk hK hW hS dX0_isOver_13
  · have hres := (if_pos c1).symm.trans hres
    refine lv_iconst (v := 1) hx hb dX0_isOver_8 (by decide) ?_
    refine lv_goto (tgt := 13) hx hb dX0_isOver_9 (by decide) ?_
    subst hres
    exact kr_z (v := true) hx hb hr hlk hK hW hS dX0_isOver_13
def fX0_isOver (a : Nat) (h : HH) : Bool := fX0_isOver_c0 a h
set_option maxRecDepth 100000 in
set_option maxHeartbeats 4000000 in
theorem kX0_isOver (l : Launch) (X : Cx) (h : HH) (a : Nat) (hO : IsGm X a) : Met l yX0_isOver vX0_isOver rmX0_isOver (va_Pc [.ref a] (fun U => WS X h U)) (QI X (bI (fX0_isOver a h)) h) 0 0 (xA X) := by
  refine Met.ofW (cc := cX0_isOver) (maxL := 1) (ret := some .boolean) (by decide) rfl ?_
  intro p e s m args below meth c s₁ B hml hv
  obtain ⟨rfl, hW, hK⟩ := hv
  have hl := lv_entry ([.ref a]) (n := 1) (Nat.le_of_ble_eq_true rfl)
  rw [lg_entry_eq]
  generalize (lg_sl ([.ref a]) ++ List.replicate (1 - (lg_sl ([.ref a])).length) Slot.unset).toArray = ls at hl ⊢
  have hl : lv_has ls 1 [(0, .ref a)] := hl
  exact xX0_isOver_c0 hO ⟨B.exec, B.bytes, B.returns, B.notSynchronized, hml, findClass_of_methodNamed B.named, fun w hw => atoms_spec (ws := vX0_isOver) B.pre w (List.mem_cons_of_mem _ hw), hK⟩ h _ _ ls _ (lv_sub hl [0] rfl) hW va_S.rf rfl
-- VillageBoard$Game.feedsAtEnd()Z
abbrev rmX0_feedsAtEnd : Room := ({ frames := 0, cells := 0, slots := 0, locals := 0 } : Room)
abbrev vX0_feedsAtEnd : List Cond := Cond.code yX0_feedsAtEnd cX0_feedsAtEnd 1 (some .boolean) :: lwG
theorem wX0_feedsAtEnd {R : Room} {s : State} {args : Array Value} {own : String} {idx : Nat} (hg : ∀ w ∈ lwG, w.before args s = true) (hl : Cond.methodLink own idx yX0_feedsAtEnd ∈ lwG) (hR : rmX0_feedsAtEnd.frames + 1 ≤ R.frames ∧ 8 + (1 + 11) + rmX0_feedsAtEnd.locals ≤ R.locals) : CallW R s args own RX0 idx yX0_feedsAtEnd cX0_feedsAtEnd 1 (some .boolean) vX0_feedsAtEnd rmX0_feedsAtEnd 0 0 0 := cwV 0 hg (gV hl q2_151 q2_152 q1_2 q2_153) rfl rfl rfl (by decide +kernel) hR
def fX0_feedsAtEnd_c20 (a : Nat) (h : HH) : Bool := true
set_option maxRecDepth 100000 in
set_option maxHeartbeats 4000000 in
theorem xX0_feedsAtEnd_c20 {p : Program} {l : Launch} {e : Env} {s : State} {m : MethodId} {args : Array Value} {below : List Frame} {meth : Method} {c : Code} {X : Cx} {a : Nat} (hO : IsGm X a) (C0 : CT p s m args meth c X cX0_feedsAtEnd 1 (some .boolean) RX0) (h : HH) (H : Heap) (locs : List Loc) (ls : Array Slot) (res : Bool) (hl : lv_has ls 1 []) (hW : WH X h H) (hS : va_S (xA X) s.heap H locs) (hres : fX0_feedsAtEnd_c20 a h = res) : W p l e rmX0_feedsAtEnd s m args below meth c H locs 0 0 (MQ below (QI X (bI res) h) args s 0 0 (xA X)) (F0 m 20 ls []) := by
  obtain ⟨hx, hb, hr, hlk, hml, hown, hts, hK⟩ := id C0
  refine lv_iconst (v := 1) hx hb dX0_feedsAtEnd_20 (by decide) ?_
  refine lv_goto (tgt := 25) hx hb dX0_feedsAtEnd_21 (by decide) ?_
  subst hres
  exact kr_z (v := true) hx hb hr hlk hK hW hS dX0_feedsAtEnd_25
def fX0_feedsAtEnd_c0 (a : Nat) (h : HH) : Bool := if (jrem (h a 2) 2) = 0 then (fX0_feedsAtEnd_c20 a h) else (if (h a 2) = (h a 1) then (fX0_feedsAtEnd_c20 a h) else false)
set_option maxRecDepth 100000 in
set_option maxHeartbeats 4000000 in
theorem xX0_feedsAtEnd_c0 {p : Program} {l : Launch} {e : Env} {s : State} {m : MethodId} {args : Array Value} {below : List Frame} {meth : Method} {c : Code} {X : Cx} {a : Nat} (hO : IsGm X a) (C0 : CT p s m args meth c X cX0_feedsAtEnd 1 (some .boolean) RX0) (h : HH) (H : Heap) (locs : List Loc) (ls : Array Slot) (res : Bool) (hl : lv_has ls 1 [(0, .ref a)]) (hW : WH X h H) (hS : va_S (xA X) s.heap H locs) (hres : fX0_feedsAtEnd_c0 a h = res) : W p l e rmX0_feedsAtEnd s m args below meth c H locs 0 0 (MQ below (QI X (bI res) h) args s 0 0 (xA X)) (F0 m 0 ls []) := by
  obtain ⟨hx, hb, hr, hlk, hml, hown, hts, hK⟩ := id C0
  refine lv_aload_n hx hb dX0_feedsAtEnd_0 rfl (lv_at hl 0 rfl) ?_
  refine g0_2 hx hb hts hown hK hW hO.1 (hts _ q1_87) dX0_feedsAtEnd_1 ?_
  refine lv_iconst (v := 2) hx hb dX0_feedsAtEnd_4 (by decide) ?_
  refine kb_irem hx hb dX0_feedsAtEnd_5 (by decide) ?_
  refine lv_if_eq (tgt := 20) hx hb dX0_feedsAtEnd_6 (by decide) (fun c1 => ?_) (fun c1 => ?_)
  · have hres := (if_pos c1).symm.trans hres
    exact xX0_feedsAtEnd_c20 hO C0 h _ _ _ _ (lv_sub hl [] rfl) hW hS hres
  · have hres := (if_neg c1).symm.trans hres
    refine lv_aload_n hx hb dX0_feedsAtEnd_9 rfl (lv_at hl 0 rfl) ?_
    refine g0_2 hx hb hts hown hK hW hO.1 (hts _ q1_87) dX0_feedsAtEnd_10 ?_
    refine lv_aload_n hx hb dX0_feedsAtEnd_13 rfl (lv_at hl 0 rfl) ?_
    refine g0_1 hx hb hts hown hK hW hO.1 (hts _ q1_85) dX0_feedsAtEnd_14 ?_
    refine lv_icmp_ne (tgt := 24) hx hb dX0_feedsAtEnd_17 (by decide) (fun c2 => ?_) (fun c2 => ?_)
    · have hres := (if_neg c2).symm.trans hres
      refine lv_iconst (v := 0) hx hb dX0_feedsAtEnd_24 (by decide) ?_
      subst hres
      exact kr_z (v := false) hx hb hr hlk hK hW hS dX0_feedsAtEnd_25
    · have hres := (if_pos c2).symm.trans hres
      exact xX0_feedsAtEnd_c20 hO C0 h _ _ _ _ (lv_sub hl [] rfl) hW hS hres
def fX0_feedsAtEnd (a : Nat) (h : HH) : Bool := fX0_feedsAtEnd_c0 a h
set_option maxRecDepth 100000 in
set_option maxHeartbeats 4000000 in
theorem kX0_feedsAtEnd (l : Launch) (X : Cx) (h : HH) (a : Nat) (hO : IsGm X a) : Met l yX0_feedsAtEnd vX0_feedsAtEnd rmX0_feedsAtEnd (va_Pc [.ref a] (fun U => WS X h U)) (QI X (bI (fX0_feedsAtEnd a h)) h) 0 0 (xA X) := by
  refine Met.ofW (cc := cX0_feedsAtEnd) (maxL := 1) (ret := some .boolean) (by decide) rfl ?_
  intro p e s m args below meth c s₁ B hml hv
  obtain ⟨rfl, hW, hK⟩ := hv
  have hl := lv_entry ([.ref a]) (n := 1) (Nat.le_of_ble_eq_true rfl)
  rw [lg_entry_eq]
  generalize (lg_sl ([.ref a]) ++ List.replicate (1 - (lg_sl ([.ref a])).length) Slot.unset).toArray = ls at hl ⊢
  have hl : lv_has ls 1 [(0, .ref a)] := hl
  exact xX0_feedsAtEnd_c0 hO ⟨B.exec, B.bytes, B.returns, B.notSynchronized, hml, findClass_of_methodNamed B.named, fun w hw => atoms_spec (ws := vX0_feedsAtEnd) B.pre w (List.mem_cons_of_mem _ hw), hK⟩ h _ _ ls _ (lv_sub hl [0] rfl) hW va_S.rf rfl
-- VillageBoard$Game.endRound()V
abbrev rmX0_endRound : Room := ({ frames := 3, cells := 0, slots := 0, locals := 67 } : Room)
abbrev vX0_endRound : List Cond := Cond.code yX0_endRound cX0_endRound 3 none :: lwG
theorem wX0_endRound {R : Room} {s : State} {args : Array Value} {own : String} {idx : Nat} (hg : ∀ w ∈ lwG, w.before args s = true) (hl : Cond.methodLink own idx yX0_endRound ∈ lwG) (hR : rmX0_endRound.frames + 1 ≤ R.frames ∧ 8 + (3 + 11) + rmX0_endRound.locals ≤ R.locals) : CallW R s args own RX0 idx yX0_endRound cX0_endRound 3 none vX0_endRound rmX0_endRound 0 0 0 := cwV 0 hg (gV hl q3_126 q0_15 q1_2 q3_127) rfl rfl rfl (by decide +kernel) hR
def fX0_endRound_c42 (a : Nat) (h : HH) : HH := if (h a 2) ≤ (h a 1) then (fX0_startRound a h) else (hset h a 3 (-1))
def sX0_endRound_c42 (a : Nat) (h : HH) : Prop := ((h a 2) ≤ (h a 1) → (sX0_startRound a h)) ∧ (¬ ((h a 2) ≤ (h a 1)) → True)
set_option maxRecDepth 100000 in
set_option maxHeartbeats 4000000 in
theorem xX0_endRound_c42 {p : Program} {l : Launch} {e : Env} {s : State} {m : MethodId} {args : Array Value} {below : List Frame} {meth : Method} {c : Code} {X : Cx} {a : Nat} (hO : IsGm X a) (C0 : CT p s m args meth c X cX0_endRound 3 none RX0) (h : HH) (H : Heap) (locs : List Loc) (ls : Array Slot) (res : HH) (hl : lv_has ls 3 [(0, .ref a)]) (hW : WH X h H) (hS : va_S (xA X) s.heap H locs) (hs : sX0_endRound_c42 a h) (hres : fX0_endRound_c42 a h = res) : W p l e rmX0_endRound s m args below meth c H locs 0 0 (MQ below (QV X res) args s 0 0 (xA X)) (F0 m 42 ls [.ref a]) := by
  obtain ⟨hx, hb, hr, hlk, hml, hown, hts, hK⟩ := id C0
  refine g0_2 hx hb hts hown hK hW hO.1 (hts _ q1_87) dX0_endRound_42 ?_
  refine lv_aload_n hx hb dX0_endRound_45 rfl (lv_at hl 0 rfl) ?_
  refine g0_1 hx hb hts hown hK hW hO.1 (hts _ q1_85) dX0_endRound_46 ?_
  refine lv_icmp_le (tgt := 60) hx hb dX0_endRound_49 (by decide) (fun c2 => ?_) (fun c2 => ?_)
  · have hres := (if_pos c2).symm.trans hres
    have hs := And.left hs c2
    refine lv_aload_n hx hb dX0_endRound_60 rfl (lv_at hl 0 rfl) ?_
    have hc3 := hs
    refine kV_v (As := []) (rest := []) ⟨hx, hb, hml, hown, hts⟩ (kX0_startRound l X h a hO hc3) (wX0_startRound hts q1_196 ⟨Nat.le_of_ble_eq_true rfl, Nat.le_of_ble_eq_true rfl⟩) hK hW hS (va_recv hK.1 (hW.one hO.1) (ci := 0) (q0 := 0) rfl rfl) rfl hl.1 rfl (Nat.le_of_ble_eq_true rfl) dX0_endRound_61 ⟨Nat.zero_le _, Nat.zero_le _⟩ (fun H locs hW hS => ?_)
    subst hres
    exact kr_v hx hb hr hlk hK hW hS dX0_endRound_64
  · have hres := (if_neg c2).symm.trans hres
    have hs := And.right hs c2
    refine lv_aload_n hx hb dX0_endRound_52 rfl (lv_at hl 0 rfl) ?_
    refine lv_iconst (v := (-1)) hx hb dX0_endRound_53 (by decide) ?_
    refine p0_3 hx hb hts hown hK hW hS hO.1 (hts _ q1_89) dX0_endRound_54 (fun H locs hW hS => ?_)
    refine lv_goto (tgt := 64) hx hb dX0_endRound_57 (by decide) ?_
    subst hres
    exact kr_v hx hb hr hlk hK hW hS dX0_endRound_64
def fX0_endRound_c7 (a : Nat) : Nat → Int32 → Int32 → HH → HH
  | 0, x1, x2, h => h
  | n + 1, x1, x2, h => if (h a 0) ≤ x2 then (fX0_endRound_c42 a (hset h a 2 ((h a 2) + 1))) else ((fX0_endRound_c7 a n) x1 (x2 + 1) (fX2_endRound (a + 7 + 2 * x2.toNatClampNeg) x1 h))
def sX0_endRound_c7 (a : Nat) : Nat → Int32 → Int32 → HH → Prop
  | 0, _, _, _ => False
  | n + 1, x1, x2, h => ((h a 0) ≤ x2 → (sX0_endRound_c42 a (hset h a 2 ((h a 2) + 1)))) ∧ (¬ ((h a 0) ≤ x2) → ((vp_in x2 4) ∧ ((sX2_endRound (a + 7 + 2 * x2.toNatClampNeg) x1 h) ∧ ((sX0_endRound_c7 a n) x1 (x2 + 1) (fX2_endRound (a + 7 + 2 * x2.toNatClampNeg) x1 h)))))
set_option maxRecDepth 100000 in
set_option maxHeartbeats 4000000 in
theorem xX0_endRound_c7 {p : Program} {l : Launch} {e : Env} {s : State} {m : MethodId} {args : Array Value} {below : List Frame} {meth : Method} {c : Code} {X : Cx} {a : Nat} (hO : IsGm X a) (C0 : CT p s m args meth c X cX0_endRound 3 none RX0) : ∀ (n : Nat) (x1 : Int32) (x2 : Int32) (h : HH) (H : Heap) (locs : List Loc) (ls : Array Slot) (res : HH) (hl : lv_has ls 3 [(0, .ref a), (1, .int x1), (2, .int x2)]) (hW : WH X h H) (hS : va_S (xA X) s.heap H locs) (hs : sX0_endRound_c7 a n x1 x2 h) (hres : fX0_endRound_c7 a n x1 x2 h = res), W p l e rmX0_endRound s m args below meth c H locs 0 0 (MQ below (QV X res) args s 0 0 (xA X)) (F0 m 7 ls []) := by
  obtain ⟨hx, hb, hr, hlk, hml, hown, hts, hK⟩ := id C0
  intro n
  induction n with
  | zero =>
    intro _ _ _ _ _ _ _ _ _ _ hs _
    exact hs.elim
  | succ n ih =>
    intro x1 x2 h H locs ls res hl hW hS hs hres
    refine lv_iload_n hx hb dX0_endRound_7 rfl (lv_at hl 2 rfl) ?_
    refine lv_aload_n hx hb dX0_endRound_8 rfl (lv_at hl 0 rfl) ?_
    refine g0_0 hx hb hts hown hK hW hO.1 (hts _ q1_83) dX0_endRound_9 ?_
    refine lv_icmp_ge (tgt := 31) hx hb dX0_endRound_12 (by decide) (fun c1 => ?_) (fun c1 => ?_)
    · have hres := (if_pos c1).symm.trans hres
      have hs := And.left hs c1
      refine lv_aload_n hx hb dX0_endRound_31 rfl (lv_at hl 0 rfl) ?_
      refine lv_dup hx hb dX0_endRound_32 rfl ?_
      refine g0_2 hx hb hts hown hK hW hO.1 (hts _ q1_87) dX0_endRound_33 ?_
      refine lv_iconst (v := 1) hx hb dX0_endRound_36 (by decide) ?_
      refine lv_iadd hx hb dX0_endRound_37 ?_
      refine p0_2 hx hb hts hown hK hW hS hO.1 (hts _ q1_87) dX0_endRound_38 (fun H locs hW hS => ?_)
      refine lv_aload_n hx hb dX0_endRound_41 rfl (lv_at hl 0 rfl) ?_
      exact xX0_endRound_c42 hO C0 (hset h a 2 ((h a 2) + 1)) _ _ _ _ (lv_sub hl [0] rfl) hW hS hs hres
    · have hres := (if_neg c1).symm.trans hres
      have hs := And.right hs c1
      refine lv_aload_n hx hb dX0_endRound_15 rfl (lv_at hl 0 rfl) ?_
      refine g0_5 hx hb hts hown hK hW hO.1 (hts _ q1_94) dX0_endRound_16 ?_
      refine lv_iload_n hx hb dX0_endRound_19 rfl (lv_at hl 2 rfl) ?_
      obtain ⟨hi4, hs⟩ := hs
      refine kb_aald (j := 1) hx hb hK hW hO.2.1 rfl rfl (k := x2.toNatClampNeg) rfl hi4 rfl dX0_endRound_20 ?_
      refine lv_iload_n hx hb dX0_endRound_21 rfl (lv_at hl 1 rfl) ?_
      obtain ⟨hc5, hs⟩ := hs
      refine kV_v (As := [.int x1]) (rest := []) ⟨hx, hb, hml, hown, hts⟩ (kX2_endRound l X h (a + 7 + 2 * x2.toNatClampNeg) x1 (hO.2.2.2.2.2.2 x2.toNatClampNeg (kin hi4)) hc5) (wX2_endRound hts q3_129 ⟨Nat.le_of_ble_eq_true rfl, Nat.le_of_ble_eq_true rfl⟩) hK hW hS (va_recv hK.1 (hW.one (hO.2.2.2.2.2.2 x2.toNatClampNeg (kin hi4)).1) (ci := 2) (q0 := 0) rfl rfl) rfl hl.1 rfl (Nat.le_of_ble_eq_true rfl) dX0_endRound_22 ⟨Nat.zero_le _, Nat.zero_le _⟩ (fun H locs hW hS => ?_)
      refine lv_iinc (v := x2 + 1) (lv' := [(2, .int (x2 + 1)), (0, .ref a), (1, .int x1)]) hx hb dX0_endRound_25 hl (k := 2) rfl rfl (by decide) rfl (fun ls hl => ?_)
      refine lv_goto (tgt := 7) hx hb dX0_endRound_28 (by decide) ?_
      exact ih x1 (x2 + 1) (fX2_endRound (a + 7 + 2 * x2.toNatClampNeg) x1 h) _ _ _ _ (lv_sub hl [1, 2, 0] rfl) hW hS hs hres
def fX0_endRound_c0 (a : Nat) (h : HH) : HH := fX0_endRound_c7 a 5 (bI (fX0_feedsAtEnd a h)) 0 h
def sX0_endRound_c0 (a : Nat) (h : HH) : Prop := sX0_endRound_c7 a 5 (bI (fX0_feedsAtEnd a h)) 0 h
set_option maxRecDepth 100000 in
set_option maxHeartbeats 4000000 in
theorem xX0_endRound_c0 {p : Program} {l : Launch} {e : Env} {s : State} {m : MethodId} {args : Array Value} {below : List Frame} {meth : Method} {c : Code} {X : Cx} {a : Nat} (hO : IsGm X a) (C0 : CT p s m args meth c X cX0_endRound 3 none RX0) (h : HH) (H : Heap) (locs : List Loc) (ls : Array Slot) (res : HH) (hl : lv_has ls 3 [(0, .ref a)]) (hW : WH X h H) (hS : va_S (xA X) s.heap H locs) (hs : sX0_endRound_c0 a h) (hres : fX0_endRound_c0 a h = res) : W p l e rmX0_endRound s m args below meth c H locs 0 0 (MQ below (QV X res) args s 0 0 (xA X)) (F0 m 0 ls []) := by
  obtain ⟨hx, hb, hr, hlk, hml, hown, hts, hK⟩ := id C0
  refine lv_aload_n hx hb dX0_endRound_0 rfl (lv_at hl 0 rfl) ?_
  refine kV_i (As := []) (rest := []) ⟨hx, hb, hml, hown, hts⟩ (kX0_feedsAtEnd l X h a hO) (wX0_feedsAtEnd hts q3_128 ⟨Nat.le_of_ble_eq_true rfl, Nat.le_of_ble_eq_true rfl⟩) hK hW hS (va_recv hK.1 (hW.one hO.1) (ci := 0) (q0 := 0) rfl rfl) rfl hl.1 rfl (Nat.le_of_ble_eq_true rfl) dX0_endRound_1 ⟨Nat.zero_le _, Nat.zero_le _⟩ (fun H locs hW hS => ?_)
  refine lv_istore_n (lv' := [(1, .int (bI (fX0_feedsAtEnd a h))), (0, .ref a)]) hx hb dX0_endRound_4 rfl hl (by decide) rfl (fun ls hl => ?_)
  refine lv_iconst (v := 0) hx hb dX0_endRound_5 (by decide) ?_
  refine lv_istore_n (lv' := [(2, .int 0), (1, .int (bI (fX0_feedsAtEnd a h))), (0, .ref a)]) hx hb dX0_endRound_6 rfl hl (by decide) rfl (fun ls hl => ?_)
  exact xX0_endRound_c7 hO C0 5 (bI (fX0_feedsAtEnd a h)) 0 h _ _ _ _ (lv_sub hl [2, 1, 0] rfl) hW hS hs hres
def fX0_endRound (a : Nat) (h : HH) : HH := fX0_endRound_c0 a h
def sX0_endRound (a : Nat) (h : HH) : Prop := sX0_endRound_c0 a h
set_option maxRecDepth 100000 in
set_option maxHeartbeats 4000000 in
theorem kX0_endRound (l : Launch) (X : Cx) (h : HH) (a : Nat) (hO : IsGm X a) (hs : sX0_endRound a h) : Met l yX0_endRound vX0_endRound rmX0_endRound (va_Pc [.ref a] (fun U => WS X h U)) (QV X (fX0_endRound a h)) 0 0 (xA X) := by
  refine Met.ofW (cc := cX0_endRound) (maxL := 3) (ret := none) (by decide) rfl ?_
  intro p e s m args below meth c s₁ B hml hv
  obtain ⟨rfl, hW, hK⟩ := hv
  have hl := lv_entry ([.ref a]) (n := 3) (Nat.le_of_ble_eq_true rfl)
  rw [lg_entry_eq]
  generalize (lg_sl ([.ref a]) ++ List.replicate (3 - (lg_sl ([.ref a])).length) Slot.unset).toArray = ls at hl ⊢
  have hl : lv_has ls 3 [(0, .ref a)] := hl
  exact xX0_endRound_c0 hO ⟨B.exec, B.bytes, B.returns, B.notSynchronized, hml, findClass_of_methodNamed B.named, fun w hw => atoms_spec (ws := vX0_endRound) B.pre w (List.mem_cons_of_mem _ hw), hK⟩ h _ _ ls _ (lv_sub hl [0] rfl) hW va_S.rf hs rfl
-- VillageBoard$Game.passTurn()V
abbrev rmX0_passTurn : Room := ({ frames := 4, cells := 0, slots := 0, locals := 89 } : Room)
abbrev vX0_passTurn : List Cond := Cond.code yX0_passTurn cX0_passTurn 3 none :: lwG
theorem wX0_passTurn {R : Room} {s : State} {args : Array Value} {own : String} {idx : Nat} (hg : ∀ w ∈ lwG, w.before args s = true) (hl : Cond.methodLink own idx yX0_passTurn ∈ lwG) (hR : rmX0_passTurn.frames + 1 ≤ R.frames ∧ 8 + (3 + 11) + rmX0_passTurn.locals ≤ R.locals) : CallW R s args own RX0 idx yX0_passTurn cX0_passTurn 3 none vX0_passTurn rmX0_passTurn 0 0 0 := cwV 0 hg (gV hl q3_122 q0_14 q1_2 q3_123) rfl rfl rfl (by decide +kernel) hR
def fX0_passTurn_c32 (a : Nat) (k2 : Int32 → HH → HH) (x1 : Int32) (x2 : Int32) (h : HH) : HH := if (h (a + 7 + 2 * x2.toNatClampNeg) 3) ≤ 0 then (k2 (x1 + 1) h) else (hset h a 3 x2)
def sX0_passTurn_c32 (a : Nat) (K2 : Int32 → HH → Prop) (x1 : Int32) (x2 : Int32) (h : HH) : Prop := (vp_in x2 4) ∧ (((h (a + 7 + 2 * x2.toNatClampNeg) 3) ≤ 0 → (K2 (x1 + 1) h)) ∧ (¬ ((h (a + 7 + 2 * x2.toNatClampNeg) 3) ≤ 0) → True))
set_option maxRecDepth 100000 in
set_option maxHeartbeats 4000000 in
theorem xX0_passTurn_c32 {p : Program} {l : Launch} {e : Env} {s : State} {m : MethodId} {args : Array Value} {below : List Frame} {meth : Method} {c : Code} {X : Cx} {a : Nat} (hO : IsGm X a) (C0 : CT p s m args meth c X cX0_passTurn 3 none RX0) {k2 : Int32 → HH → HH} {K2 : Int32 → HH → Prop} (hk2 : ∀ (x1 : Int32) (h : HH) (H : Heap) (locs : List Loc) (ls : Array Slot) (res : HH) (hl : lv_has ls 3 [(0, .ref a), (1, .int x1)]) (hW : WH X h H) (hS : va_S (xA X) s.heap H locs) (_ : K2 x1 h) (hres : k2 x1 h = res), W p l e rmX0_passTurn s m args below meth c H locs 0 0 (MQ below (QV X res) args s 0 0 (xA X)) (F0 m 2 ls [])) (x1 : Int32) (x2 : Int32) (h : HH) (H : Heap) (locs : List Loc) (ls : Array Slot) (res : HH) (hl : lv_has ls 3 [(0, .ref a), (1, .int x1), (2, .int x2)]) (hW : WH X h H) (hS : va_S (xA X) s.heap H locs) (hs : sX0_passTurn_c32 a K2 x1 x2 h) (hres : fX0_passTurn_c32 a k2 x1 x2 h = res) : W p l e rmX0_passTurn s m args below meth c H locs 0 0 (MQ below (QV X res) args s 0 0 (xA X)) (F0 m 32 ls []) := by
  obtain ⟨hx, hb, hr, hlk, hml, hown, hts, hK⟩ := id C0
  refine lv_aload_n hx hb dX0_passTurn_32 rfl (lv_at hl 0 rfl) ?_
  refine g0_5 hx hb hts hown hK hW hO.1 (hts _ q1_94) dX0_passTurn_33 ?_
  refine lv_iload_n hx hb dX0_passTurn_36 rfl (lv_at hl 2 rfl) ?_
  obtain ⟨hi4, hs⟩ := hs
  refine kb_aald (j := 1) hx hb hK hW hO.2.1 rfl rfl (k := x2.toNatClampNeg) rfl hi4 rfl dX0_passTurn_37 ?_
  refine g2_3 hx hb hts hown hK hW (hO.2.2.2.2.2.2 x2.toNatClampNeg (kin hi4)).1 (hts _ q1_62) dX0_passTurn_38 ?_
  refine lv_if_le (tgt := 50) hx hb dX0_passTurn_41 (by decide) (fun c5 => ?_) (fun c5 => ?_)
  · have hres := (if_pos c5).symm.trans hres
    have hs := And.left hs c5
    refine lv_iinc (v := x1 + 1) (lv' := [(1, .int (x1 + 1)), (0, .ref a), (2, .int x2)]) hx hb dX0_passTurn_50 hl (k := 1) rfl rfl (by decide) rfl (fun ls hl => ?_)
    refine lv_goto (tgt := 2) hx hb dX0_passTurn_53 (by decide) ?_
    exact hk2 (x1 + 1) h _ _ _ _ (lv_sub hl [1, 0] rfl) hW hS hs hres
  · have hres := (if_neg c5).symm.trans hres
    have hs := And.right hs c5
    refine lv_aload_n hx hb dX0_passTurn_44 rfl (lv_at hl 0 rfl) ?_
    refine lv_iload_n hx hb dX0_passTurn_45 rfl (lv_at hl 2 rfl) ?_
    refine p0_3 hx hb hts hown hK hW hS hO.1 (hts _ q1_89) dX0_passTurn_46 (fun H locs hW hS => ?_)
    subst hres
    exact kr_v hx hb hr hlk hK hW hS dX0_passTurn_49
def fX0_passTurn_c2 (a : Nat) : Nat → Int32 → HH → HH
  | 0, x1, h => h
  | n + 1, x1, h => if (h a 0) < x1 then (fX0_endRound a h) else (if ((h a 3) + x1) < (h a 0) then (fX0_passTurn_c32 a (fX0_passTurn_c2 a n) x1 ((h a 3) + x1) h) else (fX0_passTurn_c32 a (fX0_passTurn_c2 a n) x1 (((h a 3) + x1) - (h a 0)) h))
def sX0_passTurn_c2 (a : Nat) : Nat → Int32 → HH → Prop
  | 0, _, _ => False
  | n + 1, x1, h => ((h a 0) < x1 → (sX0_endRound a h)) ∧ (¬ ((h a 0) < x1) → ((((h a 3) + x1) < (h a 0) → (sX0_passTurn_c32 a (sX0_passTurn_c2 a n) x1 ((h a 3) + x1) h)) ∧ (¬ (((h a 3) + x1) < (h a 0)) → (sX0_passTurn_c32 a (sX0_passTurn_c2 a n) x1 (((h a 3) + x1) - (h a 0)) h))))
set_option maxRecDepth 100000 in
set_option maxHeartbeats 4000000 in
theorem xX0_passTurn_c2 {p : Program} {l : Launch} {e : Env} {s : State} {m : MethodId} {args : Array Value} {below : List Frame} {meth : Method} {c : Code} {X : Cx} {a : Nat} (hO : IsGm X a) (C0 : CT p s m args meth c X cX0_passTurn 3 none RX0) : ∀ (n : Nat) (x1 : Int32) (h : HH) (H : Heap) (locs : List Loc) (ls : Array Slot) (res : HH) (hl : lv_has ls 3 [(0, .ref a), (1, .int x1)]) (hW : WH X h H) (hS : va_S (xA X) s.heap H locs) (hs : sX0_passTurn_c2 a n x1 h) (hres : fX0_passTurn_c2 a n x1 h = res), W p l e rmX0_passTurn s m args below meth c H locs 0 0 (MQ below (QV X res) args s 0 0 (xA X)) (F0 m 2 ls []) := by
  obtain ⟨hx, hb, hr, hlk, hml, hown, hts, hK⟩ := id C0
  intro n
  induction n with
  | zero =>
    intro _ _ _ _ _ _ _ _ _ hs _
    exact hs.elim
  | succ n ih =>
    intro x1 h H locs ls res hl hW hS hs hres
    refine lv_iload_n hx hb dX0_passTurn_2 rfl (lv_at hl 1 rfl) ?_
    refine lv_aload_n hx hb dX0_passTurn_3 rfl (lv_at hl 0 rfl) ?_
    refine g0_0 hx hb hts hown hK hW hO.1 (hts _ q1_83) dX0_passTurn_4 ?_
    refine lv_icmp_gt (tgt := 56) hx hb dX0_passTurn_7 (by decide) (fun c1 => ?_) (fun c1 => ?_)
    · have hres := (if_pos c1).symm.trans hres
      have hs := And.left hs c1
      refine lv_aload_n hx hb dX0_passTurn_56 rfl (lv_at hl 0 rfl) ?_
      have hc2 := hs
      refine kV_v (As := []) (rest := []) ⟨hx, hb, hml, hown, hts⟩ (kX0_endRound l X h a hO hc2) (wX0_endRound hts q3_124 ⟨Nat.le_of_ble_eq_true rfl, Nat.le_of_ble_eq_true rfl⟩) hK hW hS (va_recv hK.1 (hW.one hO.1) (ci := 0) (q0 := 0) rfl rfl) rfl hl.1 rfl (Nat.le_of_ble_eq_true rfl) dX0_passTurn_57 ⟨Nat.zero_le _, Nat.zero_le _⟩ (fun H locs hW hS => ?_)
      subst hres
      exact kr_v hx hb hr hlk hK hW hS dX0_passTurn_60
    · have hres := (if_neg c1).symm.trans hres
      have hs := And.right hs c1
      refine lv_aload_n hx hb dX0_passTurn_10 rfl (lv_at hl 0 rfl) ?_
      refine g0_3 hx hb hts hown hK hW hO.1 (hts _ q1_89) dX0_passTurn_11 ?_
      refine lv_iload_n hx hb dX0_passTurn_14 rfl (lv_at hl 1 rfl) ?_
      refine lv_iadd hx hb dX0_passTurn_15 ?_
      refine lv_istore_n (lv' := [(2, .int ((h a 3) + x1)), (0, .ref a), (1, .int x1)]) hx hb dX0_passTurn_16 rfl hl (by decide) rfl (fun ls hl => ?_)
      refine lv_iload_n hx hb dX0_passTurn_17 rfl (lv_at hl 0 rfl) ?_
      refine lv_aload_n hx hb dX0_passTurn_18 rfl (lv_at hl 1 rfl) ?_
      refine g0_0 hx hb hts hown hK hW hO.1 (hts _ q1_83) dX0_passTurn_19 ?_
      refine lv_icmp_lt (tgt := 32) hx hb dX0_passTurn_22 (by decide) (fun c3 => ?_) (fun c3 => ?_)
      · have hres := (if_pos c3).symm.trans hres
        have hs := And.left hs c3
        exact xX0_passTurn_c32 hO C0 ih x1 ((h a 3) + x1) h _ _ _ _ (lv_sub hl [1, 2, 0] rfl) hW hS hs hres
      · have hres := (if_neg c3).symm.trans hres
        have hs := And.right hs c3
        refine lv_iload_n hx hb dX0_passTurn_25 rfl (lv_at hl 0 rfl) ?_
        refine lv_aload_n hx hb dX0_passTurn_26 rfl (lv_at hl 1 rfl) ?_
        refine g0_0 hx hb hts hown hK hW hO.1 (hts _ q1_83) dX0_passTurn_27 ?_
        refine lv_isub hx hb dX0_passTurn_30 ?_
        refine lv_istore_n (lv' := [(2, .int (((h a 3) + x1) - (h a 0))), (0, .ref a), (1, .int x1)]) hx hb dX0_passTurn_31 rfl hl (by decide) rfl (fun ls hl => ?_)
        exact xX0_passTurn_c32 hO C0 ih x1 (((h a 3) + x1) - (h a 0)) h _ _ _ _ (lv_sub hl [1, 2, 0] rfl) hW hS hs hres
def fX0_passTurn_c0 (a : Nat) (h : HH) : HH := fX0_passTurn_c2 a 6 1 h
def sX0_passTurn_c0 (a : Nat) (h : HH) : Prop := sX0_passTurn_c2 a 6 1 h
set_option maxRecDepth 100000 in
set_option maxHeartbeats 4000000 in
theorem xX0_passTurn_c0 {p : Program} {l : Launch} {e : Env} {s : State} {m : MethodId} {args : Array Value} {below : List Frame} {meth : Method} {c : Code} {X : Cx} {a : Nat} (hO : IsGm X a) (C0 : CT p s m args meth c X cX0_passTurn 3 none RX0) (h : HH) (H : Heap) (locs : List Loc) (ls : Array Slot) (res : HH) (hl : lv_has ls 3 [(0, .ref a)]) (hW : WH X h H) (hS : va_S (xA X) s.heap H locs) (hs : sX0_passTurn_c0 a h) (hres : fX0_passTurn_c0 a h = res) : W p l e rmX0_passTurn s m args below meth c H locs 0 0 (MQ below (QV X res) args s 0 0 (xA X)) (F0 m 0 ls []) := by
  obtain ⟨hx, hb, hr, hlk, hml, hown, hts, hK⟩ := id C0
  refine lv_iconst (v := 1) hx hb dX0_passTurn_0 (by decide) ?_
  refine lv_istore_n (lv' := [(1, .int 1), (0, .ref a)]) hx hb dX0_passTurn_1 rfl hl (by decide) rfl (fun ls hl => ?_)
  exact xX0_passTurn_c2 hO C0 6 1 h _ _ _ _ (lv_sub hl [1, 0] rfl) hW hS hs hres
def fX0_passTurn (a : Nat) (h : HH) : HH := fX0_passTurn_c0 a h
def sX0_passTurn (a : Nat) (h : HH) : Prop := sX0_passTurn_c0 a h
set_option maxRecDepth 100000 in
set_option maxHeartbeats 4000000 in
theorem kX0_passTurn (l : Launch) (X : Cx) (h : HH) (a : Nat) (hO : IsGm X a) (hs : sX0_passTurn a h) : Met l yX0_passTurn vX0_passTurn rmX0_passTurn (va_Pc [.ref a] (fun U => WS X h U)) (QV X (fX0_passTurn a h)) 0 0 (xA X) := by
  refine Met.ofW (cc := cX0_passTurn) (maxL := 3) (ret := none) (by decide) rfl ?_
  intro p e s m args below meth c s₁ B hml hv
  obtain ⟨rfl, hW, hK⟩ := hv
  have hl := lv_entry ([.ref a]) (n := 3) (Nat.le_of_ble_eq_true rfl)
  rw [lg_entry_eq]
  generalize (lg_sl ([.ref a]) ++ List.replicate (3 - (lg_sl ([.ref a])).length) Slot.unset).toArray = ls at hl ⊢
  have hl : lv_has ls 3 [(0, .ref a)] := hl
  exact xX0_passTurn_c0 hO ⟨B.exec, B.bytes, B.returns, B.notSynchronized, hml, findClass_of_methodNamed B.named, fun w hw => atoms_spec (ws := vX0_passTurn) B.pre w (List.mem_cons_of_mem _ hw), hK⟩ h _ _ ls _ (lv_sub hl [0] rfl) hW va_S.rf hs rfl
-- VillageBoard$Game.carryOut(LVillageBoard$Player;II)V
abbrev rmX0_carryOut : Room := ({ frames := 3, cells := 0, slots := 0, locals := 68 } : Room)
abbrev vX0_carryOut : List Cond := Cond.code yX0_carryOut cX0_carryOut 5 none :: lwG
theorem wX0_carryOut {R : Room} {s : State} {args : Array Value} {own : String} {idx : Nat} (hg : ∀ w ∈ lwG, w.before args s = true) (hl : Cond.methodLink own idx yX0_carryOut ∈ lwG) (hR : rmX0_carryOut.frames + 1 ≤ R.frames ∧ 8 + (5 + 11) + rmX0_carryOut.locals ≤ R.locals) : CallW R s args own RX0 idx yX0_carryOut cX0_carryOut 5 none vX0_carryOut rmX0_carryOut 0 0 3 := cwV 3 hg (gV hl q2_169 q2_170 q1_2 q2_171) rfl rfl rfl (by decide +kernel) hR
def fX0_carryOut_c110 (a : Nat) (r1 : Nat) (xs0 : Int32) (xs1 : Int32) (xs2 : Int32) (h : HH) : HH := hset h (r1 + 1) xs2.toNatClampNeg (xs1 + xs0)
def sX0_carryOut_c110 (a : Nat) (r1 : Nat) (xs0 : Int32) (xs1 : Int32) (xs2 : Int32) (h : HH) : Prop := vp_in xs2 5
set_option maxRecDepth 100000 in
set_option maxHeartbeats 4000000 in
theorem xX0_carryOut_c110 {p : Program} {l : Launch} {e : Env} {s : State} {m : MethodId} {args : Array Value} {below : List Frame} {meth : Method} {c : Code} {X : Cx} {a : Nat} {r1 : Nat} (hO : IsGm X a) (hr1 : IsPl X r1) (C0 : CT p s m args meth c X cX0_carryOut 5 none RX0) (xs0 : Int32) (xs1 : Int32) (xs2 : Int32) (h : HH) (H : Heap) (locs : List Loc) (ls : Array Slot) (res : HH) (hl : lv_has ls 5 []) (hW : WH X h H) (hS : va_S (xA X) s.heap H locs) (hs : sX0_carryOut_c110 a r1 xs0 xs1 xs2 h) (hres : fX0_carryOut_c110 a r1 xs0 xs1 xs2 h = res) : W p l e rmX0_carryOut s m args below meth c H locs 0 0 (MQ below (QV X res) args s 0 0 (xA X)) (F0 m 110 ls [.int xs0, .int xs1, .int xs2, .ref (r1 + 1)]) := by
  obtain ⟨hx, hb, hr, hlk, hml, hown, hts, hK⟩ := id C0
  refine lv_iadd hx hb dX0_carryOut_110 ?_
  have hi5 := hs
  refine kb_iast hx hb hK hW hS hr1.2 (k := xs2.toNatClampNeg) rfl hi5 dX0_carryOut_111 (fun H locs hW hS => ?_)
  refine lv_goto (tgt := 277) hx hb dX0_carryOut_112 (by decide) ?_
  subst hres
  exact kr_v hx hb hr hlk hK hW hS dX0_carryOut_277
def fX0_carryOut_c84 (a : Nat) (r1 : Nat) (x2 : Int32) (xs0 : Int32) (xs2 : Int32) (h : HH) : HH := if (bI (fX2_has r1 1 h)) = 0 then (fX0_carryOut_c110 a r1 (h (a + 2) x2.toNatClampNeg) (h (r1 + 1) xs0.toNatClampNeg) xs2 h) else (fX0_carryOut_c110 a r1 ((h (a + 2) x2.toNatClampNeg) + 1) (h (r1 + 1) xs0.toNatClampNeg) xs2 h)
def sX0_carryOut_c84 (a : Nat) (r1 : Nat) (x2 : Int32) (xs0 : Int32) (xs2 : Int32) (h : HH) : Prop := (vp_in xs0 5) ∧ (((bI (fX2_has r1 1 h)) = 0 → ((vp_in x2 12) ∧ (sX0_carryOut_c110 a r1 (h (a + 2) x2.toNatClampNeg) (h (r1 + 1) xs0.toNatClampNeg) xs2 h))) ∧ (¬ ((bI (fX2_has r1 1 h)) = 0) → ((vp_in x2 12) ∧ (sX0_carryOut_c110 a r1 ((h (a + 2) x2.toNatClampNeg) + 1) (h (r1 + 1) xs0.toNatClampNeg) xs2 h))))
set_option maxRecDepth 100000 in
set_option maxHeartbeats 4000000 in
theorem xX0_carryOut_c84 {p : Program} {l : Launch} {e : Env} {s : State} {m : MethodId} {args : Array Value} {below : List Frame} {meth : Method} {c : Code} {X : Cx} {a : Nat} {r1 : Nat} (hO : IsGm X a) (hr1 : IsPl X r1) (C0 : CT p s m args meth c X cX0_carryOut 5 none RX0) (x2 : Int32) (xs0 : Int32) (xs2 : Int32) (h : HH) (H : Heap) (locs : List Loc) (ls : Array Slot) (res : HH) (hl : lv_has ls 5 [(0, .ref a), (1, .ref r1), (2, .int x2)]) (hW : WH X h H) (hS : va_S (xA X) s.heap H locs) (hs : sX0_carryOut_c84 a r1 x2 xs0 xs2 h) (hres : fX0_carryOut_c84 a r1 x2 xs0 xs2 h = res) : W p l e rmX0_carryOut s m args below meth c H locs 0 0 (MQ below (QV X res) args s 0 0 (xA X)) (F0 m 84 ls [.int xs0, .ref (r1 + 1), .int xs2, .ref (r1 + 1)]) := by
  obtain ⟨hx, hb, hr, hlk, hml, hown, hts, hK⟩ := id C0
  obtain ⟨hi2, hs⟩ := hs
  refine kb_iald hx hb hK hW hr1.2 (k := xs0.toNatClampNeg) rfl hi2 dX0_carryOut_84 ?_
  refine lv_aload_n hx hb dX0_carryOut_85 rfl (lv_at hl 1 rfl) ?_
  refine lv_iconst (v := 1) hx hb dX0_carryOut_86 (by decide) ?_
  refine kV_i (As := [.int 1]) (rest := [.int (h (r1 + 1) xs0.toNatClampNeg), .int xs2, .ref (r1 + 1)]) ⟨hx, hb, hml, hown, hts⟩ (kX2_has l X h r1 1 hr1) (wX2_has hts q2_51 ⟨Nat.le_of_ble_eq_true rfl, Nat.le_of_ble_eq_true rfl⟩) hK hW hS (va_recv hK.1 (hW.one hr1.1) (ci := 2) (q0 := 0) rfl rfl) rfl hl.1 rfl (Nat.le_of_ble_eq_true rfl) dX0_carryOut_87 ⟨Nat.zero_le _, Nat.zero_le _⟩ (fun H locs hW hS => ?_)
  refine lv_if_eq (tgt := 104) hx hb dX0_carryOut_90 (by decide) (fun c3 => ?_) (fun c3 => ?_)
  · have hres := (if_pos c3).symm.trans hres
    have hs := And.left hs c3
    refine lv_aload_n hx hb dX0_carryOut_104 rfl (lv_at hl 0 rfl) ?_
    refine g0_6 hx hb hts hown hK hW hO.1 (hts _ q1_97) dX0_carryOut_105 ?_
    refine lv_iload_n hx hb dX0_carryOut_108 rfl (lv_at hl 2 rfl) ?_
    obtain ⟨hi4, hs⟩ := hs
    refine kb_iald hx hb hK hW hO.2.2.1 (k := x2.toNatClampNeg) rfl hi4 dX0_carryOut_109 ?_
    exact xX0_carryOut_c110 hO hr1 C0 (h (a + 2) x2.toNatClampNeg) (h (r1 + 1) xs0.toNatClampNeg) xs2 h _ _ _ _ (lv_sub hl [] rfl) hW hS hs hres
  · have hres := (if_neg c3).symm.trans hres
    have hs := And.right hs c3
    refine lv_aload_n hx hb dX0_carryOut_93 rfl (lv_at hl 0 rfl) ?_
    refine g0_6 hx hb hts hown hK hW hO.1 (hts _ q1_97) dX0_carryOut_94 ?_
    refine lv_iload_n hx hb dX0_carryOut_97 rfl (lv_at hl 2 rfl) ?_
    obtain ⟨hi6, hs⟩ := hs
    refine kb_iald hx hb hK hW hO.2.2.1 (k := x2.toNatClampNeg) rfl hi6 dX0_carryOut_98 ?_
    refine lv_iconst (v := 1) hx hb dX0_carryOut_99 (by decide) ?_
    refine lv_iadd hx hb dX0_carryOut_100 ?_
    refine lv_goto (tgt := 110) hx hb dX0_carryOut_101 (by decide) ?_
    exact xX0_carryOut_c110 hO hr1 C0 ((h (a + 2) x2.toNatClampNeg) + 1) (h (r1 + 1) xs0.toNatClampNeg) xs2 h _ _ _ _ (lv_sub hl [] rfl) hW hS hs hres
def fX0_carryOut_c119 (a : Nat) (r1 : Nat) (x2 : Int32) (xs0 : Int32) (xs2 : Int32) (h : HH) : HH := hset h (r1 + 1) xs2.toNatClampNeg ((h (r1 + 1) xs0.toNatClampNeg) + (h (a + 2) x2.toNatClampNeg))
def sX0_carryOut_c119 (a : Nat) (r1 : Nat) (x2 : Int32) (xs0 : Int32) (xs2 : Int32) (h : HH) : Prop := (vp_in xs0 5) ∧ ((vp_in x2 12) ∧ (vp_in xs2 5))
set_option maxRecDepth 100000 in
set_option maxHeartbeats 4000000 in
theorem xX0_carryOut_c119 {p : Program} {l : Launch} {e : Env} {s : State} {m : MethodId} {args : Array Value} {below : List Frame} {meth : Method} {c : Code} {X : Cx} {a : Nat} {r1 : Nat} (hO : IsGm X a) (hr1 : IsPl X r1) (C0 : CT p s m args meth c X cX0_carryOut 5 none RX0) (x2 : Int32) (xs0 : Int32) (xs2 : Int32) (h : HH) (H : Heap) (locs : List Loc) (ls : Array Slot) (res : HH) (hl : lv_has ls 5 [(0, .ref a), (2, .int x2)]) (hW : WH X h H) (hS : va_S (xA X) s.heap H locs) (hs : sX0_carryOut_c119 a r1 x2 xs0 xs2 h) (hres : fX0_carryOut_c119 a r1 x2 xs0 xs2 h = res) : W p l e rmX0_carryOut s m args below meth c H locs 0 0 (MQ below (QV X res) args s 0 0 (xA X)) (F0 m 119 ls [.int xs0, .ref (r1 + 1), .int xs2, .ref (r1 + 1)]) := by
  obtain ⟨hx, hb, hr, hlk, hml, hown, hts, hK⟩ := id C0
  obtain ⟨hi8, hs⟩ := hs
  refine kb_iald hx hb hK hW hr1.2 (k := xs0.toNatClampNeg) rfl hi8 dX0_carryOut_119 ?_
  refine lv_aload_n hx hb dX0_carryOut_120 rfl (lv_at hl 0 rfl) ?_
  refine g0_6 hx hb hts hown hK hW hO.1 (hts _ q1_97) dX0_carryOut_121 ?_
  refine lv_iload_n hx hb dX0_carryOut_124 rfl (lv_at hl 1 rfl) ?_
  obtain ⟨hi9, hs⟩ := hs
  refine kb_iald hx hb hK hW hO.2.2.1 (k := x2.toNatClampNeg) rfl hi9 dX0_carryOut_125 ?_
  refine lv_iadd hx hb dX0_carryOut_126 ?_
  have hi10 := hs
  refine kb_iast hx hb hK hW hS hr1.2 (k := xs2.toNatClampNeg) rfl hi10 dX0_carryOut_127 (fun H locs hW hS => ?_)
  refine lv_goto (tgt := 277) hx hb dX0_carryOut_128 (by decide) ?_
  subst hres
  exact kr_v hx hb hr hlk hK hW hS dX0_carryOut_277
def fX0_carryOut_c163 (a : Nat) (r1 : Nat) (h : HH) : HH := hset h (r1 + 1) 2 ((h (r1 + 1) 2) + 1)
set_option maxRecDepth 100000 in
set_option maxHeartbeats 4000000 in
theorem xX0_carryOut_c163 {p : Program} {l : Launch} {e : Env} {s : State} {m : MethodId} {args : Array Value} {below : List Frame} {meth : Method} {c : Code} {X : Cx} {a : Nat} {r1 : Nat} (hO : IsGm X a) (hr1 : IsPl X r1) (C0 : CT p s m args meth c X cX0_carryOut 5 none RX0) (h : HH) (H : Heap) (locs : List Loc) (ls : Array Slot) (res : HH) (hl : lv_has ls 5 [(4, .ref (r1 + 1))]) (hW : WH X h H) (hS : va_S (xA X) s.heap H locs) (hres : fX0_carryOut_c163 a r1 h = res) : W p l e rmX0_carryOut s m args below meth c H locs 0 0 (MQ below (QV X res) args s 0 0 (xA X)) (F0 m 163 ls []) := by
  obtain ⟨hx, hb, hr, hlk, hml, hown, hts, hK⟩ := id C0
  refine lv_aload hx hb dX0_carryOut_163 (lv_at hl 0 rfl) ?_
  refine lv_iconst (v := 2) hx hb dX0_carryOut_165 (by decide) ?_
  refine lv_dup2_11 hx hb dX0_carryOut_166 rfl rfl ?_
  refine kb_iald hx hb hK hW hr1.2 (k := 2) (by decide) (vpd (by decide)) dX0_carryOut_167 ?_
  refine lv_iconst (v := 1) hx hb dX0_carryOut_168 (by decide) ?_
  refine lv_iadd hx hb dX0_carryOut_169 ?_
  refine kb_iast hx hb hK hW hS hr1.2 (k := 2) (by decide) (vpd (by decide)) dX0_carryOut_170 (fun H locs hW hS => ?_)
  refine lv_goto (tgt := 277) hx hb dX0_carryOut_171 (by decide) ?_
  subst hres
  exact kr_v hx hb hr hlk hK hW hS dX0_carryOut_277
def fX0_carryOut_c135 (a : Nat) (r1 : Nat) (x2 : Int32) (xs0 : Int32) (xs2 : Int32) (h : HH) : HH := hset h (r1 + 1) xs2.toNatClampNeg ((h (r1 + 1) xs0.toNatClampNeg) + (h (a + 2) x2.toNatClampNeg))
def sX0_carryOut_c135 (a : Nat) (r1 : Nat) (x2 : Int32) (xs0 : Int32) (xs2 : Int32) (h : HH) : Prop := (vp_in xs0 5) ∧ ((vp_in x2 12) ∧ (vp_in xs2 5))
set_option maxRecDepth 100000 in
set_option maxHeartbeats 4000000 in
theorem xX0_carryOut_c135 {p : Program} {l : Launch} {e : Env} {s : State} {m : MethodId} {args : Array Value} {below : List Frame} {meth : Method} {c : Code} {X : Cx} {a : Nat} {r1 : Nat} (hO : IsGm X a) (hr1 : IsPl X r1) (C0 : CT p s m args meth c X cX0_carryOut 5 none RX0) (x2 : Int32) (xs0 : Int32) (xs2 : Int32) (h : HH) (H : Heap) (locs : List Loc) (ls : Array Slot) (res : HH) (hl : lv_has ls 5 [(0, .ref a), (2, .int x2)]) (hW : WH X h H) (hS : va_S (xA X) s.heap H locs) (hs : sX0_carryOut_c135 a r1 x2 xs0 xs2 h) (hres : fX0_carryOut_c135 a r1 x2 xs0 xs2 h = res) : W p l e rmX0_carryOut s m args below meth c H locs 0 0 (MQ below (QV X res) args s 0 0 (xA X)) (F0 m 135 ls [.int xs0, .ref (r1 + 1), .int xs2, .ref (r1 + 1)]) := by
  obtain ⟨hx, hb, hr, hlk, hml, hown, hts, hK⟩ := id C0
  obtain ⟨hi13, hs⟩ := hs
  refine kb_iald hx hb hK hW hr1.2 (k := xs0.toNatClampNeg) rfl hi13 dX0_carryOut_135 ?_
  refine lv_aload_n hx hb dX0_carryOut_136 rfl (lv_at hl 0 rfl) ?_
  refine g0_6 hx hb hts hown hK hW hO.1 (hts _ q1_97) dX0_carryOut_137 ?_
  refine lv_iload_n hx hb dX0_carryOut_140 rfl (lv_at hl 1 rfl) ?_
  obtain ⟨hi14, hs⟩ := hs
  refine kb_iald hx hb hK hW hO.2.2.1 (k := x2.toNatClampNeg) rfl hi14 dX0_carryOut_141 ?_
  refine lv_iadd hx hb dX0_carryOut_142 ?_
  have hi15 := hs
  refine kb_iast hx hb hK hW hS hr1.2 (k := xs2.toNatClampNeg) rfl hi15 dX0_carryOut_143 (fun H locs hW hS => ?_)
  refine lv_goto (tgt := 277) hx hb dX0_carryOut_144 (by decide) ?_
  subst hres
  exact kr_v hx hb hr hlk hK hW hS dX0_carryOut_277
def fX0_carryOut_c178 (a : Nat) (r1 : Nat) (xs0 : Int32) (xs2 : Int32) (h : HH) : HH := hset h (r1 + 1) xs2.toNatClampNeg ((h (r1 + 1) xs0.toNatClampNeg) + 2)
def sX0_carryOut_c178 (a : Nat) (r1 : Nat) (xs0 : Int32) (xs2 : Int32) (h : HH) : Prop := (vp_in xs0 5) ∧ (vp_in xs2 5)
set_option maxRecDepth 100000 in
set_option maxHeartbeats 4000000 in
theorem xX0_carryOut_c178 {p : Program} {l : Launch} {e : Env} {s : State} {m : MethodId} {args : Array Value} {below : List Frame} {meth : Method} {c : Code} {X : Cx} {a : Nat} {r1 : Nat} (hO : IsGm X a) (hr1 : IsPl X r1) (C0 : CT p s m args meth c X cX0_carryOut 5 none RX0) (xs0 : Int32) (xs2 : Int32) (h : HH) (H : Heap) (locs : List Loc) (ls : Array Slot) (res : HH) (hl : lv_has ls 5 []) (hW : WH X h H) (hS : va_S (xA X) s.heap H locs) (hs : sX0_carryOut_c178 a r1 xs0 xs2 h) (hres : fX0_carryOut_c178 a r1 xs0 xs2 h = res) : W p l e rmX0_carryOut s m args below meth c H locs 0 0 (MQ below (QV X res) args s 0 0 (xA X)) (F0 m 178 ls [.int xs0, .ref (r1 + 1), .int xs2, .ref (r1 + 1)]) := by
  obtain ⟨hx, hb, hr, hlk, hml, hown, hts, hK⟩ := id C0
  obtain ⟨hi17, hs⟩ := hs
  refine kb_iald hx hb hK hW hr1.2 (k := xs0.toNatClampNeg) rfl hi17 dX0_carryOut_178 ?_
  refine lv_iconst (v := 2) hx hb dX0_carryOut_179 (by decide) ?_
  refine lv_iadd hx hb dX0_carryOut_180 ?_
  have hi18 := hs
  refine kb_iast hx hb hK hW hS hr1.2 (k := xs2.toNatClampNeg) rfl hi18 dX0_carryOut_181 (fun H locs hW hS => ?_)
  refine lv_goto (tgt := 277) hx hb dX0_carryOut_182 (by decide) ?_
  subst hres
  exact kr_v hx hb hr hlk hK hW hS dX0_carryOut_277
def fX0_carryOut_c151 (a : Nat) (r1 : Nat) (x2 : Int32) (xs0 : Int32) (xs2 : Int32) (h : HH) : HH := hset h (r1 + 1) xs2.toNatClampNeg ((h (r1 + 1) xs0.toNatClampNeg) + (h (a + 2) x2.toNatClampNeg))
def sX0_carryOut_c151 (a : Nat) (r1 : Nat) (x2 : Int32) (xs0 : Int32) (xs2 : Int32) (h : HH) : Prop := (vp_in xs0 5) ∧ ((vp_in x2 12) ∧ (vp_in xs2 5))
set_option maxRecDepth 100000 in
set_option maxHeartbeats 4000000 in
theorem xX0_carryOut_c151 {p : Program} {l : Launch} {e : Env} {s : State} {m : MethodId} {args : Array Value} {below : List Frame} {meth : Method} {c : Code} {X : Cx} {a : Nat} {r1 : Nat} (hO : IsGm X a) (hr1 : IsPl X r1) (C0 : CT p s m args meth c X cX0_carryOut 5 none RX0) (x2 : Int32) (xs0 : Int32) (xs2 : Int32) (h : HH) (H : Heap) (locs : List Loc) (ls : Array Slot) (res : HH) (hl : lv_has ls 5 [(0, .ref a), (2, .int x2)]) (hW : WH X h H) (hS : va_S (xA X) s.heap H locs) (hs : sX0_carryOut_c151 a r1 x2 xs0 xs2 h) (hres : fX0_carryOut_c151 a r1 x2 xs0 xs2 h = res) : W p l e rmX0_carryOut s m args below meth c H locs 0 0 (MQ below (QV X res) args s 0 0 (xA X)) (F0 m 151 ls [.int xs0, .ref (r1 + 1), .int xs2, .ref (r1 + 1)]) := by
  obtain ⟨hx, hb, hr, hlk, hml, hown, hts, hK⟩ := id C0
  obtain ⟨hi20, hs⟩ := hs
  refine kb_iald hx hb hK hW hr1.2 (k := xs0.toNatClampNeg) rfl hi20 dX0_carryOut_151 ?_
  refine lv_aload_n hx hb dX0_carryOut_152 rfl (lv_at hl 0 rfl) ?_
  refine g0_6 hx hb hts hown hK hW hO.1 (hts _ q1_97) dX0_carryOut_153 ?_
  refine lv_iload_n hx hb dX0_carryOut_156 rfl (lv_at hl 1 rfl) ?_
  obtain ⟨hi21, hs⟩ := hs
  refine kb_iald hx hb hK hW hO.2.2.1 (k := x2.toNatClampNeg) rfl hi21 dX0_carryOut_157 ?_
  refine lv_iadd hx hb dX0_carryOut_158 ?_
  have hi22 := hs
  refine kb_iast hx hb hK hW hS hr1.2 (k := xs2.toNatClampNeg) rfl hi22 dX0_carryOut_159 (fun H locs hW hS => ?_)
  refine lv_goto (tgt := 277) hx hb dX0_carryOut_160 (by decide) ?_
  subst hres
  exact kr_v hx hb hr hlk hK hW hS dX0_carryOut_277
def fX0_carryOut_c192 (a : Nat) (r1 : Nat) (h : HH) : HH := hset h r1 4 ((h r1 4) + 1)
set_option maxRecDepth 100000 in
set_option maxHeartbeats 4000000 in
theorem xX0_carryOut_c192 {p : Program} {l : Launch} {e : Env} {s : State} {m : MethodId} {args : Array Value} {below : List Frame} {meth : Method} {c : Code} {X : Cx} {a : Nat} {r1 : Nat} (hO : IsGm X a) (hr1 : IsPl X r1) (C0 : CT p s m args meth c X cX0_carryOut 5 none RX0) (h : HH) (H : Heap) (locs : List Loc) (ls : Array Slot) (res : HH) (hl : lv_has ls 5 []) (hW : WH X h H) (hS : va_S (xA X) s.heap H locs) (hres : fX0_carryOut_c192 a r1 h = res) : W p l e rmX0_carryOut s m args below meth c H locs 0 0 (MQ below (QV X res) args s 0 0 (xA X)) (F0 m 192 ls [.ref r1, .ref r1]) := by
  obtain ⟨hx, hb, hr, hlk, hml, hown, hts, hK⟩ := id C0
  refine g2_4 hx hb hts hown hK hW hr1.1 (hts _ q1_64) dX0_carryOut_192 ?_
  refine lv_iconst (v := 1) hx hb dX0_carryOut_195 (by decide) ?_
  refine lv_iadd hx hb dX0_carryOut_196 ?_
  refine p2_4 hx hb hts hown hK hW hS hr1.1 (hts _ q1_64) dX0_carryOut_197 (fun H locs hW hS => ?_)
  refine lv_goto (tgt := 277) hx hb dX0_carryOut_200 (by decide) ?_
  subst hres
  exact kr_v hx hb hr hlk hK hW hS dX0_carryOut_277
def fX0_carryOut_c187 (a : Nat) (r1 : Nat) (xs0 : Int32) (h : HH) : HH := fX0_carryOut_c192 a r1 (fX2_payFor r1 xs0 h)
def sX0_carryOut_c187 (a : Nat) (r1 : Nat) (xs0 : Int32) (h : HH) : Prop := sX2_payFor r1 xs0 h
set_option maxRecDepth 100000 in
set_option maxHeartbeats 4000000 in
theorem xX0_carryOut_c187 {p : Program} {l : Launch} {e : Env} {s : State} {m : MethodId} {args : Array Value} {below : List Frame} {meth : Method} {c : Code} {X : Cx} {a : Nat} {r1 : Nat} (hO : IsGm X a) (hr1 : IsPl X r1) (C0 : CT p s m args meth c X cX0_carryOut 5 none RX0) (xs0 : Int32) (h : HH) (H : Heap) (locs : List Loc) (ls : Array Slot) (res : HH) (hl : lv_has ls 5 [(1, .ref r1)]) (hW : WH X h H) (hS : va_S (xA X) s.heap H locs) (hs : sX0_carryOut_c187 a r1 xs0 h) (hres : fX0_carryOut_c187 a r1 xs0 h = res) : W p l e rmX0_carryOut s m args below meth c H locs 0 0 (MQ below (QV X res) args s 0 0 (xA X)) (F0 m 187 ls [.int xs0, .ref r1]) := by
  obtain ⟨hx, hb, hr, hlk, hml, hown, hts, hK⟩ := id C0
  have hc24 := hs
  refine kV_v (As := [.int xs0]) (rest := []) ⟨hx, hb, hml, hown, hts⟩ (kX2_payFor l X h r1 xs0 hr1 hc24) (wX2_payFor hts q2_172 ⟨Nat.le_of_ble_eq_true rfl, Nat.le_of_ble_eq_true rfl⟩) hK hW hS (va_recv hK.1 (hW.one hr1.1) (ci := 2) (q0 := 0) rfl rfl) rfl hl.1 rfl (Nat.le_of_ble_eq_true rfl) dX0_carryOut_187 ⟨Nat.zero_le _, Nat.zero_le _⟩ (fun H locs hW hS => ?_)
  refine lv_aload_n hx hb dX0_carryOut_190 rfl (lv_at hl 0 rfl) ?_
  refine lv_dup hx hb dX0_carryOut_191 rfl ?_
  exact xX0_carryOut_c192 hO hr1 C0 (fX2_payFor r1 xs0 h) _ _ _ _ (lv_sub hl [] rfl) hW hS hres
def fX0_carryOut_c204 (a : Nat) (r1 : Nat) (h : HH) : HH := fX2_grow r1 h
set_option maxRecDepth 100000 in
set_option maxHeartbeats 4000000 in
theorem xX0_carryOut_c204 {p : Program} {l : Launch} {e : Env} {s : State} {m : MethodId} {args : Array Value} {below : List Frame} {meth : Method} {c : Code} {X : Cx} {a : Nat} {r1 : Nat} (hO : IsGm X a) (hr1 : IsPl X r1) (C0 : CT p s m args meth c X cX0_carryOut 5 none RX0) (h : HH) (H : Heap) (locs : List Loc) (ls : Array Slot) (res : HH) (hl : lv_has ls 5 []) (hW : WH X h H) (hS : va_S (xA X) s.heap H locs) (hres : fX0_carryOut_c204 a r1 h = res) : W p l e rmX0_carryOut s m args below meth c H locs 0 0 (MQ below (QV X res) args s 0 0 (xA X)) (F0 m 204 ls [.ref r1]) := by
  obtain ⟨hx, hb, hr, hlk, hml, hown, hts, hK⟩ := id C0
  refine kV_v (As := []) (rest := []) ⟨hx, hb, hml, hown, hts⟩ (kX2_grow l X h r1 hr1) (wX2_grow hts q2_176 ⟨Nat.le_of_ble_eq_true rfl, Nat.le_of_ble_eq_true rfl⟩) hK hW hS (va_recv hK.1 (hW.one hr1.1) (ci := 2) (q0 := 0) rfl rfl) rfl hl.1 rfl (Nat.le_of_ble_eq_true rfl) dX0_carryOut_204 ⟨Nat.zero_le _, Nat.zero_le _⟩ (fun H locs hW hS => ?_)
  refine lv_goto (tgt := 277) hx hb dX0_carryOut_207 (by decide) ?_
  subst hres
  exact kr_v hx hb hr hlk hK hW hS dX0_carryOut_277
def fX0_carryOut_c222 (a : Nat) (r1 : Nat) (x3 : Int32) (xs0 : Int32) (xs2 : Int32) (h : HH) : HH := hset h (r1 + 1) xs2.toNatClampNeg ((h (r1 + 1) xs0.toNatClampNeg) + (x3 * (fX2_foodOfMilledGrain r1 h)))
def sX0_carryOut_c222 (a : Nat) (r1 : Nat) (x3 : Int32) (xs0 : Int32) (xs2 : Int32) (h : HH) : Prop := (vp_in xs0 5) ∧ (vp_in xs2 5)
set_option maxRecDepth 100000 in
set_option maxHeartbeats 4000000 in
theorem xX0_carryOut_c222 {p : Program} {l : Launch} {e : Env} {s : State} {m : MethodId} {args : Array Value} {below : List Frame} {meth : Method} {c : Code} {X : Cx} {a : Nat} {r1 : Nat} (hO : IsGm X a) (hr1 : IsPl X r1) (C0 : CT p s m args meth c X cX0_carryOut 5 none RX0) (x3 : Int32) (xs0 : Int32) (xs2 : Int32) (h : HH) (H : Heap) (locs : List Loc) (ls : Array Slot) (res : HH) (hl : lv_has ls 5 [(1, .ref r1), (3, .int x3)]) (hW : WH X h H) (hS : va_S (xA X) s.heap H locs) (hs : sX0_carryOut_c222 a r1 x3 xs0 xs2 h) (hres : fX0_carryOut_c222 a r1 x3 xs0 xs2 h = res) : W p l e rmX0_carryOut s m args below meth c H locs 0 0 (MQ below (QV X res) args s 0 0 (xA X)) (F0 m 222 ls [.int xs0, .ref (r1 + 1), .int xs2, .ref (r1 + 1)]) := by
  obtain ⟨hx, hb, hr, hlk, hml, hown, hts, hK⟩ := id C0
  obtain ⟨hi29, hs⟩ := hs
  refine kb_iald hx hb hK hW hr1.2 (k := xs0.toNatClampNeg) rfl hi29 dX0_carryOut_222 ?_
  refine lv_iload_n hx hb dX0_carryOut_223 rfl (lv_at hl 1 rfl) ?_
  refine lv_aload_n hx hb dX0_carryOut_224 rfl (lv_at hl 0 rfl) ?_
  refine kV_i (As := []) (rest := [.int x3, .int (h (r1 + 1) xs0.toNatClampNeg), .int xs2, .ref (r1 + 1)]) ⟨hx, hb, hml, hown, hts⟩ (kX2_foodOfMilledGrain l X h r1 hr1) (wX2_foodOfMilledGrain hts q2_180 ⟨Nat.le_of_ble_eq_true rfl, Nat.le_of_ble_eq_true rfl⟩) hK hW hS (va_recv hK.1 (hW.one hr1.1) (ci := 2) (q0 := 0) rfl rfl) rfl hl.1 rfl (Nat.le_of_ble_eq_true rfl) dX0_carryOut_225 ⟨Nat.zero_le _, Nat.zero_le _⟩ (fun H locs hW hS => ?_)
  refine lv_imul hx hb dX0_carryOut_228 ?_
  refine lv_iadd hx hb dX0_carryOut_229 ?_
  have hi30 := hs
  refine kb_iast hx hb hK hW hS hr1.2 (k := xs2.toNatClampNeg) rfl hi30 dX0_carryOut_230 (fun H locs hW hS => ?_)
  refine lv_goto (tgt := 277) hx hb dX0_carryOut_231 (by decide) ?_
  subst hres
  exact kr_v hx hb hr hlk hK hW hS dX0_carryOut_277
def fX0_carryOut_c214 (a : Nat) (r1 : Nat) (x3 : Int32) (xs0 : Int32) (xs2 : Int32) (h : HH) : HH := fX0_carryOut_c222 a r1 x3 4 4 (hset h (r1 + 1) xs2.toNatClampNeg ((h (r1 + 1) xs0.toNatClampNeg) - x3))
def sX0_carryOut_c214 (a : Nat) (r1 : Nat) (x3 : Int32) (xs0 : Int32) (xs2 : Int32) (h : HH) : Prop := (vp_in xs0 5) ∧ ((vp_in xs2 5) ∧ (sX0_carryOut_c222 a r1 x3 4 4 (hset h (r1 + 1) xs2.toNatClampNeg ((h (r1 + 1) xs0.toNatClampNeg) - x3))))
set_option maxRecDepth 100000 in
set_option maxHeartbeats 4000000 in
theorem xX0_carryOut_c214 {p : Program} {l : Launch} {e : Env} {s : State} {m : MethodId} {args : Array Value} {below : List Frame} {meth : Method} {c : Code} {X : Cx} {a : Nat} {r1 : Nat} (hO : IsGm X a) (hr1 : IsPl X r1) (C0 : CT p s m args meth c X cX0_carryOut 5 none RX0) (x3 : Int32) (xs0 : Int32) (xs2 : Int32) (h : HH) (H : Heap) (locs : List Loc) (ls : Array Slot) (res : HH) (hl : lv_has ls 5 [(1, .ref r1), (3, .int x3), (4, .ref (r1 + 1))]) (hW : WH X h H) (hS : va_S (xA X) s.heap H locs) (hs : sX0_carryOut_c214 a r1 x3 xs0 xs2 h) (hres : fX0_carryOut_c214 a r1 x3 xs0 xs2 h = res) : W p l e rmX0_carryOut s m args below meth c H locs 0 0 (MQ below (QV X res) args s 0 0 (xA X)) (F0 m 214 ls [.int xs0, .ref (r1 + 1), .int xs2, .ref (r1 + 1)]) := by
  obtain ⟨hx, hb, hr, hlk, hml, hown, hts, hK⟩ := id C0
  obtain ⟨hi27, hs⟩ := hs
  refine kb_iald hx hb hK hW hr1.2 (k := xs0.toNatClampNeg) rfl hi27 dX0_carryOut_214 ?_
  refine lv_iload_n hx hb dX0_carryOut_215 rfl (lv_at hl 1 rfl) ?_
  refine lv_isub hx hb dX0_carryOut_216 ?_
  obtain ⟨hi28, hs⟩ := hs
  refine kb_iast hx hb hK hW hS hr1.2 (k := xs2.toNatClampNeg) rfl hi28 dX0_carryOut_217 (fun H locs hW hS => ?_)
  refine lv_aload hx hb dX0_carryOut_218 (lv_at hl 2 rfl) ?_
  refine lv_iconst (v := 4) hx hb dX0_carryOut_220 (by decide) ?_
  refine lv_dup2_11 hx hb dX0_carryOut_221 rfl rfl ?_
  exact xX0_carryOut_c222 hO hr1 C0 x3 4 4 (hset h (r1 + 1) xs2.toNatClampNeg ((h (r1 + 1) xs0.toNatClampNeg) - x3)) _ _ _ _ (lv_sub hl [0, 1] rfl) hW hS hs hres
def fX0_carryOut_c241 (a : Nat) (r1 : Nat) (x3 : Int32) (h : HH) : HH := hset h r1 6 ((h r1 6) ||| (1 <<< (x3 &&& 31)))
set_option maxRecDepth 100000 in
set_option maxHeartbeats 4000000 in
theorem xX0_carryOut_c241 {p : Program} {l : Launch} {e : Env} {s : State} {m : MethodId} {args : Array Value} {below : List Frame} {meth : Method} {c : Code} {X : Cx} {a : Nat} {r1 : Nat} (hO : IsGm X a) (hr1 : IsPl X r1) (C0 : CT p s m args meth c X cX0_carryOut 5 none RX0) (x3 : Int32) (h : HH) (H : Heap) (locs : List Loc) (ls : Array Slot) (res : HH) (hl : lv_has ls 5 [(3, .int x3)]) (hW : WH X h H) (hS : va_S (xA X) s.heap H locs) (hres : fX0_carryOut_c241 a r1 x3 h = res) : W p l e rmX0_carryOut s m args below meth c H locs 0 0 (MQ below (QV X res) args s 0 0 (xA X)) (F0 m 241 ls [.ref r1, .ref r1]) := by
  obtain ⟨hx, hb, hr, hlk, hml, hown, hts, hK⟩ := id C0
  refine g2_6 hx hb hts hown hK hW hr1.1 (hts _ q1_67) dX0_carryOut_241 ?_
  refine lv_iconst (v := 1) hx hb dX0_carryOut_244 (by decide) ?_
  refine lv_iload_n hx hb dX0_carryOut_245 rfl (lv_at hl 0 rfl) ?_
  refine lv_ishl hx hb dX0_carryOut_246 ?_
  refine lv_ior hx hb dX0_carryOut_247 ?_
  refine p2_6 hx hb hts hown hK hW hS hr1.1 (hts _ q1_67) dX0_carryOut_248 (fun H locs hW hS => ?_)
  refine lv_goto (tgt := 277) hx hb dX0_carryOut_251 (by decide) ?_
  subst hres
  exact kr_v hx hb hr hlk hK hW hS dX0_carryOut_277
def fX0_carryOut_c236 (a : Nat) (r1 : Nat) (x3 : Int32) (xs0 : Int32) (h : HH) : HH := fX0_carryOut_c241 a r1 x3 (fX2_payFor r1 xs0 h)
def sX0_carryOut_c236 (a : Nat) (r1 : Nat) (x3 : Int32) (xs0 : Int32) (h : HH) : Prop := sX2_payFor r1 xs0 h
set_option maxRecDepth 100000 in
set_option maxHeartbeats 4000000 in
theorem xX0_carryOut_c236 {p : Program} {l : Launch} {e : Env} {s : State} {m : MethodId} {args : Array Value} {below : List Frame} {meth : Method} {c : Code} {X : Cx} {a : Nat} {r1 : Nat} (hO : IsGm X a) (hr1 : IsPl X r1) (C0 : CT p s m args meth c X cX0_carryOut 5 none RX0) (x3 : Int32) (xs0 : Int32) (h : HH) (H : Heap) (locs : List Loc) (ls : Array Slot) (res : HH) (hl : lv_has ls 5 [(1, .ref r1), (3, .int x3)]) (hW : WH X h H) (hS : va_S (xA X) s.heap H locs) (hs : sX0_carryOut_c236 a r1 x3 xs0 h) (hres : fX0_carryOut_c236 a r1 x3 xs0 h = res) : W p l e rmX0_carryOut s m args below meth c H locs 0 0 (MQ below (QV X res) args s 0 0 (xA X)) (F0 m 236 ls [.int xs0, .ref r1]) := by
  obtain ⟨hx, hb, hr, hlk, hml, hown, hts, hK⟩ := id C0
  have hc32 := hs
  refine kV_v (As := [.int xs0]) (rest := []) ⟨hx, hb, hml, hown, hts⟩ (kX2_payFor l X h r1 xs0 hr1 hc32) (wX2_payFor hts q2_172 ⟨Nat.le_of_ble_eq_true rfl, Nat.le_of_ble_eq_true rfl⟩) hK hW hS (va_recv hK.1 (hW.one hr1.1) (ci := 2) (q0 := 0) rfl rfl) rfl hl.1 rfl (Nat.le_of_ble_eq_true rfl) dX0_carryOut_236 ⟨Nat.zero_le _, Nat.zero_le _⟩ (fun H locs hW hS => ?_)
  refine lv_aload_n hx hb dX0_carryOut_239 rfl (lv_at hl 0 rfl) ?_
  refine lv_dup hx hb dX0_carryOut_240 rfl ?_
  exact xX0_carryOut_c241 hO hr1 C0 x3 (fX2_payFor r1 xs0 h) _ _ _ _ (lv_sub hl [1] rfl) hW hS hres
def fX0_carryOut_c270 (a : Nat) (r1 : Nat) (xs0 : Int32) (xs2 : Int32) (h : HH) : HH := hset h (r1 + 1) xs2.toNatClampNeg ((h (r1 + 1) xs0.toNatClampNeg) + 1)
def sX0_carryOut_c270 (a : Nat) (r1 : Nat) (xs0 : Int32) (xs2 : Int32) (h : HH) : Prop := (vp_in xs0 5) ∧ (vp_in xs2 5)
set_option maxRecDepth 100000 in
set_option maxHeartbeats 4000000 in
theorem xX0_carryOut_c270 {p : Program} {l : Launch} {e : Env} {s : State} {m : MethodId} {args : Array Value} {below : List Frame} {meth : Method} {c : Code} {X : Cx} {a : Nat} {r1 : Nat} (hO : IsGm X a) (hr1 : IsPl X r1) (C0 : CT p s m args meth c X cX0_carryOut 5 none RX0) (xs0 : Int32) (xs2 : Int32) (h : HH) (H : Heap) (locs : List Loc) (ls : Array Slot) (res : HH) (hl : lv_has ls 5 []) (hW : WH X h H) (hS : va_S (xA X) s.heap H locs) (hs : sX0_carryOut_c270 a r1 xs0 xs2 h) (hres : fX0_carryOut_c270 a r1 xs0 xs2 h = res) : W p l e rmX0_carryOut s m args below meth c H locs 0 0 (MQ below (QV X res) args s 0 0 (xA X)) (F0 m 270 ls [.int xs0, .ref (r1 + 1), .int xs2, .ref (r1 + 1)]) := by
  obtain ⟨hx, hb, hr, hlk, hml, hown, hts, hK⟩ := id C0
  obtain ⟨hi37, hs⟩ := hs
  refine kb_iald hx hb hK hW hr1.2 (k := xs0.toNatClampNeg) rfl hi37 dX0_carryOut_270 ?_
  refine lv_iconst (v := 1) hx hb dX0_carryOut_271 (by decide) ?_
  refine lv_iadd hx hb dX0_carryOut_272 ?_
  have hi38 := hs
  refine kb_iast hx hb hK hW hS hr1.2 (k := xs2.toNatClampNeg) rfl hi38 dX0_carryOut_273 (fun H locs hW hS => ?_)
  refine lv_goto (tgt := 277) hx hb dX0_carryOut_274 (by decide) ?_
  subst hres
  exact kr_v hx hb hr hlk hK hW hS dX0_carryOut_277
def fX0_carryOut_c260 (a : Nat) (r1 : Nat) (x3 : Int32) (xs0 : Int32) (xs2 : Int32) (h : HH) : HH := fX0_carryOut_c270 a r1 (jrem x3 5) (jrem x3 5) (hset h (r1 + 1) xs2.toNatClampNeg ((h (r1 + 1) xs0.toNatClampNeg) - 2))
def sX0_carryOut_c260 (a : Nat) (r1 : Nat) (x3 : Int32) (xs0 : Int32) (xs2 : Int32) (h : HH) : Prop := (vp_in xs0 5) ∧ ((vp_in xs2 5) ∧ (sX0_carryOut_c270 a r1 (jrem x3 5) (jrem x3 5) (hset h (r1 + 1) xs2.toNatClampNeg ((h (r1 + 1) xs0.toNatClampNeg) - 2))))
set_option maxRecDepth 100000 in
set_option maxHeartbeats 4000000 in
theorem xX0_carryOut_c260 {p : Program} {l : Launch} {e : Env} {s : State} {m : MethodId} {args : Array Value} {below : List Frame} {meth : Method} {c : Code} {X : Cx} {a : Nat} {r1 : Nat} (hO : IsGm X a) (hr1 : IsPl X r1) (C0 : CT p s m args meth c X cX0_carryOut 5 none RX0) (x3 : Int32) (xs0 : Int32) (xs2 : Int32) (h : HH) (H : Heap) (locs : List Loc) (ls : Array Slot) (res : HH) (hl : lv_has ls 5 [(3, .int x3), (4, .ref (r1 + 1))]) (hW : WH X h H) (hS : va_S (xA X) s.heap H locs) (hs : sX0_carryOut_c260 a r1 x3 xs0 xs2 h) (hres : fX0_carryOut_c260 a r1 x3 xs0 xs2 h = res) : W p l e rmX0_carryOut s m args below meth c H locs 0 0 (MQ below (QV X res) args s 0 0 (xA X)) (F0 m 260 ls [.int xs0, .ref (r1 + 1), .int xs2, .ref (r1 + 1)]) := by
  obtain ⟨hx, hb, hr, hlk, hml, hown, hts, hK⟩ := id C0
  obtain ⟨hi35, hs⟩ := hs
  refine kb_iald hx hb hK hW hr1.2 (k := xs0.toNatClampNeg) rfl hi35 dX0_carryOut_260 ?_
  refine lv_iconst (v := 2) hx hb dX0_carryOut_261 (by decide) ?_
  refine lv_isub hx hb dX0_carryOut_262 ?_
  obtain ⟨hi36, hs⟩ := hs
  refine kb_iast hx hb hK hW hS hr1.2 (k := xs2.toNatClampNeg) rfl hi36 dX0_carryOut_263 (fun H locs hW hS => ?_)
  refine lv_aload hx hb dX0_carryOut_264 (lv_at hl 1 rfl) ?_
  refine lv_iload_n hx hb dX0_carryOut_266 rfl (lv_at hl 0 rfl) ?_
  refine lv_iconst (v := 5) hx hb dX0_carryOut_267 (by decide) ?_
  refine kb_irem hx hb dX0_carryOut_268 (by decide) ?_
  refine lv_dup2_11 hx hb dX0_carryOut_269 rfl rfl ?_
  exact xX0_carryOut_c270 hO hr1 C0 (jrem x3 5) (jrem x3 5) (hset h (r1 + 1) xs2.toNatClampNeg ((h (r1 + 1) xs0.toNatClampNeg) - 2)) _ _ _ _ (lv_sub hl [] rfl) hW hS hs hres
def fX0_carryOut_c0 (a : Nat) (r1 : Nat) (x2 : Int32) (x3 : Int32) (h : HH) : HH := if x2 = 0 then (fX0_carryOut_c84 a r1 x2 0 0 (hset h r1 3 ((h r1 3) - 1))) else (if x2 = 1 then (fX0_carryOut_c119 a r1 x2 1 1 (hset h r1 3 ((h r1 3) - 1))) else (if x2 = 2 then (fX0_carryOut_c163 a r1 (hset h r1 3 ((h r1 3) - 1))) else (if x2 = 3 then (fX0_carryOut_c135 a r1 x2 4 4 (hset h r1 3 ((h r1 3) - 1))) else (if x2 = 4 then (fX0_carryOut_c178 a r1 4 4 (hset h r1 3 ((h r1 3) - 1))) else (if x2 = 5 then (fX0_carryOut_c151 a r1 x2 3 3 (hset h r1 3 ((h r1 3) - 1))) else (if x2 = 6 then (fX0_carryOut_c187 a r1 (-1) (hset h r1 3 ((h r1 3) - 1))) else (if x2 = 7 then (fX0_carryOut_c204 a r1 (hset h r1 3 ((h r1 3) - 1))) else (if x2 = 8 then (fX0_carryOut_c214 a r1 x3 2 2 (hset h r1 3 ((h r1 3) - 1))) else (if x2 = 9 then (fX0_carryOut_c236 a r1 x3 x3 (hset h r1 3 ((h r1 3) - 1))) else (if x2 = 10 then (fX0_carryOut_c163 a r1 (hset h r1 3 ((h r1 3) - 1))) else (if x2 = 11 then (fX0_carryOut_c260 a r1 x3 (x3 / 5) (x3 / 5) (hset h r1 3 ((h r1 3) - 1))) else (hset h r1 3 ((h r1 3) - 1)))))))))))))
def sX0_carryOut_c0 (a : Nat) (r1 : Nat) (x2 : Int32) (x3 : Int32) (h : HH) : Prop := (x2 = 0 → (sX0_carryOut_c84 a r1 x2 0 0 (hset h r1 3 ((h r1 3) - 1)))) ∧ (¬ (x2 = 0) → ((x2 = 1 → (sX0_carryOut_c119 a r1 x2 1 1 (hset h r1 3 ((h r1 3) - 1)))) ∧ (¬ (x2 = 1) → ((x2 = 2 → True) ∧ (¬ (x2 = 2) → ((x2 = 3 → (sX0_carryOut_c135 a r1 x2 4 4 (hset h r1 3 ((h r1 3) - 1)))) ∧ (¬ (x2 = 3) → ((x2 = 4 → (sX0_carryOut_c178 a r1 4 4 (hset h r1 3 ((h r1 3) - 1)))) ∧ (¬ (x2 = 4) → ((x2 = 5 → (sX0_carryOut_c151 a r1 x2 3 3 (hset h r1 3 ((h r1 3) - 1)))) ∧ (¬ (x2 = 5) → ((x2 = 6 → (sX0_carryOut_c187 a r1 (-1) (hset h r1 3 ((h r1 3) - 1)))) ∧ (¬ (x2 = 6) → ((x2 = 7 → True) ∧ (¬ (x2 = 7) → ((x2 = 8 → (sX0_carryOut_c214 a r1 x3 2 2 (hset h r1 3 ((h r1 3) - 1)))) ∧ (¬ (x2 = 8) → ((x2 = 9 → (sX0_carryOut_c236 a r1 x3 x3 (hset h r1 3 ((h r1 3) - 1)))) ∧ (¬ (x2 = 9) → ((x2 = 10 → True) ∧ (¬ (x2 = 10) → ((x2 = 11 → (sX0_carryOut_c260 a r1 x3 (x3 / 5) (x3 / 5) (hset h r1 3 ((h r1 3) - 1)))) ∧ (¬ (x2 = 11) → True)))))))))))))))))))))))
set_option maxRecDepth 100000 in
set_option maxHeartbeats 4000000 in
theorem xX0_carryOut_c0 {p : Program} {l : Launch} {e : Env} {s : State} {m : MethodId} {args : Array Value} {below : List Frame} {meth : Method} {c : Code} {X : Cx} {a : Nat} {r1 : Nat} (hO : IsGm X a) (hr1 : IsPl X r1) (C0 : CT p s m args meth c X cX0_carryOut 5 none RX0) (x2 : Int32) (x3 : Int32) (h : HH) (H : Heap) (locs : List Loc) (ls : Array Slot) (res : HH) (hl : lv_has ls 5 [(0, .ref a), (1, .ref r1), (2, .int x2), (3, .int x3)]) (hW : WH X h H) (hS : va_S (xA X) s.heap H locs) (hs : sX0_carryOut_c0 a r1 x2 x3 h) (hres : fX0_carryOut_c0 a r1 x2 x3 h = res) : W p l e rmX0_carryOut s m args below meth c H locs 0 0 (MQ below (QV X res) args s 0 0 (xA X)) (F0 m 0 ls []) := by
  obtain ⟨hx, hb, hr, hlk, hml, hown, hts, hK⟩ := id C0
  refine lv_aload_n hx hb dX0_carryOut_0 rfl (lv_at hl 1 rfl) ?_
  refine g2_0 hx hb hts hown hK hW hr1.1 (hts _ q1_57) dX0_carryOut_1 ?_
  refine lv_astore (lv' := [(4, .ref (r1 + 1)), (0, .ref a), (1, .ref r1), (2, .int x2), (3, .int x3)]) hx hb dX0_carryOut_4 hl (by decide) rfl (fun ls hl => ?_)
  refine lv_aload_n hx hb dX0_carryOut_6 rfl (lv_at hl 2 rfl) ?_
  refine lv_dup hx hb dX0_carryOut_7 rfl ?_
  refine g2_3 hx hb hts hown hK hW hr1.1 (hts _ q1_62) dX0_carryOut_8 ?_
  refine lv_iconst (v := 1) hx hb dX0_carryOut_11 (by decide) ?_
  refine lv_isub hx hb dX0_carryOut_12 ?_
  refine p2_3 hx hb hts hown hK hW hS hr1.1 (hts _ q1_62) dX0_carryOut_13 (fun H locs hW hS => ?_)
  refine lv_iload_n hx hb dX0_carryOut_16 rfl (lv_at hl 3 rfl) ?_
  by_cases c1 : x2 = 0
  · have hres := (if_pos c1).symm.trans hres
    have hs := And.left hs c1
    refine ksw_in (tgt := 80) hx hb 0 c1 dX0_carryOut_17 (by decide) (by decide) rfl (by decide) ?_
    refine lv_aload hx hb dX0_carryOut_80 (lv_at hl 0 rfl) ?_
    refine lv_iconst (v := 0) hx hb dX0_carryOut_82 (by decide) ?_
    refine lv_dup2_11 hx hb dX0_carryOut_83 rfl rfl ?_
    exact xX0_carryOut_c84 hO hr1 C0 x2 0 0 (hset h r1 3 ((h r1 3) - 1)) _ _ _ _ (lv_sub hl [1, 2, 3] rfl) hW hS hs hres
  · have hres := (if_neg c1).symm.trans hres
    have hs := And.right hs c1
    by_cases c7 : x2 = 1
    · have hres := (if_pos c7).symm.trans hres
      have hs := And.left hs c7
      refine ksw_in (tgt := 115) hx hb 1 c7 dX0_carryOut_17 (by decide) (by decide) rfl (by decide) ?_
      refine lv_aload hx hb dX0_carryOut_115 (lv_at hl 0 rfl) ?_
      refine lv_iconst (v := 1) hx hb dX0_carryOut_117 (by decide) ?_
      refine lv_dup2_11 hx hb dX0_carryOut_118 rfl rfl ?_
      exact xX0_carryOut_c119 hO hr1 C0 x2 1 1 (hset h r1 3 ((h r1 3) - 1)) _ _ _ _ (lv_sub hl [1, 3] rfl) hW hS hs hres
    · have hres := (if_neg c7).symm.trans hres
      have hs := And.right hs c7
      by_cases c11 : x2 = 2
      · have hres := (if_pos c11).symm.trans hres
        have hs := And.left hs c11
        refine ksw_in (tgt := 163) hx hb 2 c11 dX0_carryOut_17 (by decide) (by decide) rfl (by decide) ?_
        exact xX0_carryOut_c163 hO hr1 C0 (hset h r1 3 ((h r1 3) - 1)) _ _ _ _ (lv_sub hl [0] rfl) hW hS hres
      · have hres := (if_neg c11).symm.trans hres
        have hs := And.right hs c11
        by_cases c12 : x2 = 3
        · have hres := (if_pos c12).symm.trans hres
          have hs := And.left hs c12
          refine ksw_in (tgt := 131) hx hb 3 c12 dX0_carryOut_17 (by decide) (by decide) rfl (by decide) ?_
          refine lv_aload hx hb dX0_carryOut_131 (lv_at hl 0 rfl) ?_
          refine lv_iconst (v := 4) hx hb dX0_carryOut_133 (by decide) ?_
          refine lv_dup2_11 hx hb dX0_carryOut_134 rfl rfl ?_
          exact xX0_carryOut_c135 hO hr1 C0 x2 4 4 (hset h r1 3 ((h r1 3) - 1)) _ _ _ _ (lv_sub hl [1, 3] rfl) hW hS hs hres
        · have hres := (if_neg c12).symm.trans hres
          have hs := And.right hs c12
          by_cases c16 : x2 = 4
          · have hres := (if_pos c16).symm.trans hres
            have hs := And.left hs c16
            refine ksw_in (tgt := 174) hx hb 4 c16 dX0_carryOut_17 (by decide) (by decide) rfl (by decide) ?_
            refine lv_aload hx hb dX0_carryOut_174 (lv_at hl 0 rfl) ?_
            refine lv_iconst (v := 4) hx hb dX0_carryOut_176 (by decide) ?_
            refine lv_dup2_11 hx hb dX0_carryOut_177 rfl rfl ?_
            exact xX0_carryOut_c178 hO hr1 C0 4 4 (hset h r1 3 ((h r1 3) - 1)) _ _ _ _ (lv_sub hl [] rfl) hW hS hs hres
          · have hres := (if_neg c16).symm.trans hres
            have hs := And.right hs c16
            by_cases c19 : x2 = 5
            · have hres := (if_pos c19).symm.trans hres
              have hs := And.left hs c19
              refine ksw_in (tgt := 147) hx hb 5 c19 dX0_carryOut_17 (by decide) (by decide) rfl (by decide) ?_
              refine lv_aload hx hb dX0_carryOut_147 (lv_at hl 0 rfl) ?_
              refine lv_iconst (v := 3) hx hb dX0_carryOut_149 (by decide) ?_
              refine lv_dup2_11 hx hb dX0_carryOut_150 rfl rfl ?_
              exact xX0_carryOut_c151 hO hr1 C0 x2 3 3 (hset h r1 3 ((h r1 3) - 1)) _ _ _ _ (lv_sub hl [1, 3] rfl) hW hS hs hres
            · have hres := (if_neg c19).symm.trans hres
              have hs := And.right hs c19
              by_cases c23 : x2 = 6
              · have hres := (if_pos c23).symm.trans hres
                have hs := And.left hs c23
                refine ksw_in (tgt := 185) hx hb 6 c23 dX0_carryOut_17 (by decide) (by decide) rfl (by decide) ?_
                refine lv_aload_n hx hb dX0_carryOut_185 rfl (lv_at hl 2 rfl) ?_
                refine lv_iconst (v := (-1)) hx hb dX0_carryOut_186 (by decide) ?_
                exact xX0_carryOut_c187 hO hr1 C0 (-1) (hset h r1 3 ((h r1 3) - 1)) _ _ _ _ (lv_sub hl [2] rfl) hW hS hs hres
              · have hres := (if_neg c23).symm.trans hres
                have hs := And.right hs c23
                by_cases c25 : x2 = 7
                · have hres := (if_pos c25).symm.trans hres
                  have hs := And.left hs c25
                  refine ksw_in (tgt := 203) hx hb 7 c25 dX0_carryOut_17 (by decide) (by decide) rfl (by decide) ?_
                  refine lv_aload_n hx hb dX0_carryOut_203 rfl (lv_at hl 2 rfl) ?_
                  exact xX0_carryOut_c204 hO hr1 C0 (hset h r1 3 ((h r1 3) - 1)) _ _ _ _ (lv_sub hl [] rfl) hW hS hres
                · have hres := (if_neg c25).symm.trans hres
                  have hs := And.right hs c25
                  by_cases c26 : x2 = 8
                  · have hres := (if_pos c26).symm.trans hres
                    have hs := And.left hs c26
                    refine ksw_in (tgt := 210) hx hb 8 c26 dX0_carryOut_17 (by decide) (by decide) rfl (by decide) ?_
                    refine lv_aload hx hb dX0_carryOut_210 (lv_at hl 0 rfl) ?_
                    refine lv_iconst (v := 2) hx hb dX0_carryOut_212 (by decide) ?_
                    refine lv_dup2_11 hx hb dX0_carryOut_213 rfl rfl ?_
                    exact xX0_carryOut_c214 hO hr1 C0 x3 2 2 (hset h r1 3 ((h r1 3) - 1)) _ _ _ _ (lv_sub hl [2, 4, 0] rfl) hW hS hs hres
                  · have hres := (if_neg c26).symm.trans hres
                    have hs := And.right hs c26
                    by_cases c31 : x2 = 9
                    · have hres := (if_pos c31).symm.trans hres
                      have hs := And.left hs c31
                      refine ksw_in (tgt := 234) hx hb 9 c31 dX0_carryOut_17 (by decide) (by decide) rfl (by decide) ?_
                      refine lv_aload_n hx hb dX0_carryOut_234 rfl (lv_at hl 2 rfl) ?_
                      refine lv_iload_n hx hb dX0_carryOut_235 rfl (lv_at hl 4 rfl) ?_
                      exact xX0_carryOut_c236 hO hr1 C0 x3 x3 (hset h r1 3 ((h r1 3) - 1)) _ _ _ _ (lv_sub hl [2, 4] rfl) hW hS hs hres
                    · have hres := (if_neg c31).symm.trans hres
                      have hs := And.right hs c31
                      by_cases c33 : x2 = 10
                      · have hres := (if_pos c33).symm.trans hres
                        have hs := And.left hs c33
                        refine ksw_in (tgt := 163) hx hb 10 c33 dX0_carryOut_17 (by decide) (by decide) rfl (by decide) ?_
                        exact xX0_carryOut_c163 hO hr1 C0 (hset h r1 3 ((h r1 3) - 1)) _ _ _ _ (lv_sub hl [0] rfl) hW hS hres
                      · have hres := (if_neg c33).symm.trans hres
                        have hs := And.right hs c33
                        by_cases c34 : x2 = 11
                        · have hres := (if_pos c34).symm.trans hres
                          have hs := And.left hs c34
                          refine ksw_in (tgt := 254) hx hb 11 c34 dX0_carryOut_17 (by decide) (by decide) rfl (by decide) ?_
                          refine lv_aload hx hb dX0_carryOut_254 (lv_at hl 0 rfl) ?_
                          refine lv_iload_n hx hb dX0_carryOut_256 rfl (lv_at hl 4 rfl) ?_
                          refine lv_iconst (v := 5) hx hb dX0_carryOut_257 (by decide) ?_
                          refine lv_idiv hx hb dX0_carryOut_258 (by decide) ?_
                          refine lv_dup2_11 hx hb dX0_carryOut_259 rfl rfl ?_
                          exact xX0_carryOut_c260 hO hr1 C0 x3 (x3 / 5) (x3 / 5) (hset h r1 3 ((h r1 3) - 1)) _ _ _ _ (lv_sub hl [4, 0] rfl) hW hS hs hres
                        · have hres := (if_neg c34).symm.trans hres
                          have hs := And.right hs c34
                          refine lv_tableOut (tgt := 277) hx hb dX0_carryOut_17 (by have := lv_neT (a := 0) c1 (by decide); have := lv_neT (a := 1) c7 (by decide); have := lv_neT (a := 2) c11 (by decide); have := lv_neT (a := 3) c12 (by decide); have := lv_neT (a := 4) c16 (by decide); have := lv_neT (a := 5) c19 (by decide); have := lv_neT (a := 6) c23 (by decide); have := lv_neT (a := 7) c25 (by decide); have := lv_neT (a := 8) c26 (by decide); have := lv_neT (a := 9) c31 (by decide); have := lv_neT (a := 10) c33 (by decide); have := lv_neT (a := 11) c34 (by decide); omega) (by decide) ?_
                          subst hres
                          exact kr_v hx hb hr hlk hK hW hS dX0_carryOut_277
def fX0_carryOut (a : Nat) (r1 : Nat) (x2 : Int32) (x3 : Int32) (h : HH) : HH := fX0_carryOut_c0 a r1 x2 x3 h
def sX0_carryOut (a : Nat) (r1 : Nat) (x2 : Int32) (x3 : Int32) (h : HH) : Prop := sX0_carryOut_c0 a r1 x2 x3 h
set_option maxRecDepth 100000 in
set_option maxHeartbeats 4000000 in
theorem kX0_carryOut (l : Launch) (X : Cx) (h : HH) (a : Nat) (r1 : Nat) (x2 : Int32) (x3 : Int32) (hO : IsGm X a) (hr1 : IsPl X r1) (hs : sX0_carryOut a r1 x2 x3 h) : Met l yX0_carryOut vX0_carryOut rmX0_carryOut (va_Pc [.ref a, .ref r1, .int x2, .int x3] (fun U => WS X h U)) (QV X (fX0_carryOut a r1 x2 x3 h)) 0 0 (xA X) := by
  refine Met.ofW (cc := cX0_carryOut) (maxL := 5) (ret := none) (by decide) rfl ?_
  intro p e s m args below meth c s₁ B hml hv
  obtain ⟨rfl, hW, hK⟩ := hv
  have hl := lv_entry ([.ref a, .ref r1, .int x2, .int x3]) (n := 5) (Nat.le_of_ble_eq_true rfl)
  rw [lg_entry_eq]
  generalize (lg_sl ([.ref a, .ref r1, .int x2, .int x3]) ++ List.replicate (5 - (lg_sl ([.ref a, .ref r1, .int x2, .int x3])).length) Slot.unset).toArray = ls at hl ⊢
  have hl : lv_has ls 5 [(0, .ref a), (1, .ref r1), (2, .int x2), (3, .int x3)] := hl
  exact xX0_carryOut_c0 hO hr1 ⟨B.exec, B.bytes, B.returns, B.notSynchronized, hml, findClass_of_methodNamed B.named, fun w hw => atoms_spec (ws := vX0_carryOut) B.pre w (List.mem_cons_of_mem _ hw), hK⟩ x2 x3 h _ _ ls _ (lv_sub hl [0, 1, 2, 3] rfl) hW va_S.rf hs rfl
-- VillageBoard$Game.occupy(I)V
abbrev rmX0_occupy : Room := ({ frames := 0, cells := 0, slots := 0, locals := 0 } : Room)
abbrev vX0_occupy : List Cond := Cond.code yX0_occupy cX0_occupy 2 none :: lwG
theorem wX0_occupy {R : Room} {s : State} {args : Array Value} {own : String} {idx : Nat} (hg : ∀ w ∈ lwG, w.before args s = true) (hl : Cond.methodLink own idx yX0_occupy ∈ lwG) (hR : rmX0_occupy.frames + 1 ≤ R.frames ∧ 8 + (2 + 11) + rmX0_occupy.locals ≤ R.locals) : CallW R s args own RX0 idx yX0_occupy cX0_occupy 2 none vX0_occupy rmX0_occupy 0 0 1 := cwV 1 hg (gV hl q3_118 q0_13 q1_2 q3_119) rfl rfl rfl (by decide +kernel) hR
def fX0_occupy_c37 (a : Nat) (x1 : Int32) (h : HH) : HH := if x1 = 10 then (hset h a 4 (h a 3)) else h
set_option maxRecDepth 100000 in
set_option maxHeartbeats 4000000 in
theorem xX0_occupy_c37 {p : Program} {l : Launch} {e : Env} {s : State} {m : MethodId} {args : Array Value} {below : List Frame} {meth : Method} {c : Code} {X : Cx} {a : Nat} (hO : IsGm X a) (C0 : CT p s m args meth c X cX0_occupy 2 none RX0) (x1 : Int32) (h : HH) (H : Heap) (locs : List Loc) (ls : Array Slot) (res : HH) (hl : lv_has ls 2 [(0, .ref a), (1, .int x1)]) (hW : WH X h H) (hS : va_S (xA X) s.heap H locs) (hres : fX0_occupy_c37 a x1 h = res) : W p l e rmX0_occupy s m args below meth c H locs 0 0 (MQ below (QV X res) args s 0 0 (xA X)) (F0 m 37 ls []) := by
  obtain ⟨hx, hb, hr, hlk, hml, hown, hts, hK⟩ := id C0
  refine lv_iload_n hx hb dX0_occupy_37 rfl (lv_at hl 1 rfl) ?_
  refine lv_bipush (v := 10) hx hb dX0_occupy_38 (by decide) ?_
  refine lv_icmp_ne (tgt := 51) hx hb dX0_occupy_40 (by decide) (fun c6 => ?_) (fun c6 => ?_)
  · have hres := (if_neg c6).symm.trans hres
    subst hres
    exact kr_v hx hb hr hlk hK hW hS dX0_occupy_51
  · have hres := (if_pos c6).symm.trans hres
    refine lv_aload_n hx hb dX0_occupy_43 rfl (lv_at hl 0 rfl) ?_
    refine lv_aload_n hx hb dX0_occupy_44 rfl (lv_at hl 0 rfl) ?_
    refine g0_3 hx hb hts hown hK hW hO.1 (hts _ q1_89) dX0_occupy_45 ?_
    refine p0_4 hx hb hts hown hK hW hS hO.1 (hts _ q1_92) dX0_occupy_48 (fun H locs hW hS => ?_)
    subst hres
    exact kr_v hx hb hr hlk hK hW hS dX0_occupy_51
def fX0_occupy_c22 (a : Nat) (x1 : Int32) (xs0 : Int32) (h : HH) : HH := if (h (a + 4) xs0.toNatClampNeg) = (-1) then (fX0_occupy_c37 a x1 (hset h (a + 4) x1.toNatClampNeg (h a 3))) else (fX0_occupy_c37 a x1 h)
def sX0_occupy_c22 (a : Nat) (x1 : Int32) (xs0 : Int32) (h : HH) : Prop := (vp_in xs0 12) ∧ (((h (a + 4) xs0.toNatClampNeg) = (-1) → (vp_in x1 12)) ∧ (¬ ((h (a + 4) xs0.toNatClampNeg) = (-1)) → True))
set_option maxRecDepth 100000 in
set_option maxHeartbeats 4000000 in
theorem xX0_occupy_c22 {p : Program} {l : Launch} {e : Env} {s : State} {m : MethodId} {args : Array Value} {below : List Frame} {meth : Method} {c : Code} {X : Cx} {a : Nat} (hO : IsGm X a) (C0 : CT p s m args meth c X cX0_occupy 2 none RX0) (x1 : Int32) (xs0 : Int32) (h : HH) (H : Heap) (locs : List Loc) (ls : Array Slot) (res : HH) (hl : lv_has ls 2 [(0, .ref a), (1, .int x1)]) (hW : WH X h H) (hS : va_S (xA X) s.heap H locs) (hs : sX0_occupy_c22 a x1 xs0 h) (hres : fX0_occupy_c22 a x1 xs0 h = res) : W p l e rmX0_occupy s m args below meth c H locs 0 0 (MQ below (QV X res) args s 0 0 (xA X)) (F0 m 22 ls [.int xs0, .ref (a + 4)]) := by
  obtain ⟨hx, hb, hr, hlk, hml, hown, hts, hK⟩ := id C0
  obtain ⟨hi4, hs⟩ := hs
  refine kb_iald hx hb hK hW hO.2.2.2.2.1 (k := xs0.toNatClampNeg) rfl hi4 dX0_occupy_22 ?_
  refine lv_iconst (v := (-1)) hx hb dX0_occupy_23 (by decide) ?_
  refine lv_icmp_ne (tgt := 37) hx hb dX0_occupy_24 (by decide) (fun c5 => ?_) (fun c5 => ?_)
  · have hres := (if_neg c5).symm.trans hres
    have hs := And.right hs c5
    exact xX0_occupy_c37 hO C0 x1 h _ _ _ _ (lv_sub hl [0, 1] rfl) hW hS hres
  · have hres := (if_pos c5).symm.trans hres
    have hs := And.left hs c5
    refine lv_aload_n hx hb dX0_occupy_27 rfl (lv_at hl 0 rfl) ?_
    refine g0_8 hx hb hts hown hK hW hO.1 (hts _ q1_100) dX0_occupy_28 ?_
    refine lv_iload_n hx hb dX0_occupy_31 rfl (lv_at hl 1 rfl) ?_
    refine lv_aload_n hx hb dX0_occupy_32 rfl (lv_at hl 0 rfl) ?_
    refine g0_3 hx hb hts hown hK hW hO.1 (hts _ q1_89) dX0_occupy_33 ?_
    have hi7 := hs
    refine kb_iast hx hb hK hW hS hO.2.2.2.2.1 (k := x1.toNatClampNeg) rfl hi7 dX0_occupy_36 (fun H locs hW hS => ?_)
    exact xX0_occupy_c37 hO C0 x1 (hset h (a + 4) x1.toNatClampNeg (h a 3)) _ _ _ _ (lv_sub hl [0, 1] rfl) hW hS hres
def fX0_occupy_c13 (a : Nat) (x1 : Int32) (xs0 : Int32) (xs2 : Int32) (h : HH) : HH := fX0_occupy_c22 a x1 x1 (hset h (a + 3) xs2.toNatClampNeg ((h (a + 3) xs0.toNatClampNeg) + 1))
def sX0_occupy_c13 (a : Nat) (x1 : Int32) (xs0 : Int32) (xs2 : Int32) (h : HH) : Prop := (vp_in xs0 12) ∧ ((vp_in xs2 12) ∧ (sX0_occupy_c22 a x1 x1 (hset h (a + 3) xs2.toNatClampNeg ((h (a + 3) xs0.toNatClampNeg) + 1))))
set_option maxRecDepth 100000 in
set_option maxHeartbeats 4000000 in
theorem xX0_occupy_c13 {p : Program} {l : Launch} {e : Env} {s : State} {m : MethodId} {args : Array Value} {below : List Frame} {meth : Method} {c : Code} {X : Cx} {a : Nat} (hO : IsGm X a) (C0 : CT p s m args meth c X cX0_occupy 2 none RX0) (x1 : Int32) (xs0 : Int32) (xs2 : Int32) (h : HH) (H : Heap) (locs : List Loc) (ls : Array Slot) (res : HH) (hl : lv_has ls 2 [(0, .ref a), (1, .int x1)]) (hW : WH X h H) (hS : va_S (xA X) s.heap H locs) (hs : sX0_occupy_c13 a x1 xs0 xs2 h) (hres : fX0_occupy_c13 a x1 xs0 xs2 h = res) : W p l e rmX0_occupy s m args below meth c H locs 0 0 (MQ below (QV X res) args s 0 0 (xA X)) (F0 m 13 ls [.int xs0, .ref (a + 3), .int xs2, .ref (a + 3)]) := by
  obtain ⟨hx, hb, hr, hlk, hml, hown, hts, hK⟩ := id C0
  obtain ⟨hi2, hs⟩ := hs
  refine kb_iald hx hb hK hW hO.2.2.2.1 (k := xs0.toNatClampNeg) rfl hi2 dX0_occupy_13 ?_
  refine lv_iconst (v := 1) hx hb dX0_occupy_14 (by decide) ?_
  refine lv_iadd hx hb dX0_occupy_15 ?_
  obtain ⟨hi3, hs⟩ := hs
  refine kb_iast hx hb hK hW hS hO.2.2.2.1 (k := xs2.toNatClampNeg) rfl hi3 dX0_occupy_16 (fun H locs hW hS => ?_)
  refine lv_aload_n hx hb dX0_occupy_17 rfl (lv_at hl 0 rfl) ?_
  refine g0_8 hx hb hts hown hK hW hO.1 (hts _ q1_100) dX0_occupy_18 ?_
  refine lv_iload_n hx hb dX0_occupy_21 rfl (lv_at hl 1 rfl) ?_
  exact xX0_occupy_c22 hO C0 x1 x1 (hset h (a + 3) xs2.toNatClampNeg ((h (a + 3) xs0.toNatClampNeg) + 1)) _ _ _ _ (lv_sub hl [0, 1] rfl) hW hS hs hres
def fX0_occupy_c0 (a : Nat) (x1 : Int32) (h : HH) : HH := fX0_occupy_c13 a x1 x1 x1 (hset h (a + 2) x1.toNatClampNeg 0)
def sX0_occupy_c0 (a : Nat) (x1 : Int32) (h : HH) : Prop := (vp_in x1 12) ∧ (sX0_occupy_c13 a x1 x1 x1 (hset h (a + 2) x1.toNatClampNeg 0))
set_option maxRecDepth 100000 in
set_option maxHeartbeats 4000000 in
theorem xX0_occupy_c0 {p : Program} {l : Launch} {e : Env} {s : State} {m : MethodId} {args : Array Value} {below : List Frame} {meth : Method} {c : Code} {X : Cx} {a : Nat} (hO : IsGm X a) (C0 : CT p s m args meth c X cX0_occupy 2 none RX0) (x1 : Int32) (h : HH) (H : Heap) (locs : List Loc) (ls : Array Slot) (res : HH) (hl : lv_has ls 2 [(0, .ref a), (1, .int x1)]) (hW : WH X h H) (hS : va_S (xA X) s.heap H locs) (hs : sX0_occupy_c0 a x1 h) (hres : fX0_occupy_c0 a x1 h = res) : W p l e rmX0_occupy s m args below meth c H locs 0 0 (MQ below (QV X res) args s 0 0 (xA X)) (F0 m 0 ls []) := by
  obtain ⟨hx, hb, hr, hlk, hml, hown, hts, hK⟩ := id C0
  refine lv_aload_n hx hb dX0_occupy_0 rfl (lv_at hl 0 rfl) ?_
  refine g0_6 hx hb hts hown hK hW hO.1 (hts _ q1_97) dX0_occupy_1 ?_
  refine lv_iload_n hx hb dX0_occupy_4 rfl (lv_at hl 1 rfl) ?_
  refine lv_iconst (v := 0) hx hb dX0_occupy_5 (by decide) ?_
  obtain ⟨hi1, hs⟩ := hs
  refine kb_iast hx hb hK hW hS hO.2.2.1 (k := x1.toNatClampNeg) rfl hi1 dX0_occupy_6 (fun H locs hW hS => ?_)
  refine lv_aload_n hx hb dX0_occupy_7 rfl (lv_at hl 0 rfl) ?_
  refine g0_7 hx hb hts hown hK hW hO.1 (hts _ q1_98) dX0_occupy_8 ?_
  refine lv_iload_n hx hb dX0_occupy_11 rfl (lv_at hl 1 rfl) ?_
  refine lv_dup2_11 hx hb dX0_occupy_12 rfl rfl ?_
  exact xX0_occupy_c13 hO C0 x1 x1 x1 (hset h (a + 2) x1.toNatClampNeg 0) _ _ _ _ (lv_sub hl [0, 1] rfl) hW hS hs hres
def fX0_occupy (a : Nat) (x1 : Int32) (h : HH) : HH := fX0_occupy_c0 a x1 h
def sX0_occupy (a : Nat) (x1 : Int32) (h : HH) : Prop := sX0_occupy_c0 a x1 h
set_option maxRecDepth 100000 in
set_option maxHeartbeats 4000000 in
theorem kX0_occupy (l : Launch) (X : Cx) (h : HH) (a : Nat) (x1 : Int32) (hO : IsGm X a) (hs : sX0_occupy a x1 h) : Met l yX0_occupy vX0_occupy rmX0_occupy (va_Pc [.ref a, .int x1] (fun U => WS X h U)) (QV X (fX0_occupy a x1 h)) 0 0 (xA X) := by
  refine Met.ofW (cc := cX0_occupy) (maxL := 2) (ret := none) (by decide) rfl ?_
  intro p e s m args below meth c s₁ B hml hv
  obtain ⟨rfl, hW, hK⟩ := hv
  have hl := lv_entry ([.ref a, .int x1]) (n := 2) (Nat.le_of_ble_eq_true rfl)
  rw [lg_entry_eq]
  generalize (lg_sl ([.ref a, .int x1]) ++ List.replicate (2 - (lg_sl ([.ref a, .int x1])).length) Slot.unset).toArray = ls at hl ⊢
  have hl : lv_has ls 2 [(0, .ref a), (1, .int x1)] := hl
  exact xX0_occupy_c0 hO ⟨B.exec, B.bytes, B.returns, B.notSynchronized, hml, findClass_of_methodNamed B.named, fun w hw => atoms_spec (ws := vX0_occupy) B.pre w (List.mem_cons_of_mem _ hw), hK⟩ x1 h _ _ ls _ (lv_sub hl [0, 1] rfl) hW va_S.rf hs rfl
-- VillageBoard$Game.makePlacement(II)V
abbrev rmX0_makePlacement : Room := ({ frames := 5, cells := 0, slots := 0, locals := 111 } : Room)
abbrev vX0_makePlacement : List Cond := Cond.code yX0_makePlacement cX0_makePlacement 3 none :: lwG
theorem wX0_makePlacement {R : Room} {s : State} {args : Array Value} {own : String} {idx : Nat} (hg : ∀ w ∈ lwG, w.before args s = true) (hl : Cond.methodLink own idx yX0_makePlacement ∈ lwG) (hR : rmX0_makePlacement.frames + 1 ≤ R.frames ∧ 8 + (3 + 11) + rmX0_makePlacement.locals ≤ R.locals) : CallW R s args own RX0 idx yX0_makePlacement cX0_makePlacement 3 none vX0_makePlacement rmX0_makePlacement 0 0 2 := cwV 2 hg (gV hl q3_108 q3_109 q1_2 q3_110) rfl rfl rfl (by decide +kernel) hR
def fX0_makePlacement_c38 (a : Nat) (h : HH) : HH := fX0_passTurn a h
def sX0_makePlacement_c38 (a : Nat) (h : HH) : Prop := sX0_passTurn a h
set_option maxRecDepth 100000 in
set_option maxHeartbeats 4000000 in
theorem xX0_makePlacement_c38 {p : Program} {l : Launch} {e : Env} {s : State} {m : MethodId} {args : Array Value} {below : List Frame} {meth : Method} {c : Code} {X : Cx} {a : Nat} (hO : IsGm X a) (C0 : CT p s m args meth c X cX0_makePlacement 3 none RX0) (h : HH) (H : Heap) (locs : List Loc) (ls : Array Slot) (res : HH) (hl : lv_has ls 3 []) (hW : WH X h H) (hS : va_S (xA X) s.heap H locs) (hs : sX0_makePlacement_c38 a h) (hres : fX0_makePlacement_c38 a h = res) : W p l e rmX0_makePlacement s m args below meth c H locs 0 0 (MQ below (QV X res) args s 0 0 (xA X)) (F0 m 38 ls [.ref a]) := by
  obtain ⟨hx, hb, hr, hlk, hml, hown, hts, hK⟩ := id C0
  have hc5 := hs
  refine kV_v (As := []) (rest := []) ⟨hx, hb, hml, hown, hts⟩ (kX0_passTurn l X h a hO hc5) (wX0_passTurn hts q3_120 ⟨Nat.le_of_ble_eq_true rfl, Nat.le_of_ble_eq_true rfl⟩) hK hW hS (va_recv hK.1 (hW.one hO.1) (ci := 0) (q0 := 0) rfl rfl) rfl hl.1 rfl (Nat.le_of_ble_eq_true rfl) dX0_makePlacement_38 ⟨Nat.zero_le _, Nat.zero_le _⟩ (fun H locs hW hS => ?_)
  subst hres
  exact kr_v hx hb hr hlk hK hW hS dX0_makePlacement_41
def fX0_makePlacement_c34 (a : Nat) (xs0 : Int32) (h : HH) : HH := fX0_makePlacement_c38 a (fX0_occupy a xs0 h)
def sX0_makePlacement_c34 (a : Nat) (xs0 : Int32) (h : HH) : Prop := (sX0_occupy a xs0 h) ∧ (sX0_makePlacement_c38 a (fX0_occupy a xs0 h))
set_option maxRecDepth 100000 in
set_option maxHeartbeats 4000000 in
theorem xX0_makePlacement_c34 {p : Program} {l : Launch} {e : Env} {s : State} {m : MethodId} {args : Array Value} {below : List Frame} {meth : Method} {c : Code} {X : Cx} {a : Nat} (hO : IsGm X a) (C0 : CT p s m args meth c X cX0_makePlacement 3 none RX0) (xs0 : Int32) (h : HH) (H : Heap) (locs : List Loc) (ls : Array Slot) (res : HH) (hl : lv_has ls 3 [(0, .ref a)]) (hW : WH X h H) (hS : va_S (xA X) s.heap H locs) (hs : sX0_makePlacement_c34 a xs0 h) (hres : fX0_makePlacement_c34 a xs0 h = res) : W p l e rmX0_makePlacement s m args below meth c H locs 0 0 (MQ below (QV X res) args s 0 0 (xA X)) (F0 m 34 ls [.int xs0, .ref a]) := by
  obtain ⟨hx, hb, hr, hlk, hml, hown, hts, hK⟩ := id C0
  obtain ⟨hc4, hs⟩ := hs
  refine kV_v (As := [.int xs0]) (rest := []) ⟨hx, hb, hml, hown, hts⟩ (kX0_occupy l X h a xs0 hO hc4) (wX0_occupy hts q3_116 ⟨Nat.le_of_ble_eq_true rfl, Nat.le_of_ble_eq_true rfl⟩) hK hW hS (va_recv hK.1 (hW.one hO.1) (ci := 0) (q0 := 0) rfl rfl) rfl hl.1 rfl (Nat.le_of_ble_eq_true rfl) dX0_makePlacement_34 ⟨Nat.zero_le _, Nat.zero_le _⟩ (fun H locs hW hS => ?_)
  refine lv_aload_n hx hb dX0_makePlacement_37 rfl (lv_at hl 0 rfl) ?_
  exact xX0_makePlacement_c38 hO C0 (fX0_occupy a xs0 h) _ _ _ _ (lv_sub hl [] rfl) hW hS hs hres
def fX0_makePlacement_c23 (a : Nat) (x1 : Int32) (x2 : Int32) (h : HH) : HH := fX0_makePlacement_c34 a x1 (fX0_carryOut a (a + 7 + 2 * ((h a 3).toNatClampNeg)) x1 x2 h)
def sX0_makePlacement_c23 (a : Nat) (x1 : Int32) (x2 : Int32) (h : HH) : Prop := (vp_in (h a 3) 4) ∧ ((sX0_carryOut a (a + 7 + 2 * ((h a 3).toNatClampNeg)) x1 x2 h) ∧ (sX0_makePlacement_c34 a x1 (fX0_carryOut a (a + 7 + 2 * ((h a 3).toNatClampNeg)) x1 x2 h)))
set_option maxRecDepth 100000 in
set_option maxHeartbeats 4000000 in
theorem xX0_makePlacement_c23 {p : Program} {l : Launch} {e : Env} {s : State} {m : MethodId} {args : Array Value} {below : List Frame} {meth : Method} {c : Code} {X : Cx} {a : Nat} (hO : IsGm X a) (C0 : CT p s m args meth c X cX0_makePlacement 3 none RX0) (x1 : Int32) (x2 : Int32) (h : HH) (H : Heap) (locs : List Loc) (ls : Array Slot) (res : HH) (hl : lv_has ls 3 [(0, .ref a), (1, .int x1), (2, .int x2)]) (hW : WH X h H) (hS : va_S (xA X) s.heap H locs) (hs : sX0_makePlacement_c23 a x1 x2 h) (hres : fX0_makePlacement_c23 a x1 x2 h = res) : W p l e rmX0_makePlacement s m args below meth c H locs 0 0 (MQ below (QV X res) args s 0 0 (xA X)) (F0 m 23 ls [.ref a, .ref (a + 1), .ref a]) := by
  obtain ⟨hx, hb, hr, hlk, hml, hown, hts, hK⟩ := id C0
  refine g0_3 hx hb hts hown hK hW hO.1 (hts _ q1_89) dX0_makePlacement_23 ?_
  obtain ⟨hi2, hs⟩ := hs
  refine kb_aald (j := 1) hx hb hK hW hO.2.1 rfl rfl (k := (h a 3).toNatClampNeg) rfl hi2 rfl dX0_makePlacement_26 ?_
  refine lv_iload_n hx hb dX0_makePlacement_27 rfl (lv_at hl 1 rfl) ?_
  refine lv_iload_n hx hb dX0_makePlacement_28 rfl (lv_at hl 2 rfl) ?_
  obtain ⟨hc3, hs⟩ := hs
  refine kV_v (As := [.ref (a + 7 + 2 * ((h a 3).toNatClampNeg)), .int x1, .int x2]) (rest := []) ⟨hx, hb, hml, hown, hts⟩ (kX0_carryOut l X h a (a + 7 + 2 * ((h a 3).toNatClampNeg)) x1 x2 hO (hO.2.2.2.2.2.2 ((h a 3).toNatClampNeg) (kin hi2)) hc3) (wX0_carryOut hts q3_115 ⟨Nat.le_of_ble_eq_true rfl, Nat.le_of_ble_eq_true rfl⟩) hK hW hS (va_recv hK.1 (hW.one hO.1) (ci := 0) (q0 := 0) rfl rfl) rfl hl.1 rfl (Nat.le_of_ble_eq_true rfl) dX0_makePlacement_29 ⟨Nat.zero_le _, Nat.zero_le _⟩ (fun H locs hW hS => ?_)
  refine lv_aload_n hx hb dX0_makePlacement_32 rfl (lv_at hl 0 rfl) ?_
  refine lv_iload_n hx hb dX0_makePlacement_33 rfl (lv_at hl 1 rfl) ?_
  exact xX0_makePlacement_c34 hO C0 x1 (fX0_carryOut a (a + 7 + 2 * ((h a 3).toNatClampNeg)) x1 x2 h) _ _ _ _ (lv_sub hl [0] rfl) hW hS hs hres
def fX0_makePlacement_c0 (a : Nat) (x1 : Int32) (x2 : Int32) (h : HH) : HH := fX0_makePlacement_c23 a x1 x2 (fX1_add (a + 5) (h a 2) (h a 3) x1 x2 h)
def sX0_makePlacement_c0 (a : Nat) (x1 : Int32) (x2 : Int32) (h : HH) : Prop := (sX1_add (a + 5) (h a 2) (h a 3) x1 x2 h) ∧ (sX0_makePlacement_c23 a x1 x2 (fX1_add (a + 5) (h a 2) (h a 3) x1 x2 h))
set_option maxRecDepth 100000 in
set_option maxHeartbeats 4000000 in
theorem xX0_makePlacement_c0 {p : Program} {l : Launch} {e : Env} {s : State} {m : MethodId} {args : Array Value} {below : List Frame} {meth : Method} {c : Code} {X : Cx} {a : Nat} (hO : IsGm X a) (C0 : CT p s m args meth c X cX0_makePlacement 3 none RX0) (x1 : Int32) (x2 : Int32) (h : HH) (H : Heap) (locs : List Loc) (ls : Array Slot) (res : HH) (hl : lv_has ls 3 [(0, .ref a), (1, .int x1), (2, .int x2)]) (hW : WH X h H) (hS : va_S (xA X) s.heap H locs) (hs : sX0_makePlacement_c0 a x1 x2 h) (hres : fX0_makePlacement_c0 a x1 x2 h = res) : W p l e rmX0_makePlacement s m args below meth c H locs 0 0 (MQ below (QV X res) args s 0 0 (xA X)) (F0 m 0 ls []) := by
  obtain ⟨hx, hb, hr, hlk, hml, hown, hts, hK⟩ := id C0
  refine lv_aload_n hx hb dX0_makePlacement_0 rfl (lv_at hl 0 rfl) ?_
  refine g0_9 hx hb hts hown hK hW hO.1 (hts _ q1_101) dX0_makePlacement_1 ?_
  refine lv_aload_n hx hb dX0_makePlacement_4 rfl (lv_at hl 0 rfl) ?_
  refine g0_2 hx hb hts hown hK hW hO.1 (hts _ q1_87) dX0_makePlacement_5 ?_
  refine lv_aload_n hx hb dX0_makePlacement_8 rfl (lv_at hl 0 rfl) ?_
  refine g0_3 hx hb hts hown hK hW hO.1 (hts _ q1_89) dX0_makePlacement_9 ?_
  refine lv_iload_n hx hb dX0_makePlacement_12 rfl (lv_at hl 1 rfl) ?_
  refine lv_iload_n hx hb dX0_makePlacement_13 rfl (lv_at hl 2 rfl) ?_
  obtain ⟨hc1, hs⟩ := hs
  refine kV_v (As := [.int (h a 2), .int (h a 3), .int x1, .int x2]) (rest := []) ⟨hx, hb, hml, hown, hts⟩ (kX1_add l X h (a + 5) (h a 2) (h a 3) x1 x2 hO.2.2.2.2.2.1 hc1) (wX1_add hts q3_111 ⟨Nat.le_of_ble_eq_true rfl, Nat.le_of_ble_eq_true rfl⟩) hK hW hS (va_recv hK.1 (hW.one hO.2.2.2.2.2.1.1) (ci := 1) (q0 := 0) rfl rfl) rfl hl.1 rfl (Nat.le_of_ble_eq_true rfl) dX0_makePlacement_14 ⟨Nat.zero_le _, Nat.zero_le _⟩ (fun H locs hW hS => ?_)
  refine lv_aload_n hx hb dX0_makePlacement_17 rfl (lv_at hl 0 rfl) ?_
  refine lv_aload_n hx hb dX0_makePlacement_18 rfl (lv_at hl 0 rfl) ?_
  refine g0_5 hx hb hts hown hK hW hO.1 (hts _ q1_94) dX0_makePlacement_19 ?_
  refine lv_aload_n hx hb dX0_makePlacement_22 rfl (lv_at hl 0 rfl) ?_
  exact xX0_makePlacement_c23 hO C0 x1 x2 (fX1_add (a + 5) (h a 2) (h a 3) x1 x2 h) _ _ _ _ (lv_sub hl [0, 1, 2] rfl) hW hS hs hres
def fX0_makePlacement (a : Nat) (x1 : Int32) (x2 : Int32) (h : HH) : HH := fX0_makePlacement_c0 a x1 x2 h
def sX0_makePlacement (a : Nat) (x1 : Int32) (x2 : Int32) (h : HH) : Prop := sX0_makePlacement_c0 a x1 x2 h
set_option maxRecDepth 100000 in
set_option maxHeartbeats 4000000 in
theorem kX0_makePlacement (l : Launch) (X : Cx) (h : HH) (a : Nat) (x1 : Int32) (x2 : Int32) (hO : IsGm X a) (hs : sX0_makePlacement a x1 x2 h) : Met l yX0_makePlacement vX0_makePlacement rmX0_makePlacement (va_Pc [.ref a, .int x1, .int x2] (fun U => WS X h U)) (QV X (fX0_makePlacement a x1 x2 h)) 0 0 (xA X) := by
  refine Met.ofW (cc := cX0_makePlacement) (maxL := 3) (ret := none) (by decide) rfl ?_
  intro p e s m args below meth c s₁ B hml hv
  obtain ⟨rfl, hW, hK⟩ := hv
  have hl := lv_entry ([.ref a, .int x1, .int x2]) (n := 3) (Nat.le_of_ble_eq_true rfl)
  rw [lg_entry_eq]
  generalize (lg_sl ([.ref a, .int x1, .int x2]) ++ List.replicate (3 - (lg_sl ([.ref a, .int x1, .int x2])).length) Slot.unset).toArray = ls at hl ⊢
  have hl : lv_has ls 3 [(0, .ref a), (1, .int x1), (2, .int x2)] := hl
  exact xX0_makePlacement_c0 hO ⟨B.exec, B.bytes, B.returns, B.notSynchronized, hml, findClass_of_methodNamed B.named, fun w hw => atoms_spec (ws := vX0_makePlacement) B.pre w (List.mem_cons_of_mem _ hw), hK⟩ x1 x2 h _ _ ls _ (lv_sub hl [0, 1, 2] rfl) hW va_S.rf hs rfl
-- VillageBoard$Game.makeSkip()V
abbrev rmX0_makeSkip : Room := ({ frames := 5, cells := 0, slots := 0, locals := 111 } : Room)
abbrev vX0_makeSkip : List Cond := Cond.code yX0_makeSkip cX0_makeSkip 1 none :: lwG
theorem wX0_makeSkip {R : Room} {s : State} {args : Array Value} {own : String} {idx : Nat} (hg : ∀ w ∈ lwG, w.before args s = true) (hl : Cond.methodLink own idx yX0_makeSkip ∈ lwG) (hR : rmX0_makeSkip.frames + 1 ≤ R.frames ∧ 8 + (1 + 11) + rmX0_makeSkip.locals ≤ R.locals) : CallW R s args own RX0 idx yX0_makeSkip cX0_makeSkip 1 none vX0_makeSkip rmX0_makeSkip 0 0 0 := cwV 0 hg (gV hl q3_139 q3_140 q1_2 q3_141) rfl rfl rfl (by decide +kernel) hR
def fX0_makeSkip_c31 (a : Nat) (h : HH) : HH := fX0_passTurn a h
def sX0_makeSkip_c31 (a : Nat) (h : HH) : Prop := sX0_passTurn a h
set_option maxRecDepth 100000 in
set_option maxHeartbeats 4000000 in
theorem xX0_makeSkip_c31 {p : Program} {l : Launch} {e : Env} {s : State} {m : MethodId} {args : Array Value} {below : List Frame} {meth : Method} {c : Code} {X : Cx} {a : Nat} (hO : IsGm X a) (C0 : CT p s m args meth c X cX0_makeSkip 1 none RX0) (h : HH) (H : Heap) (locs : List Loc) (ls : Array Slot) (res : HH) (hl : lv_has ls 1 []) (hW : WH X h H) (hS : va_S (xA X) s.heap H locs) (hs : sX0_makeSkip_c31 a h) (hres : fX0_makeSkip_c31 a h = res) : W p l e rmX0_makeSkip s m args below meth c H locs 0 0 (MQ below (QV X res) args s 0 0 (xA X)) (F0 m 31 ls [.ref a]) := by
  obtain ⟨hx, hb, hr, hlk, hml, hown, hts, hK⟩ := id C0
  have hc3 := hs
  refine kV_v (As := []) (rest := []) ⟨hx, hb, hml, hown, hts⟩ (kX0_passTurn l X h a hO hc3) (wX0_passTurn hts q3_120 ⟨Nat.le_of_ble_eq_true rfl, Nat.le_of_ble_eq_true rfl⟩) hK hW hS (va_recv hK.1 (hW.one hO.1) (ci := 0) (q0 := 0) rfl rfl) rfl hl.1 rfl (Nat.le_of_ble_eq_true rfl) dX0_makeSkip_31 ⟨Nat.zero_le _, Nat.zero_le _⟩ (fun H locs hW hS => ?_)
  subst hres
  exact kr_v hx hb hr hlk hK hW hS dX0_makeSkip_34
def fX0_makeSkip_c22 (a : Nat) (h : HH) : HH := fX0_makeSkip_c31 a (hset h (a + 7 + 2 * ((h a 3).toNatClampNeg)) 3 0)
def sX0_makeSkip_c22 (a : Nat) (h : HH) : Prop := (vp_in (h a 3) 4) ∧ (sX0_makeSkip_c31 a (hset h (a + 7 + 2 * ((h a 3).toNatClampNeg)) 3 0))
set_option maxRecDepth 100000 in
set_option maxHeartbeats 4000000 in
theorem xX0_makeSkip_c22 {p : Program} {l : Launch} {e : Env} {s : State} {m : MethodId} {args : Array Value} {below : List Frame} {meth : Method} {c : Code} {X : Cx} {a : Nat} (hO : IsGm X a) (C0 : CT p s m args meth c X cX0_makeSkip 1 none RX0) (h : HH) (H : Heap) (locs : List Loc) (ls : Array Slot) (res : HH) (hl : lv_has ls 1 [(0, .ref a)]) (hW : WH X h H) (hS : va_S (xA X) s.heap H locs) (hs : sX0_makeSkip_c22 a h) (hres : fX0_makeSkip_c22 a h = res) : W p l e rmX0_makeSkip s m args below meth c H locs 0 0 (MQ below (QV X res) args s 0 0 (xA X)) (F0 m 22 ls [.ref a, .ref (a + 1)]) := by
  obtain ⟨hx, hb, hr, hlk, hml, hown, hts, hK⟩ := id C0
  refine g0_3 hx hb hts hown hK hW hO.1 (hts _ q1_89) dX0_makeSkip_22 ?_
  obtain ⟨hi2, hs⟩ := hs
  refine kb_aald (j := 1) hx hb hK hW hO.2.1 rfl rfl (k := (h a 3).toNatClampNeg) rfl hi2 rfl dX0_makeSkip_25 ?_
  refine lv_iconst (v := 0) hx hb dX0_makeSkip_26 (by decide) ?_
  refine p2_3 hx hb hts hown hK hW hS (hO.2.2.2.2.2.2 ((h a 3).toNatClampNeg) (kin hi2)).1 (hts _ q1_62) dX0_makeSkip_27 (fun H locs hW hS => ?_)
  refine lv_aload_n hx hb dX0_makeSkip_30 rfl (lv_at hl 0 rfl) ?_
  exact xX0_makeSkip_c31 hO C0 (hset h (a + 7 + 2 * ((h a 3).toNatClampNeg)) 3 0) _ _ _ _ (lv_sub hl [] rfl) hW hS hs hres
def fX0_makeSkip_c0 (a : Nat) (h : HH) : HH := fX0_makeSkip_c22 a (fX1_add (a + 5) (h a 2) (h a 3) (-1) 0 h)
def sX0_makeSkip_c0 (a : Nat) (h : HH) : Prop := (sX1_add (a + 5) (h a 2) (h a 3) (-1) 0 h) ∧ (sX0_makeSkip_c22 a (fX1_add (a + 5) (h a 2) (h a 3) (-1) 0 h))
set_option maxRecDepth 100000 in
set_option maxHeartbeats 4000000 in
theorem xX0_makeSkip_c0 {p : Program} {l : Launch} {e : Env} {s : State} {m : MethodId} {args : Array Value} {below : List Frame} {meth : Method} {c : Code} {X : Cx} {a : Nat} (hO : IsGm X a) (C0 : CT p s m args meth c X cX0_makeSkip 1 none RX0) (h : HH) (H : Heap) (locs : List Loc) (ls : Array Slot) (res : HH) (hl : lv_has ls 1 [(0, .ref a)]) (hW : WH X h H) (hS : va_S (xA X) s.heap H locs) (hs : sX0_makeSkip_c0 a h) (hres : fX0_makeSkip_c0 a h = res) : W p l e rmX0_makeSkip s m args below meth c H locs 0 0 (MQ below (QV X res) args s 0 0 (xA X)) (F0 m 0 ls []) := by
  obtain ⟨hx, hb, hr, hlk, hml, hown, hts, hK⟩ := id C0
  refine lv_aload_n hx hb dX0_makeSkip_0 rfl (lv_at hl 0 rfl) ?_
  refine g0_9 hx hb hts hown hK hW hO.1 (hts _ q1_101) dX0_makeSkip_1 ?_
  refine lv_aload_n hx hb dX0_makeSkip_4 rfl (lv_at hl 0 rfl) ?_
  refine g0_2 hx hb hts hown hK hW hO.1 (hts _ q1_87) dX0_makeSkip_5 ?_
  refine lv_aload_n hx hb dX0_makeSkip_8 rfl (lv_at hl 0 rfl) ?_
  refine g0_3 hx hb hts hown hK hW hO.1 (hts _ q1_89) dX0_makeSkip_9 ?_
  refine lv_iconst (v := (-1)) hx hb dX0_makeSkip_12 (by decide) ?_
  refine lv_iconst (v := 0) hx hb dX0_makeSkip_13 (by decide) ?_
  obtain ⟨hc1, hs⟩ := hs
  refine kV_v (As := [.int (h a 2), .int (h a 3), .int (-1), .int 0]) (rest := []) ⟨hx, hb, hml, hown, hts⟩ (kX1_add l X h (a + 5) (h a 2) (h a 3) (-1) 0 hO.2.2.2.2.2.1 hc1) (wX1_add hts q3_111 ⟨Nat.le_of_ble_eq_true rfl, Nat.le_of_ble_eq_true rfl⟩) hK hW hS (va_recv hK.1 (hW.one hO.2.2.2.2.2.1.1) (ci := 1) (q0 := 0) rfl rfl) rfl hl.1 rfl (Nat.le_of_ble_eq_true rfl) dX0_makeSkip_14 ⟨Nat.zero_le _, Nat.zero_le _⟩ (fun H locs hW hS => ?_)
  refine lv_aload_n hx hb dX0_makeSkip_17 rfl (lv_at hl 0 rfl) ?_
  refine g0_5 hx hb hts hown hK hW hO.1 (hts _ q1_94) dX0_makeSkip_18 ?_
  refine lv_aload_n hx hb dX0_makeSkip_21 rfl (lv_at hl 0 rfl) ?_
  exact xX0_makeSkip_c22 hO C0 (fX1_add (a + 5) (h a 2) (h a 3) (-1) 0 h) _ _ _ _ (lv_sub hl [0] rfl) hW hS hs hres
def fX0_makeSkip (a : Nat) (h : HH) : HH := fX0_makeSkip_c0 a h
def sX0_makeSkip (a : Nat) (h : HH) : Prop := sX0_makeSkip_c0 a h
set_option maxRecDepth 100000 in
set_option maxHeartbeats 4000000 in
theorem kX0_makeSkip (l : Launch) (X : Cx) (h : HH) (a : Nat) (hO : IsGm X a) (hs : sX0_makeSkip a h) : Met l yX0_makeSkip vX0_makeSkip rmX0_makeSkip (va_Pc [.ref a] (fun U => WS X h U)) (QV X (fX0_makeSkip a h)) 0 0 (xA X) := by
  refine Met.ofW (cc := cX0_makeSkip) (maxL := 1) (ret := none) (by decide) rfl ?_
  intro p e s m args below meth c s₁ B hml hv
  obtain ⟨rfl, hW, hK⟩ := hv
  have hl := lv_entry ([.ref a]) (n := 1) (Nat.le_of_ble_eq_true rfl)
  rw [lg_entry_eq]
  generalize (lg_sl ([.ref a]) ++ List.replicate (1 - (lg_sl ([.ref a])).length) Slot.unset).toArray = ls at hl ⊢
  have hl : lv_has ls 1 [(0, .ref a)] := hl
  exact xX0_makeSkip_c0 hO ⟨B.exec, B.bytes, B.returns, B.notSynchronized, hml, findClass_of_methodNamed B.named, fun w hw => atoms_spec (ws := vX0_makeSkip) B.pre w (List.mem_cons_of_mem _ hw), hK⟩ h _ _ ls _ (lv_sub hl [0] rfl) hW va_S.rf hs rfl
-- VillageBoard$Game.spaceObstacle(I)I
abbrev rmX0_spaceObstacle : Room := ({ frames := 1, cells := 0, slots := 0, locals := 20 } : Room)
abbrev vX0_spaceObstacle : List Cond := Cond.code yX0_spaceObstacle cX0_spaceObstacle 2 (some .int) :: lwG
theorem wX0_spaceObstacle {R : Room} {s : State} {args : Array Value} {own : String} {idx : Nat} (hg : ∀ w ∈ lwG, w.before args s = true) (hl : Cond.methodLink own idx yX0_spaceObstacle ∈ lwG) (hR : rmX0_spaceObstacle.frames + 1 ≤ R.frames ∧ 8 + (2 + 11) + rmX0_spaceObstacle.locals ≤ R.locals) : CallW R s args own RX0 idx yX0_spaceObstacle cX0_spaceObstacle 2 (some .int) vX0_spaceObstacle rmX0_spaceObstacle 0 0 1 := cwV 1 hg (gV hl q2_9 q0_1 q1_2 q2_10) rfl rfl rfl (by decide +kernel) hR
def fX0_spaceObstacle_c0 (a : Nat) (x1 : Int32) (h : HH) : Int32 := if (bI (fX0_isOver a h)) = 0 then (if (h (a + 3) x1.toNatClampNeg) < (tPLACES x1.toNatClampNeg) then (if x1 = 7 then (if 2 ≤ (h a 2) then 0 else 3) else 0) else 2) else 1
def sX0_spaceObstacle_c0 (a : Nat) (x1 : Int32) (h : HH) : Prop := ((bI (fX0_isOver a h)) = 0 → ((vp_in x1 12) ∧ (vp_in x1 12))) ∧ (¬ ((bI (fX0_isOver a h)) = 0) → True)
set_option maxRecDepth 100000 in
set_option maxHeartbeats 4000000 in
theorem xX0_spaceObstacle_c0 {p : Program} {l : Launch} {e : Env} {s : State} {m : MethodId} {args : Array Value} {below : List Frame} {meth : Method} {c : Code} {X : Cx} {a : Nat} (hO : IsGm X a) (C0 : CT p s m args meth c X cX0_spaceObstacle 2 (some .int) RX0) (x1 : Int32) (h : HH) (H : Heap) (locs : List Loc) (ls : Array Slot) (res : Int32) (hl : lv_has ls 2 [(0, .ref a), (1, .int x1)]) (hW : WH X h H) (hS : va_S (xA X) s.heap H locs) (hs : sX0_spaceObstacle_c0 a x1 h) (hres : fX0_spaceObstacle_c0 a x1 h = res) : W p l e rmX0_spaceObstacle s m args below meth c H locs 0 0 (MQ below (QI X res h) args s 0 0 (xA X)) (F0 m 0 ls []) := by
  obtain ⟨hx, hb, hr, hlk, hml, hown, hts, hK⟩ := id C0
  refine lv_aload_n hx hb dX0_spaceObstacle_0 rfl (lv_at hl 0 rfl) ?_
  refine kV_i (As := []) (rest := []) ⟨hx, hb, hml, hown, hts⟩ (kX0_isOver l X h a hO) (wX0_isOver hts q2_11 ⟨Nat.le_of_ble_eq_true rfl, Nat.le_of_ble_eq_true rfl⟩) hK hW hS (va_recv hK.1 (hW.one hO.1) (ci := 0) (q0 := 0) rfl rfl) rfl hl.1 rfl (Nat.le_of_ble_eq_true rfl) dX0_spaceObstacle_1 ⟨Nat.zero_le _, Nat.zero_le _⟩ (fun H locs hW hS => ?_)
  refine lv_if_eq (tgt := 9) hx hb dX0_spaceObstacle_4 (by decide) (fun c1 => ?_) (fun c1 => ?_)
  · have hres := (if_pos c1).symm.trans hres
    have hs := And.left hs c1
    refine lv_aload_n hx hb dX0_spaceObstacle_9 rfl (lv_at hl 0 rfl) ?_
    refine g0_7 hx hb hts hown hK hW hO.1 (hts _ q1_98) dX0_spaceObstacle_10 ?_
    refine lv_iload_n hx hb dX0_spaceObstacle_13 rfl (lv_at hl 1 rfl) ?_
    obtain ⟨hi2, hs⟩ := hs
    refine kb_iald hx hb hK hW hO.2.2.2.1 (k := x1.toNatClampNeg) rfl hi2 dX0_spaceObstacle_14 ?_
    refine kb_gets hx hb hK.2.1.2.1 hS hown dX0_spaceObstacle_15 ?_
    refine lv_iload_n hx hb dX0_spaceObstacle_18 rfl (lv_at hl 1 rfl) ?_
    have hi3 := hs
    refine kb_tald hx hb hK.2.1.2.1 hS (k := x1.toNatClampNeg) rfl hi3 dX0_spaceObstacle_19 ?_
    refine lv_icmp_lt (tgt := 25) hx hb dX0_spaceObstacle_20 (by decide) (fun c4 => ?_) (fun c4 => ?_)
    · have hres := (if_pos c4).symm.trans hres
      refine lv_iload_n hx hb dX0_spaceObstacle_25 rfl (lv_at hl 1 rfl) ?_
      refine lv_bipush (v := 7) hx hb dX0_spaceObstacle_26 (by decide) ?_
      refine lv_icmp_ne (tgt := 43) hx hb dX0_spaceObstacle_28 (by decide) (fun c5 => ?_) (fun c5 => ?_)
      · have hres := (if_neg c5).symm.trans hres
        refine lv_iconst (v := 0) hx hb dX0_spaceObstacle_43 (by decide) ?_
        subst hres
        exact kr_i hx hb hr hlk hK hW hS dX0_spaceObstacle_44
      · have hres := (if_pos c5).symm.trans hres
        refine lv_aload_n hx hb dX0_spaceObstacle_31 rfl (lv_at hl 0 rfl) ?_
        refine g0_2 hx hb hts hown hK hW hO.1 (hts _ q1_87) dX0_spaceObstacle_32 ?_
        refine lv_iconst (v := 2) hx hb dX0_spaceObstacle_35 (by decide) ?_
        refine lv_icmp_ge (tgt := 43) hx hb dX0_spaceObstacle_36 (by decide) (fun c6 => ?_) (fun c6 => ?_)
        · have hres := (if_pos c6).symm.trans hres
          refine lv_iconst (v := 0) hx hb dX0_spaceObstacle_43 (by decide) ?_
          subst hres
          exact kr_i hx hb hr hlk hK hW hS dX0_spaceObstacle_44
        · have hres := (if_neg c6).symm.trans hres
          refine lv_iconst (v := 3) hx hb dX0_spaceObstacle_39 (by decide) ?_
          refine lv_goto (tgt := 44) hx hb dX0_spaceObstacle_40 (by decide) ?_
          subst hres
          exact kr_i hx hb hr hlk hK hW hS dX0_spaceObstacle_44
    · have hres := (if_neg c4).symm.trans hres
      refine lv_iconst (v := 2) hx hb dX0_spaceObstacle_23 (by decide) ?_
      subst hres
      exact kr_i hx hb hr hlk hK hW hS dX0_spaceObstacle_24
  · have hres := (if_neg c1).symm.trans hres
    have hs := And.right hs c1
    refine lv_iconst (v := 1) hx hb dX0_spaceObstacle_7 (by decide) ?_
    subst hres
    exact kr_i hx hb hr hlk hK hW hS dX0_spaceObstacle_8
def fX0_spaceObstacle (a : Nat) (x1 : Int32) (h : HH) : Int32 := fX0_spaceObstacle_c0 a x1 h
def sX0_spaceObstacle (a : Nat) (x1 : Int32) (h : HH) : Prop := sX0_spaceObstacle_c0 a x1 h
set_option maxRecDepth 100000 in
set_option maxHeartbeats 4000000 in
theorem kX0_spaceObstacle (l : Launch) (X : Cx) (h : HH) (a : Nat) (x1 : Int32) (hO : IsGm X a) (hs : sX0_spaceObstacle a x1 h) : Met l yX0_spaceObstacle vX0_spaceObstacle rmX0_spaceObstacle (va_Pc [.ref a, .int x1] (fun U => WS X h U)) (QI X (fX0_spaceObstacle a x1 h) h) 0 0 (xA X) := by
  refine Met.ofW (cc := cX0_spaceObstacle) (maxL := 2) (ret := some .int) (by decide) rfl ?_
  intro p e s m args below meth c s₁ B hml hv
  obtain ⟨rfl, hW, hK⟩ := hv
  have hl := lv_entry ([.ref a, .int x1]) (n := 2) (Nat.le_of_ble_eq_true rfl)
  rw [lg_entry_eq]
  generalize (lg_sl ([.ref a, .int x1]) ++ List.replicate (2 - (lg_sl ([.ref a, .int x1])).length) Slot.unset).toArray = ls at hl ⊢
  have hl : lv_has ls 2 [(0, .ref a), (1, .int x1)] := hl
  exact xX0_spaceObstacle_c0 hO ⟨B.exec, B.bytes, B.returns, B.notSynchronized, hml, findClass_of_methodNamed B.named, fun w hw => atoms_spec (ws := vX0_spaceObstacle) B.pre w (List.mem_cons_of_mem _ hw), hK⟩ x1 h _ _ ls _ (lv_sub hl [0, 1] rfl) hW va_S.rf hs rfl
-- VillageBoard$Game.isChoice(II)Z
abbrev rmX0_isChoice : Room := ({ frames := 0, cells := 0, slots := 0, locals := 0 } : Room)
abbrev vX0_isChoice : List Cond := Cond.code yX0_isChoice cX0_isChoice 3 (some .boolean) :: lwG
theorem wX0_isChoice {R : Room} {s : State} {args : Array Value} {idx : Nat} (hg : ∀ w ∈ lwG, w.before args s = true) (hl : Cond.methodLink RX0 idx yX0_isChoice ∈ lwG) (hR : rmX0_isChoice.frames + 1 ≤ R.frames ∧ 8 + (3 + 11) + rmX0_isChoice.locals ≤ R.locals) : CallB R s args RX0 idx yX0_isChoice cX0_isChoice 3 (some .boolean) vX0_isChoice rmX0_isChoice 0 0 2 ∧ (Cond.static yX0_isChoice).before args s = true := cwS 2 hg (gS hl q2_22 q1_2 q2_23) rfl rfl rfl (by decide +kernel) hR
def fX0_isChoice_c43 : Bool := true
set_option maxRecDepth 100000 in
set_option maxHeartbeats 4000000 in
theorem xX0_isChoice_c43 {p : Program} {l : Launch} {e : Env} {s : State} {m : MethodId} {args : Array Value} {below : List Frame} {meth : Method} {c : Code} {X : Cx} (C0 : CT p s m args meth c X cX0_isChoice 3 (some .boolean) RX0) (h : HH) (H : Heap) (locs : List Loc) (ls : Array Slot) (res : Bool) (hl : lv_has ls 3 []) (hW : WH X h H) (hS : va_S (xA X) s.heap H locs) (hres : fX0_isChoice_c43 = res) : W p l e rmX0_isChoice s m args below meth c H locs 0 0 (MQ below (QI X (bI res) h) args s 0 0 (xA X)) (F0 m 43 ls []) := by
  obtain ⟨hx, hb, hr, hlk, hml, hown, hts, hK⟩ := id C0
  refine lv_iconst (v := 1) hx hb dX0_isChoice_43 (by decide) ?_
  refine lv_goto (tgt := 48) hx hb dX0_isChoice_44 (by decide) ?_
  subst hres
  exact kr_z (v := true) hx hb hr hlk hK hW hS dX0_isChoice_48
def fX0_isChoice_c23 (x0 : Int32) (x1 : Int32) (xs0 : Int32) : Bool := if xs0 = 0 then false else (if x0 = 11 then (if (x1 / 5) = (jrem x1 5) then false else fX0_isChoice_c43) else fX0_isChoice_c43)
set_option maxRecDepth 100000 in
set_option maxHeartbeats 4000000 in
theorem xX0_isChoice_c23 {p : Program} {l : Launch} {e : Env} {s : State} {m : MethodId} {args : Array Value} {below : List Frame} {meth : Method} {c : Code} {X : Cx} (C0 : CT p s m args meth c X cX0_isChoice 3 (some .boolean) RX0) (x0 : Int32) (x1 : Int32) (xs0 : Int32) (h : HH) (H : Heap) (locs : List Loc) (ls : Array Slot) (res : Bool) (hl : lv_has ls 3 [(0, .int x0), (1, .int x1)]) (hW : WH X h H) (hS : va_S (xA X) s.heap H locs) (hres : fX0_isChoice_c23 x0 x1 xs0 = res) : W p l e rmX0_isChoice s m args below meth c H locs 0 0 (MQ below (QI X (bI res) h) args s 0 0 (xA X)) (F0 m 23 ls [.int xs0]) := by
  obtain ⟨hx, hb, hr, hlk, hml, hown, hts, hK⟩ := id C0
  refine lv_istore_n (lv' := [(2, .int xs0), (0, .int x0), (1, .int x1)]) hx hb dX0_isChoice_23 rfl hl (by decide) rfl (fun ls hl => ?_)
  refine lv_iload_n hx hb dX0_isChoice_24 rfl (lv_at hl 0 rfl) ?_
  refine lv_if_eq (tgt := 47) hx hb dX0_isChoice_25 (by decide) (fun c3 => ?_) (fun c3 => ?_)
  · have hres := (if_pos c3).symm.trans hres
    refine lv_iconst (v := 0) hx hb dX0_isChoice_47 (by decide) ?_
    subst hres
    exact kr_z (v := false) hx hb hr hlk hK hW hS dX0_isChoice_48
  · have hres := (if_neg c3).symm.trans hres
    refine lv_iload_n hx hb dX0_isChoice_28 rfl (lv_at hl 1 rfl) ?_
    refine lv_bipush (v := 11) hx hb dX0_isChoice_29 (by decide) ?_
    refine lv_icmp_ne (tgt := 43) hx hb dX0_isChoice_31 (by decide) (fun c4 => ?_) (fun c4 => ?_)
    · have hres := (if_neg c4).symm.trans hres
      exact xX0_isChoice_c43 C0 h _ _ _ _ (lv_sub hl [] rfl) hW hS hres
    · have hres := (if_pos c4).symm.trans hres
      refine lv_iload_n hx hb dX0_isChoice_34 rfl (lv_at hl 2 rfl) ?_
      refine lv_iconst (v := 5) hx hb dX0_isChoice_35 (by decide) ?_
      refine lv_idiv hx hb dX0_isChoice_36 (by decide) ?_
      refine lv_iload_n hx hb dX0_isChoice_37 rfl (lv_at hl 2 rfl) ?_
      refine lv_iconst (v := 5) hx hb dX0_isChoice_38 (by decide) ?_
      refine kb_irem hx hb dX0_isChoice_39 (by decide) ?_
      refine lv_icmp_eq (tgt := 47) hx hb dX0_isChoice_40 (by decide) (fun c5 => ?_) (fun c5 => ?_)
      · have hres := (if_pos c5).symm.trans hres
        refine lv_iconst (v := 0) hx hb dX0_isChoice_47 (by decide) ?_
        subst hres
        exact kr_z (v := false) hx hb hr hlk hK hW hS dX0_isChoice_48
      · have hres := (if_neg c5).symm.trans hres
        exact xX0_isChoice_c43 C0 h _ _ _ _ (lv_sub hl [] rfl) hW hS hres
def fX0_isChoice_c22 (x0 : Int32) (x1 : Int32) : Bool := fX0_isChoice_c23 x0 x1 0
set_option maxRecDepth 100000 in
set_option maxHeartbeats 4000000 in
theorem xX0_isChoice_c22 {p : Program} {l : Launch} {e : Env} {s : State} {m : MethodId} {args : Array Value} {below : List Frame} {meth : Method} {c : Code} {X : Cx} (C0 : CT p s m args meth c X cX0_isChoice 3 (some .boolean) RX0) (x0 : Int32) (x1 : Int32) (h : HH) (H : Heap) (locs : List Loc) (ls : Array Slot) (res : Bool) (hl : lv_has ls 3 [(0, .int x0), (1, .int x1)]) (hW : WH X h H) (hS : va_S (xA X) s.heap H locs) (hres : fX0_isChoice_c22 x0 x1 = res) : W p l e rmX0_isChoice s m args below meth c H locs 0 0 (MQ below (QI X (bI res) h) args s 0 0 (xA X)) (F0 m 22 ls []) := by
  obtain ⟨hx, hb, hr, hlk, hml, hown, hts, hK⟩ := id C0
  refine lv_iconst (v := 0) hx hb dX0_isChoice_22 (by decide) ?_
  exact xX0_isChoice_c23 C0 x0 x1 0 h _ _ _ _ (lv_sub hl [0, 1] rfl) hW hS hres
def fX0_isChoice_c0 (x0 : Int32) (x1 : Int32) : Bool := if x1 < (tFIRST_CHOICE x0.toNatClampNeg) then (fX0_isChoice_c22 x0 x1) else (if (tLAST_CHOICE x0.toNatClampNeg) < x1 then (fX0_isChoice_c22 x0 x1) else (fX0_isChoice_c23 x0 x1 1))
def sX0_isChoice_c0 (x0 : Int32) (x1 : Int32) : Prop := (vp_in x0 12) ∧ ((x1 < (tFIRST_CHOICE x0.toNatClampNeg) → True) ∧ (¬ (x1 < (tFIRST_CHOICE x0.toNatClampNeg)) → (vp_in x0 12)))
set_option maxRecDepth 100000 in
set_option maxHeartbeats 4000000 in
theorem xX0_isChoice_c0 {p : Program} {l : Launch} {e : Env} {s : State} {m : MethodId} {args : Array Value} {below : List Frame} {meth : Method} {c : Code} {X : Cx} (C0 : CT p s m args meth c X cX0_isChoice 3 (some .boolean) RX0) (x0 : Int32) (x1 : Int32) (h : HH) (H : Heap) (locs : List Loc) (ls : Array Slot) (res : Bool) (hl : lv_has ls 3 [(0, .int x0), (1, .int x1)]) (hW : WH X h H) (hS : va_S (xA X) s.heap H locs) (hs : sX0_isChoice_c0 x0 x1) (hres : fX0_isChoice_c0 x0 x1 = res) : W p l e rmX0_isChoice s m args below meth c H locs 0 0 (MQ below (QI X (bI res) h) args s 0 0 (xA X)) (F0 m 0 ls []) := by
  obtain ⟨hx, hb, hr, hlk, hml, hown, hts, hK⟩ := id C0
  refine lv_iload_n hx hb dX0_isChoice_0 rfl (lv_at hl 1 rfl) ?_
  refine kb_gets hx hb hK.2.1.2.2.1 hS hown dX0_isChoice_1 ?_
  refine lv_iload_n hx hb dX0_isChoice_4 rfl (lv_at hl 0 rfl) ?_
  obtain ⟨hi1, hs⟩ := hs
  refine kb_tald hx hb hK.2.1.2.2.1 hS (k := x0.toNatClampNeg) rfl hi1 dX0_isChoice_5 ?_
  refine lv_icmp_lt (tgt := 22) hx hb dX0_isChoice_6 (by decide) (fun c2 => ?_) (fun c2 => ?_)
  · have hres := (if_pos c2).symm.trans hres
    have hs := And.left hs c2
    exact xX0_isChoice_c22 C0 x0 x1 h _ _ _ _ (lv_sub hl [0, 1] rfl) hW hS hres
  · have hres := (if_neg c2).symm.trans hres
    have hs := And.right hs c2
    refine lv_iload_n hx hb dX0_isChoice_9 rfl (lv_at hl 1 rfl) ?_
    refine kb_gets hx hb hK.2.1.2.2.2.1 hS hown dX0_isChoice_10 ?_
    refine lv_iload_n hx hb dX0_isChoice_13 rfl (lv_at hl 0 rfl) ?_
    have hi6 := hs
    refine kb_tald hx hb hK.2.1.2.2.2.1 hS (k := x0.toNatClampNeg) rfl hi6 dX0_isChoice_14 ?_
    refine lv_icmp_gt (tgt := 22) hx hb dX0_isChoice_15 (by decide) (fun c7 => ?_) (fun c7 => ?_)
    · have hres := (if_pos c7).symm.trans hres
      exact xX0_isChoice_c22 C0 x0 x1 h _ _ _ _ (lv_sub hl [0, 1] rfl) hW hS hres
    · have hres := (if_neg c7).symm.trans hres
      refine lv_iconst (v := 1) hx hb dX0_isChoice_18 (by decide) ?_
      refine lv_goto (tgt := 23) hx hb dX0_isChoice_19 (by decide) ?_
      exact xX0_isChoice_c23 C0 x0 x1 1 h _ _ _ _ (lv_sub hl [0, 1] rfl) hW hS hres
def fX0_isChoice (x0 : Int32) (x1 : Int32) : Bool := fX0_isChoice_c0 x0 x1
def sX0_isChoice (x0 : Int32) (x1 : Int32) : Prop := sX0_isChoice_c0 x0 x1
set_option maxRecDepth 100000 in
set_option maxHeartbeats 4000000 in
theorem kX0_isChoice (l : Launch) (X : Cx) (h : HH) (x0 : Int32) (x1 : Int32) (hs : sX0_isChoice x0 x1) : Met l yX0_isChoice vX0_isChoice rmX0_isChoice (va_Pc [.int x0, .int x1] (fun U => WS X h U)) (QI X (bI (fX0_isChoice x0 x1)) h) 0 0 (xA X) := by
  refine Met.ofW (cc := cX0_isChoice) (maxL := 3) (ret := some .boolean) (by decide) rfl ?_
  intro p e s m args below meth c s₁ B hml hv
  obtain ⟨rfl, hW, hK⟩ := hv
  have hl := lv_entry ([.int x0, .int x1]) (n := 3) (Nat.le_of_ble_eq_true rfl)
  rw [lg_entry_eq]
  generalize (lg_sl ([.int x0, .int x1]) ++ List.replicate (3 - (lg_sl ([.int x0, .int x1])).length) Slot.unset).toArray = ls at hl ⊢
  have hl : lv_has ls 3 [(0, .int x0), (1, .int x1)] := hl
  exact xX0_isChoice_c0 ⟨B.exec, B.bytes, B.returns, B.notSynchronized, hml, findClass_of_methodNamed B.named, fun w hw => atoms_spec (ws := vX0_isChoice) B.pre w (List.mem_cons_of_mem _ hw), hK⟩ x0 x1 h _ _ ls _ (lv_sub hl [0, 1] rfl) hW va_S.rf hs rfl
-- VillageBoard$Game.ownerOf(I)I
abbrev rmX0_ownerOf : Room := ({ frames := 1, cells := 0, slots := 0, locals := 21 } : Room)
abbrev vX0_ownerOf : List Cond := Cond.code yX0_ownerOf cX0_ownerOf 3 (some .int) :: lwG
theorem wX0_ownerOf {R : Room} {s : State} {args : Array Value} {own : String} {idx : Nat} (hg : ∀ w ∈ lwG, w.before args s = true) (hl : Cond.methodLink own idx yX0_ownerOf ∈ lwG) (hR : rmX0_ownerOf.frames + 1 ≤ R.frames ∧ 8 + (3 + 11) + rmX0_ownerOf.locals ≤ R.locals) : CallW R s args own RX0 idx yX0_ownerOf cX0_ownerOf 3 (some .int) vX0_ownerOf rmX0_ownerOf 0 0 1 := cwV 1 hg (gV hl q2_48 q2_49 q1_2 q2_50) rfl rfl rfl (by decide +kernel) hR
def fX0_ownerOf_c2 (a : Nat) : Nat → Int32 → Int32 → HH → Int32
  | 0, x1, x2, h => 0
  | n + 1, x1, x2, h => if (h a 0) ≤ x2 then (-1) else (if (bI (fX2_has (a + 7 + 2 * x2.toNatClampNeg) x1 h)) = 0 then ((fX0_ownerOf_c2 a n) x1 (x2 + 1) h) else x2)
def sX0_ownerOf_c2 (a : Nat) : Nat → Int32 → Int32 → HH → Prop
  | 0, _, _, _ => False
  | n + 1, x1, x2, h => ((h a 0) ≤ x2 → True) ∧ (¬ ((h a 0) ≤ x2) → ((vp_in x2 4) ∧ (((bI (fX2_has (a + 7 + 2 * x2.toNatClampNeg) x1 h)) = 0 → ((sX0_ownerOf_c2 a n) x1 (x2 + 1) h)) ∧ (¬ ((bI (fX2_has (a + 7 + 2 * x2.toNatClampNeg) x1 h)) = 0) → True))))
set_option maxRecDepth 100000 in
set_option maxHeartbeats 4000000 in
theorem xX0_ownerOf_c2 {p : Program} {l : Launch} {e : Env} {s : State} {m : MethodId} {args : Array Value} {below : List Frame} {meth : Method} {c : Code} {X : Cx} {a : Nat} (hO : IsGm X a) (C0 : CT p s m args meth c X cX0_ownerOf 3 (some .int) RX0) : ∀ (n : Nat) (x1 : Int32) (x2 : Int32) (h : HH) (H : Heap) (locs : List Loc) (ls : Array Slot) (res : Int32) (hl : lv_has ls 3 [(0, .ref a), (1, .int x1), (2, .int x2)]) (hW : WH X h H) (hS : va_S (xA X) s.heap H locs) (hs : sX0_ownerOf_c2 a n x1 x2 h) (hres : fX0_ownerOf_c2 a n x1 x2 h = res), W p l e rmX0_ownerOf s m args below meth c H locs 0 0 (MQ below (QI X res h) args s 0 0 (xA X)) (F0 m 2 ls []) := by
  obtain ⟨hx, hb, hr, hlk, hml, hown, hts, hK⟩ := id C0
  intro n
  induction n with
  | zero =>
    intro _ _ _ _ _ _ _ _ _ _ hs _
    exact hs.elim
  | succ n ih =>
    intro x1 x2 h H locs ls res hl hW hS hs hres
    refine lv_iload_n hx hb dX0_ownerOf_2 rfl (lv_at hl 2 rfl) ?_
    refine lv_aload_n hx hb dX0_ownerOf_3 rfl (lv_at hl 0 rfl) ?_
    refine g0_0 hx hb hts hown hK hW hO.1 (hts _ q1_83) dX0_ownerOf_4 ?_
    refine lv_icmp_ge (tgt := 31) hx hb dX0_ownerOf_7 (by decide) (fun c1 => ?_) (fun c1 => ?_)
    · have hres := (if_pos c1).symm.trans hres
      have hs := And.left hs c1
      refine lv_iconst (v := (-1)) hx hb dX0_ownerOf_31 (by decide) ?_
      subst hres
      exact kr_i hx hb hr hlk hK hW hS dX0_ownerOf_32
    · have hres := (if_neg c1).symm.trans hres
      have hs := And.right hs c1
      refine lv_aload_n hx hb dX0_ownerOf_10 rfl (lv_at hl 0 rfl) ?_
      refine g0_5 hx hb hts hown hK hW hO.1 (hts _ q1_94) dX0_ownerOf_11 ?_
      refine lv_iload_n hx hb dX0_ownerOf_14 rfl (lv_at hl 2 rfl) ?_
      obtain ⟨hi2, hs⟩ := hs
      refine kb_aald (j := 1) hx hb hK hW hO.2.1 rfl rfl (k := x2.toNatClampNeg) rfl hi2 rfl dX0_ownerOf_15 ?_
      refine lv_iload_n hx hb dX0_ownerOf_16 rfl (lv_at hl 1 rfl) ?_
      refine kV_i (As := [.int x1]) (rest := []) ⟨hx, hb, hml, hown, hts⟩ (kX2_has l X h (a + 7 + 2 * x2.toNatClampNeg) x1 (hO.2.2.2.2.2.2 x2.toNatClampNeg (kin hi2))) (wX2_has hts q2_51 ⟨Nat.le_of_ble_eq_true rfl, Nat.le_of_ble_eq_true rfl⟩) hK hW hS (va_recv hK.1 (hW.one (hO.2.2.2.2.2.2 x2.toNatClampNeg (kin hi2)).1) (ci := 2) (q0 := 0) rfl rfl) rfl hl.1 rfl (Nat.le_of_ble_eq_true rfl) dX0_ownerOf_17 ⟨Nat.zero_le _, Nat.zero_le _⟩ (fun H locs hW hS => ?_)
      refine lv_if_eq (tgt := 25) hx hb dX0_ownerOf_20 (by decide) (fun c3 => ?_) (fun c3 => ?_)
      · have hres := (if_pos c3).symm.trans hres
        have hs := And.left hs c3
        refine lv_iinc (v := x2 + 1) (lv' := [(2, .int (x2 + 1)), (0, .ref a), (1, .int x1)]) hx hb dX0_ownerOf_25 hl (k := 2) rfl rfl (by decide) rfl (fun ls hl => ?_)
        refine lv_goto (tgt := 2) hx hb dX0_ownerOf_28 (by decide) ?_
        exact ih x1 (x2 + 1) h _ _ _ _ (lv_sub hl [1, 2, 0] rfl) hW hS hs hres
      · have hres := (if_neg c3).symm.trans hres
        have hs := And.right hs c3
        refine lv_iload_n hx hb dX0_ownerOf_23 rfl (lv_at hl 2 rfl) ?_
        subst hres
        exact kr_i hx hb hr hlk hK hW hS dX0_ownerOf_24
def fX0_ownerOf_c0 (a : Nat) (x1 : Int32) (h : HH) : Int32 := fX0_ownerOf_c2 a 5 x1 0 h
def sX0_ownerOf_c0 (a : Nat) (x1 : Int32) (h : HH) : Prop := sX0_ownerOf_c2 a 5 x1 0 h
set_option maxRecDepth 100000 in
set_option maxHeartbeats 4000000 in
theorem xX0_ownerOf_c0 {p : Program} {l : Launch} {e : Env} {s : State} {m : MethodId} {args : Array Value} {below : List Frame} {meth : Method} {c : Code} {X : Cx} {a : Nat} (hO : IsGm X a) (C0 : CT p s m args meth c X cX0_ownerOf 3 (some .int) RX0) (x1 : Int32) (h : HH) (H : Heap) (locs : List Loc) (ls : Array Slot) (res : Int32) (hl : lv_has ls 3 [(0, .ref a), (1, .int x1)]) (hW : WH X h H) (hS : va_S (xA X) s.heap H locs) (hs : sX0_ownerOf_c0 a x1 h) (hres : fX0_ownerOf_c0 a x1 h = res) : W p l e rmX0_ownerOf s m args below meth c H locs 0 0 (MQ below (QI X res h) args s 0 0 (xA X)) (F0 m 0 ls []) := by
  obtain ⟨hx, hb, hr, hlk, hml, hown, hts, hK⟩ := id C0
  refine lv_iconst (v := 0) hx hb dX0_ownerOf_0 (by decide) ?_
  refine lv_istore_n (lv' := [(2, .int 0), (0, .ref a), (1, .int x1)]) hx hb dX0_ownerOf_1 rfl hl (by decide) rfl (fun ls hl => ?_)
  exact xX0_ownerOf_c2 hO C0 5 x1 0 h _ _ _ _ (lv_sub hl [1, 2, 0] rfl) hW hS hs hres
def fX0_ownerOf (a : Nat) (x1 : Int32) (h : HH) : Int32 := fX0_ownerOf_c0 a x1 h
def sX0_ownerOf (a : Nat) (x1 : Int32) (h : HH) : Prop := sX0_ownerOf_c0 a x1 h
set_option maxRecDepth 100000 in
set_option maxHeartbeats 4000000 in
theorem kX0_ownerOf (l : Launch) (X : Cx) (h : HH) (a : Nat) (x1 : Int32) (hO : IsGm X a) (hs : sX0_ownerOf a x1 h) : Met l yX0_ownerOf vX0_ownerOf rmX0_ownerOf (va_Pc [.ref a, .int x1] (fun U => WS X h U)) (QI X (fX0_ownerOf a x1 h) h) 0 0 (xA X) := by
  refine Met.ofW (cc := cX0_ownerOf) (maxL := 3) (ret := some .int) (by decide) rfl ?_
  intro p e s m args below meth c s₁ B hml hv
  obtain ⟨rfl, hW, hK⟩ := hv
  have hl := lv_entry ([.ref a, .int x1]) (n := 3) (Nat.le_of_ble_eq_true rfl)
  rw [lg_entry_eq]
  generalize (lg_sl ([.ref a, .int x1]) ++ List.replicate (3 - (lg_sl ([.ref a, .int x1])).length) Slot.unset).toArray = ls at hl ⊢
  have hl : lv_has ls 3 [(0, .ref a), (1, .int x1)] := hl
  exact xX0_ownerOf_c0 hO ⟨B.exec, B.bytes, B.returns, B.notSynchronized, hml, findClass_of_methodNamed B.named, fun w hw => atoms_spec (ws := vX0_ownerOf) B.pre w (List.mem_cons_of_mem _ hw), hK⟩ x1 h _ _ ls _ (lv_sub hl [0, 1] rfl) hW va_S.rf hs rfl
-- VillageBoard$Game.isAllowed(LVillageBoard$Player;II)Z
abbrev rmX0_isAllowed : Room := ({ frames := 3, cells := 0, slots := 0, locals := 68 } : Room)
abbrev vX0_isAllowed : List Cond := Cond.code yX0_isAllowed cX0_isAllowed 4 (some .boolean) :: lwG
theorem wX0_isAllowed {R : Room} {s : State} {args : Array Value} {own : String} {idx : Nat} (hg : ∀ w ∈ lwG, w.before args s = true) (hl : Cond.methodLink own idx yX0_isAllowed ∈ lwG) (hR : rmX0_isAllowed.frames + 1 ≤ R.frames ∧ 8 + (4 + 11) + rmX0_isAllowed.locals ≤ R.locals) : CallW R s args own RX0 idx yX0_isAllowed cX0_isAllowed 4 (some .boolean) vX0_isAllowed rmX0_isAllowed 0 0 3 := cwV 3 hg (gV hl q2_26 q0_2 q1_2 q2_27) rfl rfl rfl (by decide +kernel) hR
def fX0_isAllowed_c0 (a : Nat) (r1 : Nat) (x2 : Int32) (x3 : Int32) (h : HH) : Bool := if x2 = 6 then (if 5 ≤ (h r1 4) then false else (if (bI (fX2_canAfford r1 (-1) h)) = 0 then false else true)) else (if x2 = 7 then (fX2_canGrow r1 h) else (if x2 = 8 then (if (h (r1 + 1) 2) < x3 then false else true) else (if x2 = 9 then (if (fX0_ownerOf a x3 h) = (-1) then (if (bI (fX2_canAfford r1 x3 h)) = 0 then false else true) else false) else (if x2 = 10 then true else (if x2 = 11 then (if (h (r1 + 1) ((x3 / 5).toNatClampNeg)) < 2 then false else true) else true)))))
def sX0_isAllowed_c0 (a : Nat) (r1 : Nat) (x2 : Int32) (x3 : Int32) (h : HH) : Prop := (x2 = 6 → ((5 ≤ (h r1 4) → True) ∧ (¬ (5 ≤ (h r1 4)) → (sX2_canAfford r1 (-1) h)))) ∧ (¬ (x2 = 6) → ((x2 = 7 → True) ∧ (¬ (x2 = 7) → ((x2 = 8 → True) ∧ (¬ (x2 = 8) → ((x2 = 9 → ((sX0_ownerOf a x3 h) ∧ (((fX0_ownerOf a x3 h) = (-1) → (sX2_canAfford r1 x3 h)) ∧ (¬ ((fX0_ownerOf a x3 h) = (-1)) → True)))) ∧ (¬ (x2 = 9) → ((x2 = 10 → True) ∧ (¬ (x2 = 10) → ((x2 = 11 → (vp_in (x3 / 5) 5)) ∧ (¬ (x2 = 11) → True)))))))))))
set_option maxRecDepth 100000 in
set_option maxHeartbeats 4000000 in
theorem xX0_isAllowed_c0 {p : Program} {l : Launch} {e : Env} {s : State} {m : MethodId} {args : Array Value} {below : List Frame} {meth : Method} {c : Code} {X : Cx} {a : Nat} {r1 : Nat} (hO : IsGm X a) (hr1 : IsPl X r1) (C0 : CT p s m args meth c X cX0_isAllowed 4 (some .boolean) RX0) (x2 : Int32) (x3 : Int32) (h : HH) (H : Heap) (locs : List Loc) (ls : Array Slot) (res : Bool) (hl : lv_has ls 4 [(0, .ref a), (1, .ref r1), (2, .int x2), (3, .int x3)]) (hW : WH X h H) (hS : va_S (xA X) s.heap H locs) (hs : sX0_isAllowed_c0 a r1 x2 x3 h) (hres : fX0_isAllowed_c0 a r1 x2 x3 h = res) : W p l e rmX0_isAllowed s m args below meth c H locs 0 0 (MQ below (QI X (bI res) h) args s 0 0 (xA X)) (F0 m 0 ls []) := by
  obtain ⟨hx, hb, hr, hlk, hml, hown, hts, hK⟩ := id C0
  refine lv_iload_n hx hb dX0_isAllowed_0 rfl (lv_at hl 2 rfl) ?_
  by_cases c1 : x2 = 6
  · have hres := (if_pos c1).symm.trans hres
    have hs := And.left hs c1
    refine ksw_in (tgt := 40) hx hb 6 c1 dX0_isAllowed_1 (by decide) (by decide) rfl (by decide) ?_
    refine lv_aload_n hx hb dX0_isAllowed_40 rfl (lv_at hl 1 rfl) ?_
    refine g2_4 hx hb hts hown hK hW hr1.1 (hts _ q1_64) dX0_isAllowed_41 ?_
    refine lv_iconst (v := 5) hx hb dX0_isAllowed_44 (by decide) ?_
    refine lv_icmp_ge (tgt := 60) hx hb dX0_isAllowed_45 (by decide) (fun c2 => ?_) (fun c2 => ?_)
    · have hres := (if_pos c2).symm.trans hres
      have hs := And.left hs c2
      refine lv_iconst (v := 0) hx hb dX0_isAllowed_60 (by decide) ?_
      subst hres
      exact kr_z (v := false) hx hb hr hlk hK hW hS dX0_isAllowed_61
    · have hres := (if_neg c2).symm.trans hres
      have hs := And.right hs c2
      refine lv_aload_n hx hb dX0_isAllowed_48 rfl (lv_at hl 1 rfl) ?_
      refine lv_iconst (v := (-1)) hx hb dX0_isAllowed_49 (by decide) ?_
      have hc3 := hs
      refine kV_i (As := [.int (-1)]) (rest := []) ⟨hx, hb, hml, hown, hts⟩ (kX2_canAfford l X h r1 (-1) hr1 hc3) (wX2_canAfford hts q2_28 ⟨Nat.le_of_ble_eq_true rfl, Nat.le_of_ble_eq_true rfl⟩) hK hW hS (va_recv hK.1 (hW.one hr1.1) (ci := 2) (q0 := 0) rfl rfl) rfl hl.1 rfl (Nat.le_of_ble_eq_true rfl) dX0_isAllowed_50 ⟨Nat.zero_le _, Nat.zero_le _⟩ (fun H locs hW hS => ?_)
      refine lv_if_eq (tgt := 60) hx hb dX0_isAllowed_53 (by decide) (fun c4 => ?_) (fun c4 => ?_)
      · have hres := (if_pos c4).symm.trans hres
        refine lv_iconst (v := 0) hx hb dX0_isAllowed_60 (by decide) ?_
        subst hres
        exact kr_z (v := false) hx hb hr hlk hK hW hS dX0_isAllowed_61
      · have hres := (if_neg c4).symm.trans hres
        refine lv_iconst (v := 1) hx hb dX0_isAllowed_56 (by decide) ?_
        refine lv_goto (tgt := 61) hx hb dX0_isAllowed_57 (by decide) ?_
        subst hres
        exact kr_z (v := true) hx hb hr hlk hK hW hS dX0_isAllowed_61
  · have hres := (if_neg c1).symm.trans hres
    have hs := And.right hs c1
    by_cases c5 : x2 = 7
    · have hres := (if_pos c5).symm.trans hres
      have hs := And.left hs c5
      refine ksw_in (tgt := 62) hx hb 7 c5 dX0_isAllowed_1 (by decide) (by decide) rfl (by decide) ?_
      refine lv_aload_n hx hb dX0_isAllowed_62 rfl (lv_at hl 1 rfl) ?_
      refine kV_i (As := []) (rest := []) ⟨hx, hb, hml, hown, hts⟩ (kX2_canGrow l X h r1 hr1) (wX2_canGrow hts q2_43 ⟨Nat.le_of_ble_eq_true rfl, Nat.le_of_ble_eq_true rfl⟩) hK hW hS (va_recv hK.1 (hW.one hr1.1) (ci := 2) (q0 := 0) rfl rfl) rfl hl.1 rfl (Nat.le_of_ble_eq_true rfl) dX0_isAllowed_63 ⟨Nat.zero_le _, Nat.zero_le _⟩ (fun H locs hW hS => ?_)
      subst hres
      exact kr_z (v := fX2_canGrow r1 h) hx hb hr hlk hK hW hS dX0_isAllowed_66
    · have hres := (if_neg c5).symm.trans hres
      have hs := And.right hs c5
      by_cases c6 : x2 = 8
      · have hres := (if_pos c6).symm.trans hres
        have hs := And.left hs c6
        refine ksw_in (tgt := 67) hx hb 8 c6 dX0_isAllowed_1 (by decide) (by decide) rfl (by decide) ?_
        refine lv_aload_n hx hb dX0_isAllowed_67 rfl (lv_at hl 1 rfl) ?_
        refine g2_0 hx hb hts hown hK hW hr1.1 (hts _ q1_57) dX0_isAllowed_68 ?_
        refine lv_iconst (v := 2) hx hb dX0_isAllowed_71 (by decide) ?_
        refine kb_iald hx hb hK hW hr1.2 (k := 2) (by decide) (vpd (by decide)) dX0_isAllowed_72 ?_
        refine lv_iload_n hx hb dX0_isAllowed_73 rfl (lv_at hl 3 rfl) ?_
        refine lv_icmp_lt (tgt := 81) hx hb dX0_isAllowed_74 (by decide) (fun c7 => ?_) (fun c7 => ?_)
        · have hres := (if_pos c7).symm.trans hres
          refine lv_iconst (v := 0) hx hb dX0_isAllowed_81 (by decide) ?_
          subst hres
          exact kr_z (v := false) hx hb hr hlk hK hW hS dX0_isAllowed_82
        · have hres := (if_neg c7).symm.trans hres
          refine lv_iconst (v := 1) hx hb dX0_isAllowed_77 (by decide) ?_
          refine lv_goto (tgt := 82) hx hb dX0_isAllowed_78 (by decide) ?_
          subst hres
          exact kr_z (v := true) hx hb hr hlk hK hW hS dX0_isAllowed_82
      · have hres := (if_neg c6).symm.trans hres
        have hs := And.right hs c6
        by_cases c8 : x2 = 9
        · have hres := (if_pos c8).symm.trans hres
          have hs := And.left hs c8
          refine ksw_in (tgt := 83) hx hb 9 c8 dX0_isAllowed_1 (by decide) (by decide) rfl (by decide) ?_
          refine lv_aload_n hx hb dX0_isAllowed_83 rfl (lv_at hl 0 rfl) ?_
          refine lv_iload_n hx hb dX0_isAllowed_84 rfl (lv_at hl 3 rfl) ?_
          obtain ⟨hc9, hs⟩ := hs
          refine kV_i (As := [.int x3]) (rest := []) ⟨hx, hb, hml, hown, hts⟩ (kX0_ownerOf l X h a x3 hO hc9) (wX0_ownerOf hts q2_47 ⟨Nat.le_of_ble_eq_true rfl, Nat.le_of_ble_eq_true rfl⟩) hK hW hS (va_recv hK.1 (hW.one hO.1) (ci := 0) (q0 := 0) rfl rfl) rfl hl.1 rfl (Nat.le_of_ble_eq_true rfl) dX0_isAllowed_85 ⟨Nat.zero_le _, Nat.zero_le _⟩ (fun H locs hW hS => ?_)
          refine lv_iconst (v := (-1)) hx hb dX0_isAllowed_88 (by decide) ?_
          refine lv_icmp_ne (tgt := 104) hx hb dX0_isAllowed_89 (by decide) (fun c10 => ?_) (fun c10 => ?_)
          · have hres := (if_neg c10).symm.trans hres
            have hs := And.right hs c10
            refine lv_iconst (v := 0) hx hb dX0_isAllowed_104 (by decide) ?_
            subst hres
            exact kr_z (v := false) hx hb hr hlk hK hW hS dX0_isAllowed_105
          · have hres := (if_pos c10).symm.trans hres
            have hs := And.left hs c10
            refine lv_aload_n hx hb dX0_isAllowed_92 rfl (lv_at hl 1 rfl) ?_
            refine lv_iload_n hx hb dX0_isAllowed_93 rfl (lv_at hl 3 rfl) ?_
            have hc11 := hs
            refine kV_i (As := [.int x3]) (rest := []) ⟨hx, hb, hml, hown, hts⟩ (kX2_canAfford l X h r1 x3 hr1 hc11) (wX2_canAfford hts q2_28 ⟨Nat.le_of_ble_eq_true rfl, Nat.le_of_ble_eq_true rfl⟩) hK hW hS (va_recv hK.1 (hW.one hr1.1) (ci := 2) (q0 := 0) rfl rfl) rfl hl.1 rfl (Nat.le_of_ble_eq_true rfl) dX0_isAllowed_94 ⟨Nat.zero_le _, Nat.zero_le _⟩ (fun H locs hW hS => ?_)
            refine lv_if_eq (tgt := 104) hx hb dX0_isAllowed_97 (by decide) (fun c12 => ?_) (fun c12 => ?_)
            · have hres := (if_pos c12).symm.trans hres
              refine lv_iconst (v := 0) hx hb dX0_isAllowed_104 (by decide) ?_
              subst hres
              exact kr_z (v := false) hx hb hr hlk hK hW hS dX0_isAllowed_105
            · have hres := (if_neg c12).symm.trans hres
              refine lv_iconst (v := 1) hx hb dX0_isAllowed_100 (by decide) ?_
              refine lv_goto (tgt := 105) hx hb dX0_isAllowed_101 (by decide) ?_
              subst hres
              exact kr_z (v := true) hx hb hr hlk hK hW hS dX0_isAllowed_105
        · have hres := (if_neg c8).symm.trans hres
          have hs := And.right hs c8
          by_cases c13 : x2 = 10
          · have hres := (if_pos c13).symm.trans hres
            have hs := And.left hs c13
            refine ksw_in (tgt := 124) hx hb 10 c13 dX0_isAllowed_1 (by decide) (by decide) rfl (by decide) ?_
            refine lv_iconst (v := 1) hx hb dX0_isAllowed_124 (by decide) ?_
            subst hres
            exact kr_z (v := true) hx hb hr hlk hK hW hS dX0_isAllowed_125
          · have hres := (if_neg c13).symm.trans hres
            have hs := And.right hs c13
            by_cases c14 : x2 = 11
            · have hres := (if_pos c14).symm.trans hres
              have hs := And.left hs c14
              refine ksw_in (tgt := 106) hx hb 11 c14 dX0_isAllowed_1 (by decide) (by decide) rfl (by decide) ?_
              refine lv_aload_n hx hb dX0_isAllowed_106 rfl (lv_at hl 1 rfl) ?_
              refine g2_0 hx hb hts hown hK hW hr1.1 (hts _ q1_57) dX0_isAllowed_107 ?_
              refine lv_iload_n hx hb dX0_isAllowed_110 rfl (lv_at hl 3 rfl) ?_
              refine lv_iconst (v := 5) hx hb dX0_isAllowed_111 (by decide) ?_
              refine lv_idiv hx hb dX0_isAllowed_112 (by decide) ?_
              have hi15 := hs
              refine kb_iald hx hb hK hW hr1.2 (k := (x3 / 5).toNatClampNeg) rfl hi15 dX0_isAllowed_113 ?_
              refine lv_iconst (v := 2) hx hb dX0_isAllowed_114 (by decide) ?_
              refine lv_icmp_lt (tgt := 122) hx hb dX0_isAllowed_115 (by decide) (fun c16 => ?_) (fun c16 => ?_)
              · have hres := (if_pos c16).symm.trans hres
                refine lv_iconst (v := 0) hx hb dX0_isAllowed_122 (by decide) ?_
                subst hres
                exact kr_z (v := false) hx hb hr hlk hK hW hS dX0_isAllowed_123
              · have hres := (if_neg c16).symm.trans hres
                refine lv_iconst (v := 1) hx hb dX0_isAllowed_118 (by decide) ?_
                refine lv_goto (tgt := 123) hx hb dX0_isAllowed_119 (by decide) ?_
                subst hres
                exact kr_z (v := true) hx hb hr hlk hK hW hS dX0_isAllowed_123
            · have hres := (if_neg c14).symm.trans hres
              have hs := And.right hs c14
              refine lv_tableOut (tgt := 124) hx hb dX0_isAllowed_1 (by have := lv_neT (a := 6) c1 (by decide); have := lv_neT (a := 7) c5 (by decide); have := lv_neT (a := 8) c6 (by decide); have := lv_neT (a := 9) c8 (by decide); have := lv_neT (a := 10) c13 (by decide); have := lv_neT (a := 11) c14 (by decide); omega) (by decide) ?_
              refine lv_iconst (v := 1) hx hb dX0_isAllowed_124 (by decide) ?_
              subst hres
              exact kr_z (v := true) hx hb hr hlk hK hW hS dX0_isAllowed_125
def fX0_isAllowed (a : Nat) (r1 : Nat) (x2 : Int32) (x3 : Int32) (h : HH) : Bool := fX0_isAllowed_c0 a r1 x2 x3 h
def sX0_isAllowed (a : Nat) (r1 : Nat) (x2 : Int32) (x3 : Int32) (h : HH) : Prop := sX0_isAllowed_c0 a r1 x2 x3 h
set_option maxRecDepth 100000 in
set_option maxHeartbeats 4000000 in
theorem kX0_isAllowed (l : Launch) (X : Cx) (h : HH) (a : Nat) (r1 : Nat) (x2 : Int32) (x3 : Int32) (hO : IsGm X a) (hr1 : IsPl X r1) (hs : sX0_isAllowed a r1 x2 x3 h) : Met l yX0_isAllowed vX0_isAllowed rmX0_isAllowed (va_Pc [.ref a, .ref r1, .int x2, .int x3] (fun U => WS X h U)) (QI X (bI (fX0_isAllowed a r1 x2 x3 h)) h) 0 0 (xA X) := by
  refine Met.ofW (cc := cX0_isAllowed) (maxL := 4) (ret := some .boolean) (by decide) rfl ?_
  intro p e s m args below meth c s₁ B hml hv
  obtain ⟨rfl, hW, hK⟩ := hv
  have hl := lv_entry ([.ref a, .ref r1, .int x2, .int x3]) (n := 4) (Nat.le_of_ble_eq_true rfl)
  rw [lg_entry_eq]
  generalize (lg_sl ([.ref a, .ref r1, .int x2, .int x3]) ++ List.replicate (4 - (lg_sl ([.ref a, .ref r1, .int x2, .int x3])).length) Slot.unset).toArray = ls at hl ⊢
  have hl : lv_has ls 4 [(0, .ref a), (1, .ref r1), (2, .int x2), (3, .int x3)] := hl
  exact xX0_isAllowed_c0 hO hr1 ⟨B.exec, B.bytes, B.returns, B.notSynchronized, hml, findClass_of_methodNamed B.named, fun w hw => atoms_spec (ws := vX0_isAllowed) B.pre w (List.mem_cons_of_mem _ hw), hK⟩ x2 x3 h _ _ ls _ (lv_sub hl [0, 1, 2, 3] rfl) hW va_S.rf hs rfl
-- VillageBoard$Game.obstacle(II)I
abbrev rmX0_obstacle : Room := ({ frames := 4, cells := 0, slots := 0, locals := 91 } : Room)
abbrev vX0_obstacle : List Cond := Cond.code yX0_obstacle cX0_obstacle 4 (some .int) :: lwG
theorem wX0_obstacle {R : Room} {s : State} {args : Array Value} {own : String} {idx : Nat} (hg : ∀ w ∈ lwG, w.before args s = true) (hl : Cond.methodLink own idx yX0_obstacle ∈ lwG) (hR : rmX0_obstacle.frames + 1 ≤ R.frames ∧ 8 + (4 + 11) + rmX0_obstacle.locals ≤ R.locals) : CallW R s args own RX0 idx yX0_obstacle cX0_obstacle 4 (some .int) vX0_obstacle rmX0_obstacle 0 0 2 := cwV 2 hg (gV hl q3_77 q3_78 q1_2 q3_79) rfl rfl rfl (by decide +kernel) hR
def fX0_obstacle_c0 (a : Nat) (x1 : Int32) (x2 : Int32) (h : HH) : Int32 := if (fX0_spaceObstacle a x1 h) = 0 then (if (bI (fX0_isChoice x1 x2)) = 0 then 4 else (if (bI (fX0_isAllowed a (a + 7 + 2 * ((h a 3).toNatClampNeg)) x1 x2 h)) = 0 then 5 else 0)) else (fX0_spaceObstacle a x1 h)
def sX0_obstacle_c0 (a : Nat) (x1 : Int32) (x2 : Int32) (h : HH) : Prop := (sX0_spaceObstacle a x1 h) ∧ (((fX0_spaceObstacle a x1 h) = 0 → ((sX0_isChoice x1 x2) ∧ (((bI (fX0_isChoice x1 x2)) = 0 → True) ∧ (¬ ((bI (fX0_isChoice x1 x2)) = 0) → ((vp_in (h a 3) 4) ∧ (sX0_isAllowed a (a + 7 + 2 * ((h a 3).toNatClampNeg)) x1 x2 h)))))) ∧ (¬ ((fX0_spaceObstacle a x1 h) = 0) → True))
set_option maxRecDepth 100000 in
set_option maxHeartbeats 4000000 in
theorem xX0_obstacle_c0 {p : Program} {l : Launch} {e : Env} {s : State} {m : MethodId} {args : Array Value} {below : List Frame} {meth : Method} {c : Code} {X : Cx} {a : Nat} (hO : IsGm X a) (C0 : CT p s m args meth c X cX0_obstacle 4 (some .int) RX0) (x1 : Int32) (x2 : Int32) (h : HH) (H : Heap) (locs : List Loc) (ls : Array Slot) (res : Int32) (hl : lv_has ls 4 [(0, .ref a), (1, .int x1), (2, .int x2)]) (hW : WH X h H) (hS : va_S (xA X) s.heap H locs) (hs : sX0_obstacle_c0 a x1 x2 h) (hres : fX0_obstacle_c0 a x1 x2 h = res) : W p l e rmX0_obstacle s m args below meth c H locs 0 0 (MQ below (QI X res h) args s 0 0 (xA X)) (F0 m 0 ls []) := by
  obtain ⟨hx, hb, hr, hlk, hml, hown, hts, hK⟩ := id C0
  refine lv_aload_n hx hb dX0_obstacle_0 rfl (lv_at hl 0 rfl) ?_
  refine lv_iload_n hx hb dX0_obstacle_1 rfl (lv_at hl 1 rfl) ?_
  obtain ⟨hc1, hs⟩ := hs
  refine kV_i (As := [.int x1]) (rest := []) ⟨hx, hb, hml, hown, hts⟩ (kX0_spaceObstacle l X h a x1 hO hc1) (wX0_spaceObstacle hts q2_7 ⟨Nat.le_of_ble_eq_true rfl, Nat.le_of_ble_eq_true rfl⟩) hK hW hS (va_recv hK.1 (hW.one hO.1) (ci := 0) (q0 := 0) rfl rfl) rfl hl.1 rfl (Nat.le_of_ble_eq_true rfl) dX0_obstacle_2 ⟨Nat.zero_le _, Nat.zero_le _⟩ (fun H locs hW hS => ?_)
  refine lv_istore_n (lv' := [(3, .int (fX0_spaceObstacle a x1 h)), (0, .ref a), (1, .int x1), (2, .int x2)]) hx hb dX0_obstacle_5 rfl hl (by decide) rfl (fun ls hl => ?_)
  refine lv_iload_n hx hb dX0_obstacle_6 rfl (lv_at hl 0 rfl) ?_
  refine lv_if_eq (tgt := 12) hx hb dX0_obstacle_7 (by decide) (fun c2 => ?_) (fun c2 => ?_)
  · have hres := (if_pos c2).symm.trans hres
    have hs := And.left hs c2
    refine lv_iload_n hx hb dX0_obstacle_12 rfl (lv_at hl 2 rfl) ?_
    refine lv_iload_n hx hb dX0_obstacle_13 rfl (lv_at hl 3 rfl) ?_
    obtain ⟨hc3, hs⟩ := hs
    refine kS_i (As := [.int x1, .int x2]) (rest := []) ⟨hx, hb, hml, hown, hts⟩ (kX0_isChoice l X h x1 x2 hc3) (wX0_isChoice hts q2_21 ⟨Nat.le_of_ble_eq_true rfl, Nat.le_of_ble_eq_true rfl⟩) hK hW hS rfl hl.1 rfl (Nat.le_of_ble_eq_true rfl) dX0_obstacle_14 ⟨Nat.zero_le _, Nat.zero_le _⟩ (fun H locs hW hS => ?_)
    refine lv_if_ne (tgt := 22) hx hb dX0_obstacle_17 (by decide) (fun c4 => ?_) (fun c4 => ?_)
    · have hres := (if_neg c4).symm.trans hres
      have hs := And.right hs c4
      refine lv_aload_n hx hb dX0_obstacle_22 rfl (lv_at hl 1 rfl) ?_
      refine lv_aload_n hx hb dX0_obstacle_23 rfl (lv_at hl 1 rfl) ?_
      refine g0_5 hx hb hts hown hK hW hO.1 (hts _ q1_94) dX0_obstacle_24 ?_
      refine lv_aload_n hx hb dX0_obstacle_27 rfl (lv_at hl 1 rfl) ?_
      refine g0_3 hx hb hts hown hK hW hO.1 (hts _ q1_89) dX0_obstacle_28 ?_
      obtain ⟨hi5, hs⟩ := hs
      refine kb_aald (j := 1) hx hb hK hW hO.2.1 rfl rfl (k := (h a 3).toNatClampNeg) rfl hi5 rfl dX0_obstacle_31 ?_
      refine lv_iload_n hx hb dX0_obstacle_32 rfl (lv_at hl 2 rfl) ?_
      refine lv_iload_n hx hb dX0_obstacle_33 rfl (lv_at hl 3 rfl) ?_
      have hc6 := hs
      refine kV_i (As := [.ref (a + 7 + 2 * ((h a 3).toNatClampNeg)), .int x1, .int x2]) (rest := []) ⟨hx, hb, hml, hown, hts⟩ (kX0_isAllowed l X h a (a + 7 + 2 * ((h a 3).toNatClampNeg)) x1 x2 hO (hO.2.2.2.2.2.2 ((h a 3).toNatClampNeg) (kin hi5)) hc6) (wX0_isAllowed hts q2_24 ⟨Nat.le_of_ble_eq_true rfl, Nat.le_of_ble_eq_true rfl⟩) hK hW hS (va_recv hK.1 (hW.one hO.1) (ci := 0) (q0 := 0) rfl rfl) rfl hl.1 rfl (Nat.le_of_ble_eq_true rfl) dX0_obstacle_34 ⟨Nat.zero_le _, Nat.zero_le _⟩ (fun H locs hW hS => ?_)
      refine lv_if_eq (tgt := 44) hx hb dX0_obstacle_37 (by decide) (fun c7 => ?_) (fun c7 => ?_)
      · have hres := (if_pos c7).symm.trans hres
        refine lv_iconst (v := 5) hx hb dX0_obstacle_44 (by decide) ?_
        subst hres
        exact kr_i hx hb hr hlk hK hW hS dX0_obstacle_45
      · have hres := (if_neg c7).symm.trans hres
        refine lv_iconst (v := 0) hx hb dX0_obstacle_40 (by decide) ?_
        refine lv_goto (tgt := 45) hx hb dX0_obstacle_41 (by decide) ?_
        subst hres
        exact kr_i hx hb hr hlk hK hW hS dX0_obstacle_45
    · have hres := (if_pos c4).symm.trans hres
      have hs := And.left hs c4
      refine lv_iconst (v := 4) hx hb dX0_obstacle_20 (by decide) ?_
      subst hres
      exact kr_i hx hb hr hlk hK hW hS dX0_obstacle_21
  · have hres := (if_neg c2).symm.trans hres
    have hs := And.right hs c2
    refine lv_iload_n hx hb dX0_obstacle_10 rfl (lv_at hl 0 rfl) ?_
    subst hres
    exact kr_i hx hb hr hlk hK hW hS dX0_obstacle_11
def fX0_obstacle (a : Nat) (x1 : Int32) (x2 : Int32) (h : HH) : Int32 := fX0_obstacle_c0 a x1 x2 h
def sX0_obstacle (a : Nat) (x1 : Int32) (x2 : Int32) (h : HH) : Prop := sX0_obstacle_c0 a x1 x2 h
set_option maxRecDepth 100000 in
set_option maxHeartbeats 4000000 in
theorem kX0_obstacle (l : Launch) (X : Cx) (h : HH) (a : Nat) (x1 : Int32) (x2 : Int32) (hO : IsGm X a) (hs : sX0_obstacle a x1 x2 h) : Met l yX0_obstacle vX0_obstacle rmX0_obstacle (va_Pc [.ref a, .int x1, .int x2] (fun U => WS X h U)) (QI X (fX0_obstacle a x1 x2 h) h) 0 0 (xA X) := by
  refine Met.ofW (cc := cX0_obstacle) (maxL := 4) (ret := some .int) (by decide) rfl ?_
  intro p e s m args below meth c s₁ B hml hv
  obtain ⟨rfl, hW, hK⟩ := hv
  have hl := lv_entry ([.ref a, .int x1, .int x2]) (n := 4) (Nat.le_of_ble_eq_true rfl)
  rw [lg_entry_eq]
  generalize (lg_sl ([.ref a, .int x1, .int x2]) ++ List.replicate (4 - (lg_sl ([.ref a, .int x1, .int x2])).length) Slot.unset).toArray = ls at hl ⊢
  have hl : lv_has ls 4 [(0, .ref a), (1, .int x1), (2, .int x2)] := hl
  exact xX0_obstacle_c0 hO ⟨B.exec, B.bytes, B.returns, B.notSynchronized, hml, findClass_of_methodNamed B.named, fun w hw => atoms_spec (ws := vX0_obstacle) B.pre w (List.mem_cons_of_mem _ hw), hK⟩ x1 x2 h _ _ ls _ (lv_sub hl [0, 1, 2] rfl) hW va_S.rf hs rfl
-- VillageBoard$Game.listPlacements([I)I
abbrev rmX0_listPlacements : Room := ({ frames := 4, cells := 0, slots := 0, locals := 91 } : Room)
abbrev vX0_listPlacements : List Cond := Cond.code yX0_listPlacements cX0_listPlacements 6 (some .int) :: lwG
theorem wX0_listPlacements {R : Room} {s : State} {args : Array Value} {own : String} {idx : Nat} (hg : ∀ w ∈ lwG, w.before args s = true) (hl : Cond.methodLink own idx yX0_listPlacements ∈ lwG) (hR : rmX0_listPlacements.frames + 1 ≤ R.frames ∧ 8 + (6 + 11) + rmX0_listPlacements.locals ≤ R.locals) : CallW R s args own RX0 idx yX0_listPlacements cX0_listPlacements 6 (some .int) vX0_listPlacements rmX0_listPlacements 0 0 1 := cwV 1 hg (gV hl q2_4 q2_5 q1_2 q2_6) rfl rfl rfl (by decide +kernel) hR
def fX0_listPlacements_c103 (a : Nat) (r1 : Nat) (k4 : Int32 → Int32 → HH → Int32 × HH) (x2 : Int32) (x3 : Int32) (h : HH) : Int32 × HH := k4 x2 (x3 + 1) h
def sX0_listPlacements_c103 (a : Nat) (r1 : Nat) (K4 : Int32 → Int32 → HH → Prop) (x2 : Int32) (x3 : Int32) (h : HH) : Prop := K4 x2 (x3 + 1) h
set_option maxRecDepth 100000 in
set_option maxHeartbeats 4000000 in
theorem xX0_listPlacements_c103 {p : Program} {l : Launch} {e : Env} {s : State} {m : MethodId} {args : Array Value} {below : List Frame} {meth : Method} {c : Code} {X : Cx} {a : Nat} {r1 : Nat} (hO : IsGm X a) (hr1 : xL X r1 = some (shI X 40)) (C0 : CT p s m args meth c X cX0_listPlacements 6 (some .int) RX0) {k4 : Int32 → Int32 → HH → Int32 × HH} {K4 : Int32 → Int32 → HH → Prop} (hk4 : ∀ (x2 : Int32) (x3 : Int32) (h : HH) (H : Heap) (locs : List Loc) (ls : Array Slot) (res : Int32 × HH) (hl : lv_has ls 6 [(0, .ref a), (1, .ref r1), (2, .int x2), (3, .int x3)]) (hW : WH X h H) (hS : va_S (xA X) s.heap H locs) (_ : K4 x2 x3 h) (hres : k4 x2 x3 h = res), W p l e rmX0_listPlacements s m args below meth c H locs 0 0 (MQ below (QI X res.1 res.2) args s 0 0 (xA X)) (F0 m 4 ls [])) (x2 : Int32) (x3 : Int32) (h : HH) (H : Heap) (locs : List Loc) (ls : Array Slot) (res : Int32 × HH) (hl : lv_has ls 6 [(0, .ref a), (1, .ref r1), (2, .int x2), (3, .int x3)]) (hW : WH X h H) (hS : va_S (xA X) s.heap H locs) (hs : sX0_listPlacements_c103 a r1 K4 x2 x3 h) (hres : fX0_listPlacements_c103 a r1 k4 x2 x3 h = res) : W p l e rmX0_listPlacements s m args below meth c H locs 0 0 (MQ below (QI X res.1 res.2) args s 0 0 (xA X)) (F0 m 103 ls []) := by
  obtain ⟨hx, hb, hr, hlk, hml, hown, hts, hK⟩ := id C0
  refine lv_iinc (v := x3 + 1) (lv' := [(3, .int (x3 + 1)), (0, .ref a), (1, .ref r1), (2, .int x2)]) hx hb dX0_listPlacements_103 hl (k := 3) rfl rfl (by decide) rfl (fun ls hl => ?_)
  refine lv_goto (tgt := 4) hx hb dX0_listPlacements_106 (by decide) ?_
  exact hk4 x2 (x3 + 1) h _ _ _ _ (lv_sub hl [1, 2, 3, 0] rfl) hW hS hs hres
def fX0_listPlacements_c97 (a : Nat) (r1 : Nat) (k4 : Int32 → Int32 → HH → Int32 × HH) (k28 : Int32 → Int32 → Int32 → HH → Int32 × HH) (x2 : Int32) (x3 : Int32) (x4 : Int32) (h : HH) : Int32 × HH := k28 x2 x3 (x4 + 1) h
def sX0_listPlacements_c97 (a : Nat) (r1 : Nat) (K4 : Int32 → Int32 → HH → Prop) (K28 : Int32 → Int32 → Int32 → HH → Prop) (x2 : Int32) (x3 : Int32) (x4 : Int32) (h : HH) : Prop := K28 x2 x3 (x4 + 1) h
set_option maxRecDepth 100000 in
set_option maxHeartbeats 4000000 in
theorem xX0_listPlacements_c97 {p : Program} {l : Launch} {e : Env} {s : State} {m : MethodId} {args : Array Value} {below : List Frame} {meth : Method} {c : Code} {X : Cx} {a : Nat} {r1 : Nat} (hO : IsGm X a) (hr1 : xL X r1 = some (shI X 40)) (C0 : CT p s m args meth c X cX0_listPlacements 6 (some .int) RX0) {k4 : Int32 → Int32 → HH → Int32 × HH} {K4 : Int32 → Int32 → HH → Prop} (hk4 : ∀ (x2 : Int32) (x3 : Int32) (h : HH) (H : Heap) (locs : List Loc) (ls : Array Slot) (res : Int32 × HH) (hl : lv_has ls 6 [(0, .ref a), (1, .ref r1), (2, .int x2), (3, .int x3)]) (hW : WH X h H) (hS : va_S (xA X) s.heap H locs) (_ : K4 x2 x3 h) (hres : k4 x2 x3 h = res), W p l e rmX0_listPlacements s m args below meth c H locs 0 0 (MQ below (QI X res.1 res.2) args s 0 0 (xA X)) (F0 m 4 ls [])) {k28 : Int32 → Int32 → Int32 → HH → Int32 × HH} {K28 : Int32 → Int32 → Int32 → HH → Prop} (hk28 : ∀ (x2 : Int32) (x3 : Int32) (x4 : Int32) (h : HH) (H : Heap) (locs : List Loc) (ls : Array Slot) (res : Int32 × HH) (hl : lv_has ls 6 [(0, .ref a), (1, .ref r1), (2, .int x2), (3, .int x3), (4, .int x4)]) (hW : WH X h H) (hS : va_S (xA X) s.heap H locs) (_ : K28 x2 x3 x4 h) (hres : k28 x2 x3 x4 h = res), W p l e rmX0_listPlacements s m args below meth c H locs 0 0 (MQ below (QI X res.1 res.2) args s 0 0 (xA X)) (F0 m 28 ls [])) (x2 : Int32) (x3 : Int32) (x4 : Int32) (h : HH) (H : Heap) (locs : List Loc) (ls : Array Slot) (res : Int32 × HH) (hl : lv_has ls 6 [(0, .ref a), (1, .ref r1), (2, .int x2), (3, .int x3), (4, .int x4)]) (hW : WH X h H) (hS : va_S (xA X) s.heap H locs) (hs : sX0_listPlacements_c97 a r1 K4 K28 x2 x3 x4 h) (hres : fX0_listPlacements_c97 a r1 k4 k28 x2 x3 x4 h = res) : W p l e rmX0_listPlacements s m args below meth c H locs 0 0 (MQ below (QI X res.1 res.2) args s 0 0 (xA X)) (F0 m 97 ls []) := by
  obtain ⟨hx, hb, hr, hlk, hml, hown, hts, hK⟩ := id C0
  refine lv_iinc (v := x4 + 1) (lv' := [(4, .int (x4 + 1)), (0, .ref a), (1, .ref r1), (2, .int x2), (3, .int x3)]) hx hb dX0_listPlacements_97 hl (k := 4) rfl rfl (by decide) rfl (fun ls hl => ?_)
  refine lv_goto (tgt := 28) hx hb dX0_listPlacements_100 (by decide) ?_
  exact hk28 x2 x3 (x4 + 1) h _ _ _ _ (lv_sub hl [1, 2, 3, 4, 0] rfl) hW hS hs hres
def fX0_listPlacements_c58 (a : Nat) (r1 : Nat) (k4 : Int32 → Int32 → HH → Int32 × HH) (k28 : Int32 → Int32 → Int32 → HH → Int32 × HH) (x2 : Int32) (x3 : Int32) (x4 : Int32) (xs0 : Int32) (h : HH) : Int32 × HH := if xs0 = 0 then (fX0_listPlacements_c97 a r1 k4 k28 x2 x3 x4 h) else (if (bI (fX0_isAllowed a (a + 7 + 2 * ((h a 3).toNatClampNeg)) x3 x4 h)) = 0 then (fX0_listPlacements_c97 a r1 k4 k28 x2 x3 x4 h) else (fX0_listPlacements_c97 a r1 k4 k28 (x2 + 1) x3 x4 (hset h r1 x2.toNatClampNeg ((100 * x3) + x4))))
def sX0_listPlacements_c58 (a : Nat) (r1 : Nat) (K4 : Int32 → Int32 → HH → Prop) (K28 : Int32 → Int32 → Int32 → HH → Prop) (x2 : Int32) (x3 : Int32) (x4 : Int32) (xs0 : Int32) (h : HH) : Prop := (xs0 = 0 → (sX0_listPlacements_c97 a r1 K4 K28 x2 x3 x4 h)) ∧ (¬ (xs0 = 0) → ((vp_in (h a 3) 4) ∧ ((sX0_isAllowed a (a + 7 + 2 * ((h a 3).toNatClampNeg)) x3 x4 h) ∧ (((bI (fX0_isAllowed a (a + 7 + 2 * ((h a 3).toNatClampNeg)) x3 x4 h)) = 0 → (sX0_listPlacements_c97 a r1 K4 K28 x2 x3 x4 h)) ∧ (¬ ((bI (fX0_isAllowed a (a + 7 + 2 * ((h a 3).toNatClampNeg)) x3 x4 h)) = 0) → ((vp_in x2 40) ∧ (sX0_listPlacements_c97 a r1 K4 K28 (x2 + 1) x3 x4 (hset h r1 x2.toNatClampNeg ((100 * x3) + x4)))))))))
set_option maxRecDepth 100000 in
set_option maxHeartbeats 4000000 in
theorem xX0_listPlacements_c58 {p : Program} {l : Launch} {e : Env} {s : State} {m : MethodId} {args : Array Value} {below : List Frame} {meth : Method} {c : Code} {X : Cx} {a : Nat} {r1 : Nat} (hO : IsGm X a) (hr1 : xL X r1 = some (shI X 40)) (C0 : CT p s m args meth c X cX0_listPlacements 6 (some .int) RX0) {k4 : Int32 → Int32 → HH → Int32 × HH} {K4 : Int32 → Int32 → HH → Prop} (hk4 : ∀ (x2 : Int32) (x3 : Int32) (h : HH) (H : Heap) (locs : List Loc) (ls : Array Slot) (res : Int32 × HH) (hl : lv_has ls 6 [(0, .ref a), (1, .ref r1), (2, .int x2), (3, .int x3)]) (hW : WH X h H) (hS : va_S (xA X) s.heap H locs) (_ : K4 x2 x3 h) (hres : k4 x2 x3 h = res), W p l e rmX0_listPlacements s m args below meth c H locs 0 0 (MQ below (QI X res.1 res.2) args s 0 0 (xA X)) (F0 m 4 ls [])) {k28 : Int32 → Int32 → Int32 → HH → Int32 × HH} {K28 : Int32 → Int32 → Int32 → HH → Prop} (hk28 : ∀ (x2 : Int32) (x3 : Int32) (x4 : Int32) (h : HH) (H : Heap) (locs : List Loc) (ls : Array Slot) (res : Int32 × HH) (hl : lv_has ls 6 [(0, .ref a), (1, .ref r1), (2, .int x2), (3, .int x3), (4, .int x4)]) (hW : WH X h H) (hS : va_S (xA X) s.heap H locs) (_ : K28 x2 x3 x4 h) (hres : k28 x2 x3 x4 h = res), W p l e rmX0_listPlacements s m args below meth c H locs 0 0 (MQ below (QI X res.1 res.2) args s 0 0 (xA X)) (F0 m 28 ls [])) (x2 : Int32) (x3 : Int32) (x4 : Int32) (xs0 : Int32) (h : HH) (H : Heap) (locs : List Loc) (ls : Array Slot) (res : Int32 × HH) (hl : lv_has ls 6 [(0, .ref a), (1, .ref r1), (2, .int x2), (3, .int x3), (4, .int x4)]) (hW : WH X h H) (hS : va_S (xA X) s.heap H locs) (hs : sX0_listPlacements_c58 a r1 K4 K28 x2 x3 x4 xs0 h) (hres : fX0_listPlacements_c58 a r1 k4 k28 x2 x3 x4 xs0 h = res) : W p l e rmX0_listPlacements s m args below meth c H locs 0 0 (MQ below (QI X res.1 res.2) args s 0 0 (xA X)) (F0 m 58 ls [.int xs0]) := by
  obtain ⟨hx, hb, hr, hlk, hml, hown, hts, hK⟩ := id C0
  refine lv_istore (lv' := [(5, .int xs0), (0, .ref a), (1, .ref r1), (2, .int x2), (3, .int x3), (4, .int x4)]) hx hb dX0_listPlacements_58 hl (by decide) rfl (fun ls hl => ?_)
  refine lv_iload hx hb dX0_listPlacements_60 (lv_at hl 0 rfl) ?_
  refine lv_if_eq (tgt := 97) hx hb dX0_listPlacements_62 (by decide) (fun c8 => ?_) (fun c8 => ?_)
  · have hres := (if_pos c8).symm.trans hres
    have hs := And.left hs c8
    exact xX0_listPlacements_c97 hO hr1 C0 hk4 hk28 x2 x3 x4 h _ _ _ _ (lv_sub hl [1, 2, 3, 4, 5] rfl) hW hS hs hres
  · have hres := (if_neg c8).symm.trans hres
    have hs := And.right hs c8
    refine lv_aload_n hx hb dX0_listPlacements_65 rfl (lv_at hl 1 rfl) ?_
    refine lv_aload_n hx hb dX0_listPlacements_66 rfl (lv_at hl 1 rfl) ?_
    refine g0_5 hx hb hts hown hK hW hO.1 (hts _ q1_94) dX0_listPlacements_67 ?_
    refine lv_aload_n hx hb dX0_listPlacements_70 rfl (lv_at hl 1 rfl) ?_
    refine g0_3 hx hb hts hown hK hW hO.1 (hts _ q1_89) dX0_listPlacements_71 ?_
    obtain ⟨hi9, hs⟩ := hs
    refine kb_aald (j := 1) hx hb hK hW hO.2.1 rfl rfl (k := (h a 3).toNatClampNeg) rfl hi9 rfl dX0_listPlacements_74 ?_
    refine lv_iload_n hx hb dX0_listPlacements_75 rfl (lv_at hl 4 rfl) ?_
    refine lv_iload hx hb dX0_listPlacements_76 (lv_at hl 5 rfl) ?_
    obtain ⟨hc10, hs⟩ := hs
    refine kV_i (As := [.ref (a + 7 + 2 * ((h a 3).toNatClampNeg)), .int x3, .int x4]) (rest := []) ⟨hx, hb, hml, hown, hts⟩ (kX0_isAllowed l X h a (a + 7 + 2 * ((h a 3).toNatClampNeg)) x3 x4 hO (hO.2.2.2.2.2.2 ((h a 3).toNatClampNeg) (kin hi9)) hc10) (wX0_isAllowed hts q2_24 ⟨Nat.le_of_ble_eq_true rfl, Nat.le_of_ble_eq_true rfl⟩) hK hW hS (va_recv hK.1 (hW.one hO.1) (ci := 0) (q0 := 0) rfl rfl) rfl hl.1 rfl (Nat.le_of_ble_eq_true rfl) dX0_listPlacements_78 ⟨Nat.zero_le _, Nat.zero_le _⟩ (fun H locs hW hS => ?_)
    refine lv_if_eq (tgt := 97) hx hb dX0_listPlacements_81 (by decide) (fun c11 => ?_) (fun c11 => ?_)
    · have hres := (if_pos c11).symm.trans hres
      have hs := And.left hs c11
      exact xX0_listPlacements_c97 hO hr1 C0 hk4 hk28 x2 x3 x4 h _ _ _ _ (lv_sub hl [1, 2, 3, 4, 5] rfl) hW hS hs hres
    · have hres := (if_neg c11).symm.trans hres
      have hs := And.right hs c11
      refine lv_aload_n hx hb dX0_listPlacements_84 rfl (lv_at hl 2 rfl) ?_
      refine lv_iload_n hx hb dX0_listPlacements_85 rfl (lv_at hl 3 rfl) ?_
      refine lv_bipush (v := 100) hx hb dX0_listPlacements_86 (by decide) ?_
      refine lv_iload_n hx hb dX0_listPlacements_88 rfl (lv_at hl 4 rfl) ?_
      refine lv_imul hx hb dX0_listPlacements_89 ?_
      refine lv_iload hx hb dX0_listPlacements_90 (lv_at hl 5 rfl) ?_
      refine lv_iadd hx hb dX0_listPlacements_92 ?_
      obtain ⟨hi12, hs⟩ := hs
      refine kb_iast hx hb hK hW hS hr1 (k := x2.toNatClampNeg) rfl hi12 dX0_listPlacements_93 (fun H locs hW hS => ?_)
      refine lv_iinc (v := x2 + 1) (lv' := [(2, .int (x2 + 1)), (5, .int xs0), (0, .ref a), (1, .ref r1), (3, .int x3), (4, .int x4)]) hx hb dX0_listPlacements_94 hl (k := 3) rfl rfl (by decide) rfl (fun ls hl => ?_)
      exact xX0_listPlacements_c97 hO hr1 C0 hk4 hk28 (x2 + 1) x3 x4 (hset h r1 x2.toNatClampNeg ((100 * x3) + x4)) _ _ _ _ (lv_sub hl [2, 3, 0, 4, 5] rfl) hW hS hs hres
def fX0_listPlacements_c57 (a : Nat) (r1 : Nat) (k4 : Int32 → Int32 → HH → Int32 × HH) (k28 : Int32 → Int32 → Int32 → HH → Int32 × HH) (x2 : Int32) (x3 : Int32) (x4 : Int32) (h : HH) : Int32 × HH := fX0_listPlacements_c58 a r1 k4 k28 x2 x3 x4 0 h
def sX0_listPlacements_c57 (a : Nat) (r1 : Nat) (K4 : Int32 → Int32 → HH → Prop) (K28 : Int32 → Int32 → Int32 → HH → Prop) (x2 : Int32) (x3 : Int32) (x4 : Int32) (h : HH) : Prop := sX0_listPlacements_c58 a r1 K4 K28 x2 x3 x4 0 h
set_option maxRecDepth 100000 in
set_option maxHeartbeats 4000000 in
theorem xX0_listPlacements_c57 {p : Program} {l : Launch} {e : Env} {s : State} {m : MethodId} {args : Array Value} {below : List Frame} {meth : Method} {c : Code} {X : Cx} {a : Nat} {r1 : Nat} (hO : IsGm X a) (hr1 : xL X r1 = some (shI X 40)) (C0 : CT p s m args meth c X cX0_listPlacements 6 (some .int) RX0) {k4 : Int32 → Int32 → HH → Int32 × HH} {K4 : Int32 → Int32 → HH → Prop} (hk4 : ∀ (x2 : Int32) (x3 : Int32) (h : HH) (H : Heap) (locs : List Loc) (ls : Array Slot) (res : Int32 × HH) (hl : lv_has ls 6 [(0, .ref a), (1, .ref r1), (2, .int x2), (3, .int x3)]) (hW : WH X h H) (hS : va_S (xA X) s.heap H locs) (_ : K4 x2 x3 h) (hres : k4 x2 x3 h = res), W p l e rmX0_listPlacements s m args below meth c H locs 0 0 (MQ below (QI X res.1 res.2) args s 0 0 (xA X)) (F0 m 4 ls [])) {k28 : Int32 → Int32 → Int32 → HH → Int32 × HH} {K28 : Int32 → Int32 → Int32 → HH → Prop} (hk28 : ∀ (x2 : Int32) (x3 : Int32) (x4 : Int32) (h : HH) (H : Heap) (locs : List Loc) (ls : Array Slot) (res : Int32 × HH) (hl : lv_has ls 6 [(0, .ref a), (1, .ref r1), (2, .int x2), (3, .int x3), (4, .int x4)]) (hW : WH X h H) (hS : va_S (xA X) s.heap H locs) (_ : K28 x2 x3 x4 h) (hres : k28 x2 x3 x4 h = res), W p l e rmX0_listPlacements s m args below meth c H locs 0 0 (MQ below (QI X res.1 res.2) args s 0 0 (xA X)) (F0 m 28 ls [])) (x2 : Int32) (x3 : Int32) (x4 : Int32) (h : HH) (H : Heap) (locs : List Loc) (ls : Array Slot) (res : Int32 × HH) (hl : lv_has ls 6 [(0, .ref a), (1, .ref r1), (2, .int x2), (3, .int x3), (4, .int x4)]) (hW : WH X h H) (hS : va_S (xA X) s.heap H locs) (hs : sX0_listPlacements_c57 a r1 K4 K28 x2 x3 x4 h) (hres : fX0_listPlacements_c57 a r1 k4 k28 x2 x3 x4 h = res) : W p l e rmX0_listPlacements s m args below meth c H locs 0 0 (MQ below (QI X res.1 res.2) args s 0 0 (xA X)) (F0 m 57 ls []) := by
  obtain ⟨hx, hb, hr, hlk, hml, hown, hts, hK⟩ := id C0
  refine lv_iconst (v := 0) hx hb dX0_listPlacements_57 (by decide) ?_
  exact xX0_listPlacements_c58 hO hr1 C0 hk4 hk28 x2 x3 x4 0 h _ _ _ _ (lv_sub hl [0, 1, 2, 3, 4] rfl) hW hS hs hres
def fX0_listPlacements_c28 (a : Nat) (r1 : Nat) (k4 : Int32 → Int32 → HH → Int32 × HH) : Nat → Int32 → Int32 → Int32 → HH → Int32 × HH
  | 0, x2, x3, x4, h => (0, h)
  | n + 1, x2, x3, x4, h => if (tLAST_CHOICE x3.toNatClampNeg) < x4 then (fX0_listPlacements_c103 a r1 k4 x2 x3 h) else (if 40 ≤ x2 then (fX0_listPlacements_c57 a r1 k4 (fX0_listPlacements_c28 a r1 k4 n) x2 x3 x4 h) else (if (bI (fX0_isChoice x3 x4)) = 0 then (fX0_listPlacements_c57 a r1 k4 (fX0_listPlacements_c28 a r1 k4 n) x2 x3 x4 h) else (fX0_listPlacements_c58 a r1 k4 (fX0_listPlacements_c28 a r1 k4 n) x2 x3 x4 1 h)))
def sX0_listPlacements_c28 (a : Nat) (r1 : Nat) (K4 : Int32 → Int32 → HH → Prop) : Nat → Int32 → Int32 → Int32 → HH → Prop
  | 0, _, _, _, _ => False
  | n + 1, x2, x3, x4, h => (vp_in x3 12) ∧ (((tLAST_CHOICE x3.toNatClampNeg) < x4 → (sX0_listPlacements_c103 a r1 K4 x2 x3 h)) ∧ (¬ ((tLAST_CHOICE x3.toNatClampNeg) < x4) → ((40 ≤ x2 → (sX0_listPlacements_c57 a r1 K4 (sX0_listPlacements_c28 a r1 K4 n) x2 x3 x4 h)) ∧ (¬ (40 ≤ x2) → ((sX0_isChoice x3 x4) ∧ (((bI (fX0_isChoice x3 x4)) = 0 → (sX0_listPlacements_c57 a r1 K4 (sX0_listPlacements_c28 a r1 K4 n) x2 x3 x4 h)) ∧ (¬ ((bI (fX0_isChoice x3 x4)) = 0) → (sX0_listPlacements_c58 a r1 K4 (sX0_listPlacements_c28 a r1 K4 n) x2 x3 x4 1 h))))))))
set_option maxRecDepth 100000 in
set_option maxHeartbeats 4000000 in
theorem xX0_listPlacements_c28 {p : Program} {l : Launch} {e : Env} {s : State} {m : MethodId} {args : Array Value} {below : List Frame} {meth : Method} {c : Code} {X : Cx} {a : Nat} {r1 : Nat} (hO : IsGm X a) (hr1 : xL X r1 = some (shI X 40)) (C0 : CT p s m args meth c X cX0_listPlacements 6 (some .int) RX0) {k4 : Int32 → Int32 → HH → Int32 × HH} {K4 : Int32 → Int32 → HH → Prop} (hk4 : ∀ (x2 : Int32) (x3 : Int32) (h : HH) (H : Heap) (locs : List Loc) (ls : Array Slot) (res : Int32 × HH) (hl : lv_has ls 6 [(0, .ref a), (1, .ref r1), (2, .int x2), (3, .int x3)]) (hW : WH X h H) (hS : va_S (xA X) s.heap H locs) (_ : K4 x2 x3 h) (hres : k4 x2 x3 h = res), W p l e rmX0_listPlacements s m args below meth c H locs 0 0 (MQ below (QI X res.1 res.2) args s 0 0 (xA X)) (F0 m 4 ls [])) : ∀ (n : Nat) (x2 : Int32) (x3 : Int32) (x4 : Int32) (h : HH) (H : Heap) (locs : List Loc) (ls : Array Slot) (res : Int32 × HH) (hl : lv_has ls 6 [(0, .ref a), (1, .ref r1), (2, .int x2), (3, .int x3), (4, .int x4)]) (hW : WH X h H) (hS : va_S (xA X) s.heap H locs) (hs : sX0_listPlacements_c28 a r1 K4 n x2 x3 x4 h) (hres : fX0_listPlacements_c28 a r1 k4 n x2 x3 x4 h = res), W p l e rmX0_listPlacements s m args below meth c H locs 0 0 (MQ below (QI X res.1 res.2) args s 0 0 (xA X)) (F0 m 28 ls []) := by
  obtain ⟨hx, hb, hr, hlk, hml, hown, hts, hK⟩ := id C0
  intro n
  induction n with
  | zero =>
    intro _ _ _ _ _ _ _ _ _ _ _ hs _
    exact hs.elim
  | succ n ih =>
    intro x2 x3 x4 h H locs ls res hl hW hS hs hres
    refine lv_iload hx hb dX0_listPlacements_28 (lv_at hl 4 rfl) ?_
    refine kb_gets hx hb hK.2.1.2.2.2.1 hS hown dX0_listPlacements_30 ?_
    refine lv_iload_n hx hb dX0_listPlacements_33 rfl (lv_at hl 3 rfl) ?_
    obtain ⟨hi5, hs⟩ := hs
    refine kb_tald hx hb hK.2.1.2.2.2.1 hS (k := x3.toNatClampNeg) rfl hi5 dX0_listPlacements_34 ?_
    refine lv_icmp_gt (tgt := 103) hx hb dX0_listPlacements_35 (by decide) (fun c6 => ?_) (fun c6 => ?_)
    · have hres := (if_pos c6).symm.trans hres
      have hs := And.left hs c6
      exact xX0_listPlacements_c103 hO hr1 C0 hk4 x2 x3 h _ _ _ _ (lv_sub hl [0, 1, 2, 3] rfl) hW hS hs hres
    · have hres := (if_neg c6).symm.trans hres
      have hs := And.right hs c6
      refine lv_iload_n hx hb dX0_listPlacements_38 rfl (lv_at hl 2 rfl) ?_
      refine lv_aload_n hx hb dX0_listPlacements_39 rfl (lv_at hl 1 rfl) ?_
      refine kb_alen (v := 40) hx hb hK hW hr1 (by decide) dX0_listPlacements_40 ?_
      refine lv_icmp_ge (tgt := 57) hx hb dX0_listPlacements_41 (by decide) (fun c7 => ?_) (fun c7 => ?_)
      · have hres := (if_pos c7).symm.trans hres
        have hs := And.left hs c7
        exact xX0_listPlacements_c57 hO hr1 C0 hk4 ih x2 x3 x4 h _ _ _ _ (lv_sub hl [0, 1, 2, 3, 4] rfl) hW hS hs hres
      · have hres := (if_neg c7).symm.trans hres
        have hs := And.right hs c7
        refine lv_iload_n hx hb dX0_listPlacements_44 rfl (lv_at hl 3 rfl) ?_
        refine lv_iload hx hb dX0_listPlacements_45 (lv_at hl 4 rfl) ?_
        obtain ⟨hc13, hs⟩ := hs
        refine kS_i (As := [.int x3, .int x4]) (rest := []) ⟨hx, hb, hml, hown, hts⟩ (kX0_isChoice l X h x3 x4 hc13) (wX0_isChoice hts q2_21 ⟨Nat.le_of_ble_eq_true rfl, Nat.le_of_ble_eq_true rfl⟩) hK hW hS rfl hl.1 rfl (Nat.le_of_ble_eq_true rfl) dX0_listPlacements_47 ⟨Nat.zero_le _, Nat.zero_le _⟩ (fun H locs hW hS => ?_)
        refine lv_if_eq (tgt := 57) hx hb dX0_listPlacements_50 (by decide) (fun c14 => ?_) (fun c14 => ?_)
        · have hres := (if_pos c14).symm.trans hres
          have hs := And.left hs c14
          exact xX0_listPlacements_c57 hO hr1 C0 hk4 ih x2 x3 x4 h _ _ _ _ (lv_sub hl [0, 1, 2, 3, 4] rfl) hW hS hs hres
        · have hres := (if_neg c14).symm.trans hres
          have hs := And.right hs c14
          refine lv_iconst (v := 1) hx hb dX0_listPlacements_53 (by decide) ?_
          refine lv_goto (tgt := 58) hx hb dX0_listPlacements_54 (by decide) ?_
          exact xX0_listPlacements_c58 hO hr1 C0 hk4 ih x2 x3 x4 1 h _ _ _ _ (lv_sub hl [0, 1, 2, 3, 4] rfl) hW hS hs hres
def fX0_listPlacements_c4 (a : Nat) (r1 : Nat) : Nat → Int32 → Int32 → HH → Int32 × HH
  | 0, x2, x3, h => (0, h)
  | n + 1, x2, x3, h => if 12 ≤ x3 then ((x2, h)) else (if (fX0_spaceObstacle a x3 h) = 0 then (fX0_listPlacements_c28 a r1 (fX0_listPlacements_c4 a r1 n) 26 x2 x3 (tFIRST_CHOICE x3.toNatClampNeg) h) else (fX0_listPlacements_c103 a r1 (fX0_listPlacements_c4 a r1 n) x2 x3 h))
def sX0_listPlacements_c4 (a : Nat) (r1 : Nat) : Nat → Int32 → Int32 → HH → Prop
  | 0, _, _, _ => False
  | n + 1, x2, x3, h => (12 ≤ x3 → True) ∧ (¬ (12 ≤ x3) → ((sX0_spaceObstacle a x3 h) ∧ (((fX0_spaceObstacle a x3 h) = 0 → ((vp_in x3 12) ∧ (sX0_listPlacements_c28 a r1 (sX0_listPlacements_c4 a r1 n) 26 x2 x3 (tFIRST_CHOICE x3.toNatClampNeg) h))) ∧ (¬ ((fX0_spaceObstacle a x3 h) = 0) → (sX0_listPlacements_c103 a r1 (sX0_listPlacements_c4 a r1 n) x2 x3 h)))))
set_option maxRecDepth 100000 in
set_option maxHeartbeats 4000000 in
theorem xX0_listPlacements_c4 {p : Program} {l : Launch} {e : Env} {s : State} {m : MethodId} {args : Array Value} {below : List Frame} {meth : Method} {c : Code} {X : Cx} {a : Nat} {r1 : Nat} (hO : IsGm X a) (hr1 : xL X r1 = some (shI X 40)) (C0 : CT p s m args meth c X cX0_listPlacements 6 (some .int) RX0) : ∀ (n : Nat) (x2 : Int32) (x3 : Int32) (h : HH) (H : Heap) (locs : List Loc) (ls : Array Slot) (res : Int32 × HH) (hl : lv_has ls 6 [(0, .ref a), (1, .ref r1), (2, .int x2), (3, .int x3)]) (hW : WH X h H) (hS : va_S (xA X) s.heap H locs) (hs : sX0_listPlacements_c4 a r1 n x2 x3 h) (hres : fX0_listPlacements_c4 a r1 n x2 x3 h = res), W p l e rmX0_listPlacements s m args below meth c H locs 0 0 (MQ below (QI X res.1 res.2) args s 0 0 (xA X)) (F0 m 4 ls []) := by
  obtain ⟨hx, hb, hr, hlk, hml, hown, hts, hK⟩ := id C0
  intro n
  induction n with
  | zero =>
    intro _ _ _ _ _ _ _ _ _ _ hs _
    exact hs.elim
  | succ n ih =>
    intro x2 x3 h H locs ls res hl hW hS hs hres
    refine lv_iload_n hx hb dX0_listPlacements_4 rfl (lv_at hl 3 rfl) ?_
    refine lv_bipush (v := 12) hx hb dX0_listPlacements_5 (by decide) ?_
    refine lv_icmp_ge (tgt := 109) hx hb dX0_listPlacements_7 (by decide) (fun c1 => ?_) (fun c1 => ?_)
    · have hres := (if_pos c1).symm.trans hres
      have hs := And.left hs c1
      refine lv_iload_n hx hb dX0_listPlacements_109 rfl (lv_at hl 2 rfl) ?_
      subst hres
      exact kr_i hx hb hr hlk hK hW hS dX0_listPlacements_110
    · have hres := (if_neg c1).symm.trans hres
      have hs := And.right hs c1
      refine lv_aload_n hx hb dX0_listPlacements_10 rfl (lv_at hl 0 rfl) ?_
      refine lv_iload_n hx hb dX0_listPlacements_11 rfl (lv_at hl 3 rfl) ?_
      obtain ⟨hc2, hs⟩ := hs
      refine kV_i (As := [.int x3]) (rest := []) ⟨hx, hb, hml, hown, hts⟩ (kX0_spaceObstacle l X h a x3 hO hc2) (wX0_spaceObstacle hts q2_7 ⟨Nat.le_of_ble_eq_true rfl, Nat.le_of_ble_eq_true rfl⟩) hK hW hS (va_recv hK.1 (hW.one hO.1) (ci := 0) (q0 := 0) rfl rfl) rfl hl.1 rfl (Nat.le_of_ble_eq_true rfl) dX0_listPlacements_12 ⟨Nat.zero_le _, Nat.zero_le _⟩ (fun H locs hW hS => ?_)
      refine lv_if_eq (tgt := 21) hx hb dX0_listPlacements_15 (by decide) (fun c3 => ?_) (fun c3 => ?_)
      · have hres := (if_pos c3).symm.trans hres
        have hs := And.left hs c3
        refine kb_gets hx hb hK.2.1.2.2.1 hS hown dX0_listPlacements_21 ?_
        refine lv_iload_n hx hb dX0_listPlacements_24 rfl (lv_at hl 3 rfl) ?_
        obtain ⟨hi4, hs⟩ := hs
        refine kb_tald hx hb hK.2.1.2.2.1 hS (k := x3.toNatClampNeg) rfl hi4 dX0_listPlacements_25 ?_
        refine lv_istore (lv' := [(4, .int (tFIRST_CHOICE x3.toNatClampNeg)), (0, .ref a), (1, .ref r1), (2, .int x2), (3, .int x3)]) hx hb dX0_listPlacements_26 hl (by decide) rfl (fun ls hl => ?_)
        exact xX0_listPlacements_c28 hO hr1 C0 ih 26 x2 x3 (tFIRST_CHOICE x3.toNatClampNeg) h _ _ _ _ (lv_sub hl [1, 2, 3, 4, 0] rfl) hW hS hs hres
      · have hres := (if_neg c3).symm.trans hres
        have hs := And.right hs c3
        refine lv_goto (tgt := 103) hx hb dX0_listPlacements_18 (by decide) ?_
        exact xX0_listPlacements_c103 hO hr1 C0 ih x2 x3 h _ _ _ _ (lv_sub hl [0, 1, 2, 3] rfl) hW hS hs hres
def fX0_listPlacements_c0 (a : Nat) (r1 : Nat) (h : HH) : Int32 × HH := fX0_listPlacements_c4 a r1 13 0 0 h
def sX0_listPlacements_c0 (a : Nat) (r1 : Nat) (h : HH) : Prop := sX0_listPlacements_c4 a r1 13 0 0 h
set_option maxRecDepth 100000 in
set_option maxHeartbeats 4000000 in
theorem xX0_listPlacements_c0 {p : Program} {l : Launch} {e : Env} {s : State} {m : MethodId} {args : Array Value} {below : List Frame} {meth : Method} {c : Code} {X : Cx} {a : Nat} {r1 : Nat} (hO : IsGm X a) (hr1 : xL X r1 = some (shI X 40)) (C0 : CT p s m args meth c X cX0_listPlacements 6 (some .int) RX0) (h : HH) (H : Heap) (locs : List Loc) (ls : Array Slot) (res : Int32 × HH) (hl : lv_has ls 6 [(0, .ref a), (1, .ref r1)]) (hW : WH X h H) (hS : va_S (xA X) s.heap H locs) (hs : sX0_listPlacements_c0 a r1 h) (hres : fX0_listPlacements_c0 a r1 h = res) : W p l e rmX0_listPlacements s m args below meth c H locs 0 0 (MQ below (QI X res.1 res.2) args s 0 0 (xA X)) (F0 m 0 ls []) := by
  obtain ⟨hx, hb, hr, hlk, hml, hown, hts, hK⟩ := id C0
  refine lv_iconst (v := 0) hx hb dX0_listPlacements_0 (by decide) ?_
  refine lv_istore_n (lv' := [(2, .int 0), (0, .ref a), (1, .ref r1)]) hx hb dX0_listPlacements_1 rfl hl (by decide) rfl (fun ls hl => ?_)
  refine lv_iconst (v := 0) hx hb dX0_listPlacements_2 (by decide) ?_
  refine lv_istore_n (lv' := [(3, .int 0), (2, .int 0), (0, .ref a), (1, .ref r1)]) hx hb dX0_listPlacements_3 rfl hl (by decide) rfl (fun ls hl => ?_)
  exact xX0_listPlacements_c4 hO hr1 C0 13 0 0 h _ _ _ _ (lv_sub hl [2, 3, 1, 0] rfl) hW hS hs hres
def fX0_listPlacements (a : Nat) (r1 : Nat) (h : HH) : Int32 × HH := fX0_listPlacements_c0 a r1 h
def sX0_listPlacements (a : Nat) (r1 : Nat) (h : HH) : Prop := sX0_listPlacements_c0 a r1 h
set_option maxRecDepth 100000 in
set_option maxHeartbeats 4000000 in
theorem kX0_listPlacements (l : Launch) (X : Cx) (h : HH) (a : Nat) (r1 : Nat) (hO : IsGm X a) (hr1 : xL X r1 = some (shI X 40)) (hs : sX0_listPlacements a r1 h) : Met l yX0_listPlacements vX0_listPlacements rmX0_listPlacements (va_Pc [.ref a, .ref r1] (fun U => WS X h U)) (QI X (fX0_listPlacements a r1 h).1 (fX0_listPlacements a r1 h).2) 0 0 (xA X) := by
  refine Met.ofW (cc := cX0_listPlacements) (maxL := 6) (ret := some .int) (by decide) rfl ?_
  intro p e s m args below meth c s₁ B hml hv
  obtain ⟨rfl, hW, hK⟩ := hv
  have hl := lv_entry ([.ref a, .ref r1]) (n := 6) (Nat.le_of_ble_eq_true rfl)
  rw [lg_entry_eq]
  generalize (lg_sl ([.ref a, .ref r1]) ++ List.replicate (6 - (lg_sl ([.ref a, .ref r1])).length) Slot.unset).toArray = ls at hl ⊢
  have hl : lv_has ls 6 [(0, .ref a), (1, .ref r1)] := hl
  exact xX0_listPlacements_c0 hO hr1 ⟨B.exec, B.bytes, B.returns, B.notSynchronized, hml, findClass_of_methodNamed B.named, fun w hw => atoms_spec (ws := vX0_listPlacements) B.pre w (List.mem_cons_of_mem _ hw), hK⟩ h _ _ ls _ (lv_sub hl [0, 1] rfl) hW va_S.rf hs rfl
-- VillageBoard$Game.rankOf(I)I
abbrev rmX0_rankOf : Room := ({ frames := 4, cells := 0, slots := 0, locals := 88 } : Room)
abbrev vX0_rankOf : List Cond := Cond.code yX0_rankOf cX0_rankOf 4 (some .int) :: lwG
theorem wX0_rankOf {R : Room} {s : State} {args : Array Value} {own : String} {idx : Nat} (hg : ∀ w ∈ lwG, w.before args s = true) (hl : Cond.methodLink own idx yX0_rankOf ∈ lwG) (hR : rmX0_rankOf.frames + 1 ≤ R.frames ∧ 8 + (4 + 11) + rmX0_rankOf.locals ≤ R.locals) : CallW R s args own RX0 idx yX0_rankOf cX0_rankOf 4 (some .int) vX0_rankOf rmX0_rankOf 0 0 1 := cwV 1 hg (gV hl q2_101 q2_102 q1_2 q2_103) rfl rfl rfl (by decide +kernel) hR
def fX0_rankOf_c33 (a : Nat) (k4 : Int32 → Int32 → Int32 → HH → Int32) (x1 : Int32) (x2 : Int32) (x3 : Int32) (h : HH) : Int32 := k4 x1 x2 (x3 + 1) h
def sX0_rankOf_c33 (a : Nat) (K4 : Int32 → Int32 → Int32 → HH → Prop) (x1 : Int32) (x2 : Int32) (x3 : Int32) (h : HH) : Prop := K4 x1 x2 (x3 + 1) h
set_option maxRecDepth 100000 in
set_option maxHeartbeats 4000000 in
theorem xX0_rankOf_c33 {p : Program} {l : Launch} {e : Env} {s : State} {m : MethodId} {args : Array Value} {below : List Frame} {meth : Method} {c : Code} {X : Cx} {a : Nat} (hO : IsGm X a) (C0 : CT p s m args meth c X cX0_rankOf 4 (some .int) RX0) {k4 : Int32 → Int32 → Int32 → HH → Int32} {K4 : Int32 → Int32 → Int32 → HH → Prop} (hk4 : ∀ (x1 : Int32) (x2 : Int32) (x3 : Int32) (h : HH) (H : Heap) (locs : List Loc) (ls : Array Slot) (res : Int32) (hl : lv_has ls 4 [(0, .ref a), (1, .int x1), (2, .int x2), (3, .int x3)]) (hW : WH X h H) (hS : va_S (xA X) s.heap H locs) (_ : K4 x1 x2 x3 h) (hres : k4 x1 x2 x3 h = res), W p l e rmX0_rankOf s m args below meth c H locs 0 0 (MQ below (QI X res h) args s 0 0 (xA X)) (F0 m 4 ls [])) (x1 : Int32) (x2 : Int32) (x3 : Int32) (h : HH) (H : Heap) (locs : List Loc) (ls : Array Slot) (res : Int32) (hl : lv_has ls 4 [(0, .ref a), (1, .int x1), (2, .int x2), (3, .int x3)]) (hW : WH X h H) (hS : va_S (xA X) s.heap H locs) (hs : sX0_rankOf_c33 a K4 x1 x2 x3 h) (hres : fX0_rankOf_c33 a k4 x1 x2 x3 h = res) : W p l e rmX0_rankOf s m args below meth c H locs 0 0 (MQ below (QI X res h) args s 0 0 (xA X)) (F0 m 33 ls []) := by
  obtain ⟨hx, hb, hr, hlk, hml, hown, hts, hK⟩ := id C0
  refine lv_iinc (v := x3 + 1) (lv' := [(3, .int (x3 + 1)), (0, .ref a), (1, .int x1), (2, .int x2)]) hx hb dX0_rankOf_33 hl (k := 3) rfl rfl (by decide) rfl (fun ls hl => ?_)
  refine lv_goto (tgt := 4) hx hb dX0_rankOf_36 (by decide) ?_
  exact hk4 x1 x2 (x3 + 1) h _ _ _ _ (lv_sub hl [1, 2, 3, 0] rfl) hW hS hs hres
def fX0_rankOf_c4 (a : Nat) : Nat → Int32 → Int32 → Int32 → HH → Int32
  | 0, x1, x2, x3, h => 0
  | n + 1, x1, x2, x3, h => if (h a 0) ≤ x3 then x2 else (if (bI (fX2_isAheadOf (a + 7 + 2 * x3.toNatClampNeg) (a + 7 + 2 * x1.toNatClampNeg) h)) = 0 then (fX0_rankOf_c33 a (fX0_rankOf_c4 a n) x1 x2 x3 h) else (fX0_rankOf_c33 a (fX0_rankOf_c4 a n) x1 (x2 + 1) x3 h))
def sX0_rankOf_c4 (a : Nat) : Nat → Int32 → Int32 → Int32 → HH → Prop
  | 0, _, _, _, _ => False
  | n + 1, x1, x2, x3, h => ((h a 0) ≤ x3 → True) ∧ (¬ ((h a 0) ≤ x3) → ((vp_in x3 4) ∧ ((vp_in x1 4) ∧ ((sX2_isAheadOf (a + 7 + 2 * x3.toNatClampNeg) (a + 7 + 2 * x1.toNatClampNeg) h) ∧ (((bI (fX2_isAheadOf (a + 7 + 2 * x3.toNatClampNeg) (a + 7 + 2 * x1.toNatClampNeg) h)) = 0 → (sX0_rankOf_c33 a (sX0_rankOf_c4 a n) x1 x2 x3 h)) ∧ (¬ ((bI (fX2_isAheadOf (a + 7 + 2 * x3.toNatClampNeg) (a + 7 + 2 * x1.toNatClampNeg) h)) = 0) → (sX0_rankOf_c33 a (sX0_rankOf_c4 a n) x1 (x2 + 1) x3 h)))))))
set_option maxRecDepth 100000 in
set_option maxHeartbeats 4000000 in
theorem xX0_rankOf_c4 {p : Program} {l : Launch} {e : Env} {s : State} {m : MethodId} {args : Array Value} {below : List Frame} {meth : Method} {c : Code} {X : Cx} {a : Nat} (hO : IsGm X a) (C0 : CT p s m args meth c X cX0_rankOf 4 (some .int) RX0) : ∀ (n : Nat) (x1 : Int32) (x2 : Int32) (x3 : Int32) (h : HH) (H : Heap) (locs : List Loc) (ls : Array Slot) (res : Int32) (hl : lv_has ls 4 [(0, .ref a), (1, .int x1), (2, .int x2), (3, .int x3)]) (hW : WH X h H) (hS : va_S (xA X) s.heap H locs) (hs : sX0_rankOf_c4 a n x1 x2 x3 h) (hres : fX0_rankOf_c4 a n x1 x2 x3 h = res), W p l e rmX0_rankOf s m args below meth c H locs 0 0 (MQ below (QI X res h) args s 0 0 (xA X)) (F0 m 4 ls []) := by
  obtain ⟨hx, hb, hr, hlk, hml, hown, hts, hK⟩ := id C0
  intro n
  induction n with
  | zero =>
    intro _ _ _ _ _ _ _ _ _ _ _ hs _
    exact hs.elim
  | succ n ih =>
    intro x1 x2 x3 h H locs ls res hl hW hS hs hres
    refine lv_iload_n hx hb dX0_rankOf_4 rfl (lv_at hl 3 rfl) ?_
    refine lv_aload_n hx hb dX0_rankOf_5 rfl (lv_at hl 0 rfl) ?_
    refine g0_0 hx hb hts hown hK hW hO.1 (hts _ q1_83) dX0_rankOf_6 ?_
    refine lv_icmp_ge (tgt := 39) hx hb dX0_rankOf_9 (by decide) (fun c1 => ?_) (fun c1 => ?_)
    · have hres := (if_pos c1).symm.trans hres
      have hs := And.left hs c1
      refine lv_iload_n hx hb dX0_rankOf_39 rfl (lv_at hl 2 rfl) ?_
      subst hres
      exact kr_i hx hb hr hlk hK hW hS dX0_rankOf_40
    · have hres := (if_neg c1).symm.trans hres
      have hs := And.right hs c1
      refine lv_aload_n hx hb dX0_rankOf_12 rfl (lv_at hl 0 rfl) ?_
      refine g0_5 hx hb hts hown hK hW hO.1 (hts _ q1_94) dX0_rankOf_13 ?_
      refine lv_iload_n hx hb dX0_rankOf_16 rfl (lv_at hl 3 rfl) ?_
      obtain ⟨hi2, hs⟩ := hs
      refine kb_aald (j := 1) hx hb hK hW hO.2.1 rfl rfl (k := x3.toNatClampNeg) rfl hi2 rfl dX0_rankOf_17 ?_
      refine lv_aload_n hx hb dX0_rankOf_18 rfl (lv_at hl 0 rfl) ?_
      refine g0_5 hx hb hts hown hK hW hO.1 (hts _ q1_94) dX0_rankOf_19 ?_
      refine lv_iload_n hx hb dX0_rankOf_22 rfl (lv_at hl 1 rfl) ?_
      obtain ⟨hi3, hs⟩ := hs
      refine kb_aald (j := 1) hx hb hK hW hO.2.1 rfl rfl (k := x1.toNatClampNeg) rfl hi3 rfl dX0_rankOf_23 ?_
      obtain ⟨hc4, hs⟩ := hs
      refine kV_i (As := [.ref (a + 7 + 2 * x1.toNatClampNeg)]) (rest := []) ⟨hx, hb, hml, hown, hts⟩ (kX2_isAheadOf l X h (a + 7 + 2 * x3.toNatClampNeg) (a + 7 + 2 * x1.toNatClampNeg) (hO.2.2.2.2.2.2 x3.toNatClampNeg (kin hi2)) (hO.2.2.2.2.2.2 x1.toNatClampNeg (kin hi3)) hc4) (wX2_isAheadOf hts q2_104 ⟨Nat.le_of_ble_eq_true rfl, Nat.le_of_ble_eq_true rfl⟩) hK hW hS (va_recv hK.1 (hW.one (hO.2.2.2.2.2.2 x3.toNatClampNeg (kin hi2)).1) (ci := 2) (q0 := 0) rfl rfl) rfl hl.1 rfl (Nat.le_of_ble_eq_true rfl) dX0_rankOf_24 ⟨Nat.zero_le _, Nat.zero_le _⟩ (fun H locs hW hS => ?_)
      refine lv_if_eq (tgt := 33) hx hb dX0_rankOf_27 (by decide) (fun c5 => ?_) (fun c5 => ?_)
      · have hres := (if_pos c5).symm.trans hres
        have hs := And.left hs c5
        exact xX0_rankOf_c33 hO C0 ih x1 x2 x3 h _ _ _ _ (lv_sub hl [0, 1, 2, 3] rfl) hW hS hs hres
      · have hres := (if_neg c5).symm.trans hres
        have hs := And.right hs c5
        refine lv_iinc (v := x2 + 1) (lv' := [(2, .int (x2 + 1)), (0, .ref a), (1, .int x1), (3, .int x3)]) hx hb dX0_rankOf_30 hl (k := 2) rfl rfl (by decide) rfl (fun ls hl => ?_)
        exact xX0_rankOf_c33 hO C0 ih x1 (x2 + 1) x3 h _ _ _ _ (lv_sub hl [1, 2, 0, 3] rfl) hW hS hs hres
def fX0_rankOf_c0 (a : Nat) (x1 : Int32) (h : HH) : Int32 := fX0_rankOf_c4 a 5 x1 1 0 h
def sX0_rankOf_c0 (a : Nat) (x1 : Int32) (h : HH) : Prop := sX0_rankOf_c4 a 5 x1 1 0 h
set_option maxRecDepth 100000 in
set_option maxHeartbeats 4000000 in
theorem xX0_rankOf_c0 {p : Program} {l : Launch} {e : Env} {s : State} {m : MethodId} {args : Array Value} {below : List Frame} {meth : Method} {c : Code} {X : Cx} {a : Nat} (hO : IsGm X a) (C0 : CT p s m args meth c X cX0_rankOf 4 (some .int) RX0) (x1 : Int32) (h : HH) (H : Heap) (locs : List Loc) (ls : Array Slot) (res : Int32) (hl : lv_has ls 4 [(0, .ref a), (1, .int x1)]) (hW : WH X h H) (hS : va_S (xA X) s.heap H locs) (hs : sX0_rankOf_c0 a x1 h) (hres : fX0_rankOf_c0 a x1 h = res) : W p l e rmX0_rankOf s m args below meth c H locs 0 0 (MQ below (QI X res h) args s 0 0 (xA X)) (F0 m 0 ls []) := by
  obtain ⟨hx, hb, hr, hlk, hml, hown, hts, hK⟩ := id C0
  refine lv_iconst (v := 1) hx hb dX0_rankOf_0 (by decide) ?_
  refine lv_istore_n (lv' := [(2, .int 1), (0, .ref a), (1, .int x1)]) hx hb dX0_rankOf_1 rfl hl (by decide) rfl (fun ls hl => ?_)
  refine lv_iconst (v := 0) hx hb dX0_rankOf_2 (by decide) ?_
  refine lv_istore_n (lv' := [(3, .int 0), (2, .int 1), (0, .ref a), (1, .int x1)]) hx hb dX0_rankOf_3 rfl hl (by decide) rfl (fun ls hl => ?_)
  exact xX0_rankOf_c4 hO C0 5 x1 1 0 h _ _ _ _ (lv_sub hl [2, 3, 1, 0] rfl) hW hS hs hres
def fX0_rankOf (a : Nat) (x1 : Int32) (h : HH) : Int32 := fX0_rankOf_c0 a x1 h
def sX0_rankOf (a : Nat) (x1 : Int32) (h : HH) : Prop := sX0_rankOf_c0 a x1 h
set_option maxRecDepth 100000 in
set_option maxHeartbeats 4000000 in
theorem kX0_rankOf (l : Launch) (X : Cx) (h : HH) (a : Nat) (x1 : Int32) (hO : IsGm X a) (hs : sX0_rankOf a x1 h) : Met l yX0_rankOf vX0_rankOf rmX0_rankOf (va_Pc [.ref a, .int x1] (fun U => WS X h U)) (QI X (fX0_rankOf a x1 h) h) 0 0 (xA X) := by
  refine Met.ofW (cc := cX0_rankOf) (maxL := 4) (ret := some .int) (by decide) rfl ?_
  intro p e s m args below meth c s₁ B hml hv
  obtain ⟨rfl, hW, hK⟩ := hv
  have hl := lv_entry ([.ref a, .int x1]) (n := 4) (Nat.le_of_ble_eq_true rfl)
  rw [lg_entry_eq]
  generalize (lg_sl ([.ref a, .int x1]) ++ List.replicate (4 - (lg_sl ([.ref a, .int x1])).length) Slot.unset).toArray = ls at hl ⊢
  have hl : lv_has ls 4 [(0, .ref a), (1, .int x1)] := hl
  exact xX0_rankOf_c0 hO ⟨B.exec, B.bytes, B.returns, B.notSynchronized, hml, findClass_of_methodNamed B.named, fun w hw => atoms_spec (ws := vX0_rankOf) B.pre w (List.mem_cons_of_mem _ hw), hK⟩ x1 h _ _ ls _ (lv_sub hl [0, 1] rfl) hW va_S.rf hs rfl
-- VillageBoard$Game.spacePart(II)I
abbrev rmX0_spacePart : Room := ({ frames := 0, cells := 0, slots := 0, locals := 0 } : Room)
abbrev vX0_spacePart : List Cond := Cond.code yX0_spacePart cX0_spacePart 3 (some .int) :: lwG
theorem wX0_spacePart {R : Room} {s : State} {args : Array Value} {own : String} {idx : Nat} (hg : ∀ w ∈ lwG, w.before args s = true) (hl : Cond.methodLink own idx yX0_spacePart ∈ lwG) (hR : rmX0_spacePart.frames + 1 ≤ R.frames ∧ 8 + (3 + 11) + rmX0_spacePart.locals ≤ R.locals) : CallW R s args own RX0 idx yX0_spacePart cX0_spacePart 3 (some .int) vX0_spacePart rmX0_spacePart 0 0 2 := cwV 2 hg (gV hl q2_114 q2_115 q1_2 q2_116) rfl rfl rfl (by decide +kernel) hR
def fX0_spacePart_c0 (a : Nat) (x1 : Int32) (x2 : Int32) (h : HH) : Int32 := if x2 = 0 then (h (a + 2) x1.toNatClampNeg) else (if x2 = 1 then (h (a + 3) x1.toNatClampNeg) else (if x2 = 2 then (tPLACES x1.toNatClampNeg) else (h (a + 4) x1.toNatClampNeg)))
def sX0_spacePart_c0 (a : Nat) (x1 : Int32) (x2 : Int32) (h : HH) : Prop := (x2 = 0 → (vp_in x1 12)) ∧ (¬ (x2 = 0) → ((x2 = 1 → (vp_in x1 12)) ∧ (¬ (x2 = 1) → ((x2 = 2 → (vp_in x1 12)) ∧ (¬ (x2 = 2) → (vp_in x1 12))))))
set_option maxRecDepth 100000 in
set_option maxHeartbeats 4000000 in
theorem xX0_spacePart_c0 {p : Program} {l : Launch} {e : Env} {s : State} {m : MethodId} {args : Array Value} {below : List Frame} {meth : Method} {c : Code} {X : Cx} {a : Nat} (hO : IsGm X a) (C0 : CT p s m args meth c X cX0_spacePart 3 (some .int) RX0) (x1 : Int32) (x2 : Int32) (h : HH) (H : Heap) (locs : List Loc) (ls : Array Slot) (res : Int32) (hl : lv_has ls 3 [(0, .ref a), (1, .int x1), (2, .int x2)]) (hW : WH X h H) (hS : va_S (xA X) s.heap H locs) (hs : sX0_spacePart_c0 a x1 x2 h) (hres : fX0_spacePart_c0 a x1 x2 h = res) : W p l e rmX0_spacePart s m args below meth c H locs 0 0 (MQ below (QI X res h) args s 0 0 (xA X)) (F0 m 0 ls []) := by
  obtain ⟨hx, hb, hr, hlk, hml, hown, hts, hK⟩ := id C0
  refine lv_iload_n hx hb dX0_spacePart_0 rfl (lv_at hl 2 rfl) ?_
  by_cases c1 : x2 = 0
  · have hres := (if_pos c1).symm.trans hres
    have hs := And.left hs c1
    refine ksw_in (tgt := 28) hx hb 0 c1 dX0_spacePart_1 (by decide) (by decide) rfl (by decide) ?_
    refine lv_aload_n hx hb dX0_spacePart_28 rfl (lv_at hl 0 rfl) ?_
    refine g0_6 hx hb hts hown hK hW hO.1 (hts _ q1_97) dX0_spacePart_29 ?_
    refine lv_iload_n hx hb dX0_spacePart_32 rfl (lv_at hl 1 rfl) ?_
    have hi2 := hs
    refine kb_iald hx hb hK hW hO.2.2.1 (k := x1.toNatClampNeg) rfl hi2 dX0_spacePart_33 ?_
    subst hres
    exact kr_i hx hb hr hlk hK hW hS dX0_spacePart_34
  · have hres := (if_neg c1).symm.trans hres
    have hs := And.right hs c1
    by_cases c3 : x2 = 1
    · have hres := (if_pos c3).symm.trans hres
      have hs := And.left hs c3
      refine ksw_in (tgt := 35) hx hb 1 c3 dX0_spacePart_1 (by decide) (by decide) rfl (by decide) ?_
      refine lv_aload_n hx hb dX0_spacePart_35 rfl (lv_at hl 0 rfl) ?_
      refine g0_7 hx hb hts hown hK hW hO.1 (hts _ q1_98) dX0_spacePart_36 ?_
      refine lv_iload_n hx hb dX0_spacePart_39 rfl (lv_at hl 1 rfl) ?_
      have hi4 := hs
      refine kb_iald hx hb hK hW hO.2.2.2.1 (k := x1.toNatClampNeg) rfl hi4 dX0_spacePart_40 ?_
      subst hres
      exact kr_i hx hb hr hlk hK hW hS dX0_spacePart_41
    · have hres := (if_neg c3).symm.trans hres
      have hs := And.right hs c3
      by_cases c5 : x2 = 2
      · have hres := (if_pos c5).symm.trans hres
        have hs := And.left hs c5
        refine ksw_in (tgt := 42) hx hb 2 c5 dX0_spacePart_1 (by decide) (by decide) rfl (by decide) ?_
        refine kb_gets hx hb hK.2.1.2.1 hS hown dX0_spacePart_42 ?_
        refine lv_iload_n hx hb dX0_spacePart_45 rfl (lv_at hl 1 rfl) ?_
        have hi6 := hs
        refine kb_tald hx hb hK.2.1.2.1 hS (k := x1.toNatClampNeg) rfl hi6 dX0_spacePart_46 ?_
        subst hres
        exact kr_i hx hb hr hlk hK hW hS dX0_spacePart_47
      · have hres := (if_neg c5).symm.trans hres
        have hs := And.right hs c5
        refine lv_tableOut (tgt := 48) hx hb dX0_spacePart_1 (by have := lv_neT (a := 0) c1 (by decide); have := lv_neT (a := 1) c3 (by decide); have := lv_neT (a := 2) c5 (by decide); omega) (by decide) ?_
        refine lv_aload_n hx hb dX0_spacePart_48 rfl (lv_at hl 0 rfl) ?_
        refine g0_8 hx hb hts hown hK hW hO.1 (hts _ q1_100) dX0_spacePart_49 ?_
        refine lv_iload_n hx hb dX0_spacePart_52 rfl (lv_at hl 1 rfl) ?_
        have hi7 := hs
        refine kb_iald hx hb hK hW hO.2.2.2.2.1 (k := x1.toNatClampNeg) rfl hi7 dX0_spacePart_53 ?_
        subst hres
        exact kr_i hx hb hr hlk hK hW hS dX0_spacePart_54
def fX0_spacePart (a : Nat) (x1 : Int32) (x2 : Int32) (h : HH) : Int32 := fX0_spacePart_c0 a x1 x2 h
def sX0_spacePart (a : Nat) (x1 : Int32) (x2 : Int32) (h : HH) : Prop := sX0_spacePart_c0 a x1 x2 h
set_option maxRecDepth 100000 in
set_option maxHeartbeats 4000000 in
theorem kX0_spacePart (l : Launch) (X : Cx) (h : HH) (a : Nat) (x1 : Int32) (x2 : Int32) (hO : IsGm X a) (hs : sX0_spacePart a x1 x2 h) : Met l yX0_spacePart vX0_spacePart rmX0_spacePart (va_Pc [.ref a, .int x1, .int x2] (fun U => WS X h U)) (QI X (fX0_spacePart a x1 x2 h) h) 0 0 (xA X) := by
  refine Met.ofW (cc := cX0_spacePart) (maxL := 3) (ret := some .int) (by decide) rfl ?_
  intro p e s m args below meth c s₁ B hml hv
  obtain ⟨rfl, hW, hK⟩ := hv
  have hl := lv_entry ([.ref a, .int x1, .int x2]) (n := 3) (Nat.le_of_ble_eq_true rfl)
  rw [lg_entry_eq]
  generalize (lg_sl ([.ref a, .int x1, .int x2]) ++ List.replicate (3 - (lg_sl ([.ref a, .int x1, .int x2])).length) Slot.unset).toArray = ls at hl ⊢
  have hl : lv_has ls 3 [(0, .ref a), (1, .int x1), (2, .int x2)] := hl
  exact xX0_spacePart_c0 hO ⟨B.exec, B.bytes, B.returns, B.notSynchronized, hml, findClass_of_methodNamed B.named, fun w hw => atoms_spec (ws := vX0_spacePart) B.pre w (List.mem_cons_of_mem _ hw), hK⟩ x1 x2 h _ _ ls _ (lv_sub hl [0, 1, 2] rfl) hW va_S.rf hs rfl
