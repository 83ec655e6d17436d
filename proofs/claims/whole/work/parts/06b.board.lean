-- VillageBoard.newGame(II)I
abbrev rmX5_newGame : Room := ({ frames := 7, cells := 3, slots := 18, locals := 124 } : Room)
abbrev vX5_newGame : List Cond := Cond.code yX5_newGame cX5_newGame 4 (some .int) :: lwG
theorem wX5_newGame {R : Room} {s : State} {args : Array Value} {own : String} {idx : Nat} (hg : ∀ w ∈ lwG, w.before args s = true) (hl : Cond.methodLink own idx yX5_newGame ∈ lwG) (hR : rmX5_newGame.frames + 1 ≤ R.frames ∧ 8 + (4 + 11) + rmX5_newGame.locals ≤ R.locals) : CallW R s args own RX5 idx yX5_newGame cX5_newGame 4 (some .int) vX5_newGame rmX5_newGame 3 18 2 := cwV 2 hg (gV hl q2_209 q2_210 q1_1 q2_211) rfl rfl rfl (by decide +kernel) hR
def fX5_newGame_c52 (a : Nat) (x1 : Int32) (x2 : Int32) (h : HH) : Nat × Int32 × HH := (0, (h (a + 1) 2) - 1, fX0_begin (a + 1) x1 x2 h)
def sX5_newGame_c52 (a : Nat) (x1 : Int32) (x2 : Int32) (h : HH) : Prop := sX0_begin (a + 1) x1 x2 h
set_option maxRecDepth 100000 in
set_option maxHeartbeats 4000000 in
theorem xX5_newGame_c52 {p : Program} {l : Launch} {e : Env} {s : State} {m : MethodId} {args : Array Value} {below : List Frame} {meth : Method} {c : Code} {X : Cx} {a : Nat} (hO : IsBd X a) (hst : l.stackTraces = false) (hout : ∀ x ∈ c.exceptionTable.toList, False) (C0 : CT p s m args meth c X cX5_newGame 4 (some .int) RX5) (x1 : Int32) (x2 : Int32) (h : HH) (H : Heap) (locs : List Loc) (ls : Array Slot) (res : Nat × Int32 × HH) (hl : lv_has ls 4 [(0, .ref a), (1, .int x1), (2, .int x2)]) (hW : WH X h H) (hS : va_S (xA X) s.heap H locs) (hs : sX5_newGame_c52 a x1 x2 h) (hres : fX5_newGame_c52 a x1 x2 h = res) : W p l e rmX5_newGame s m args below meth c H locs 2 12 (vx_MQ below (QXi X res) (XXi X res) args s 3 18 (xA X)) (F0 m 52 ls [.ref (a + 1)]) := by
  obtain ⟨hx, hb, hr, hlk, hml, hown, hts, hK⟩ := id C0
  refine g0_2 hx hb hts hown hK hW hO.2.1.1 (hts _ q1_88) dX5_newGame_52 ?_
  refine lv_iconst (v := 1) hx hb dX5_newGame_55 (by decide) ?_
  refine lv_isub hx hb dX5_newGame_56 ?_
  refine lv_istore_n (lv' := [(3, .int ((h (a + 1) 2) - 1)), (0, .ref a), (1, .int x1), (2, .int x2)]) hx hb dX5_newGame_57 rfl hl (by decide) rfl (fun ls hl => ?_)
  refine lv_aload_n hx hb dX5_newGame_58 rfl (lv_at hl 1 rfl) ?_
  refine g5_0 hx hb hts hown hK hW hO.1 (hts _ q1_210) dX5_newGame_59 ?_
  refine lv_iload_n hx hb dX5_newGame_62 rfl (lv_at hl 2 rfl) ?_
  refine lv_iload_n hx hb dX5_newGame_63 rfl (lv_at hl 3 rfl) ?_
  have hc6 := hs
  refine kV_v (As := [.int x1, .int x2]) (rest := []) ⟨hx, hb, hml, hown, hts⟩ (kX0_begin l X h (a + 1) x1 x2 hO.2.1 hc6) (wX0_begin hts q1_184 ⟨Nat.le_of_ble_eq_true rfl, Nat.le_of_ble_eq_true rfl⟩) hK hW hS (va_recv hK.1 (hW.one hO.2.1.1) (ci := 0) (q0 := 0) rfl rfl) rfl hl.1 rfl (Nat.le_of_ble_eq_true rfl) dX5_newGame_64 ⟨Nat.le_of_ble_eq_true rfl, Nat.le_of_ble_eq_true rfl⟩ (fun H locs hW hS => ?_)
  refine lv_iload_n hx hb dX5_newGame_67 rfl (lv_at hl 0 rfl) ?_
  subst hres
  exact kxr_i hx hb hr hlk hK hW hS dX5_newGame_68 (Nat.le_of_ble_eq_true rfl) (Nat.le_of_ble_eq_true rfl)
def fX5_newGame_c34 (a : Nat) (x1 : Int32) (x2 : Int32) (xs0 : Int32) (h : HH) : Nat × Int32 × HH := if fX5_requireArgument xs0 = 0 then (fX5_newGame_c52 a x1 x2 (fX4_push (a + 16) (a + 1) h)) else (fX5_requireArgument xs0, 0, h)
def sX5_newGame_c34 (a : Nat) (x1 : Int32) (x2 : Int32) (xs0 : Int32) (h : HH) : Prop := (fX5_requireArgument xs0 = 0 → ((sX4_push (a + 16) (a + 1) h) ∧ (sX5_newGame_c52 a x1 x2 (fX4_push (a + 16) (a + 1) h))))
set_option maxRecDepth 100000 in
set_option maxHeartbeats 4000000 in
theorem xX5_newGame_c34 {p : Program} {l : Launch} {e : Env} {s : State} {m : MethodId} {args : Array Value} {below : List Frame} {meth : Method} {c : Code} {X : Cx} {a : Nat} (hO : IsBd X a) (hst : l.stackTraces = false) (hout : ∀ x ∈ c.exceptionTable.toList, False) (C0 : CT p s m args meth c X cX5_newGame 4 (some .int) RX5) (x1 : Int32) (x2 : Int32) (xs0 : Int32) (h : HH) (H : Heap) (locs : List Loc) (ls : Array Slot) (res : Nat × Int32 × HH) (hl : lv_has ls 4 [(0, .ref a), (1, .int x1), (2, .int x2)]) (hW : WH X h H) (hS : va_S (xA X) s.heap H locs) (hs : sX5_newGame_c34 a x1 x2 xs0 h) (hres : fX5_newGame_c34 a x1 x2 xs0 h = res) : W p l e rmX5_newGame s m args below meth c H locs 1 6 (vx_MQ below (QXi X res) (XXi X res) args s 3 18 (xA X)) (F0 m 34 ls [.int xs0]) := by
  obtain ⟨hx, hb, hr, hlk, hml, hown, hts, hK⟩ := id C0
  refine kxS (As := [.int xs0]) (rest := []) ⟨hx, hb, hml, hown, hts⟩ (kX5_requireArgument l hst X h xs0) (wX5_requireArgument hts q2_212 ⟨Nat.le_of_ble_eq_true rfl, Nat.le_of_ble_eq_true rfl⟩) hK hW hS rfl hl.1 rfl (Nat.le_of_ble_eq_true rfl) dX5_newGame_34 ⟨Nat.le_of_ble_eq_true rfl, Nat.le_of_ble_eq_true rfl⟩ hlk hout (Nat.le_of_ble_eq_true rfl) (Nat.le_of_ble_eq_true rfl) (xh_i (fun c4 => (if_neg c4).symm.trans hres)) (fun c4 H locs hW hS => ?_)
  have hres := (if_pos c4).symm.trans hres
  have hs := hs c4
  refine lv_aload_n hx hb dX5_newGame_37 rfl (lv_at hl 0 rfl) ?_
  refine g5_1 hx hb hts hown hK hW hO.1 (hts _ q1_211) dX5_newGame_38 ?_
  refine lv_aload_n hx hb dX5_newGame_41 rfl (lv_at hl 0 rfl) ?_
  refine g5_0 hx hb hts hown hK hW hO.1 (hts _ q1_210) dX5_newGame_42 ?_
  obtain ⟨hc5, hs⟩ := hs
  refine kV_v (As := [.ref (a + 1)]) (rest := []) ⟨hx, hb, hml, hown, hts⟩ (kX4_push l X h (a + 16) (a + 1) hO.2.2.1 hO.2.1 hc5) (wX4_push hts q3_43 ⟨Nat.le_of_ble_eq_true rfl, Nat.le_of_ble_eq_true rfl⟩) hK hW hS (va_recv hK.1 (hW.one hO.2.2.1.1) (ci := 4) (q0 := 0) rfl rfl) rfl hl.1 rfl (Nat.le_of_ble_eq_true rfl) dX5_newGame_45 ⟨Nat.le_of_ble_eq_true rfl, Nat.le_of_ble_eq_true rfl⟩ (fun H locs hW hS => ?_)
  refine lv_aload_n hx hb dX5_newGame_48 rfl (lv_at hl 0 rfl) ?_
  refine g5_0 hx hb hts hown hK hW hO.1 (hts _ q1_210) dX5_newGame_49 ?_
  exact xX5_newGame_c52 hO hst hout C0 x1 x2 (fX4_push (a + 16) (a + 1) h) _ _ _ _ (lv_sub hl [0, 1, 2] rfl) hW hS hs hres
def fX5_newGame_c33 (a : Nat) (x1 : Int32) (x2 : Int32) (h : HH) : Nat × Int32 × HH := fX5_newGame_c34 a x1 x2 0 h
def sX5_newGame_c33 (a : Nat) (x1 : Int32) (x2 : Int32) (h : HH) : Prop := sX5_newGame_c34 a x1 x2 0 h
set_option maxRecDepth 100000 in
set_option maxHeartbeats 4000000 in
theorem xX5_newGame_c33 {p : Program} {l : Launch} {e : Env} {s : State} {m : MethodId} {args : Array Value} {below : List Frame} {meth : Method} {c : Code} {X : Cx} {a : Nat} (hO : IsBd X a) (hst : l.stackTraces = false) (hout : ∀ x ∈ c.exceptionTable.toList, False) (C0 : CT p s m args meth c X cX5_newGame 4 (some .int) RX5) (x1 : Int32) (x2 : Int32) (h : HH) (H : Heap) (locs : List Loc) (ls : Array Slot) (res : Nat × Int32 × HH) (hl : lv_has ls 4 [(0, .ref a), (1, .int x1), (2, .int x2)]) (hW : WH X h H) (hS : va_S (xA X) s.heap H locs) (hs : sX5_newGame_c33 a x1 x2 h) (hres : fX5_newGame_c33 a x1 x2 h = res) : W p l e rmX5_newGame s m args below meth c H locs 1 6 (vx_MQ below (QXi X res) (XXi X res) args s 3 18 (xA X)) (F0 m 33 ls []) := by
  obtain ⟨hx, hb, hr, hlk, hml, hown, hts, hK⟩ := id C0
  refine lv_iconst (v := 0) hx hb dX5_newGame_33 (by decide) ?_
  exact xX5_newGame_c34 hO hst hout C0 x1 x2 0 h _ _ _ _ (lv_sub hl [0, 1, 2] rfl) hW hS hs hres
def fX5_newGame_c15 (a : Nat) (x1 : Int32) (x2 : Int32) (xs0 : Int32) (h : HH) : Nat × Int32 × HH := if fX5_requireArgument xs0 = 0 then (if x2 < 1 then (fX5_newGame_c33 a x1 x2 h) else (if 12 < x2 then (fX5_newGame_c33 a x1 x2 h) else (fX5_newGame_c34 a x1 x2 1 h))) else (fX5_requireArgument xs0, 0, h)
def sX5_newGame_c15 (a : Nat) (x1 : Int32) (x2 : Int32) (xs0 : Int32) (h : HH) : Prop := (fX5_requireArgument xs0 = 0 → ((x2 < 1 → (sX5_newGame_c33 a x1 x2 h)) ∧ (¬ (x2 < 1) → ((12 < x2 → (sX5_newGame_c33 a x1 x2 h)) ∧ (¬ (12 < x2) → (sX5_newGame_c34 a x1 x2 1 h))))))
set_option maxRecDepth 100000 in
set_option maxHeartbeats 4000000 in
theorem xX5_newGame_c15 {p : Program} {l : Launch} {e : Env} {s : State} {m : MethodId} {args : Array Value} {below : List Frame} {meth : Method} {c : Code} {X : Cx} {a : Nat} (hO : IsBd X a) (hst : l.stackTraces = false) (hout : ∀ x ∈ c.exceptionTable.toList, False) (C0 : CT p s m args meth c X cX5_newGame 4 (some .int) RX5) (x1 : Int32) (x2 : Int32) (xs0 : Int32) (h : HH) (H : Heap) (locs : List Loc) (ls : Array Slot) (res : Nat × Int32 × HH) (hl : lv_has ls 4 [(0, .ref a), (1, .int x1), (2, .int x2)]) (hW : WH X h H) (hS : va_S (xA X) s.heap H locs) (hs : sX5_newGame_c15 a x1 x2 xs0 h) (hres : fX5_newGame_c15 a x1 x2 xs0 h = res) : W p l e rmX5_newGame s m args below meth c H locs 0 0 (vx_MQ below (QXi X res) (XXi X res) args s 3 18 (xA X)) (F0 m 15 ls [.int xs0]) := by
  obtain ⟨hx, hb, hr, hlk, hml, hown, hts, hK⟩ := id C0
  refine kxS (As := [.int xs0]) (rest := []) ⟨hx, hb, hml, hown, hts⟩ (kX5_requireArgument l hst X h xs0) (wX5_requireArgument hts q2_212 ⟨Nat.le_of_ble_eq_true rfl, Nat.le_of_ble_eq_true rfl⟩) hK hW hS rfl hl.1 rfl (Nat.le_of_ble_eq_true rfl) dX5_newGame_15 ⟨Nat.le_of_ble_eq_true rfl, Nat.le_of_ble_eq_true rfl⟩ hlk hout (Nat.le_of_ble_eq_true rfl) (Nat.le_of_ble_eq_true rfl) (xh_i (fun c2 => (if_neg c2).symm.trans hres)) (fun c2 H locs hW hS => ?_)
  have hres := (if_pos c2).symm.trans hres
  have hs := hs c2
  refine lv_iload_n hx hb dX5_newGame_18 rfl (lv_at hl 2 rfl) ?_
  refine lv_iconst (v := 1) hx hb dX5_newGame_19 (by decide) ?_
  refine lv_icmp_lt (tgt := 33) hx hb dX5_newGame_20 (by decide) (fun c3 => ?_) (fun c3 => ?_)
  · have hres := (if_pos c3).symm.trans hres
    have hs := And.left hs c3
    exact xX5_newGame_c33 hO hst hout C0 x1 x2 h _ _ _ _ (lv_sub hl [0, 1, 2] rfl) hW hS hs hres
  · have hres := (if_neg c3).symm.trans hres
    have hs := And.right hs c3
    refine lv_iload_n hx hb dX5_newGame_23 rfl (lv_at hl 2 rfl) ?_
    refine lv_bipush (v := 12) hx hb dX5_newGame_24 (by decide) ?_
    refine lv_icmp_gt (tgt := 33) hx hb dX5_newGame_26 (by decide) (fun c7 => ?_) (fun c7 => ?_)
    · have hres := (if_pos c7).symm.trans hres
      have hs := And.left hs c7
      exact xX5_newGame_c33 hO hst hout C0 x1 x2 h _ _ _ _ (lv_sub hl [0, 1, 2] rfl) hW hS hs hres
    · have hres := (if_neg c7).symm.trans hres
      have hs := And.right hs c7
      refine lv_iconst (v := 1) hx hb dX5_newGame_29 (by decide) ?_
      refine lv_goto (tgt := 34) hx hb dX5_newGame_30 (by decide) ?_
      exact xX5_newGame_c34 hO hst hout C0 x1 x2 1 h _ _ _ _ (lv_sub hl [0, 1, 2] rfl) hW hS hs hres
def fX5_newGame_c14 (a : Nat) (x1 : Int32) (x2 : Int32) (h : HH) : Nat × Int32 × HH := fX5_newGame_c15 a x1 x2 0 h
def sX5_newGame_c14 (a : Nat) (x1 : Int32) (x2 : Int32) (h : HH) : Prop := sX5_newGame_c15 a x1 x2 0 h
set_option maxRecDepth 100000 in
set_option maxHeartbeats 4000000 in
theorem xX5_newGame_c14 {p : Program} {l : Launch} {e : Env} {s : State} {m : MethodId} {args : Array Value} {below : List Frame} {meth : Method} {c : Code} {X : Cx} {a : Nat} (hO : IsBd X a) (hst : l.stackTraces = false) (hout : ∀ x ∈ c.exceptionTable.toList, False) (C0 : CT p s m args meth c X cX5_newGame 4 (some .int) RX5) (x1 : Int32) (x2 : Int32) (h : HH) (H : Heap) (locs : List Loc) (ls : Array Slot) (res : Nat × Int32 × HH) (hl : lv_has ls 4 [(0, .ref a), (1, .int x1), (2, .int x2)]) (hW : WH X h H) (hS : va_S (xA X) s.heap H locs) (hs : sX5_newGame_c14 a x1 x2 h) (hres : fX5_newGame_c14 a x1 x2 h = res) : W p l e rmX5_newGame s m args below meth c H locs 0 0 (vx_MQ below (QXi X res) (XXi X res) args s 3 18 (xA X)) (F0 m 14 ls []) := by
  obtain ⟨hx, hb, hr, hlk, hml, hown, hts, hK⟩ := id C0
  refine lv_iconst (v := 0) hx hb dX5_newGame_14 (by decide) ?_
  exact xX5_newGame_c15 hO hst hout C0 x1 x2 0 h _ _ _ _ (lv_sub hl [0, 1, 2] rfl) hW hS hs hres
def fX5_newGame_c0 (a : Nat) (x1 : Int32) (x2 : Int32) (h : HH) : Nat × Int32 × HH := if x1 < 2 then (fX5_newGame_c14 a x1 x2 h) else (if 4 < x1 then (fX5_newGame_c14 a x1 x2 h) else (fX5_newGame_c15 a x1 x2 1 h))
def sX5_newGame_c0 (a : Nat) (x1 : Int32) (x2 : Int32) (h : HH) : Prop := (x1 < 2 → (sX5_newGame_c14 a x1 x2 h)) ∧ (¬ (x1 < 2) → ((4 < x1 → (sX5_newGame_c14 a x1 x2 h)) ∧ (¬ (4 < x1) → (sX5_newGame_c15 a x1 x2 1 h))))
set_option maxRecDepth 100000 in
set_option maxHeartbeats 4000000 in
theorem xX5_newGame_c0 {p : Program} {l : Launch} {e : Env} {s : State} {m : MethodId} {args : Array Value} {below : List Frame} {meth : Method} {c : Code} {X : Cx} {a : Nat} (hO : IsBd X a) (hst : l.stackTraces = false) (hout : ∀ x ∈ c.exceptionTable.toList, False) (C0 : CT p s m args meth c X cX5_newGame 4 (some .int) RX5) (x1 : Int32) (x2 : Int32) (h : HH) (H : Heap) (locs : List Loc) (ls : Array Slot) (res : Nat × Int32 × HH) (hl : lv_has ls 4 [(0, .ref a), (1, .int x1), (2, .int x2)]) (hW : WH X h H) (hS : va_S (xA X) s.heap H locs) (hs : sX5_newGame_c0 a x1 x2 h) (hres : fX5_newGame_c0 a x1 x2 h = res) : W p l e rmX5_newGame s m args below meth c H locs 0 0 (vx_MQ below (QXi X res) (XXi X res) args s 3 18 (xA X)) (F0 m 0 ls []) := by
  obtain ⟨hx, hb, hr, hlk, hml, hown, hts, hK⟩ := id C0
  refine lv_iload_n hx hb dX5_newGame_0 rfl (lv_at hl 1 rfl) ?_
  refine lv_iconst (v := 2) hx hb dX5_newGame_1 (by decide) ?_
  refine lv_icmp_lt (tgt := 14) hx hb dX5_newGame_2 (by decide) (fun c1 => ?_) (fun c1 => ?_)
  · have hres := (if_pos c1).symm.trans hres
    have hs := And.left hs c1
    exact xX5_newGame_c14 hO hst hout C0 x1 x2 h _ _ _ _ (lv_sub hl [0, 1, 2] rfl) hW hS hs hres
  · have hres := (if_neg c1).symm.trans hres
    have hs := And.right hs c1
    refine lv_iload_n hx hb dX5_newGame_5 rfl (lv_at hl 1 rfl) ?_
    refine lv_iconst (v := 4) hx hb dX5_newGame_6 (by decide) ?_
    refine lv_icmp_gt (tgt := 14) hx hb dX5_newGame_7 (by decide) (fun c8 => ?_) (fun c8 => ?_)
    · have hres := (if_pos c8).symm.trans hres
      have hs := And.left hs c8
      exact xX5_newGame_c14 hO hst hout C0 x1 x2 h _ _ _ _ (lv_sub hl [0, 1, 2] rfl) hW hS hs hres
    · have hres := (if_neg c8).symm.trans hres
      have hs := And.right hs c8
      refine lv_iconst (v := 1) hx hb dX5_newGame_10 (by decide) ?_
      refine lv_goto (tgt := 15) hx hb dX5_newGame_11 (by decide) ?_
      exact xX5_newGame_c15 hO hst hout C0 x1 x2 1 h _ _ _ _ (lv_sub hl [0, 1, 2] rfl) hW hS hs hres
def fX5_newGame (a : Nat) (x1 : Int32) (x2 : Int32) (h : HH) : Nat × Int32 × HH := fX5_newGame_c0 a x1 x2 h
def sX5_newGame (a : Nat) (x1 : Int32) (x2 : Int32) (h : HH) : Prop := sX5_newGame_c0 a x1 x2 h
set_option maxRecDepth 100000 in
set_option maxHeartbeats 4000000 in
theorem kX5_newGame (l : Launch) (hst : l.stackTraces = false) (X : Cx) (h : HH) (a : Nat) (x1 : Int32) (x2 : Int32) (hO : IsBd X a) (hs : sX5_newGame a x1 x2 h) : vx_Met l yX5_newGame vX5_newGame rmX5_newGame (va_Pc [.ref a, .int x1, .int x2] (fun U => WS X h U)) (QXi X (fX5_newGame a x1 x2 h)) (XXi X (fX5_newGame a x1 x2 h)) 3 18 (xA X) := by
  refine vx_ofW (cc := cX5_newGame) (maxL := 4) (ret := some .int) (by decide) rfl ?_
  intro p e s m args below meth c s₁ B hml hout hv
  obtain ⟨rfl, hW, hK⟩ := hv
  have hl := lv_entry ([.ref a, .int x1, .int x2]) (n := 4) (Nat.le_of_ble_eq_true rfl)
  rw [lg_entry_eq]
  generalize (lg_sl ([.ref a, .int x1, .int x2]) ++ List.replicate (4 - (lg_sl ([.ref a, .int x1, .int x2])).length) Slot.unset).toArray = ls at hl ⊢
  have hl : lv_has ls 4 [(0, .ref a), (1, .int x1), (2, .int x2)] := hl
  exact xX5_newGame_c0 hO hst hout ⟨B.exec, B.bytes, B.returns, B.notSynchronized, hml, findClass_of_methodNamed B.named, fun w hw => atoms_spec (ws := vX5_newGame) B.pre w (List.mem_cons_of_mem _ hw), hK⟩ x1 x2 h _ _ ls _ (lv_sub hl [0, 1, 2] rfl) hW va_S.rf hs rfl
-- VillageBoard.reason(II)I
abbrev rmX5_reason : Room := ({ frames := 7, cells := 3, slots := 18, locals := 114 } : Room)
abbrev vX5_reason : List Cond := Cond.code yX5_reason cX5_reason 3 (some .int) :: lwG
theorem wX5_reason {R : Room} {s : State} {args : Array Value} {own : String} {idx : Nat} (hg : ∀ w ∈ lwG, w.before args s = true) (hl : Cond.methodLink own idx yX5_reason ∈ lwG) (hR : rmX5_reason.frames + 1 ≤ R.frames ∧ 8 + (3 + 11) + rmX5_reason.locals ≤ R.locals) : CallW R s args own RX5 idx yX5_reason cX5_reason 3 (some .int) vX5_reason rmX5_reason 3 18 2 := cwV 2 hg (gV hl q3_54 q3_55 q1_1 q3_56) rfl rfl rfl (by decide +kernel) hR
def fX5_reason_c15 (a : Nat) (x1 : Int32) (x2 : Int32) (xs0 : Int32) (h : HH) : Nat × Int32 × HH := if fX5_requireIndex xs0 = 0 then ((0, fX0_obstacle (a + 1) x1 x2 h, h)) else (fX5_requireIndex xs0, 0, h)
def sX5_reason_c15 (a : Nat) (x1 : Int32) (x2 : Int32) (xs0 : Int32) (h : HH) : Prop := (fX5_requireIndex xs0 = 0 → (sX0_obstacle (a + 1) x1 x2 h))
set_option maxRecDepth 100000 in
set_option maxHeartbeats 4000000 in
theorem xX5_reason_c15 {p : Program} {l : Launch} {e : Env} {s : State} {m : MethodId} {args : Array Value} {below : List Frame} {meth : Method} {c : Code} {X : Cx} {a : Nat} (hO : IsBd X a) (hst : l.stackTraces = false) (hout : ∀ x ∈ c.exceptionTable.toList, False) (C0 : CT p s m args meth c X cX5_reason 3 (some .int) RX5) (x1 : Int32) (x2 : Int32) (xs0 : Int32) (h : HH) (H : Heap) (locs : List Loc) (ls : Array Slot) (res : Nat × Int32 × HH) (hl : lv_has ls 3 [(0, .ref a), (1, .int x1), (2, .int x2)]) (hW : WH X h H) (hS : va_S (xA X) s.heap H locs) (hs : sX5_reason_c15 a x1 x2 xs0 h) (hres : fX5_reason_c15 a x1 x2 xs0 h = res) : W p l e rmX5_reason s m args below meth c H locs 0 0 (vx_MQ below (QXi X res) (XXi X res) args s 3 18 (xA X)) (F0 m 15 ls [.int xs0]) := by
  obtain ⟨hx, hb, hr, hlk, hml, hown, hts, hK⟩ := id C0
  refine kxS (As := [.int xs0]) (rest := []) ⟨hx, hb, hml, hown, hts⟩ (kX5_requireIndex l hst X h xs0) (wX5_requireIndex hts q3_57 ⟨Nat.le_of_ble_eq_true rfl, Nat.le_of_ble_eq_true rfl⟩) hK hW hS rfl hl.1 rfl (Nat.le_of_ble_eq_true rfl) dX5_reason_15 ⟨Nat.le_of_ble_eq_true rfl, Nat.le_of_ble_eq_true rfl⟩ hlk hout (Nat.le_of_ble_eq_true rfl) (Nat.le_of_ble_eq_true rfl) (xh_i (fun c2 => (if_neg c2).symm.trans hres)) (fun c2 H locs hW hS => ?_)
  have hres := (if_pos c2).symm.trans hres
  have hs := hs c2
  refine lv_aload_n hx hb dX5_reason_18 rfl (lv_at hl 0 rfl) ?_
  refine g5_0 hx hb hts hown hK hW hO.1 (hts _ q1_210) dX5_reason_19 ?_
  refine lv_iload_n hx hb dX5_reason_22 rfl (lv_at hl 1 rfl) ?_
  refine lv_iload_n hx hb dX5_reason_23 rfl (lv_at hl 2 rfl) ?_
  have hc3 := hs
  refine kV_i (As := [.int x1, .int x2]) (rest := []) ⟨hx, hb, hml, hown, hts⟩ (kX0_obstacle l X h (a + 1) x1 x2 hO.2.1 hc3) (wX0_obstacle hts q3_76 ⟨Nat.le_of_ble_eq_true rfl, Nat.le_of_ble_eq_true rfl⟩) hK hW hS (va_recv hK.1 (hW.one hO.2.1.1) (ci := 0) (q0 := 0) rfl rfl) rfl hl.1 rfl (Nat.le_of_ble_eq_true rfl) dX5_reason_24 ⟨Nat.le_of_ble_eq_true rfl, Nat.le_of_ble_eq_true rfl⟩ (fun H locs hW hS => ?_)
  subst hres
  exact kxr_i hx hb hr hlk hK hW hS dX5_reason_27 (Nat.le_of_ble_eq_true rfl) (Nat.le_of_ble_eq_true rfl)
def fX5_reason_c14 (a : Nat) (x1 : Int32) (x2 : Int32) (h : HH) : Nat × Int32 × HH := fX5_reason_c15 a x1 x2 0 h
def sX5_reason_c14 (a : Nat) (x1 : Int32) (x2 : Int32) (h : HH) : Prop := sX5_reason_c15 a x1 x2 0 h
set_option maxRecDepth 100000 in
set_option maxHeartbeats 4000000 in
theorem xX5_reason_c14 {p : Program} {l : Launch} {e : Env} {s : State} {m : MethodId} {args : Array Value} {below : List Frame} {meth : Method} {c : Code} {X : Cx} {a : Nat} (hO : IsBd X a) (hst : l.stackTraces = false) (hout : ∀ x ∈ c.exceptionTable.toList, False) (C0 : CT p s m args meth c X cX5_reason 3 (some .int) RX5) (x1 : Int32) (x2 : Int32) (h : HH) (H : Heap) (locs : List Loc) (ls : Array Slot) (res : Nat × Int32 × HH) (hl : lv_has ls 3 [(0, .ref a), (1, .int x1), (2, .int x2)]) (hW : WH X h H) (hS : va_S (xA X) s.heap H locs) (hs : sX5_reason_c14 a x1 x2 h) (hres : fX5_reason_c14 a x1 x2 h = res) : W p l e rmX5_reason s m args below meth c H locs 0 0 (vx_MQ below (QXi X res) (XXi X res) args s 3 18 (xA X)) (F0 m 14 ls []) := by
  obtain ⟨hx, hb, hr, hlk, hml, hown, hts, hK⟩ := id C0
  refine lv_iconst (v := 0) hx hb dX5_reason_14 (by decide) ?_
  exact xX5_reason_c15 hO hst hout C0 x1 x2 0 h _ _ _ _ (lv_sub hl [0, 1, 2] rfl) hW hS hs hres
def fX5_reason_c0 (a : Nat) (x1 : Int32) (x2 : Int32) (h : HH) : Nat × Int32 × HH := if x1 < 0 then (fX5_reason_c14 a x1 x2 h) else (if 12 ≤ x1 then (fX5_reason_c14 a x1 x2 h) else (fX5_reason_c15 a x1 x2 1 h))
def sX5_reason_c0 (a : Nat) (x1 : Int32) (x2 : Int32) (h : HH) : Prop := (x1 < 0 → (sX5_reason_c14 a x1 x2 h)) ∧ (¬ (x1 < 0) → ((12 ≤ x1 → (sX5_reason_c14 a x1 x2 h)) ∧ (¬ (12 ≤ x1) → (sX5_reason_c15 a x1 x2 1 h))))
set_option maxRecDepth 100000 in
set_option maxHeartbeats 4000000 in
theorem xX5_reason_c0 {p : Program} {l : Launch} {e : Env} {s : State} {m : MethodId} {args : Array Value} {below : List Frame} {meth : Method} {c : Code} {X : Cx} {a : Nat} (hO : IsBd X a) (hst : l.stackTraces = false) (hout : ∀ x ∈ c.exceptionTable.toList, False) (C0 : CT p s m args meth c X cX5_reason 3 (some .int) RX5) (x1 : Int32) (x2 : Int32) (h : HH) (H : Heap) (locs : List Loc) (ls : Array Slot) (res : Nat × Int32 × HH) (hl : lv_has ls 3 [(0, .ref a), (1, .int x1), (2, .int x2)]) (hW : WH X h H) (hS : va_S (xA X) s.heap H locs) (hs : sX5_reason_c0 a x1 x2 h) (hres : fX5_reason_c0 a x1 x2 h = res) : W p l e rmX5_reason s m args below meth c H locs 0 0 (vx_MQ below (QXi X res) (XXi X res) args s 3 18 (xA X)) (F0 m 0 ls []) := by
  obtain ⟨hx, hb, hr, hlk, hml, hown, hts, hK⟩ := id C0
  refine lv_iload_n hx hb dX5_reason_0 rfl (lv_at hl 1 rfl) ?_
  refine lv_if_lt (tgt := 14) hx hb dX5_reason_1 (by decide) (fun c1 => ?_) (fun c1 => ?_)
  · have hres := (if_pos c1).symm.trans hres
    have hs := And.left hs c1
    exact xX5_reason_c14 hO hst hout C0 x1 x2 h _ _ _ _ (lv_sub hl [0, 1, 2] rfl) hW hS hs hres
  · have hres := (if_neg c1).symm.trans hres
    have hs := And.right hs c1
    refine lv_iload_n hx hb dX5_reason_4 rfl (lv_at hl 1 rfl) ?_
    refine lv_bipush (v := 12) hx hb dX5_reason_5 (by decide) ?_
    refine lv_icmp_ge (tgt := 14) hx hb dX5_reason_7 (by decide) (fun c4 => ?_) (fun c4 => ?_)
    · have hres := (if_pos c4).symm.trans hres
      have hs := And.left hs c4
      exact xX5_reason_c14 hO hst hout C0 x1 x2 h _ _ _ _ (lv_sub hl [0, 1, 2] rfl) hW hS hs hres
    · have hres := (if_neg c4).symm.trans hres
      have hs := And.right hs c4
      refine lv_iconst (v := 1) hx hb dX5_reason_10 (by decide) ?_
      refine lv_goto (tgt := 15) hx hb dX5_reason_11 (by decide) ?_
      exact xX5_reason_c15 hO hst hout C0 x1 x2 1 h _ _ _ _ (lv_sub hl [0, 1, 2] rfl) hW hS hs hres
def fX5_reason (a : Nat) (x1 : Int32) (x2 : Int32) (h : HH) : Nat × Int32 × HH := fX5_reason_c0 a x1 x2 h
def sX5_reason (a : Nat) (x1 : Int32) (x2 : Int32) (h : HH) : Prop := sX5_reason_c0 a x1 x2 h
set_option maxRecDepth 100000 in
set_option maxHeartbeats 4000000 in
theorem kX5_reason (l : Launch) (hst : l.stackTraces = false) (X : Cx) (h : HH) (a : Nat) (x1 : Int32) (x2 : Int32) (hO : IsBd X a) (hs : sX5_reason a x1 x2 h) : vx_Met l yX5_reason vX5_reason rmX5_reason (va_Pc [.ref a, .int x1, .int x2] (fun U => WS X h U)) (QXi X (fX5_reason a x1 x2 h)) (XXi X (fX5_reason a x1 x2 h)) 3 18 (xA X) := by
  refine vx_ofW (cc := cX5_reason) (maxL := 3) (ret := some .int) (by decide) rfl ?_
  intro p e s m args below meth c s₁ B hml hout hv
  obtain ⟨rfl, hW, hK⟩ := hv
  have hl := lv_entry ([.ref a, .int x1, .int x2]) (n := 3) (Nat.le_of_ble_eq_true rfl)
  rw [lg_entry_eq]
  generalize (lg_sl ([.ref a, .int x1, .int x2]) ++ List.replicate (3 - (lg_sl ([.ref a, .int x1, .int x2])).length) Slot.unset).toArray = ls at hl ⊢
  have hl : lv_has ls 3 [(0, .ref a), (1, .int x1), (2, .int x2)] := hl
  exact xX5_reason_c0 hO hst hout ⟨B.exec, B.bytes, B.returns, B.notSynchronized, hml, findClass_of_methodNamed B.named, fun w hw => atoms_spec (ws := vX5_reason) B.pre w (List.mem_cons_of_mem _ hw), hK⟩ x1 x2 h _ _ ls _ (lv_sub hl [0, 1, 2] rfl) hW va_S.rf hs rfl
-- VillageBoard.place(II)I
abbrev rmX5_place : Room := ({ frames := 7, cells := 3, slots := 18, locals := 133 } : Room)
abbrev vX5_place : List Cond := Cond.code yX5_place cX5_place 3 (some .int) :: lwG
theorem wX5_place {R : Room} {s : State} {args : Array Value} {own : String} {idx : Nat} (hg : ∀ w ∈ lwG, w.before args s = true) (hl : Cond.methodLink own idx yX5_place ∈ lwG) (hR : rmX5_place.frames + 1 ≤ R.frames ∧ 8 + (3 + 11) + rmX5_place.locals ≤ R.locals) : CallW R s args own RX5 idx yX5_place cX5_place 3 (some .int) vX5_place rmX5_place 3 18 2 := cwV 2 hg (gV hl q3_85 q3_86 q1_1 q3_87) rfl rfl rfl (by decide +kernel) hR
def fX5_place_c62 (a : Nat) (h : HH) : Nat × Int32 × HH := (0, h (a + 1) 3, h)
set_option maxRecDepth 100000 in
set_option maxHeartbeats 4000000 in
theorem xX5_place_c62 {p : Program} {l : Launch} {e : Env} {s : State} {m : MethodId} {args : Array Value} {below : List Frame} {meth : Method} {c : Code} {X : Cx} {a : Nat} (hO : IsBd X a) (hst : l.stackTraces = false) (hout : ∀ x ∈ c.exceptionTable.toList, False) (C0 : CT p s m args meth c X cX5_place 3 (some .int) RX5) (h : HH) (H : Heap) (locs : List Loc) (ls : Array Slot) (res : Nat × Int32 × HH) (hl : lv_has ls 3 []) (hW : WH X h H) (hS : va_S (xA X) s.heap H locs) (hres : fX5_place_c62 a h = res) : W p l e rmX5_place s m args below meth c H locs 2 12 (vx_MQ below (QXi X res) (XXi X res) args s 3 18 (xA X)) (F0 m 62 ls [.ref (a + 1)]) := by
  obtain ⟨hx, hb, hr, hlk, hml, hown, hts, hK⟩ := id C0
  refine g0_3 hx hb hts hown hK hW hO.2.1.1 (hts _ q1_90) dX5_place_62 ?_
  subst hres
  exact kxr_i hx hb hr hlk hK hW hS dX5_place_65 (Nat.le_of_ble_eq_true rfl) (Nat.le_of_ble_eq_true rfl)
def fX5_place_c55 (a : Nat) (xs0 : Int32) (xs1 : Int32) (h : HH) : Nat × Int32 × HH := fX5_place_c62 a (fX0_makePlacement (a + 1) xs1 xs0 h)
def sX5_place_c55 (a : Nat) (xs0 : Int32) (xs1 : Int32) (h : HH) : Prop := sX0_makePlacement (a + 1) xs1 xs0 h
set_option maxRecDepth 100000 in
set_option maxHeartbeats 4000000 in
theorem xX5_place_c55 {p : Program} {l : Launch} {e : Env} {s : State} {m : MethodId} {args : Array Value} {below : List Frame} {meth : Method} {c : Code} {X : Cx} {a : Nat} (hO : IsBd X a) (hst : l.stackTraces = false) (hout : ∀ x ∈ c.exceptionTable.toList, False) (C0 : CT p s m args meth c X cX5_place 3 (some .int) RX5) (xs0 : Int32) (xs1 : Int32) (h : HH) (H : Heap) (locs : List Loc) (ls : Array Slot) (res : Nat × Int32 × HH) (hl : lv_has ls 3 [(0, .ref a)]) (hW : WH X h H) (hS : va_S (xA X) s.heap H locs) (hs : sX5_place_c55 a xs0 xs1 h) (hres : fX5_place_c55 a xs0 xs1 h = res) : W p l e rmX5_place s m args below meth c H locs 2 12 (vx_MQ below (QXi X res) (XXi X res) args s 3 18 (xA X)) (F0 m 55 ls [.int xs0, .int xs1, .ref (a + 1)]) := by
  obtain ⟨hx, hb, hr, hlk, hml, hown, hts, hK⟩ := id C0
  have hc7 := hs
  refine kV_v (As := [.int xs1, .int xs0]) (rest := []) ⟨hx, hb, hml, hown, hts⟩ (kX0_makePlacement l X h (a + 1) xs1 xs0 hO.2.1 hc7) (wX0_makePlacement hts q3_107 ⟨Nat.le_of_ble_eq_true rfl, Nat.le_of_ble_eq_true rfl⟩) hK hW hS (va_recv hK.1 (hW.one hO.2.1.1) (ci := 0) (q0 := 0) rfl rfl) rfl hl.1 rfl (Nat.le_of_ble_eq_true rfl) dX5_place_55 ⟨Nat.le_of_ble_eq_true rfl, Nat.le_of_ble_eq_true rfl⟩ (fun H locs hW hS => ?_)
  refine lv_aload_n hx hb dX5_place_58 rfl (lv_at hl 0 rfl) ?_
  refine g5_0 hx hb hts hown hK hW hO.1 (hts _ q1_210) dX5_place_59 ?_
  exact xX5_place_c62 hO hst hout C0 (fX0_makePlacement (a + 1) xs1 xs0 h) _ _ _ _ (lv_sub hl [] rfl) hW hS hres
def fX5_place_c35 (a : Nat) (x1 : Int32) (x2 : Int32) (xs0 : Int32) (h : HH) : Nat × Int32 × HH := if fX5_requireState xs0 = 0 then (fX5_place_c55 a x2 x1 (fX4_push (a + 16) (a + 1) h)) else (fX5_requireState xs0, 0, h)
def sX5_place_c35 (a : Nat) (x1 : Int32) (x2 : Int32) (xs0 : Int32) (h : HH) : Prop := (fX5_requireState xs0 = 0 → ((sX4_push (a + 16) (a + 1) h) ∧ (sX5_place_c55 a x2 x1 (fX4_push (a + 16) (a + 1) h))))
set_option maxRecDepth 100000 in
set_option maxHeartbeats 4000000 in
theorem xX5_place_c35 {p : Program} {l : Launch} {e : Env} {s : State} {m : MethodId} {args : Array Value} {below : List Frame} {meth : Method} {c : Code} {X : Cx} {a : Nat} (hO : IsBd X a) (hst : l.stackTraces = false) (hout : ∀ x ∈ c.exceptionTable.toList, False) (C0 : CT p s m args meth c X cX5_place 3 (some .int) RX5) (x1 : Int32) (x2 : Int32) (xs0 : Int32) (h : HH) (H : Heap) (locs : List Loc) (ls : Array Slot) (res : Nat × Int32 × HH) (hl : lv_has ls 3 [(0, .ref a), (1, .int x1), (2, .int x2)]) (hW : WH X h H) (hS : va_S (xA X) s.heap H locs) (hs : sX5_place_c35 a x1 x2 xs0 h) (hres : fX5_place_c35 a x1 x2 xs0 h = res) : W p l e rmX5_place s m args below meth c H locs 1 6 (vx_MQ below (QXi X res) (XXi X res) args s 3 18 (xA X)) (F0 m 35 ls [.int xs0]) := by
  obtain ⟨hx, hb, hr, hlk, hml, hown, hts, hK⟩ := id C0
  refine kxS (As := [.int xs0]) (rest := []) ⟨hx, hb, hml, hown, hts⟩ (kX5_requireState l hst X h xs0) (wX5_requireState hts q3_88 ⟨Nat.le_of_ble_eq_true rfl, Nat.le_of_ble_eq_true rfl⟩) hK hW hS rfl hl.1 rfl (Nat.le_of_ble_eq_true rfl) dX5_place_35 ⟨Nat.le_of_ble_eq_true rfl, Nat.le_of_ble_eq_true rfl⟩ hlk hout (Nat.le_of_ble_eq_true rfl) (Nat.le_of_ble_eq_true rfl) (xh_i (fun c5 => (if_neg c5).symm.trans hres)) (fun c5 H locs hW hS => ?_)
  have hres := (if_pos c5).symm.trans hres
  have hs := hs c5
  refine lv_aload_n hx hb dX5_place_38 rfl (lv_at hl 0 rfl) ?_
  refine g5_1 hx hb hts hown hK hW hO.1 (hts _ q1_211) dX5_place_39 ?_
  refine lv_aload_n hx hb dX5_place_42 rfl (lv_at hl 0 rfl) ?_
  refine g5_0 hx hb hts hown hK hW hO.1 (hts _ q1_210) dX5_place_43 ?_
  obtain ⟨hc6, hs⟩ := hs
  refine kV_v (As := [.ref (a + 1)]) (rest := []) ⟨hx, hb, hml, hown, hts⟩ (kX4_push l X h (a + 16) (a + 1) hO.2.2.1 hO.2.1 hc6) (wX4_push hts q3_43 ⟨Nat.le_of_ble_eq_true rfl, Nat.le_of_ble_eq_true rfl⟩) hK hW hS (va_recv hK.1 (hW.one hO.2.2.1.1) (ci := 4) (q0 := 0) rfl rfl) rfl hl.1 rfl (Nat.le_of_ble_eq_true rfl) dX5_place_46 ⟨Nat.le_of_ble_eq_true rfl, Nat.le_of_ble_eq_true rfl⟩ (fun H locs hW hS => ?_)
  refine lv_aload_n hx hb dX5_place_49 rfl (lv_at hl 0 rfl) ?_
  refine g5_0 hx hb hts hown hK hW hO.1 (hts _ q1_210) dX5_place_50 ?_
  refine lv_iload_n hx hb dX5_place_53 rfl (lv_at hl 1 rfl) ?_
  refine lv_iload_n hx hb dX5_place_54 rfl (lv_at hl 2 rfl) ?_
  exact xX5_place_c55 hO hst hout C0 x2 x1 (fX4_push (a + 16) (a + 1) h) _ _ _ _ (lv_sub hl [0] rfl) hW hS hs hres
def fX5_place_c15 (a : Nat) (x1 : Int32) (x2 : Int32) (xs0 : Int32) (h : HH) : Nat × Int32 × HH := if fX5_requireIndex xs0 = 0 then (if (fX0_obstacle (a + 1) x1 x2 h) = 0 then (fX5_place_c35 a x1 x2 1 h) else (fX5_place_c35 a x1 x2 0 h)) else (fX5_requireIndex xs0, 0, h)
def sX5_place_c15 (a : Nat) (x1 : Int32) (x2 : Int32) (xs0 : Int32) (h : HH) : Prop := (fX5_requireIndex xs0 = 0 → ((sX0_obstacle (a + 1) x1 x2 h) ∧ (((fX0_obstacle (a + 1) x1 x2 h) = 0 → (sX5_place_c35 a x1 x2 1 h)) ∧ (¬ ((fX0_obstacle (a + 1) x1 x2 h) = 0) → (sX5_place_c35 a x1 x2 0 h)))))
set_option maxRecDepth 100000 in
set_option maxHeartbeats 4000000 in
theorem xX5_place_c15 {p : Program} {l : Launch} {e : Env} {s : State} {m : MethodId} {args : Array Value} {below : List Frame} {meth : Method} {c : Code} {X : Cx} {a : Nat} (hO : IsBd X a) (hst : l.stackTraces = false) (hout : ∀ x ∈ c.exceptionTable.toList, False) (C0 : CT p s m args meth c X cX5_place 3 (some .int) RX5) (x1 : Int32) (x2 : Int32) (xs0 : Int32) (h : HH) (H : Heap) (locs : List Loc) (ls : Array Slot) (res : Nat × Int32 × HH) (hl : lv_has ls 3 [(0, .ref a), (1, .int x1), (2, .int x2)]) (hW : WH X h H) (hS : va_S (xA X) s.heap H locs) (hs : sX5_place_c15 a x1 x2 xs0 h) (hres : fX5_place_c15 a x1 x2 xs0 h = res) : W p l e rmX5_place s m args below meth c H locs 0 0 (vx_MQ below (QXi X res) (XXi X res) args s 3 18 (xA X)) (F0 m 15 ls [.int xs0]) := by
  obtain ⟨hx, hb, hr, hlk, hml, hown, hts, hK⟩ := id C0
  refine kxS (As := [.int xs0]) (rest := []) ⟨hx, hb, hml, hown, hts⟩ (kX5_requireIndex l hst X h xs0) (wX5_requireIndex hts q3_57 ⟨Nat.le_of_ble_eq_true rfl, Nat.le_of_ble_eq_true rfl⟩) hK hW hS rfl hl.1 rfl (Nat.le_of_ble_eq_true rfl) dX5_place_15 ⟨Nat.le_of_ble_eq_true rfl, Nat.le_of_ble_eq_true rfl⟩ hlk hout (Nat.le_of_ble_eq_true rfl) (Nat.le_of_ble_eq_true rfl) (xh_i (fun c2 => (if_neg c2).symm.trans hres)) (fun c2 H locs hW hS => ?_)
  have hres := (if_pos c2).symm.trans hres
  have hs := hs c2
  refine lv_aload_n hx hb dX5_place_18 rfl (lv_at hl 0 rfl) ?_
  refine g5_0 hx hb hts hown hK hW hO.1 (hts _ q1_210) dX5_place_19 ?_
  refine lv_iload_n hx hb dX5_place_22 rfl (lv_at hl 1 rfl) ?_
  refine lv_iload_n hx hb dX5_place_23 rfl (lv_at hl 2 rfl) ?_
  obtain ⟨hc3, hs⟩ := hs
  refine kV_i (As := [.int x1, .int x2]) (rest := []) ⟨hx, hb, hml, hown, hts⟩ (kX0_obstacle l X h (a + 1) x1 x2 hO.2.1 hc3) (wX0_obstacle hts q3_76 ⟨Nat.le_of_ble_eq_true rfl, Nat.le_of_ble_eq_true rfl⟩) hK hW hS (va_recv hK.1 (hW.one hO.2.1.1) (ci := 0) (q0 := 0) rfl rfl) rfl hl.1 rfl (Nat.le_of_ble_eq_true rfl) dX5_place_24 ⟨Nat.le_of_ble_eq_true rfl, Nat.le_of_ble_eq_true rfl⟩ (fun H locs hW hS => ?_)
  refine lv_if_ne (tgt := 34) hx hb dX5_place_27 (by decide) (fun c4 => ?_) (fun c4 => ?_)
  · have hres := (if_neg c4).symm.trans hres
    have hs := And.right hs c4
    refine lv_iconst (v := 0) hx hb dX5_place_34 (by decide) ?_
    exact xX5_place_c35 hO hst hout C0 x1 x2 0 h _ _ _ _ (lv_sub hl [0, 1, 2] rfl) hW hS hs hres
  · have hres := (if_pos c4).symm.trans hres
    have hs := And.left hs c4
    refine lv_iconst (v := 1) hx hb dX5_place_30 (by decide) ?_
    refine lv_goto (tgt := 35) hx hb dX5_place_31 (by decide) ?_
    exact xX5_place_c35 hO hst hout C0 x1 x2 1 h _ _ _ _ (lv_sub hl [0, 1, 2] rfl) hW hS hs hres
def fX5_place_c14 (a : Nat) (x1 : Int32) (x2 : Int32) (h : HH) : Nat × Int32 × HH := fX5_place_c15 a x1 x2 0 h
def sX5_place_c14 (a : Nat) (x1 : Int32) (x2 : Int32) (h : HH) : Prop := sX5_place_c15 a x1 x2 0 h
set_option maxRecDepth 100000 in
set_option maxHeartbeats 4000000 in
theorem xX5_place_c14 {p : Program} {l : Launch} {e : Env} {s : State} {m : MethodId} {args : Array Value} {below : List Frame} {meth : Method} {c : Code} {X : Cx} {a : Nat} (hO : IsBd X a) (hst : l.stackTraces = false) (hout : ∀ x ∈ c.exceptionTable.toList, False) (C0 : CT p s m args meth c X cX5_place 3 (some .int) RX5) (x1 : Int32) (x2 : Int32) (h : HH) (H : Heap) (locs : List Loc) (ls : Array Slot) (res : Nat × Int32 × HH) (hl : lv_has ls 3 [(0, .ref a), (1, .int x1), (2, .int x2)]) (hW : WH X h H) (hS : va_S (xA X) s.heap H locs) (hs : sX5_place_c14 a x1 x2 h) (hres : fX5_place_c14 a x1 x2 h = res) : W p l e rmX5_place s m args below meth c H locs 0 0 (vx_MQ below (QXi X res) (XXi X res) args s 3 18 (xA X)) (F0 m 14 ls []) := by
  obtain ⟨hx, hb, hr, hlk, hml, hown, hts, hK⟩ := id C0
  refine lv_iconst (v := 0) hx hb dX5_place_14 (by decide) ?_
  exact xX5_place_c15 hO hst hout C0 x1 x2 0 h _ _ _ _ (lv_sub hl [0, 1, 2] rfl) hW hS hs hres
def fX5_place_c0 (a : Nat) (x1 : Int32) (x2 : Int32) (h : HH) : Nat × Int32 × HH := if x1 < 0 then (fX5_place_c14 a x1 x2 h) else (if 12 ≤ x1 then (fX5_place_c14 a x1 x2 h) else (fX5_place_c15 a x1 x2 1 h))
def sX5_place_c0 (a : Nat) (x1 : Int32) (x2 : Int32) (h : HH) : Prop := (x1 < 0 → (sX5_place_c14 a x1 x2 h)) ∧ (¬ (x1 < 0) → ((12 ≤ x1 → (sX5_place_c14 a x1 x2 h)) ∧ (¬ (12 ≤ x1) → (sX5_place_c15 a x1 x2 1 h))))
set_option maxRecDepth 100000 in
set_option maxHeartbeats 4000000 in
theorem xX5_place_c0 {p : Program} {l : Launch} {e : Env} {s : State} {m : MethodId} {args : Array Value} {below : List Frame} {meth : Method} {c : Code} {X : Cx} {a : Nat} (hO : IsBd X a) (hst : l.stackTraces = false) (hout : ∀ x ∈ c.exceptionTable.toList, False) (C0 : CT p s m args meth c X cX5_place 3 (some .int) RX5) (x1 : Int32) (x2 : Int32) (h : HH) (H : Heap) (locs : List Loc) (ls : Array Slot) (res : Nat × Int32 × HH) (hl : lv_has ls 3 [(0, .ref a), (1, .int x1), (2, .int x2)]) (hW : WH X h H) (hS : va_S (xA X) s.heap H locs) (hs : sX5_place_c0 a x1 x2 h) (hres : fX5_place_c0 a x1 x2 h = res) : W p l e rmX5_place s m args below meth c H locs 0 0 (vx_MQ below (QXi X res) (XXi X res) args s 3 18 (xA X)) (F0 m 0 ls []) := by
  obtain ⟨hx, hb, hr, hlk, hml, hown, hts, hK⟩ := id C0
  refine lv_iload_n hx hb dX5_place_0 rfl (lv_at hl 1 rfl) ?_
  refine lv_if_lt (tgt := 14) hx hb dX5_place_1 (by decide) (fun c1 => ?_) (fun c1 => ?_)
  · have hres := (if_pos c1).symm.trans hres
    have hs := And.left hs c1
    exact xX5_place_c14 hO hst hout C0 x1 x2 h _ _ _ _ (lv_sub hl [0, 1, 2] rfl) hW hS hs hres
  · have hres := (if_neg c1).symm.trans hres
    have hs := And.right hs c1
    refine lv_iload_n hx hb dX5_place_4 rfl (lv_at hl 1 rfl) ?_
    refine lv_bipush (v := 12) hx hb dX5_place_5 (by decide) ?_
    refine lv_icmp_ge (tgt := 14) hx hb dX5_place_7 (by decide) (fun c8 => ?_) (fun c8 => ?_)
    · have hres := (if_pos c8).symm.trans hres
      have hs := And.left hs c8
      exact xX5_place_c14 hO hst hout C0 x1 x2 h _ _ _ _ (lv_sub hl [0, 1, 2] rfl) hW hS hs hres
    · have hres := (if_neg c8).symm.trans hres
      have hs := And.right hs c8
      refine lv_iconst (v := 1) hx hb dX5_place_10 (by decide) ?_
      refine lv_goto (tgt := 15) hx hb dX5_place_11 (by decide) ?_
      exact xX5_place_c15 hO hst hout C0 x1 x2 1 h _ _ _ _ (lv_sub hl [0, 1, 2] rfl) hW hS hs hres
def fX5_place (a : Nat) (x1 : Int32) (x2 : Int32) (h : HH) : Nat × Int32 × HH := fX5_place_c0 a x1 x2 h
def sX5_place (a : Nat) (x1 : Int32) (x2 : Int32) (h : HH) : Prop := sX5_place_c0 a x1 x2 h
set_option maxRecDepth 100000 in
set_option maxHeartbeats 4000000 in
theorem kX5_place (l : Launch) (hst : l.stackTraces = false) (X : Cx) (h : HH) (a : Nat) (x1 : Int32) (x2 : Int32) (hO : IsBd X a) (hs : sX5_place a x1 x2 h) : vx_Met l yX5_place vX5_place rmX5_place (va_Pc [.ref a, .int x1, .int x2] (fun U => WS X h U)) (QXi X (fX5_place a x1 x2 h)) (XXi X (fX5_place a x1 x2 h)) 3 18 (xA X) := by
  refine vx_ofW (cc := cX5_place) (maxL := 3) (ret := some .int) (by decide) rfl ?_
  intro p e s m args below meth c s₁ B hml hout hv
  obtain ⟨rfl, hW, hK⟩ := hv
  have hl := lv_entry ([.ref a, .int x1, .int x2]) (n := 3) (Nat.le_of_ble_eq_true rfl)
  rw [lg_entry_eq]
  generalize (lg_sl ([.ref a, .int x1, .int x2]) ++ List.replicate (3 - (lg_sl ([.ref a, .int x1, .int x2])).length) Slot.unset).toArray = ls at hl ⊢
  have hl : lv_has ls 3 [(0, .ref a), (1, .int x1), (2, .int x2)] := hl
  exact xX5_place_c0 hO hst hout ⟨B.exec, B.bytes, B.returns, B.notSynchronized, hml, findClass_of_methodNamed B.named, fun w hw => atoms_spec (ws := vX5_place) B.pre w (List.mem_cons_of_mem _ hw), hK⟩ x1 x2 h _ _ ls _ (lv_sub hl [0, 1, 2] rfl) hW va_S.rf hs rfl
-- VillageBoard.skip()I
abbrev rmX5_skip : Room := ({ frames := 7, cells := 3, slots := 18, locals := 131 } : Room)
abbrev vX5_skip : List Cond := Cond.code yX5_skip cX5_skip 1 (some .int) :: lwG
theorem wX5_skip {R : Room} {s : State} {args : Array Value} {own : String} {idx : Nat} (hg : ∀ w ∈ lwG, w.before args s = true) (hl : Cond.methodLink own idx yX5_skip ∈ lwG) (hR : rmX5_skip.frames + 1 ≤ R.frames ∧ 8 + (1 + 11) + rmX5_skip.locals ≤ R.locals) : CallW R s args own RX5 idx yX5_skip cX5_skip 1 (some .int) vX5_skip rmX5_skip 3 18 0 := cwV 0 hg (gV hl q3_134 q3_135 q1_1 q3_136) rfl rfl rfl (by decide +kernel) hR
def fX5_skip_c54 (a : Nat) (h : HH) : Nat × Int32 × HH := (0, h (a + 1) 3, h)
set_option maxRecDepth 100000 in
set_option maxHeartbeats 4000000 in
theorem xX5_skip_c54 {p : Program} {l : Launch} {e : Env} {s : State} {m : MethodId} {args : Array Value} {below : List Frame} {meth : Method} {c : Code} {X : Cx} {a : Nat} (hO : IsBd X a) (hst : l.stackTraces = false) (hout : ∀ x ∈ c.exceptionTable.toList, False) (C0 : CT p s m args meth c X cX5_skip 1 (some .int) RX5) (h : HH) (H : Heap) (locs : List Loc) (ls : Array Slot) (res : Nat × Int32 × HH) (hl : lv_has ls 1 []) (hW : WH X h H) (hS : va_S (xA X) s.heap H locs) (hres : fX5_skip_c54 a h = res) : W p l e rmX5_skip s m args below meth c H locs 1 6 (vx_MQ below (QXi X res) (XXi X res) args s 3 18 (xA X)) (F0 m 54 ls [.ref (a + 1)]) := by
  obtain ⟨hx, hb, hr, hlk, hml, hown, hts, hK⟩ := id C0
  refine g0_3 hx hb hts hown hK hW hO.2.1.1 (hts _ q1_90) dX5_skip_54 ?_
  subst hres
  exact kxr_i hx hb hr hlk hK hW hS dX5_skip_57 (Nat.le_of_ble_eq_true rfl) (Nat.le_of_ble_eq_true rfl)
def fX5_skip_c47 (a : Nat) (h : HH) : Nat × Int32 × HH := fX5_skip_c54 a (fX0_makeSkip (a + 1) h)
def sX5_skip_c47 (a : Nat) (h : HH) : Prop := sX0_makeSkip (a + 1) h
set_option maxRecDepth 100000 in
set_option maxHeartbeats 4000000 in
theorem xX5_skip_c47 {p : Program} {l : Launch} {e : Env} {s : State} {m : MethodId} {args : Array Value} {below : List Frame} {meth : Method} {c : Code} {X : Cx} {a : Nat} (hO : IsBd X a) (hst : l.stackTraces = false) (hout : ∀ x ∈ c.exceptionTable.toList, False) (C0 : CT p s m args meth c X cX5_skip 1 (some .int) RX5) (h : HH) (H : Heap) (locs : List Loc) (ls : Array Slot) (res : Nat × Int32 × HH) (hl : lv_has ls 1 [(0, .ref a)]) (hW : WH X h H) (hS : va_S (xA X) s.heap H locs) (hs : sX5_skip_c47 a h) (hres : fX5_skip_c47 a h = res) : W p l e rmX5_skip s m args below meth c H locs 1 6 (vx_MQ below (QXi X res) (XXi X res) args s 3 18 (xA X)) (F0 m 47 ls [.ref (a + 1)]) := by
  obtain ⟨hx, hb, hr, hlk, hml, hown, hts, hK⟩ := id C0
  have hc4 := hs
  refine kV_v (As := []) (rest := []) ⟨hx, hb, hml, hown, hts⟩ (kX0_makeSkip l X h (a + 1) hO.2.1 hc4) (wX0_makeSkip hts q3_138 ⟨Nat.le_of_ble_eq_true rfl, Nat.le_of_ble_eq_true rfl⟩) hK hW hS (va_recv hK.1 (hW.one hO.2.1.1) (ci := 0) (q0 := 0) rfl rfl) rfl hl.1 rfl (Nat.le_of_ble_eq_true rfl) dX5_skip_47 ⟨Nat.le_of_ble_eq_true rfl, Nat.le_of_ble_eq_true rfl⟩ (fun H locs hW hS => ?_)
  refine lv_aload_n hx hb dX5_skip_50 rfl (lv_at hl 0 rfl) ?_
  refine g5_0 hx hb hts hown hK hW hO.1 (hts _ q1_210) dX5_skip_51 ?_
  exact xX5_skip_c54 hO hst hout C0 (fX0_makeSkip (a + 1) h) _ _ _ _ (lv_sub hl [] rfl) hW hS hres
def fX5_skip_c29 (a : Nat) (xs0 : Int32) (h : HH) : Nat × Int32 × HH := if fX5_requireState xs0 = 0 then (fX5_skip_c47 a (fX4_push (a + 16) (a + 1) h)) else (fX5_requireState xs0, 0, h)
def sX5_skip_c29 (a : Nat) (xs0 : Int32) (h : HH) : Prop := (fX5_requireState xs0 = 0 → ((sX4_push (a + 16) (a + 1) h) ∧ (sX5_skip_c47 a (fX4_push (a + 16) (a + 1) h))))
set_option maxRecDepth 100000 in
set_option maxHeartbeats 4000000 in
theorem xX5_skip_c29 {p : Program} {l : Launch} {e : Env} {s : State} {m : MethodId} {args : Array Value} {below : List Frame} {meth : Method} {c : Code} {X : Cx} {a : Nat} (hO : IsBd X a) (hst : l.stackTraces = false) (hout : ∀ x ∈ c.exceptionTable.toList, False) (C0 : CT p s m args meth c X cX5_skip 1 (some .int) RX5) (xs0 : Int32) (h : HH) (H : Heap) (locs : List Loc) (ls : Array Slot) (res : Nat × Int32 × HH) (hl : lv_has ls 1 [(0, .ref a)]) (hW : WH X h H) (hS : va_S (xA X) s.heap H locs) (hs : sX5_skip_c29 a xs0 h) (hres : fX5_skip_c29 a xs0 h = res) : W p l e rmX5_skip s m args below meth c H locs 0 0 (vx_MQ below (QXi X res) (XXi X res) args s 3 18 (xA X)) (F0 m 29 ls [.int xs0]) := by
  obtain ⟨hx, hb, hr, hlk, hml, hown, hts, hK⟩ := id C0
  refine kxS (As := [.int xs0]) (rest := []) ⟨hx, hb, hml, hown, hts⟩ (kX5_requireState l hst X h xs0) (wX5_requireState hts q3_88 ⟨Nat.le_of_ble_eq_true rfl, Nat.le_of_ble_eq_true rfl⟩) hK hW hS rfl hl.1 rfl (Nat.le_of_ble_eq_true rfl) dX5_skip_29 ⟨Nat.le_of_ble_eq_true rfl, Nat.le_of_ble_eq_true rfl⟩ hlk hout (Nat.le_of_ble_eq_true rfl) (Nat.le_of_ble_eq_true rfl) (xh_i (fun c2 => (if_neg c2).symm.trans hres)) (fun c2 H locs hW hS => ?_)
  have hres := (if_pos c2).symm.trans hres
  have hs := hs c2
  refine lv_aload_n hx hb dX5_skip_32 rfl (lv_at hl 0 rfl) ?_
  refine g5_1 hx hb hts hown hK hW hO.1 (hts _ q1_211) dX5_skip_33 ?_
  refine lv_aload_n hx hb dX5_skip_36 rfl (lv_at hl 0 rfl) ?_
  refine g5_0 hx hb hts hown hK hW hO.1 (hts _ q1_210) dX5_skip_37 ?_
  obtain ⟨hc3, hs⟩ := hs
  refine kV_v (As := [.ref (a + 1)]) (rest := []) ⟨hx, hb, hml, hown, hts⟩ (kX4_push l X h (a + 16) (a + 1) hO.2.2.1 hO.2.1 hc3) (wX4_push hts q3_43 ⟨Nat.le_of_ble_eq_true rfl, Nat.le_of_ble_eq_true rfl⟩) hK hW hS (va_recv hK.1 (hW.one hO.2.2.1.1) (ci := 4) (q0 := 0) rfl rfl) rfl hl.1 rfl (Nat.le_of_ble_eq_true rfl) dX5_skip_40 ⟨Nat.le_of_ble_eq_true rfl, Nat.le_of_ble_eq_true rfl⟩ (fun H locs hW hS => ?_)
  refine lv_aload_n hx hb dX5_skip_43 rfl (lv_at hl 0 rfl) ?_
  refine g5_0 hx hb hts hown hK hW hO.1 (hts _ q1_210) dX5_skip_44 ?_
  exact xX5_skip_c47 hO hst hout C0 (fX4_push (a + 16) (a + 1) h) _ _ _ _ (lv_sub hl [0] rfl) hW hS hs hres
def fX5_skip_c28 (a : Nat) (h : HH) : Nat × Int32 × HH := fX5_skip_c29 a 0 h
def sX5_skip_c28 (a : Nat) (h : HH) : Prop := sX5_skip_c29 a 0 h
set_option maxRecDepth 100000 in
set_option maxHeartbeats 4000000 in
theorem xX5_skip_c28 {p : Program} {l : Launch} {e : Env} {s : State} {m : MethodId} {args : Array Value} {below : List Frame} {meth : Method} {c : Code} {X : Cx} {a : Nat} (hO : IsBd X a) (hst : l.stackTraces = false) (hout : ∀ x ∈ c.exceptionTable.toList, False) (C0 : CT p s m args meth c X cX5_skip 1 (some .int) RX5) (h : HH) (H : Heap) (locs : List Loc) (ls : Array Slot) (res : Nat × Int32 × HH) (hl : lv_has ls 1 [(0, .ref a)]) (hW : WH X h H) (hS : va_S (xA X) s.heap H locs) (hs : sX5_skip_c28 a h) (hres : fX5_skip_c28 a h = res) : W p l e rmX5_skip s m args below meth c H locs 0 0 (vx_MQ below (QXi X res) (XXi X res) args s 3 18 (xA X)) (F0 m 28 ls []) := by
  obtain ⟨hx, hb, hr, hlk, hml, hown, hts, hK⟩ := id C0
  refine lv_iconst (v := 0) hx hb dX5_skip_28 (by decide) ?_
  exact xX5_skip_c29 hO hst hout C0 0 h _ _ _ _ (lv_sub hl [0] rfl) hW hS hs hres
def fX5_skip_c21 (a : Nat) (xs0 : Int32) (h : HH) : Nat × Int32 × HH := if xs0 = 0 then (fX5_skip_c29 a 1 h) else (fX5_skip_c28 a h)
def sX5_skip_c21 (a : Nat) (xs0 : Int32) (h : HH) : Prop := (xs0 = 0 → (sX5_skip_c29 a 1 h)) ∧ (¬ (xs0 = 0) → (sX5_skip_c28 a h))
set_option maxRecDepth 100000 in
set_option maxHeartbeats 4000000 in
theorem xX5_skip_c21 {p : Program} {l : Launch} {e : Env} {s : State} {m : MethodId} {args : Array Value} {below : List Frame} {meth : Method} {c : Code} {X : Cx} {a : Nat} (hO : IsBd X a) (hst : l.stackTraces = false) (hout : ∀ x ∈ c.exceptionTable.toList, False) (C0 : CT p s m args meth c X cX5_skip 1 (some .int) RX5) (xs0 : Int32) (h : HH) (H : Heap) (locs : List Loc) (ls : Array Slot) (res : Nat × Int32 × HH) (hl : lv_has ls 1 [(0, .ref a)]) (hW : WH X h H) (hS : va_S (xA X) s.heap H locs) (hs : sX5_skip_c21 a xs0 h) (hres : fX5_skip_c21 a xs0 h = res) : W p l e rmX5_skip s m args below meth c H locs 0 0 (vx_MQ below (QXi X res) (XXi X res) args s 3 18 (xA X)) (F0 m 21 ls [.int xs0]) := by
  obtain ⟨hx, hb, hr, hlk, hml, hown, hts, hK⟩ := id C0
  refine lv_if_ne (tgt := 28) hx hb dX5_skip_21 (by decide) (fun c6 => ?_) (fun c6 => ?_)
  · have hres := (if_neg c6).symm.trans hres
    have hs := And.right hs c6
    exact xX5_skip_c28 hO hst hout C0 h _ _ _ _ (lv_sub hl [0] rfl) hW hS hs hres
  · have hres := (if_pos c6).symm.trans hres
    have hs := And.left hs c6
    refine lv_iconst (v := 1) hx hb dX5_skip_24 (by decide) ?_
    refine lv_goto (tgt := 29) hx hb dX5_skip_25 (by decide) ?_
    exact xX5_skip_c29 hO hst hout C0 1 h _ _ _ _ (lv_sub hl [0] rfl) hW hS hs hres
def fX5_skip_c0 (a : Nat) (h : HH) : Nat × Int32 × HH := if (bI (fX0_isOver (a + 1) h)) = 0 then (fX5_skip_c21 a ((fX0_listPlacements (a + 1) (a + 109) h).1) ((fX0_listPlacements (a + 1) (a + 109) h).2)) else (fX5_skip_c28 a h)
def sX5_skip_c0 (a : Nat) (h : HH) : Prop := ((bI (fX0_isOver (a + 1) h)) = 0 → ((sX0_listPlacements (a + 1) (a + 109) h) ∧ (sX5_skip_c21 a ((fX0_listPlacements (a + 1) (a + 109) h).1) ((fX0_listPlacements (a + 1) (a + 109) h).2)))) ∧ (¬ ((bI (fX0_isOver (a + 1) h)) = 0) → (sX5_skip_c28 a h))
set_option maxRecDepth 100000 in
set_option maxHeartbeats 4000000 in
theorem xX5_skip_c0 {p : Program} {l : Launch} {e : Env} {s : State} {m : MethodId} {args : Array Value} {below : List Frame} {meth : Method} {c : Code} {X : Cx} {a : Nat} (hO : IsBd X a) (hst : l.stackTraces = false) (hout : ∀ x ∈ c.exceptionTable.toList, False) (C0 : CT p s m args meth c X cX5_skip 1 (some .int) RX5) (h : HH) (H : Heap) (locs : List Loc) (ls : Array Slot) (res : Nat × Int32 × HH) (hl : lv_has ls 1 [(0, .ref a)]) (hW : WH X h H) (hS : va_S (xA X) s.heap H locs) (hs : sX5_skip_c0 a h) (hres : fX5_skip_c0 a h = res) : W p l e rmX5_skip s m args below meth c H locs 0 0 (vx_MQ below (QXi X res) (XXi X res) args s 3 18 (xA X)) (F0 m 0 ls []) := by
  obtain ⟨hx, hb, hr, hlk, hml, hown, hts, hK⟩ := id C0
  refine lv_aload_n hx hb dX5_skip_0 rfl (lv_at hl 0 rfl) ?_
  refine g5_0 hx hb hts hown hK hW hO.1 (hts _ q1_210) dX5_skip_1 ?_
  refine kV_i (As := []) (rest := []) ⟨hx, hb, hml, hown, hts⟩ (kX0_isOver l X h (a + 1) hO.2.1) (wX0_isOver hts q3_137 ⟨Nat.le_of_ble_eq_true rfl, Nat.le_of_ble_eq_true rfl⟩) hK hW hS (va_recv hK.1 (hW.one hO.2.1.1) (ci := 0) (q0 := 0) rfl rfl) rfl hl.1 rfl (Nat.le_of_ble_eq_true rfl) dX5_skip_4 ⟨Nat.le_of_ble_eq_true rfl, Nat.le_of_ble_eq_true rfl⟩ (fun H locs hW hS => ?_)
  refine lv_if_ne (tgt := 28) hx hb dX5_skip_7 (by decide) (fun c1 => ?_) (fun c1 => ?_)
  · have hres := (if_neg c1).symm.trans hres
    have hs := And.right hs c1
    exact xX5_skip_c28 hO hst hout C0 h _ _ _ _ (lv_sub hl [0] rfl) hW hS hs hres
  · have hres := (if_pos c1).symm.trans hres
    have hs := And.left hs c1
    refine lv_aload_n hx hb dX5_skip_10 rfl (lv_at hl 0 rfl) ?_
    refine g5_0 hx hb hts hown hK hW hO.1 (hts _ q1_210) dX5_skip_11 ?_
    refine lv_aload_n hx hb dX5_skip_14 rfl (lv_at hl 0 rfl) ?_
    refine g5_3 hx hb hts hown hK hW hO.1 (hts _ q1_213) dX5_skip_15 ?_
    obtain ⟨hc5, hs⟩ := hs
    refine kV_i (As := [.ref (a + 109)]) (rest := []) ⟨hx, hb, hml, hown, hts⟩ (kX0_listPlacements l X h (a + 1) (a + 109) hO.2.1 hO.2.2.2.2 hc5) (wX0_listPlacements hts q2_3 ⟨Nat.le_of_ble_eq_true rfl, Nat.le_of_ble_eq_true rfl⟩) hK hW hS (va_recv hK.1 (hW.one hO.2.1.1) (ci := 0) (q0 := 0) rfl rfl) rfl hl.1 rfl (Nat.le_of_ble_eq_true rfl) dX5_skip_18 ⟨Nat.le_of_ble_eq_true rfl, Nat.le_of_ble_eq_true rfl⟩ (fun H locs hW hS => ?_)
    exact xX5_skip_c21 hO hst hout C0 ((fX0_listPlacements (a + 1) (a + 109) h).1) ((fX0_listPlacements (a + 1) (a + 109) h).2) _ _ _ _ (lv_sub hl [0] rfl) hW hS hs hres
def fX5_skip (a : Nat) (h : HH) : Nat × Int32 × HH := fX5_skip_c0 a h
def sX5_skip (a : Nat) (h : HH) : Prop := sX5_skip_c0 a h
set_option maxRecDepth 100000 in
set_option maxHeartbeats 4000000 in
theorem kX5_skip (l : Launch) (hst : l.stackTraces = false) (X : Cx) (h : HH) (a : Nat) (hO : IsBd X a) (hs : sX5_skip a h) : vx_Met l yX5_skip vX5_skip rmX5_skip (va_Pc [.ref a] (fun U => WS X h U)) (QXi X (fX5_skip a h)) (XXi X (fX5_skip a h)) 3 18 (xA X) := by
  refine vx_ofW (cc := cX5_skip) (maxL := 1) (ret := some .int) (by decide) rfl ?_
  intro p e s m args below meth c s₁ B hml hout hv
  obtain ⟨rfl, hW, hK⟩ := hv
  have hl := lv_entry ([.ref a]) (n := 1) (Nat.le_of_ble_eq_true rfl)
  rw [lg_entry_eq]
  generalize (lg_sl ([.ref a]) ++ List.replicate (1 - (lg_sl ([.ref a])).length) Slot.unset).toArray = ls at hl ⊢
  have hl : lv_has ls 1 [(0, .ref a)] := hl
  exact xX5_skip_c0 hO hst hout ⟨B.exec, B.bytes, B.returns, B.notSynchronized, hml, findClass_of_methodNamed B.named, fun w hw => atoms_spec (ws := vX5_skip) B.pre w (List.mem_cons_of_mem _ hw), hK⟩ h _ _ ls _ (lv_sub hl [0] rfl) hW va_S.rf hs rfl
-- VillageBoard.play(II)I
abbrev rmX5_play : Room := ({ frames := 12, cells := 3, slots := 18, locals := 294 } : Room)
abbrev vX5_play : List Cond := Cond.code yX5_play cX5_play 5 (some .int) :: lwG
theorem wX5_play {R : Room} {s : State} {args : Array Value} {own : String} {idx : Nat} (hg : ∀ w ∈ lwG, w.before args s = true) (hl : Cond.methodLink own idx yX5_play ∈ lwG) (hR : rmX5_play.frames + 1 ≤ R.frames ∧ 8 + (5 + 11) + rmX5_play.locals ≤ R.locals) : CallW R s args own RX5 idx yX5_play cX5_play 5 (some .int) vX5_play rmX5_play 3 18 2 := cwV 2 hg (gV hl q3_146 q3_147 q1_1 q3_148) rfl rfl rfl (by decide +kernel) hR
def fX5_play_c120 (a : Nat) (k50 : Int32 → Int32 → Int32 → HH → Nat × Int32 × HH) (x1 : Int32) (x2 : Int32) (x3 : Int32) (h : HH) : Nat × Int32 × HH := k50 x1 x2 (x3 + 1) h
def sX5_play_c120 (a : Nat) (K50 : Int32 → Int32 → Int32 → HH → Prop) (x1 : Int32) (x2 : Int32) (x3 : Int32) (h : HH) : Prop := K50 x1 x2 (x3 + 1) h
set_option maxRecDepth 100000 in
set_option maxHeartbeats 4000000 in
theorem xX5_play_c120 {p : Program} {l : Launch} {e : Env} {s : State} {m : MethodId} {args : Array Value} {below : List Frame} {meth : Method} {c : Code} {X : Cx} {a : Nat} (hO : IsBd X a) (hst : l.stackTraces = false) (hout : ∀ x ∈ c.exceptionTable.toList, False) (C0 : CT p s m args meth c X cX5_play 5 (some .int) RX5) {k50 : Int32 → Int32 → Int32 → HH → Nat × Int32 × HH} {K50 : Int32 → Int32 → Int32 → HH → Prop} (hk50 : ∀ (x1 : Int32) (x2 : Int32) (x3 : Int32) (h : HH) (H : Heap) (locs : List Loc) (ls : Array Slot) (res : Nat × Int32 × HH) (hl : lv_has ls 5 [(0, .ref a), (1, .int x1), (2, .int x2), (3, .int x3)]) (hW : WH X h H) (hS : va_S (xA X) s.heap H locs) (_ : K50 x1 x2 x3 h) (hres : k50 x1 x2 x3 h = res), W p l e rmX5_play s m args below meth c H locs 2 12 (vx_MQ below (QXi X res) (XXi X res) args s 3 18 (xA X)) (F0 m 50 ls [])) (x1 : Int32) (x2 : Int32) (x3 : Int32) (h : HH) (H : Heap) (locs : List Loc) (ls : Array Slot) (res : Nat × Int32 × HH) (hl : lv_has ls 5 [(0, .ref a), (1, .int x1), (2, .int x2), (3, .int x3)]) (hW : WH X h H) (hS : va_S (xA X) s.heap H locs) (hs : sX5_play_c120 a K50 x1 x2 x3 h) (hres : fX5_play_c120 a k50 x1 x2 x3 h = res) : W p l e rmX5_play s m args below meth c H locs 2 12 (vx_MQ below (QXi X res) (XXi X res) args s 3 18 (xA X)) (F0 m 120 ls []) := by
  obtain ⟨hx, hb, hr, hlk, hml, hown, hts, hK⟩ := id C0
  refine lv_iinc (v := x3 + 1) (lv' := [(3, .int (x3 + 1)), (0, .ref a), (1, .int x1), (2, .int x2)]) hx hb dX5_play_120 hl (k := 3) rfl rfl (by decide) rfl (fun ls hl => ?_)
  refine lv_goto (tgt := 50) hx hb dX5_play_123 (by decide) ?_
  exact hk50 x1 x2 (x3 + 1) h _ _ _ _ (lv_sub hl [1, 2, 3, 0] rfl) hW hS hs hres
def fX5_play_c82 (a : Nat) (k50 : Int32 → Int32 → Int32 → HH → Nat × Int32 × HH) (x1 : Int32) (x2 : Int32) (x3 : Int32) (xs0 : Int32) (h : HH) : Nat × Int32 × HH := if (fX3_bestStep (a + 78) xs0 h) = (-1) then (fX5_play_c120 a k50 x1 x2 x3 (fX0_makeSkip (a + 1) h)) else (fX5_play_c120 a k50 x1 x2 x3 (fX0_makePlacement (a + 1) ((fX3_bestStep (a + 78) xs0 h) / 100) (jrem (fX3_bestStep (a + 78) xs0 h) 100) h))
def sX5_play_c82 (a : Nat) (K50 : Int32 → Int32 → Int32 → HH → Prop) (x1 : Int32) (x2 : Int32) (x3 : Int32) (xs0 : Int32) (h : HH) : Prop := (sX3_bestStep (a + 78) xs0 h) ∧ (((fX3_bestStep (a + 78) xs0 h) = (-1) → ((sX0_makeSkip (a + 1) h) ∧ (sX5_play_c120 a K50 x1 x2 x3 (fX0_makeSkip (a + 1) h)))) ∧ (¬ ((fX3_bestStep (a + 78) xs0 h) = (-1)) → ((sX0_makePlacement (a + 1) ((fX3_bestStep (a + 78) xs0 h) / 100) (jrem (fX3_bestStep (a + 78) xs0 h) 100) h) ∧ (sX5_play_c120 a K50 x1 x2 x3 (fX0_makePlacement (a + 1) ((fX3_bestStep (a + 78) xs0 h) / 100) (jrem (fX3_bestStep (a + 78) xs0 h) 100) h)))))
set_option maxRecDepth 100000 in
set_option maxHeartbeats 4000000 in
theorem xX5_play_c82 {p : Program} {l : Launch} {e : Env} {s : State} {m : MethodId} {args : Array Value} {below : List Frame} {meth : Method} {c : Code} {X : Cx} {a : Nat} (hO : IsBd X a) (hst : l.stackTraces = false) (hout : ∀ x ∈ c.exceptionTable.toList, False) (C0 : CT p s m args meth c X cX5_play 5 (some .int) RX5) {k50 : Int32 → Int32 → Int32 → HH → Nat × Int32 × HH} {K50 : Int32 → Int32 → Int32 → HH → Prop} (hk50 : ∀ (x1 : Int32) (x2 : Int32) (x3 : Int32) (h : HH) (H : Heap) (locs : List Loc) (ls : Array Slot) (res : Nat × Int32 × HH) (hl : lv_has ls 5 [(0, .ref a), (1, .int x1), (2, .int x2), (3, .int x3)]) (hW : WH X h H) (hS : va_S (xA X) s.heap H locs) (_ : K50 x1 x2 x3 h) (hres : k50 x1 x2 x3 h = res), W p l e rmX5_play s m args below meth c H locs 2 12 (vx_MQ below (QXi X res) (XXi X res) args s 3 18 (xA X)) (F0 m 50 ls [])) (x1 : Int32) (x2 : Int32) (x3 : Int32) (xs0 : Int32) (h : HH) (H : Heap) (locs : List Loc) (ls : Array Slot) (res : Nat × Int32 × HH) (hl : lv_has ls 5 [(0, .ref a), (1, .int x1), (2, .int x2), (3, .int x3)]) (hW : WH X h H) (hS : va_S (xA X) s.heap H locs) (hs : sX5_play_c82 a K50 x1 x2 x3 xs0 h) (hres : fX5_play_c82 a k50 x1 x2 x3 xs0 h = res) : W p l e rmX5_play s m args below meth c H locs 2 12 (vx_MQ below (QXi X res) (XXi X res) args s 3 18 (xA X)) (F0 m 82 ls [.int xs0, .ref (a + 78)]) := by
  obtain ⟨hx, hb, hr, hlk, hml, hown, hts, hK⟩ := id C0
  obtain ⟨hc9, hs⟩ := hs
  refine kV_i (As := [.int xs0]) (rest := []) ⟨hx, hb, hml, hown, hts⟩ (kX3_bestStep l X h (a + 78) xs0 hO.2.2.2.1 hc9) (wX3_bestStep hts q2_188 ⟨Nat.le_of_ble_eq_true rfl, Nat.le_of_ble_eq_true rfl⟩) hK hW hS (va_recv hK.1 (hW.one hO.2.2.2.1.1) (ci := 3) (q0 := 0) rfl rfl) rfl hl.1 rfl (Nat.le_of_ble_eq_true rfl) dX5_play_82 ⟨Nat.le_of_ble_eq_true rfl, Nat.le_of_ble_eq_true rfl⟩ (fun H locs hW hS => ?_)
  refine lv_istore (lv' := [(4, .int (fX3_bestStep (a + 78) xs0 h)), (0, .ref a), (1, .int x1), (2, .int x2), (3, .int x3)]) hx hb dX5_play_85 hl (by decide) rfl (fun ls hl => ?_)
  refine lv_iload hx hb dX5_play_87 (lv_at hl 0 rfl) ?_
  refine lv_iconst (v := (-1)) hx hb dX5_play_89 (by decide) ?_
  refine lv_icmp_ne (tgt := 103) hx hb dX5_play_90 (by decide) (fun c10 => ?_) (fun c10 => ?_)
  · have hres := (if_neg c10).symm.trans hres
    have hs := And.right hs c10
    refine lv_aload_n hx hb dX5_play_103 rfl (lv_at hl 1 rfl) ?_
    refine g5_0 hx hb hts hown hK hW hO.1 (hts _ q1_210) dX5_play_104 ?_
    refine lv_iload hx hb dX5_play_107 (lv_at hl 0 rfl) ?_
    refine lv_bipush (v := 100) hx hb dX5_play_109 (by decide) ?_
    refine lv_idiv hx hb dX5_play_111 (by decide) ?_
    refine lv_iload hx hb dX5_play_112 (lv_at hl 0 rfl) ?_
    refine lv_bipush (v := 100) hx hb dX5_play_114 (by decide) ?_
    refine kb_irem hx hb dX5_play_116 (by decide) ?_
    obtain ⟨hc11, hs⟩ := hs
    refine kV_v (As := [.int ((fX3_bestStep (a + 78) xs0 h) / 100), .int (jrem (fX3_bestStep (a + 78) xs0 h) 100)]) (rest := []) ⟨hx, hb, hml, hown, hts⟩ (kX0_makePlacement l X h (a + 1) ((fX3_bestStep (a + 78) xs0 h) / 100) (jrem (fX3_bestStep (a + 78) xs0 h) 100) hO.2.1 hc11) (wX0_makePlacement hts q3_107 ⟨Nat.le_of_ble_eq_true rfl, Nat.le_of_ble_eq_true rfl⟩) hK hW hS (va_recv hK.1 (hW.one hO.2.1.1) (ci := 0) (q0 := 0) rfl rfl) rfl hl.1 rfl (Nat.le_of_ble_eq_true rfl) dX5_play_117 ⟨Nat.le_of_ble_eq_true rfl, Nat.le_of_ble_eq_true rfl⟩ (fun H locs hW hS => ?_)
    exact xX5_play_c120 hO hst hout C0 hk50 x1 x2 x3 (fX0_makePlacement (a + 1) ((fX3_bestStep (a + 78) xs0 h) / 100) (jrem (fX3_bestStep (a + 78) xs0 h) 100) h) _ _ _ _ (lv_sub hl [1, 2, 3, 4] rfl) hW hS hs hres
  · have hres := (if_pos c10).symm.trans hres
    have hs := And.left hs c10
    refine lv_aload_n hx hb dX5_play_93 rfl (lv_at hl 1 rfl) ?_
    refine g5_0 hx hb hts hown hK hW hO.1 (hts _ q1_210) dX5_play_94 ?_
    obtain ⟨hc12, hs⟩ := hs
    refine kV_v (As := []) (rest := []) ⟨hx, hb, hml, hown, hts⟩ (kX0_makeSkip l X h (a + 1) hO.2.1 hc12) (wX0_makeSkip hts q3_138 ⟨Nat.le_of_ble_eq_true rfl, Nat.le_of_ble_eq_true rfl⟩) hK hW hS (va_recv hK.1 (hW.one hO.2.1.1) (ci := 0) (q0 := 0) rfl rfl) rfl hl.1 rfl (Nat.le_of_ble_eq_true rfl) dX5_play_97 ⟨Nat.le_of_ble_eq_true rfl, Nat.le_of_ble_eq_true rfl⟩ (fun H locs hW hS => ?_)
    refine lv_goto (tgt := 120) hx hb dX5_play_100 (by decide) ?_
    exact xX5_play_c120 hO hst hout C0 hk50 x1 x2 x3 (fX0_makeSkip (a + 1) h) _ _ _ _ (lv_sub hl [1, 2, 3, 4] rfl) hW hS hs hres
def fX5_play_c50 (a : Nat) : Nat → Int32 → Int32 → Int32 → HH → Nat × Int32 × HH
  | 0, x1, x2, x3, h => (0, 0, h)
  | n + 1, x1, x2, x3, h => if x2 ≤ x3 then ((0, x3, h)) else (if (bI (fX0_isOver (a + 1) h)) = 0 then (fX5_play_c82 a (fX5_play_c50 a n) x1 x2 x3 0 (fX3_run (a + 78) (a + 1) x1 h)) else ((0, x3, h)))
def sX5_play_c50 (a : Nat) : Nat → Int32 → Int32 → Int32 → HH → Prop
  | 0, _, _, _, _ => False
  | n + 1, x1, x2, x3, h => (x2 ≤ x3 → True) ∧ (¬ (x2 ≤ x3) → (((bI (fX0_isOver (a + 1) h)) = 0 → ((sX3_run (a + 78) (a + 1) x1 h) ∧ (sX5_play_c82 a (sX5_play_c50 a n) x1 x2 x3 0 (fX3_run (a + 78) (a + 1) x1 h)))) ∧ (¬ ((bI (fX0_isOver (a + 1) h)) = 0) → True)))
set_option maxRecDepth 100000 in
set_option maxHeartbeats 4000000 in
theorem xX5_play_c50 {p : Program} {l : Launch} {e : Env} {s : State} {m : MethodId} {args : Array Value} {below : List Frame} {meth : Method} {c : Code} {X : Cx} {a : Nat} (hO : IsBd X a) (hst : l.stackTraces = false) (hout : ∀ x ∈ c.exceptionTable.toList, False) (C0 : CT p s m args meth c X cX5_play 5 (some .int) RX5) : ∀ (n : Nat) (x1 : Int32) (x2 : Int32) (x3 : Int32) (h : HH) (H : Heap) (locs : List Loc) (ls : Array Slot) (res : Nat × Int32 × HH) (hl : lv_has ls 5 [(0, .ref a), (1, .int x1), (2, .int x2), (3, .int x3)]) (hW : WH X h H) (hS : va_S (xA X) s.heap H locs) (hs : sX5_play_c50 a n x1 x2 x3 h) (hres : fX5_play_c50 a n x1 x2 x3 h = res), W p l e rmX5_play s m args below meth c H locs 2 12 (vx_MQ below (QXi X res) (XXi X res) args s 3 18 (xA X)) (F0 m 50 ls []) := by
  obtain ⟨hx, hb, hr, hlk, hml, hown, hts, hK⟩ := id C0
  intro n
  induction n with
  | zero =>
    intro _ _ _ _ _ _ _ _ _ _ _ hs _
    exact hs.elim
  | succ n ih =>
    intro x1 x2 x3 h H locs ls res hl hW hS hs hres
    refine lv_iload_n hx hb dX5_play_50 rfl (lv_at hl 3 rfl) ?_
    refine lv_iload_n hx hb dX5_play_51 rfl (lv_at hl 2 rfl) ?_
    refine lv_icmp_ge (tgt := 126) hx hb dX5_play_52 (by decide) (fun c6 => ?_) (fun c6 => ?_)
    · have hres := (if_pos c6).symm.trans hres
      have hs := And.left hs c6
      refine lv_iload_n hx hb dX5_play_126 rfl (lv_at hl 3 rfl) ?_
      subst hres
      exact kxr_i hx hb hr hlk hK hW hS dX5_play_127 (Nat.le_of_ble_eq_true rfl) (Nat.le_of_ble_eq_true rfl)
    · have hres := (if_neg c6).symm.trans hres
      have hs := And.right hs c6
      refine lv_aload_n hx hb dX5_play_55 rfl (lv_at hl 0 rfl) ?_
      refine g5_0 hx hb hts hown hK hW hO.1 (hts _ q1_210) dX5_play_56 ?_
      refine kV_i (As := []) (rest := []) ⟨hx, hb, hml, hown, hts⟩ (kX0_isOver l X h (a + 1) hO.2.1) (wX0_isOver hts q3_137 ⟨Nat.le_of_ble_eq_true rfl, Nat.le_of_ble_eq_true rfl⟩) hK hW hS (va_recv hK.1 (hW.one hO.2.1.1) (ci := 0) (q0 := 0) rfl rfl) rfl hl.1 rfl (Nat.le_of_ble_eq_true rfl) dX5_play_59 ⟨Nat.le_of_ble_eq_true rfl, Nat.le_of_ble_eq_true rfl⟩ (fun H locs hW hS => ?_)
      refine lv_if_ne (tgt := 126) hx hb dX5_play_62 (by decide) (fun c7 => ?_) (fun c7 => ?_)
      · have hres := (if_neg c7).symm.trans hres
        have hs := And.right hs c7
        refine lv_iload_n hx hb dX5_play_126 rfl (lv_at hl 3 rfl) ?_
        subst hres
        exact kxr_i hx hb hr hlk hK hW hS dX5_play_127 (Nat.le_of_ble_eq_true rfl) (Nat.le_of_ble_eq_true rfl)
      · have hres := (if_pos c7).symm.trans hres
        have hs := And.left hs c7
        refine lv_aload_n hx hb dX5_play_65 rfl (lv_at hl 0 rfl) ?_
        refine g5_2 hx hb hts hown hK hW hO.1 (hts _ q1_212) dX5_play_66 ?_
        refine lv_aload_n hx hb dX5_play_69 rfl (lv_at hl 0 rfl) ?_
        refine g5_0 hx hb hts hown hK hW hO.1 (hts _ q1_210) dX5_play_70 ?_
        refine lv_iload_n hx hb dX5_play_73 rfl (lv_at hl 1 rfl) ?_
        obtain ⟨hc8, hs⟩ := hs
        refine kV_v (As := [.ref (a + 1), .int x1]) (rest := []) ⟨hx, hb, hml, hown, hts⟩ (kX3_run l X h (a + 78) (a + 1) x1 hO.2.2.2.1 hO.2.1 hc8) (wX3_run hts q2_117 ⟨Nat.le_of_ble_eq_true rfl, Nat.le_of_ble_eq_true rfl⟩) hK hW hS (va_recv hK.1 (hW.one hO.2.2.2.1.1) (ci := 3) (q0 := 0) rfl rfl) rfl hl.1 rfl (Nat.le_of_ble_eq_true rfl) dX5_play_74 ⟨Nat.le_of_ble_eq_true rfl, Nat.le_of_ble_eq_true rfl⟩ (fun H locs hW hS => ?_)
        refine lv_aload_n hx hb dX5_play_77 rfl (lv_at hl 0 rfl) ?_
        refine g5_2 hx hb hts hown hK hW hO.1 (hts _ q1_212) dX5_play_78 ?_
        refine lv_iconst (v := 0) hx hb dX5_play_81 (by decide) ?_
        exact xX5_play_c82 hO hst hout C0 ih x1 x2 x3 0 (fX3_run (a + 78) (a + 1) x1 h) _ _ _ _ (lv_sub hl [0, 1, 2, 3] rfl) hW hS hs hres
def fX5_play_c34 (a : Nat) (x1 : Int32) (x2 : Int32) (xs0 : Int32) (h : HH) : Nat × Int32 × HH := if fX5_requireArgument xs0 = 0 then (fX5_play_c50 a 11 x1 x2 0 (fX4_push (a + 16) (a + 1) h)) else (fX5_requireArgument xs0, 0, h)
def sX5_play_c34 (a : Nat) (x1 : Int32) (x2 : Int32) (xs0 : Int32) (h : HH) : Prop := (fX5_requireArgument xs0 = 0 → ((sX4_push (a + 16) (a + 1) h) ∧ (sX5_play_c50 a 11 x1 x2 0 (fX4_push (a + 16) (a + 1) h))))
set_option maxRecDepth 100000 in
set_option maxHeartbeats 4000000 in
theorem xX5_play_c34 {p : Program} {l : Launch} {e : Env} {s : State} {m : MethodId} {args : Array Value} {below : List Frame} {meth : Method} {c : Code} {X : Cx} {a : Nat} (hO : IsBd X a) (hst : l.stackTraces = false) (hout : ∀ x ∈ c.exceptionTable.toList, False) (C0 : CT p s m args meth c X cX5_play 5 (some .int) RX5) (x1 : Int32) (x2 : Int32) (xs0 : Int32) (h : HH) (H : Heap) (locs : List Loc) (ls : Array Slot) (res : Nat × Int32 × HH) (hl : lv_has ls 5 [(0, .ref a), (1, .int x1), (2, .int x2)]) (hW : WH X h H) (hS : va_S (xA X) s.heap H locs) (hs : sX5_play_c34 a x1 x2 xs0 h) (hres : fX5_play_c34 a x1 x2 xs0 h = res) : W p l e rmX5_play s m args below meth c H locs 1 6 (vx_MQ below (QXi X res) (XXi X res) args s 3 18 (xA X)) (F0 m 34 ls [.int xs0]) := by
  obtain ⟨hx, hb, hr, hlk, hml, hown, hts, hK⟩ := id C0
  refine kxS (As := [.int xs0]) (rest := []) ⟨hx, hb, hml, hown, hts⟩ (kX5_requireArgument l hst X h xs0) (wX5_requireArgument hts q2_212 ⟨Nat.le_of_ble_eq_true rfl, Nat.le_of_ble_eq_true rfl⟩) hK hW hS rfl hl.1 rfl (Nat.le_of_ble_eq_true rfl) dX5_play_34 ⟨Nat.le_of_ble_eq_true rfl, Nat.le_of_ble_eq_true rfl⟩ hlk hout (Nat.le_of_ble_eq_true rfl) (Nat.le_of_ble_eq_true rfl) (xh_i (fun c4 => (if_neg c4).symm.trans hres)) (fun c4 H locs hW hS => ?_)
  have hres := (if_pos c4).symm.trans hres
  have hs := hs c4
  refine lv_aload_n hx hb dX5_play_37 rfl (lv_at hl 0 rfl) ?_
  refine g5_1 hx hb hts hown hK hW hO.1 (hts _ q1_211) dX5_play_38 ?_
  refine lv_aload_n hx hb dX5_play_41 rfl (lv_at hl 0 rfl) ?_
  refine g5_0 hx hb hts hown hK hW hO.1 (hts _ q1_210) dX5_play_42 ?_
  obtain ⟨hc5, hs⟩ := hs
  refine kV_v (As := [.ref (a + 1)]) (rest := []) ⟨hx, hb, hml, hown, hts⟩ (kX4_push l X h (a + 16) (a + 1) hO.2.2.1 hO.2.1 hc5) (wX4_push hts q3_43 ⟨Nat.le_of_ble_eq_true rfl, Nat.le_of_ble_eq_true rfl⟩) hK hW hS (va_recv hK.1 (hW.one hO.2.2.1.1) (ci := 4) (q0 := 0) rfl rfl) rfl hl.1 rfl (Nat.le_of_ble_eq_true rfl) dX5_play_45 ⟨Nat.le_of_ble_eq_true rfl, Nat.le_of_ble_eq_true rfl⟩ (fun H locs hW hS => ?_)
  refine lv_iconst (v := 0) hx hb dX5_play_48 (by decide) ?_
  refine lv_istore_n (lv' := [(3, .int 0), (0, .ref a), (1, .int x1), (2, .int x2)]) hx hb dX5_play_49 rfl hl (by decide) rfl (fun ls hl => ?_)
  exact xX5_play_c50 hO hst hout C0 11 x1 x2 0 (fX4_push (a + 16) (a + 1) h) _ _ _ _ (lv_sub hl [1, 2, 3, 0] rfl) hW hS hs hres
def fX5_play_c33 (a : Nat) (x1 : Int32) (x2 : Int32) (h : HH) : Nat × Int32 × HH := fX5_play_c34 a x1 x2 0 h
def sX5_play_c33 (a : Nat) (x1 : Int32) (x2 : Int32) (h : HH) : Prop := sX5_play_c34 a x1 x2 0 h
set_option maxRecDepth 100000 in
set_option maxHeartbeats 4000000 in
theorem xX5_play_c33 {p : Program} {l : Launch} {e : Env} {s : State} {m : MethodId} {args : Array Value} {below : List Frame} {meth : Method} {c : Code} {X : Cx} {a : Nat} (hO : IsBd X a) (hst : l.stackTraces = false) (hout : ∀ x ∈ c.exceptionTable.toList, False) (C0 : CT p s m args meth c X cX5_play 5 (some .int) RX5) (x1 : Int32) (x2 : Int32) (h : HH) (H : Heap) (locs : List Loc) (ls : Array Slot) (res : Nat × Int32 × HH) (hl : lv_has ls 5 [(0, .ref a), (1, .int x1), (2, .int x2)]) (hW : WH X h H) (hS : va_S (xA X) s.heap H locs) (hs : sX5_play_c33 a x1 x2 h) (hres : fX5_play_c33 a x1 x2 h = res) : W p l e rmX5_play s m args below meth c H locs 1 6 (vx_MQ below (QXi X res) (XXi X res) args s 3 18 (xA X)) (F0 m 33 ls []) := by
  obtain ⟨hx, hb, hr, hlk, hml, hown, hts, hK⟩ := id C0
  refine lv_iconst (v := 0) hx hb dX5_play_33 (by decide) ?_
  exact xX5_play_c34 hO hst hout C0 x1 x2 0 h _ _ _ _ (lv_sub hl [0, 1, 2] rfl) hW hS hs hres
def fX5_play_c15 (a : Nat) (x1 : Int32) (x2 : Int32) (xs0 : Int32) (h : HH) : Nat × Int32 × HH := if fX5_requireArgument xs0 = 0 then (if x2 < 1 then (fX5_play_c33 a x1 x2 h) else (if 10 < x2 then (fX5_play_c33 a x1 x2 h) else (fX5_play_c34 a x1 x2 1 h))) else (fX5_requireArgument xs0, 0, h)
def sX5_play_c15 (a : Nat) (x1 : Int32) (x2 : Int32) (xs0 : Int32) (h : HH) : Prop := (fX5_requireArgument xs0 = 0 → ((x2 < 1 → (sX5_play_c33 a x1 x2 h)) ∧ (¬ (x2 < 1) → ((10 < x2 → (sX5_play_c33 a x1 x2 h)) ∧ (¬ (10 < x2) → (sX5_play_c34 a x1 x2 1 h))))))
set_option maxRecDepth 100000 in
set_option maxHeartbeats 4000000 in
theorem xX5_play_c15 {p : Program} {l : Launch} {e : Env} {s : State} {m : MethodId} {args : Array Value} {below : List Frame} {meth : Method} {c : Code} {X : Cx} {a : Nat} (hO : IsBd X a) (hst : l.stackTraces = false) (hout : ∀ x ∈ c.exceptionTable.toList, False) (C0 : CT p s m args meth c X cX5_play 5 (some .int) RX5) (x1 : Int32) (x2 : Int32) (xs0 : Int32) (h : HH) (H : Heap) (locs : List Loc) (ls : Array Slot) (res : Nat × Int32 × HH) (hl : lv_has ls 5 [(0, .ref a), (1, .int x1), (2, .int x2)]) (hW : WH X h H) (hS : va_S (xA X) s.heap H locs) (hs : sX5_play_c15 a x1 x2 xs0 h) (hres : fX5_play_c15 a x1 x2 xs0 h = res) : W p l e rmX5_play s m args below meth c H locs 0 0 (vx_MQ below (QXi X res) (XXi X res) args s 3 18 (xA X)) (F0 m 15 ls [.int xs0]) := by
  obtain ⟨hx, hb, hr, hlk, hml, hown, hts, hK⟩ := id C0
  refine kxS (As := [.int xs0]) (rest := []) ⟨hx, hb, hml, hown, hts⟩ (kX5_requireArgument l hst X h xs0) (wX5_requireArgument hts q2_212 ⟨Nat.le_of_ble_eq_true rfl, Nat.le_of_ble_eq_true rfl⟩) hK hW hS rfl hl.1 rfl (Nat.le_of_ble_eq_true rfl) dX5_play_15 ⟨Nat.le_of_ble_eq_true rfl, Nat.le_of_ble_eq_true rfl⟩ hlk hout (Nat.le_of_ble_eq_true rfl) (Nat.le_of_ble_eq_true rfl) (xh_i (fun c2 => (if_neg c2).symm.trans hres)) (fun c2 H locs hW hS => ?_)
  have hres := (if_pos c2).symm.trans hres
  have hs := hs c2
  refine lv_iload_n hx hb dX5_play_18 rfl (lv_at hl 2 rfl) ?_
  refine lv_iconst (v := 1) hx hb dX5_play_19 (by decide) ?_
  refine lv_icmp_lt (tgt := 33) hx hb dX5_play_20 (by decide) (fun c3 => ?_) (fun c3 => ?_)
  · have hres := (if_pos c3).symm.trans hres
    have hs := And.left hs c3
    exact xX5_play_c33 hO hst hout C0 x1 x2 h _ _ _ _ (lv_sub hl [0, 1, 2] rfl) hW hS hs hres
  · have hres := (if_neg c3).symm.trans hres
    have hs := And.right hs c3
    refine lv_iload_n hx hb dX5_play_23 rfl (lv_at hl 2 rfl) ?_
    refine lv_bipush (v := 10) hx hb dX5_play_24 (by decide) ?_
    refine lv_icmp_gt (tgt := 33) hx hb dX5_play_26 (by decide) (fun c13 => ?_) (fun c13 => ?_)
    · have hres := (if_pos c13).symm.trans hres
      have hs := And.left hs c13
      exact xX5_play_c33 hO hst hout C0 x1 x2 h _ _ _ _ (lv_sub hl [0, 1, 2] rfl) hW hS hs hres
    · have hres := (if_neg c13).symm.trans hres
      have hs := And.right hs c13
      refine lv_iconst (v := 1) hx hb dX5_play_29 (by decide) ?_
      refine lv_goto (tgt := 34) hx hb dX5_play_30 (by decide) ?_
      exact xX5_play_c34 hO hst hout C0 x1 x2 1 h _ _ _ _ (lv_sub hl [0, 1, 2] rfl) hW hS hs hres
def fX5_play_c14 (a : Nat) (x1 : Int32) (x2 : Int32) (h : HH) : Nat × Int32 × HH := fX5_play_c15 a x1 x2 0 h
def sX5_play_c14 (a : Nat) (x1 : Int32) (x2 : Int32) (h : HH) : Prop := sX5_play_c15 a x1 x2 0 h
set_option maxRecDepth 100000 in
set_option maxHeartbeats 4000000 in
theorem xX5_play_c14 {p : Program} {l : Launch} {e : Env} {s : State} {m : MethodId} {args : Array Value} {below : List Frame} {meth : Method} {c : Code} {X : Cx} {a : Nat} (hO : IsBd X a) (hst : l.stackTraces = false) (hout : ∀ x ∈ c.exceptionTable.toList, False) (C0 : CT p s m args meth c X cX5_play 5 (some .int) RX5) (x1 : Int32) (x2 : Int32) (h : HH) (H : Heap) (locs : List Loc) (ls : Array Slot) (res : Nat × Int32 × HH) (hl : lv_has ls 5 [(0, .ref a), (1, .int x1), (2, .int x2)]) (hW : WH X h H) (hS : va_S (xA X) s.heap H locs) (hs : sX5_play_c14 a x1 x2 h) (hres : fX5_play_c14 a x1 x2 h = res) : W p l e rmX5_play s m args below meth c H locs 0 0 (vx_MQ below (QXi X res) (XXi X res) args s 3 18 (xA X)) (F0 m 14 ls []) := by
  obtain ⟨hx, hb, hr, hlk, hml, hown, hts, hK⟩ := id C0
  refine lv_iconst (v := 0) hx hb dX5_play_14 (by decide) ?_
  exact xX5_play_c15 hO hst hout C0 x1 x2 0 h _ _ _ _ (lv_sub hl [0, 1, 2] rfl) hW hS hs hres
def fX5_play_c0 (a : Nat) (x1 : Int32) (x2 : Int32) (h : HH) : Nat × Int32 × HH := if x1 < 1 then (fX5_play_c14 a x1 x2 h) else (if 2 < x1 then (fX5_play_c14 a x1 x2 h) else (fX5_play_c15 a x1 x2 1 h))
def sX5_play_c0 (a : Nat) (x1 : Int32) (x2 : Int32) (h : HH) : Prop := (x1 < 1 → (sX5_play_c14 a x1 x2 h)) ∧ (¬ (x1 < 1) → ((2 < x1 → (sX5_play_c14 a x1 x2 h)) ∧ (¬ (2 < x1) → (sX5_play_c15 a x1 x2 1 h))))
set_option maxRecDepth 100000 in
set_option maxHeartbeats 4000000 in
theorem xX5_play_c0 {p : Program} {l : Launch} {e : Env} {s : State} {m : MethodId} {args : Array Value} {below : List Frame} {meth : Method} {c : Code} {X : Cx} {a : Nat} (hO : IsBd X a) (hst : l.stackTraces = false) (hout : ∀ x ∈ c.exceptionTable.toList, False) (C0 : CT p s m args meth c X cX5_play 5 (some .int) RX5) (x1 : Int32) (x2 : Int32) (h : HH) (H : Heap) (locs : List Loc) (ls : Array Slot) (res : Nat × Int32 × HH) (hl : lv_has ls 5 [(0, .ref a), (1, .int x1), (2, .int x2)]) (hW : WH X h H) (hS : va_S (xA X) s.heap H locs) (hs : sX5_play_c0 a x1 x2 h) (hres : fX5_play_c0 a x1 x2 h = res) : W p l e rmX5_play s m args below meth c H locs 0 0 (vx_MQ below (QXi X res) (XXi X res) args s 3 18 (xA X)) (F0 m 0 ls []) := by
  obtain ⟨hx, hb, hr, hlk, hml, hown, hts, hK⟩ := id C0
  refine lv_iload_n hx hb dX5_play_0 rfl (lv_at hl 1 rfl) ?_
  refine lv_iconst (v := 1) hx hb dX5_play_1 (by decide) ?_
  refine lv_icmp_lt (tgt := 14) hx hb dX5_play_2 (by decide) (fun c1 => ?_) (fun c1 => ?_)
  · have hres := (if_pos c1).symm.trans hres
    have hs := And.left hs c1
    exact xX5_play_c14 hO hst hout C0 x1 x2 h _ _ _ _ (lv_sub hl [0, 1, 2] rfl) hW hS hs hres
  · have hres := (if_neg c1).symm.trans hres
    have hs := And.right hs c1
    refine lv_iload_n hx hb dX5_play_5 rfl (lv_at hl 1 rfl) ?_
    refine lv_iconst (v := 2) hx hb dX5_play_6 (by decide) ?_
    refine lv_icmp_gt (tgt := 14) hx hb dX5_play_7 (by decide) (fun c14 => ?_) (fun c14 => ?_)
    · have hres := (if_pos c14).symm.trans hres
      have hs := And.left hs c14
      exact xX5_play_c14 hO hst hout C0 x1 x2 h _ _ _ _ (lv_sub hl [0, 1, 2] rfl) hW hS hs hres
    · have hres := (if_neg c14).symm.trans hres
      have hs := And.right hs c14
      refine lv_iconst (v := 1) hx hb dX5_play_10 (by decide) ?_
      refine lv_goto (tgt := 15) hx hb dX5_play_11 (by decide) ?_
      exact xX5_play_c15 hO hst hout C0 x1 x2 1 h _ _ _ _ (lv_sub hl [0, 1, 2] rfl) hW hS hs hres
def fX5_play (a : Nat) (x1 : Int32) (x2 : Int32) (h : HH) : Nat × Int32 × HH := fX5_play_c0 a x1 x2 h
def sX5_play (a : Nat) (x1 : Int32) (x2 : Int32) (h : HH) : Prop := sX5_play_c0 a x1 x2 h
set_option maxRecDepth 100000 in
set_option maxHeartbeats 4000000 in
theorem kX5_play (l : Launch) (hst : l.stackTraces = false) (X : Cx) (h : HH) (a : Nat) (x1 : Int32) (x2 : Int32) (hO : IsBd X a) (hs : sX5_play a x1 x2 h) : vx_Met l yX5_play vX5_play rmX5_play (va_Pc [.ref a, .int x1, .int x2] (fun U => WS X h U)) (QXi X (fX5_play a x1 x2 h)) (XXi X (fX5_play a x1 x2 h)) 3 18 (xA X) := by
  refine vx_ofW (cc := cX5_play) (maxL := 5) (ret := some .int) (by decide) rfl ?_
  intro p e s m args below meth c s₁ B hml hout hv
  obtain ⟨rfl, hW, hK⟩ := hv
  have hl := lv_entry ([.ref a, .int x1, .int x2]) (n := 5) (Nat.le_of_ble_eq_true rfl)
  rw [lg_entry_eq]
  generalize (lg_sl ([.ref a, .int x1, .int x2]) ++ List.replicate (5 - (lg_sl ([.ref a, .int x1, .int x2])).length) Slot.unset).toArray = ls at hl ⊢
  have hl : lv_has ls 5 [(0, .ref a), (1, .int x1), (2, .int x2)] := hl
  exact xX5_play_c0 hO hst hout ⟨B.exec, B.bytes, B.returns, B.notSynchronized, hml, findClass_of_methodNamed B.named, fun w hw => atoms_spec (ws := vX5_play) B.pre w (List.mem_cons_of_mem _ hw), hK⟩ x1 x2 h _ _ ls _ (lv_sub hl [0, 1, 2] rfl) hW va_S.rf hs rfl
-- VillageBoard.players()I
abbrev rmX5_players : Room := ({ frames := 0, cells := 0, slots := 0, locals := 0 } : Room)
abbrev vX5_players : List Cond := Cond.code yX5_players cX5_players 1 (some .int) :: lwG
theorem wX5_players {R : Room} {s : State} {args : Array Value} {own : String} {idx : Nat} (hg : ∀ w ∈ lwG, w.before args s = true) (hl : Cond.methodLink own idx yX5_players ∈ lwG) (hR : rmX5_players.frames + 1 ≤ R.frames ∧ 8 + (1 + 11) + rmX5_players.locals ≤ R.locals) : CallW R s args own RX5 idx yX5_players cX5_players 1 (some .int) vX5_players rmX5_players 0 0 0 := cwV 0 hg (gV hl q1_224 q1_225 q1_1 q1_226) rfl rfl rfl (by decide +kernel) hR
def fX5_players_c0 (a : Nat) (h : HH) : Int32 := h (a + 1) 0
set_option maxRecDepth 100000 in
set_option maxHeartbeats 4000000 in
theorem xX5_players_c0 {p : Program} {l : Launch} {e : Env} {s : State} {m : MethodId} {args : Array Value} {below : List Frame} {meth : Method} {c : Code} {X : Cx} {a : Nat} (hO : IsBd X a) (C0 : CT p s m args meth c X cX5_players 1 (some .int) RX5) (h : HH) (H : Heap) (locs : List Loc) (ls : Array Slot) (res : Int32) (hl : lv_has ls 1 [(0, .ref a)]) (hW : WH X h H) (hS : va_S (xA X) s.heap H locs) (hres : fX5_players_c0 a h = res) : W p l e rmX5_players s m args below meth c H locs 0 0 (MQ below (QI X res h) args s 0 0 (xA X)) (F0 m 0 ls []) := by
  obtain ⟨hx, hb, hr, hlk, hml, hown, hts, hK⟩ := id C0
  refine lv_aload_n hx hb dX5_players_0 rfl (lv_at hl 0 rfl) ?_
  refine g5_0 hx hb hts hown hK hW hO.1 (hts _ q1_210) dX5_players_1 ?_
  refine g0_0 hx hb hts hown hK hW hO.2.1.1 (hts _ q1_84) dX5_players_4 ?_
  subst hres
  exact kr_i hx hb hr hlk hK hW hS dX5_players_7
def fX5_players (a : Nat) (h : HH) : Int32 := fX5_players_c0 a h
set_option maxRecDepth 100000 in
set_option maxHeartbeats 4000000 in
theorem kX5_players (l : Launch) (X : Cx) (h : HH) (a : Nat) (hO : IsBd X a) : Met l yX5_players vX5_players rmX5_players (va_Pc [.ref a] (fun U => WS X h U)) (QI X (fX5_players a h) h) 0 0 (xA X) := by
  refine Met.ofW (cc := cX5_players) (maxL := 1) (ret := some .int) (by decide) rfl ?_
  intro p e s m args below meth c s₁ B hml hv
  obtain ⟨rfl, hW, hK⟩ := hv
  have hl := lv_entry ([.ref a]) (n := 1) (Nat.le_of_ble_eq_true rfl)
  rw [lg_entry_eq]
  generalize (lg_sl ([.ref a]) ++ List.replicate (1 - (lg_sl ([.ref a])).length) Slot.unset).toArray = ls at hl ⊢
  have hl : lv_has ls 1 [(0, .ref a)] := hl
  exact xX5_players_c0 hO ⟨B.exec, B.bytes, B.returns, B.notSynchronized, hml, findClass_of_methodNamed B.named, fun w hw => atoms_spec (ws := vX5_players) B.pre w (List.mem_cons_of_mem _ hw), hK⟩ h _ _ ls _ (lv_sub hl [0] rfl) hW va_S.rf rfl
-- VillageBoard.round()I
abbrev rmX5_round : Room := ({ frames := 0, cells := 0, slots := 0, locals := 0 } : Room)
abbrev vX5_round : List Cond := Cond.code yX5_round cX5_round 1 (some .int) :: lwG
theorem wX5_round {R : Room} {s : State} {args : Array Value} {own : String} {idx : Nat} (hg : ∀ w ∈ lwG, w.before args s = true) (hl : Cond.methodLink own idx yX5_round ∈ lwG) (hR : rmX5_round.frames + 1 ≤ R.frames ∧ 8 + (1 + 11) + rmX5_round.locals ≤ R.locals) : CallW R s args own RX5 idx yX5_round cX5_round 1 (some .int) vX5_round rmX5_round 0 0 0 := cwV 0 hg (gV hl q1_228 q1_229 q1_1 q1_230) rfl rfl rfl (by decide +kernel) hR
def fX5_round_c0 (a : Nat) (h : HH) : Int32 := h (a + 1) 2
set_option maxRecDepth 100000 in
set_option maxHeartbeats 4000000 in
theorem xX5_round_c0 {p : Program} {l : Launch} {e : Env} {s : State} {m : MethodId} {args : Array Value} {below : List Frame} {meth : Method} {c : Code} {X : Cx} {a : Nat} (hO : IsBd X a) (C0 : CT p s m args meth c X cX5_round 1 (some .int) RX5) (h : HH) (H : Heap) (locs : List Loc) (ls : Array Slot) (res : Int32) (hl : lv_has ls 1 [(0, .ref a)]) (hW : WH X h H) (hS : va_S (xA X) s.heap H locs) (hres : fX5_round_c0 a h = res) : W p l e rmX5_round s m args below meth c H locs 0 0 (MQ below (QI X res h) args s 0 0 (xA X)) (F0 m 0 ls []) := by
  obtain ⟨hx, hb, hr, hlk, hml, hown, hts, hK⟩ := id C0
  refine lv_aload_n hx hb dX5_round_0 rfl (lv_at hl 0 rfl) ?_
  refine g5_0 hx hb hts hown hK hW hO.1 (hts _ q1_210) dX5_round_1 ?_
  refine g0_2 hx hb hts hown hK hW hO.2.1.1 (hts _ q1_88) dX5_round_4 ?_
  subst hres
  exact kr_i hx hb hr hlk hK hW hS dX5_round_7
def fX5_round (a : Nat) (h : HH) : Int32 := fX5_round_c0 a h
set_option maxRecDepth 100000 in
set_option maxHeartbeats 4000000 in
theorem kX5_round (l : Launch) (X : Cx) (h : HH) (a : Nat) (hO : IsBd X a) : Met l yX5_round vX5_round rmX5_round (va_Pc [.ref a] (fun U => WS X h U)) (QI X (fX5_round a h) h) 0 0 (xA X) := by
  refine Met.ofW (cc := cX5_round) (maxL := 1) (ret := some .int) (by decide) rfl ?_
  intro p e s m args below meth c s₁ B hml hv
  obtain ⟨rfl, hW, hK⟩ := hv
  have hl := lv_entry ([.ref a]) (n := 1) (Nat.le_of_ble_eq_true rfl)
  rw [lg_entry_eq]
  generalize (lg_sl ([.ref a]) ++ List.replicate (1 - (lg_sl ([.ref a])).length) Slot.unset).toArray = ls at hl ⊢
  have hl : lv_has ls 1 [(0, .ref a)] := hl
  exact xX5_round_c0 hO ⟨B.exec, B.bytes, B.returns, B.notSynchronized, hml, findClass_of_methodNamed B.named, fun w hw => atoms_spec (ws := vX5_round) B.pre w (List.mem_cons_of_mem _ hw), hK⟩ h _ _ ls _ (lv_sub hl [0] rfl) hW va_S.rf rfl
-- VillageBoard.inTurn()I
abbrev rmX5_inTurn : Room := ({ frames := 0, cells := 0, slots := 0, locals := 0 } : Room)
abbrev vX5_inTurn : List Cond := Cond.code yX5_inTurn cX5_inTurn 1 (some .int) :: lwG
theorem wX5_inTurn {R : Room} {s : State} {args : Array Value} {own : String} {idx : Nat} (hg : ∀ w ∈ lwG, w.before args s = true) (hl : Cond.methodLink own idx yX5_inTurn ∈ lwG) (hR : rmX5_inTurn.frames + 1 ≤ R.frames ∧ 8 + (1 + 11) + rmX5_inTurn.locals ≤ R.locals) : CallW R s args own RX5 idx yX5_inTurn cX5_inTurn 1 (some .int) vX5_inTurn rmX5_inTurn 0 0 0 := cwV 0 hg (gV hl q1_232 q1_233 q1_1 q1_234) rfl rfl rfl (by decide +kernel) hR
def fX5_inTurn_c0 (a : Nat) (h : HH) : Int32 := h (a + 1) 3
set_option maxRecDepth 100000 in
set_option maxHeartbeats 4000000 in
theorem xX5_inTurn_c0 {p : Program} {l : Launch} {e : Env} {s : State} {m : MethodId} {args : Array Value} {below : List Frame} {meth : Method} {c : Code} {X : Cx} {a : Nat} (hO : IsBd X a) (C0 : CT p s m args meth c X cX5_inTurn 1 (some .int) RX5) (h : HH) (H : Heap) (locs : List Loc) (ls : Array Slot) (res : Int32) (hl : lv_has ls 1 [(0, .ref a)]) (hW : WH X h H) (hS : va_S (xA X) s.heap H locs) (hres : fX5_inTurn_c0 a h = res) : W p l e rmX5_inTurn s m args below meth c H locs 0 0 (MQ below (QI X res h) args s 0 0 (xA X)) (F0 m 0 ls []) := by
  obtain ⟨hx, hb, hr, hlk, hml, hown, hts, hK⟩ := id C0
  refine lv_aload_n hx hb dX5_inTurn_0 rfl (lv_at hl 0 rfl) ?_
  refine g5_0 hx hb hts hown hK hW hO.1 (hts _ q1_210) dX5_inTurn_1 ?_
  refine g0_3 hx hb hts hown hK hW hO.2.1.1 (hts _ q1_90) dX5_inTurn_4 ?_
  subst hres
  exact kr_i hx hb hr hlk hK hW hS dX5_inTurn_7
def fX5_inTurn (a : Nat) (h : HH) : Int32 := fX5_inTurn_c0 a h
set_option maxRecDepth 100000 in
set_option maxHeartbeats 4000000 in
theorem kX5_inTurn (l : Launch) (X : Cx) (h : HH) (a : Nat) (hO : IsBd X a) : Met l yX5_inTurn vX5_inTurn rmX5_inTurn (va_Pc [.ref a] (fun U => WS X h U)) (QI X (fX5_inTurn a h) h) 0 0 (xA X) := by
  refine Met.ofW (cc := cX5_inTurn) (maxL := 1) (ret := some .int) (by decide) rfl ?_
  intro p e s m args below meth c s₁ B hml hv
  obtain ⟨rfl, hW, hK⟩ := hv
  have hl := lv_entry ([.ref a]) (n := 1) (Nat.le_of_ble_eq_true rfl)
  rw [lg_entry_eq]
  generalize (lg_sl ([.ref a]) ++ List.replicate (1 - (lg_sl ([.ref a])).length) Slot.unset).toArray = ls at hl ⊢
  have hl : lv_has ls 1 [(0, .ref a)] := hl
  exact xX5_inTurn_c0 hO ⟨B.exec, B.bytes, B.returns, B.notSynchronized, hml, findClass_of_methodNamed B.named, fun w hw => atoms_spec (ws := vX5_inTurn) B.pre w (List.mem_cons_of_mem _ hw), hK⟩ h _ _ ls _ (lv_sub hl [0] rfl) hW va_S.rf rfl
-- VillageBoard.startPlayer()I
abbrev rmX5_startPlayer : Room := ({ frames := 0, cells := 0, slots := 0, locals := 0 } : Room)
abbrev vX5_startPlayer : List Cond := Cond.code yX5_startPlayer cX5_startPlayer 1 (some .int) :: lwG
theorem wX5_startPlayer {R : Room} {s : State} {args : Array Value} {own : String} {idx : Nat} (hg : ∀ w ∈ lwG, w.before args s = true) (hl : Cond.methodLink own idx yX5_startPlayer ∈ lwG) (hR : rmX5_startPlayer.frames + 1 ≤ R.frames ∧ 8 + (1 + 11) + rmX5_startPlayer.locals ≤ R.locals) : CallW R s args own RX5 idx yX5_startPlayer cX5_startPlayer 1 (some .int) vX5_startPlayer rmX5_startPlayer 0 0 0 := cwV 0 hg (gV hl q1_236 q1_237 q1_1 q1_238) rfl rfl rfl (by decide +kernel) hR
def fX5_startPlayer_c0 (a : Nat) (h : HH) : Int32 := h (a + 1) 4
set_option maxRecDepth 100000 in
set_option maxHeartbeats 4000000 in
theorem xX5_startPlayer_c0 {p : Program} {l : Launch} {e : Env} {s : State} {m : MethodId} {args : Array Value} {below : List Frame} {meth : Method} {c : Code} {X : Cx} {a : Nat} (hO : IsBd X a) (C0 : CT p s m args meth c X cX5_startPlayer 1 (some .int) RX5) (h : HH) (H : Heap) (locs : List Loc) (ls : Array Slot) (res : Int32) (hl : lv_has ls 1 [(0, .ref a)]) (hW : WH X h H) (hS : va_S (xA X) s.heap H locs) (hres : fX5_startPlayer_c0 a h = res) : W p l e rmX5_startPlayer s m args below meth c H locs 0 0 (MQ below (QI X res h) args s 0 0 (xA X)) (F0 m 0 ls []) := by
  obtain ⟨hx, hb, hr, hlk, hml, hown, hts, hK⟩ := id C0
  refine lv_aload_n hx hb dX5_startPlayer_0 rfl (lv_at hl 0 rfl) ?_
  refine g5_0 hx hb hts hown hK hW hO.1 (hts _ q1_210) dX5_startPlayer_1 ?_
  refine g0_4 hx hb hts hown hK hW hO.2.1.1 (hts _ q1_93) dX5_startPlayer_4 ?_
  subst hres
  exact kr_i hx hb hr hlk hK hW hS dX5_startPlayer_7
def fX5_startPlayer (a : Nat) (h : HH) : Int32 := fX5_startPlayer_c0 a h
set_option maxRecDepth 100000 in
set_option maxHeartbeats 4000000 in
theorem kX5_startPlayer (l : Launch) (X : Cx) (h : HH) (a : Nat) (hO : IsBd X a) : Met l yX5_startPlayer vX5_startPlayer rmX5_startPlayer (va_Pc [.ref a] (fun U => WS X h U)) (QI X (fX5_startPlayer a h) h) 0 0 (xA X) := by
  refine Met.ofW (cc := cX5_startPlayer) (maxL := 1) (ret := some .int) (by decide) rfl ?_
  intro p e s m args below meth c s₁ B hml hv
  obtain ⟨rfl, hW, hK⟩ := hv
  have hl := lv_entry ([.ref a]) (n := 1) (Nat.le_of_ble_eq_true rfl)
  rw [lg_entry_eq]
  generalize (lg_sl ([.ref a]) ++ List.replicate (1 - (lg_sl ([.ref a])).length) Slot.unset).toArray = ls at hl ⊢
  have hl : lv_has ls 1 [(0, .ref a)] := hl
  exact xX5_startPlayer_c0 hO ⟨B.exec, B.bytes, B.returns, B.notSynchronized, hml, findClass_of_methodNamed B.named, fun w hw => atoms_spec (ws := vX5_startPlayer) B.pre w (List.mem_cons_of_mem _ hw), hK⟩ h _ _ ls _ (lv_sub hl [0] rfl) hW va_S.rf rfl
-- VillageBoard.requirePlayer(I)V
abbrev rmX5_requirePlayer : Room := ({ frames := 7, cells := 1, slots := 6, locals := 110 } : Room)
abbrev vX5_requirePlayer : List Cond := Cond.code yX5_requirePlayer cX5_requirePlayer 2 none :: lwG
theorem wX5_requirePlayer {R : Room} {s : State} {args : Array Value} {own : String} {idx : Nat} (hg : ∀ w ∈ lwG, w.before args s = true) (hl : Cond.methodLink own idx yX5_requirePlayer ∈ lwG) (hR : rmX5_requirePlayer.frames + 1 ≤ R.frames ∧ 8 + (2 + 11) + rmX5_requirePlayer.locals ≤ R.locals) : CallW R s args own RX5 idx yX5_requirePlayer cX5_requirePlayer 2 none vX5_requirePlayer rmX5_requirePlayer 1 6 1 := cwV 1 hg (gV hl q3_158 q0_16 q1_1 q3_159) rfl rfl rfl (by decide +kernel) hR
def fX5_requirePlayer_c20 (a : Nat) (xs0 : Int32) (h : HH) : Nat := if fX5_requireIndex xs0 = 0 then 0 else (fX5_requireIndex xs0)
set_option maxRecDepth 100000 in
set_option maxHeartbeats 4000000 in
theorem xX5_requirePlayer_c20 {p : Program} {l : Launch} {e : Env} {s : State} {m : MethodId} {args : Array Value} {below : List Frame} {meth : Method} {c : Code} {X : Cx} {a : Nat} (hO : IsBd X a) (hst : l.stackTraces = false) (hout : ∀ x ∈ c.exceptionTable.toList, False) (C0 : CT p s m args meth c X cX5_requirePlayer 2 none RX5) (xs0 : Int32) (h : HH) (H : Heap) (locs : List Loc) (ls : Array Slot) (res : Nat) (hl : lv_has ls 2 []) (hW : WH X h H) (hS : va_S (xA X) s.heap H locs) (hres : fX5_requirePlayer_c20 a xs0 h = res) : W p l e rmX5_requirePlayer s m args below meth c H locs 0 0 (vx_MQ below (QXv X res h) (XXv X res h) args s 1 6 (xA X)) (F0 m 20 ls [.int xs0]) := by
  obtain ⟨hx, hb, hr, hlk, hml, hown, hts, hK⟩ := id C0
  refine kxS (As := [.int xs0]) (rest := []) ⟨hx, hb, hml, hown, hts⟩ (kX5_requireIndex l hst X h xs0) (wX5_requireIndex hts q3_57 ⟨Nat.le_of_ble_eq_true rfl, Nat.le_of_ble_eq_true rfl⟩) hK hW hS rfl hl.1 rfl (Nat.le_of_ble_eq_true rfl) dX5_requirePlayer_20 ⟨Nat.le_of_ble_eq_true rfl, Nat.le_of_ble_eq_true rfl⟩ hlk hout (Nat.le_of_ble_eq_true rfl) (Nat.le_of_ble_eq_true rfl) (xh_v (fun c2 => (if_neg c2).symm.trans hres)) (fun c2 H locs hW hS => ?_)
  have hres := (if_pos c2).symm.trans hres
  subst hres
  exact kxr_v hx hb hr hlk hK hW hS dX5_requirePlayer_23 (Nat.le_of_ble_eq_true rfl) (Nat.le_of_ble_eq_true rfl)
def fX5_requirePlayer_c19 (a : Nat) (h : HH) : Nat := fX5_requirePlayer_c20 a 0 h
set_option maxRecDepth 100000 in
set_option maxHeartbeats 4000000 in
theorem xX5_requirePlayer_c19 {p : Program} {l : Launch} {e : Env} {s : State} {m : MethodId} {args : Array Value} {below : List Frame} {meth : Method} {c : Code} {X : Cx} {a : Nat} (hO : IsBd X a) (hst : l.stackTraces = false) (hout : ∀ x ∈ c.exceptionTable.toList, False) (C0 : CT p s m args meth c X cX5_requirePlayer 2 none RX5) (h : HH) (H : Heap) (locs : List Loc) (ls : Array Slot) (res : Nat) (hl : lv_has ls 2 []) (hW : WH X h H) (hS : va_S (xA X) s.heap H locs) (hres : fX5_requirePlayer_c19 a h = res) : W p l e rmX5_requirePlayer s m args below meth c H locs 0 0 (vx_MQ below (QXv X res h) (XXv X res h) args s 1 6 (xA X)) (F0 m 19 ls []) := by
  obtain ⟨hx, hb, hr, hlk, hml, hown, hts, hK⟩ := id C0
  refine lv_iconst (v := 0) hx hb dX5_requirePlayer_19 (by decide) ?_
  exact xX5_requirePlayer_c20 hO hst hout C0 0 h _ _ _ _ (lv_sub hl [] rfl) hW hS hres
def fX5_requirePlayer_c0 (a : Nat) (x1 : Int32) (h : HH) : Nat := if x1 < 0 then (fX5_requirePlayer_c19 a h) else (if (h (a + 1) 0) ≤ x1 then (fX5_requirePlayer_c19 a h) else (fX5_requirePlayer_c20 a 1 h))
set_option maxRecDepth 100000 in
set_option maxHeartbeats 4000000 in
theorem xX5_requirePlayer_c0 {p : Program} {l : Launch} {e : Env} {s : State} {m : MethodId} {args : Array Value} {below : List Frame} {meth : Method} {c : Code} {X : Cx} {a : Nat} (hO : IsBd X a) (hst : l.stackTraces = false) (hout : ∀ x ∈ c.exceptionTable.toList, False) (C0 : CT p s m args meth c X cX5_requirePlayer 2 none RX5) (x1 : Int32) (h : HH) (H : Heap) (locs : List Loc) (ls : Array Slot) (res : Nat) (hl : lv_has ls 2 [(0, .ref a), (1, .int x1)]) (hW : WH X h H) (hS : va_S (xA X) s.heap H locs) (hres : fX5_requirePlayer_c0 a x1 h = res) : W p l e rmX5_requirePlayer s m args below meth c H locs 0 0 (vx_MQ below (QXv X res h) (XXv X res h) args s 1 6 (xA X)) (F0 m 0 ls []) := by
  obtain ⟨hx, hb, hr, hlk, hml, hown, hts, hK⟩ := id C0
  refine lv_iload_n hx hb dX5_requirePlayer_0 rfl (lv_at hl 1 rfl) ?_
  refine lv_if_lt (tgt := 19) hx hb dX5_requirePlayer_1 (by decide) (fun c1 => ?_) (fun c1 => ?_)
  · have hres := (if_pos c1).symm.trans hres
    exact xX5_requirePlayer_c19 hO hst hout C0 h _ _ _ _ (lv_sub hl [] rfl) hW hS hres
  · have hres := (if_neg c1).symm.trans hres
    refine lv_iload_n hx hb dX5_requirePlayer_4 rfl (lv_at hl 1 rfl) ?_
    refine lv_aload_n hx hb dX5_requirePlayer_5 rfl (lv_at hl 0 rfl) ?_
    refine g5_0 hx hb hts hown hK hW hO.1 (hts _ q1_210) dX5_requirePlayer_6 ?_
    refine g0_0 hx hb hts hown hK hW hO.2.1.1 (hts _ q1_84) dX5_requirePlayer_9 ?_
    refine lv_icmp_ge (tgt := 19) hx hb dX5_requirePlayer_12 (by decide) (fun c3 => ?_) (fun c3 => ?_)
    · have hres := (if_pos c3).symm.trans hres
      exact xX5_requirePlayer_c19 hO hst hout C0 h _ _ _ _ (lv_sub hl [] rfl) hW hS hres
    · have hres := (if_neg c3).symm.trans hres
      refine lv_iconst (v := 1) hx hb dX5_requirePlayer_15 (by decide) ?_
      refine lv_goto (tgt := 20) hx hb dX5_requirePlayer_16 (by decide) ?_
      exact xX5_requirePlayer_c20 hO hst hout C0 1 h _ _ _ _ (lv_sub hl [] rfl) hW hS hres
def fX5_requirePlayer (a : Nat) (x1 : Int32) (h : HH) : Nat := fX5_requirePlayer_c0 a x1 h
set_option maxRecDepth 100000 in
set_option maxHeartbeats 4000000 in
theorem kX5_requirePlayer (l : Launch) (hst : l.stackTraces = false) (X : Cx) (h : HH) (a : Nat) (x1 : Int32) (hO : IsBd X a) : vx_Met l yX5_requirePlayer vX5_requirePlayer rmX5_requirePlayer (va_Pc [.ref a, .int x1] (fun U => WS X h U)) (QXv X (fX5_requirePlayer a x1 h) h) (XXv X (fX5_requirePlayer a x1 h) h) 1 6 (xA X) := by
  refine vx_ofW (cc := cX5_requirePlayer) (maxL := 2) (ret := none) (by decide) rfl ?_
  intro p e s m args below meth c s₁ B hml hout hv
  obtain ⟨rfl, hW, hK⟩ := hv
  have hl := lv_entry ([.ref a, .int x1]) (n := 2) (Nat.le_of_ble_eq_true rfl)
  rw [lg_entry_eq]
  generalize (lg_sl ([.ref a, .int x1]) ++ List.replicate (2 - (lg_sl ([.ref a, .int x1])).length) Slot.unset).toArray = ls at hl ⊢
  have hl : lv_has ls 2 [(0, .ref a), (1, .int x1)] := hl
  exact xX5_requirePlayer_c0 hO hst hout ⟨B.exec, B.bytes, B.returns, B.notSynchronized, hml, findClass_of_methodNamed B.named, fun w hw => atoms_spec (ws := vX5_requirePlayer) B.pre w (List.mem_cons_of_mem _ hw), hK⟩ x1 h _ _ ls _ (lv_sub hl [0, 1] rfl) hW va_S.rf rfl
-- VillageBoard.goods(II)I
abbrev rmX5_goods : Room := ({ frames := 8, cells := 3, slots := 18, locals := 131 } : Room)
abbrev vX5_goods : List Cond := Cond.code yX5_goods cX5_goods 3 (some .int) :: lwG
theorem wX5_goods {R : Room} {s : State} {args : Array Value} {own : String} {idx : Nat} (hg : ∀ w ∈ lwG, w.before args s = true) (hl : Cond.methodLink own idx yX5_goods ∈ lwG) (hR : rmX5_goods.frames + 1 ≤ R.frames ∧ 8 + (3 + 11) + rmX5_goods.locals ≤ R.locals) : CallW R s args own RX5 idx yX5_goods cX5_goods 3 (some .int) vX5_goods rmX5_goods 3 18 2 := cwV 2 hg (gV hl q3_153 q3_154 q1_1 q3_155) rfl rfl rfl (by decide +kernel) hR
def fX5_goods_c19 (a : Nat) (x1 : Int32) (x2 : Int32) (xs0 : Int32) (h : HH) : Nat × Int32 × HH := if fX5_requireArgument xs0 = 0 then ((0, h (a + 1 + 7 + 2 * x1.toNatClampNeg + 1) x2.toNatClampNeg, h)) else (fX5_requireArgument xs0, 0, h)
def sX5_goods_c19 (a : Nat) (x1 : Int32) (x2 : Int32) (xs0 : Int32) (h : HH) : Prop := (fX5_requireArgument xs0 = 0 → ((vp_in x1 4) ∧ (vp_in x2 5)))
set_option maxRecDepth 100000 in
set_option maxHeartbeats 4000000 in
theorem xX5_goods_c19 {p : Program} {l : Launch} {e : Env} {s : State} {m : MethodId} {args : Array Value} {below : List Frame} {meth : Method} {c : Code} {X : Cx} {a : Nat} (hO : IsBd X a) (hst : l.stackTraces = false) (hout : ∀ x ∈ c.exceptionTable.toList, False) (C0 : CT p s m args meth c X cX5_goods 3 (some .int) RX5) (x1 : Int32) (x2 : Int32) (xs0 : Int32) (h : HH) (H : Heap) (locs : List Loc) (ls : Array Slot) (res : Nat × Int32 × HH) (hl : lv_has ls 3 [(0, .ref a), (1, .int x1), (2, .int x2)]) (hW : WH X h H) (hS : va_S (xA X) s.heap H locs) (hs : sX5_goods_c19 a x1 x2 xs0 h) (hres : fX5_goods_c19 a x1 x2 xs0 h = res) : W p l e rmX5_goods s m args below meth c H locs 1 6 (vx_MQ below (QXi X res) (XXi X res) args s 3 18 (xA X)) (F0 m 19 ls [.int xs0]) := by
  obtain ⟨hx, hb, hr, hlk, hml, hown, hts, hK⟩ := id C0
  refine kxS (As := [.int xs0]) (rest := []) ⟨hx, hb, hml, hown, hts⟩ (kX5_requireArgument l hst X h xs0) (wX5_requireArgument hts q2_212 ⟨Nat.le_of_ble_eq_true rfl, Nat.le_of_ble_eq_true rfl⟩) hK hW hS rfl hl.1 rfl (Nat.le_of_ble_eq_true rfl) dX5_goods_19 ⟨Nat.le_of_ble_eq_true rfl, Nat.le_of_ble_eq_true rfl⟩ hlk hout (Nat.le_of_ble_eq_true rfl) (Nat.le_of_ble_eq_true rfl) (xh_i (fun c3 => (if_neg c3).symm.trans hres)) (fun c3 H locs hW hS => ?_)
  have hres := (if_pos c3).symm.trans hres
  have hs := hs c3
  refine lv_aload_n hx hb dX5_goods_22 rfl (lv_at hl 0 rfl) ?_
  refine g5_0 hx hb hts hown hK hW hO.1 (hts _ q1_210) dX5_goods_23 ?_
  refine g0_5 hx hb hts hown hK hW hO.2.1.1 (hts _ q1_96) dX5_goods_26 ?_
  refine lv_iload_n hx hb dX5_goods_29 rfl (lv_at hl 1 rfl) ?_
  obtain ⟨hi4, hs⟩ := hs
  refine kb_aald (j := 1) hx hb hK hW hO.2.1.2.1 rfl rfl (k := x1.toNatClampNeg) rfl hi4 rfl dX5_goods_30 ?_
  refine g2_0 hx hb hts hown hK hW (hO.2.1.2.2.2.2.2.2 x1.toNatClampNeg (kin hi4)).1 (hts _ q1_56) dX5_goods_31 ?_
  refine lv_iload_n hx hb dX5_goods_34 rfl (lv_at hl 2 rfl) ?_
  have hi5 := hs
  refine kb_iald hx hb hK hW (hO.2.1.2.2.2.2.2.2 x1.toNatClampNeg (kin hi4)).2 (k := x2.toNatClampNeg) rfl hi5 dX5_goods_35 ?_
  subst hres
  exact kxr_i hx hb hr hlk hK hW hS dX5_goods_36 (Nat.le_of_ble_eq_true rfl) (Nat.le_of_ble_eq_true rfl)
def fX5_goods_c18 (a : Nat) (x1 : Int32) (x2 : Int32) (h : HH) : Nat × Int32 × HH := fX5_goods_c19 a x1 x2 0 h
def sX5_goods_c18 (a : Nat) (x1 : Int32) (x2 : Int32) (h : HH) : Prop := sX5_goods_c19 a x1 x2 0 h
set_option maxRecDepth 100000 in
set_option maxHeartbeats 4000000 in
theorem xX5_goods_c18 {p : Program} {l : Launch} {e : Env} {s : State} {m : MethodId} {args : Array Value} {below : List Frame} {meth : Method} {c : Code} {X : Cx} {a : Nat} (hO : IsBd X a) (hst : l.stackTraces = false) (hout : ∀ x ∈ c.exceptionTable.toList, False) (C0 : CT p s m args meth c X cX5_goods 3 (some .int) RX5) (x1 : Int32) (x2 : Int32) (h : HH) (H : Heap) (locs : List Loc) (ls : Array Slot) (res : Nat × Int32 × HH) (hl : lv_has ls 3 [(0, .ref a), (1, .int x1), (2, .int x2)]) (hW : WH X h H) (hS : va_S (xA X) s.heap H locs) (hs : sX5_goods_c18 a x1 x2 h) (hres : fX5_goods_c18 a x1 x2 h = res) : W p l e rmX5_goods s m args below meth c H locs 1 6 (vx_MQ below (QXi X res) (XXi X res) args s 3 18 (xA X)) (F0 m 18 ls []) := by
  obtain ⟨hx, hb, hr, hlk, hml, hown, hts, hK⟩ := id C0
  refine lv_iconst (v := 0) hx hb dX5_goods_18 (by decide) ?_
  exact xX5_goods_c19 hO hst hout C0 x1 x2 0 h _ _ _ _ (lv_sub hl [0, 1, 2] rfl) hW hS hs hres
def fX5_goods_c0 (a : Nat) (x1 : Int32) (x2 : Int32) (h : HH) : Nat × Int32 × HH := if fX5_requirePlayer a x1 h = 0 then (if x2 < 0 then (fX5_goods_c18 a x1 x2 h) else (if 5 ≤ x2 then (fX5_goods_c18 a x1 x2 h) else (fX5_goods_c19 a x1 x2 1 h))) else (fX5_requirePlayer a x1 h, 0, h)
def sX5_goods_c0 (a : Nat) (x1 : Int32) (x2 : Int32) (h : HH) : Prop := (fX5_requirePlayer a x1 h = 0 → ((x2 < 0 → (sX5_goods_c18 a x1 x2 h)) ∧ (¬ (x2 < 0) → ((5 ≤ x2 → (sX5_goods_c18 a x1 x2 h)) ∧ (¬ (5 ≤ x2) → (sX5_goods_c19 a x1 x2 1 h))))))
set_option maxRecDepth 100000 in
set_option maxHeartbeats 4000000 in
theorem xX5_goods_c0 {p : Program} {l : Launch} {e : Env} {s : State} {m : MethodId} {args : Array Value} {below : List Frame} {meth : Method} {c : Code} {X : Cx} {a : Nat} (hO : IsBd X a) (hst : l.stackTraces = false) (hout : ∀ x ∈ c.exceptionTable.toList, False) (C0 : CT p s m args meth c X cX5_goods 3 (some .int) RX5) (x1 : Int32) (x2 : Int32) (h : HH) (H : Heap) (locs : List Loc) (ls : Array Slot) (res : Nat × Int32 × HH) (hl : lv_has ls 3 [(0, .ref a), (1, .int x1), (2, .int x2)]) (hW : WH X h H) (hS : va_S (xA X) s.heap H locs) (hs : sX5_goods_c0 a x1 x2 h) (hres : fX5_goods_c0 a x1 x2 h = res) : W p l e rmX5_goods s m args below meth c H locs 0 0 (vx_MQ below (QXi X res) (XXi X res) args s 3 18 (xA X)) (F0 m 0 ls []) := by
  obtain ⟨hx, hb, hr, hlk, hml, hown, hts, hK⟩ := id C0
  refine lv_aload_n hx hb dX5_goods_0 rfl (lv_at hl 0 rfl) ?_
  refine lv_iload_n hx hb dX5_goods_1 rfl (lv_at hl 1 rfl) ?_
  refine kxV (As := [.int x1]) (rest := []) ⟨hx, hb, hml, hown, hts⟩ (kX5_requirePlayer l hst X h a x1 hO) (wX5_requirePlayer hts q3_156 ⟨Nat.le_of_ble_eq_true rfl, Nat.le_of_ble_eq_true rfl⟩) hK hW hS (va_recv hK.1 (hW.one hO.1) (ci := 5) (q0 := 0) rfl rfl) rfl hl.1 rfl (Nat.le_of_ble_eq_true rfl) dX5_goods_2 ⟨Nat.le_of_ble_eq_true rfl, Nat.le_of_ble_eq_true rfl⟩ hlk hout (Nat.le_of_ble_eq_true rfl) (Nat.le_of_ble_eq_true rfl) (xh_i (fun c1 => (if_neg c1).symm.trans hres)) (fun c1 H locs hW hS => ?_)
  have hres := (if_pos c1).symm.trans hres
  have hs := hs c1
  refine lv_iload_n hx hb dX5_goods_5 rfl (lv_at hl 2 rfl) ?_
  refine lv_if_lt (tgt := 18) hx hb dX5_goods_6 (by decide) (fun c2 => ?_) (fun c2 => ?_)
  · have hres := (if_pos c2).symm.trans hres
    have hs := And.left hs c2
    exact xX5_goods_c18 hO hst hout C0 x1 x2 h _ _ _ _ (lv_sub hl [0, 1, 2] rfl) hW hS hs hres
  · have hres := (if_neg c2).symm.trans hres
    have hs := And.right hs c2
    refine lv_iload_n hx hb dX5_goods_9 rfl (lv_at hl 2 rfl) ?_
    refine lv_iconst (v := 5) hx hb dX5_goods_10 (by decide) ?_
    refine lv_icmp_ge (tgt := 18) hx hb dX5_goods_11 (by decide) (fun c6 => ?_) (fun c6 => ?_)
    · have hres := (if_pos c6).symm.trans hres
      have hs := And.left hs c6
      exact xX5_goods_c18 hO hst hout C0 x1 x2 h _ _ _ _ (lv_sub hl [0, 1, 2] rfl) hW hS hs hres
    · have hres := (if_neg c6).symm.trans hres
      have hs := And.right hs c6
      refine lv_iconst (v := 1) hx hb dX5_goods_14 (by decide) ?_
      refine lv_goto (tgt := 19) hx hb dX5_goods_15 (by decide) ?_
      exact xX5_goods_c19 hO hst hout C0 x1 x2 1 h _ _ _ _ (lv_sub hl [0, 1, 2] rfl) hW hS hs hres
def fX5_goods (a : Nat) (x1 : Int32) (x2 : Int32) (h : HH) : Nat × Int32 × HH := fX5_goods_c0 a x1 x2 h
def sX5_goods (a : Nat) (x1 : Int32) (x2 : Int32) (h : HH) : Prop := sX5_goods_c0 a x1 x2 h
set_option maxRecDepth 100000 in
set_option maxHeartbeats 4000000 in
theorem kX5_goods (l : Launch) (hst : l.stackTraces = false) (X : Cx) (h : HH) (a : Nat) (x1 : Int32) (x2 : Int32) (hO : IsBd X a) (hs : sX5_goods a x1 x2 h) : vx_Met l yX5_goods vX5_goods rmX5_goods (va_Pc [.ref a, .int x1, .int x2] (fun U => WS X h U)) (QXi X (fX5_goods a x1 x2 h)) (XXi X (fX5_goods a x1 x2 h)) 3 18 (xA X) := by
  refine vx_ofW (cc := cX5_goods) (maxL := 3) (ret := some .int) (by decide) rfl ?_
  intro p e s m args below meth c s₁ B hml hout hv
  obtain ⟨rfl, hW, hK⟩ := hv
  have hl := lv_entry ([.ref a, .int x1, .int x2]) (n := 3) (Nat.le_of_ble_eq_true rfl)
  rw [lg_entry_eq]
  generalize (lg_sl ([.ref a, .int x1, .int x2]) ++ List.replicate (3 - (lg_sl ([.ref a, .int x1, .int x2])).length) Slot.unset).toArray = ls at hl ⊢
  have hl : lv_has ls 3 [(0, .ref a), (1, .int x1), (2, .int x2)] := hl
  exact xX5_goods_c0 hO hst hout ⟨B.exec, B.bytes, B.returns, B.notSynchronized, hml, findClass_of_methodNamed B.named, fun w hw => atoms_spec (ws := vX5_goods) B.pre w (List.mem_cons_of_mem _ hw), hK⟩ x1 x2 h _ _ ls _ (lv_sub hl [0, 1, 2] rfl) hW va_S.rf hs rfl
-- VillageBoard.player(II)I
abbrev rmX5_player : Room := ({ frames := 8, cells := 3, slots := 18, locals := 131 } : Room)
abbrev vX5_player : List Cond := Cond.code yX5_player cX5_player 3 (some .int) :: lwG
theorem wX5_player {R : Room} {s : State} {args : Array Value} {own : String} {idx : Nat} (hg : ∀ w ∈ lwG, w.before args s = true) (hl : Cond.methodLink own idx yX5_player ∈ lwG) (hR : rmX5_player.frames + 1 ≤ R.frames ∧ 8 + (3 + 11) + rmX5_player.locals ≤ R.locals) : CallW R s args own RX5 idx yX5_player cX5_player 3 (some .int) vX5_player rmX5_player 3 18 2 := cwV 2 hg (gV hl q3_164 q3_165 q1_1 q3_166) rfl rfl rfl (by decide +kernel) hR
def fX5_player_c20 (a : Nat) (x1 : Int32) (x2 : Int32) (xs0 : Int32) (h : HH) : Nat × Int32 × HH := if fX5_requireArgument xs0 = 0 then ((0, fX2_part (a + 1 + 7 + 2 * x1.toNatClampNeg) x2 h, h)) else (fX5_requireArgument xs0, 0, h)
def sX5_player_c20 (a : Nat) (x1 : Int32) (x2 : Int32) (xs0 : Int32) (h : HH) : Prop := (fX5_requireArgument xs0 = 0 → (vp_in x1 4))
set_option maxRecDepth 100000 in
set_option maxHeartbeats 4000000 in
theorem xX5_player_c20 {p : Program} {l : Launch} {e : Env} {s : State} {m : MethodId} {args : Array Value} {below : List Frame} {meth : Method} {c : Code} {X : Cx} {a : Nat} (hO : IsBd X a) (hst : l.stackTraces = false) (hout : ∀ x ∈ c.exceptionTable.toList, False) (C0 : CT p s m args meth c X cX5_player 3 (some .int) RX5) (x1 : Int32) (x2 : Int32) (xs0 : Int32) (h : HH) (H : Heap) (locs : List Loc) (ls : Array Slot) (res : Nat × Int32 × HH) (hl : lv_has ls 3 [(0, .ref a), (1, .int x1), (2, .int x2)]) (hW : WH X h H) (hS : va_S (xA X) s.heap H locs) (hs : sX5_player_c20 a x1 x2 xs0 h) (hres : fX5_player_c20 a x1 x2 xs0 h = res) : W p l e rmX5_player s m args below meth c H locs 1 6 (vx_MQ below (QXi X res) (XXi X res) args s 3 18 (xA X)) (F0 m 20 ls [.int xs0]) := by
  obtain ⟨hx, hb, hr, hlk, hml, hown, hts, hK⟩ := id C0
  refine kxS (As := [.int xs0]) (rest := []) ⟨hx, hb, hml, hown, hts⟩ (kX5_requireArgument l hst X h xs0) (wX5_requireArgument hts q2_212 ⟨Nat.le_of_ble_eq_true rfl, Nat.le_of_ble_eq_true rfl⟩) hK hW hS rfl hl.1 rfl (Nat.le_of_ble_eq_true rfl) dX5_player_20 ⟨Nat.le_of_ble_eq_true rfl, Nat.le_of_ble_eq_true rfl⟩ hlk hout (Nat.le_of_ble_eq_true rfl) (Nat.le_of_ble_eq_true rfl) (xh_i (fun c3 => (if_neg c3).symm.trans hres)) (fun c3 H locs hW hS => ?_)
  have hres := (if_pos c3).symm.trans hres
  have hs := hs c3
  refine lv_aload_n hx hb dX5_player_23 rfl (lv_at hl 0 rfl) ?_
  refine g5_0 hx hb hts hown hK hW hO.1 (hts _ q1_210) dX5_player_24 ?_
  refine g0_5 hx hb hts hown hK hW hO.2.1.1 (hts _ q1_96) dX5_player_27 ?_
  refine lv_iload_n hx hb dX5_player_30 rfl (lv_at hl 1 rfl) ?_
  have hi4 := hs
  refine kb_aald (j := 1) hx hb hK hW hO.2.1.2.1 rfl rfl (k := x1.toNatClampNeg) rfl hi4 rfl dX5_player_31 ?_
  refine lv_iload_n hx hb dX5_player_32 rfl (lv_at hl 2 rfl) ?_
  refine kV_i (As := [.int x2]) (rest := []) ⟨hx, hb, hml, hown, hts⟩ (kX2_part l X h (a + 1 + 7 + 2 * x1.toNatClampNeg) x2 (hO.2.1.2.2.2.2.2.2 x1.toNatClampNeg (kin hi4))) (wX2_part hts q2_69 ⟨Nat.le_of_ble_eq_true rfl, Nat.le_of_ble_eq_true rfl⟩) hK hW hS (va_recv hK.1 (hW.one (hO.2.1.2.2.2.2.2.2 x1.toNatClampNeg (kin hi4)).1) (ci := 2) (q0 := 0) rfl rfl) rfl hl.1 rfl (Nat.le_of_ble_eq_true rfl) dX5_player_33 ⟨Nat.le_of_ble_eq_true rfl, Nat.le_of_ble_eq_true rfl⟩ (fun H locs hW hS => ?_)
  subst hres
  exact kxr_i hx hb hr hlk hK hW hS dX5_player_36 (Nat.le_of_ble_eq_true rfl) (Nat.le_of_ble_eq_true rfl)
def fX5_player_c19 (a : Nat) (x1 : Int32) (x2 : Int32) (h : HH) : Nat × Int32 × HH := fX5_player_c20 a x1 x2 0 h
def sX5_player_c19 (a : Nat) (x1 : Int32) (x2 : Int32) (h : HH) : Prop := sX5_player_c20 a x1 x2 0 h
set_option maxRecDepth 100000 in
set_option maxHeartbeats 4000000 in
theorem xX5_player_c19 {p : Program} {l : Launch} {e : Env} {s : State} {m : MethodId} {args : Array Value} {below : List Frame} {meth : Method} {c : Code} {X : Cx} {a : Nat} (hO : IsBd X a) (hst : l.stackTraces = false) (hout : ∀ x ∈ c.exceptionTable.toList, False) (C0 : CT p s m args meth c X cX5_player 3 (some .int) RX5) (x1 : Int32) (x2 : Int32) (h : HH) (H : Heap) (locs : List Loc) (ls : Array Slot) (res : Nat × Int32 × HH) (hl : lv_has ls 3 [(0, .ref a), (1, .int x1), (2, .int x2)]) (hW : WH X h H) (hS : va_S (xA X) s.heap H locs) (hs : sX5_player_c19 a x1 x2 h) (hres : fX5_player_c19 a x1 x2 h = res) : W p l e rmX5_player s m args below meth c H locs 1 6 (vx_MQ below (QXi X res) (XXi X res) args s 3 18 (xA X)) (F0 m 19 ls []) := by
  obtain ⟨hx, hb, hr, hlk, hml, hown, hts, hK⟩ := id C0
  refine lv_iconst (v := 0) hx hb dX5_player_19 (by decide) ?_
  exact xX5_player_c20 hO hst hout C0 x1 x2 0 h _ _ _ _ (lv_sub hl [0, 1, 2] rfl) hW hS hs hres
def fX5_player_c0 (a : Nat) (x1 : Int32) (x2 : Int32) (h : HH) : Nat × Int32 × HH := if fX5_requirePlayer a x1 h = 0 then (if x2 < 0 then (fX5_player_c19 a x1 x2 h) else (if 6 ≤ x2 then (fX5_player_c19 a x1 x2 h) else (fX5_player_c20 a x1 x2 1 h))) else (fX5_requirePlayer a x1 h, 0, h)
def sX5_player_c0 (a : Nat) (x1 : Int32) (x2 : Int32) (h : HH) : Prop := (fX5_requirePlayer a x1 h = 0 → ((x2 < 0 → (sX5_player_c19 a x1 x2 h)) ∧ (¬ (x2 < 0) → ((6 ≤ x2 → (sX5_player_c19 a x1 x2 h)) ∧ (¬ (6 ≤ x2) → (sX5_player_c20 a x1 x2 1 h))))))
set_option maxRecDepth 100000 in
set_option maxHeartbeats 4000000 in
theorem xX5_player_c0 {p : Program} {l : Launch} {e : Env} {s : State} {m : MethodId} {args : Array Value} {below : List Frame} {meth : Method} {c : Code} {X : Cx} {a : Nat} (hO : IsBd X a) (hst : l.stackTraces = false) (hout : ∀ x ∈ c.exceptionTable.toList, False) (C0 : CT p s m args meth c X cX5_player 3 (some .int) RX5) (x1 : Int32) (x2 : Int32) (h : HH) (H : Heap) (locs : List Loc) (ls : Array Slot) (res : Nat × Int32 × HH) (hl : lv_has ls 3 [(0, .ref a), (1, .int x1), (2, .int x2)]) (hW : WH X h H) (hS : va_S (xA X) s.heap H locs) (hs : sX5_player_c0 a x1 x2 h) (hres : fX5_player_c0 a x1 x2 h = res) : W p l e rmX5_player s m args below meth c H locs 0 0 (vx_MQ below (QXi X res) (XXi X res) args s 3 18 (xA X)) (F0 m 0 ls []) := by
  obtain ⟨hx, hb, hr, hlk, hml, hown, hts, hK⟩ := id C0
  refine lv_aload_n hx hb dX5_player_0 rfl (lv_at hl 0 rfl) ?_
  refine lv_iload_n hx hb dX5_player_1 rfl (lv_at hl 1 rfl) ?_
  refine kxV (As := [.int x1]) (rest := []) ⟨hx, hb, hml, hown, hts⟩ (kX5_requirePlayer l hst X h a x1 hO) (wX5_requirePlayer hts q3_156 ⟨Nat.le_of_ble_eq_true rfl, Nat.le_of_ble_eq_true rfl⟩) hK hW hS (va_recv hK.1 (hW.one hO.1) (ci := 5) (q0 := 0) rfl rfl) rfl hl.1 rfl (Nat.le_of_ble_eq_true rfl) dX5_player_2 ⟨Nat.le_of_ble_eq_true rfl, Nat.le_of_ble_eq_true rfl⟩ hlk hout (Nat.le_of_ble_eq_true rfl) (Nat.le_of_ble_eq_true rfl) (xh_i (fun c1 => (if_neg c1).symm.trans hres)) (fun c1 H locs hW hS => ?_)
  have hres := (if_pos c1).symm.trans hres
  have hs := hs c1
  refine lv_iload_n hx hb dX5_player_5 rfl (lv_at hl 2 rfl) ?_
  refine lv_if_lt (tgt := 19) hx hb dX5_player_6 (by decide) (fun c2 => ?_) (fun c2 => ?_)
  · have hres := (if_pos c2).symm.trans hres
    have hs := And.left hs c2
    exact xX5_player_c19 hO hst hout C0 x1 x2 h _ _ _ _ (lv_sub hl [0, 1, 2] rfl) hW hS hs hres
  · have hres := (if_neg c2).symm.trans hres
    have hs := And.right hs c2
    refine lv_iload_n hx hb dX5_player_9 rfl (lv_at hl 2 rfl) ?_
    refine lv_bipush (v := 6) hx hb dX5_player_10 (by decide) ?_
    refine lv_icmp_ge (tgt := 19) hx hb dX5_player_12 (by decide) (fun c5 => ?_) (fun c5 => ?_)
    · have hres := (if_pos c5).symm.trans hres
      have hs := And.left hs c5
      exact xX5_player_c19 hO hst hout C0 x1 x2 h _ _ _ _ (lv_sub hl [0, 1, 2] rfl) hW hS hs hres
    · have hres := (if_neg c5).symm.trans hres
      have hs := And.right hs c5
      refine lv_iconst (v := 1) hx hb dX5_player_15 (by decide) ?_
      refine lv_goto (tgt := 20) hx hb dX5_player_16 (by decide) ?_
      exact xX5_player_c20 hO hst hout C0 x1 x2 1 h _ _ _ _ (lv_sub hl [0, 1, 2] rfl) hW hS hs hres
def fX5_player (a : Nat) (x1 : Int32) (x2 : Int32) (h : HH) : Nat × Int32 × HH := fX5_player_c0 a x1 x2 h
def sX5_player (a : Nat) (x1 : Int32) (x2 : Int32) (h : HH) : Prop := sX5_player_c0 a x1 x2 h
set_option maxRecDepth 100000 in
set_option maxHeartbeats 4000000 in
theorem kX5_player (l : Launch) (hst : l.stackTraces = false) (X : Cx) (h : HH) (a : Nat) (x1 : Int32) (x2 : Int32) (hO : IsBd X a) (hs : sX5_player a x1 x2 h) : vx_Met l yX5_player vX5_player rmX5_player (va_Pc [.ref a, .int x1, .int x2] (fun U => WS X h U)) (QXi X (fX5_player a x1 x2 h)) (XXi X (fX5_player a x1 x2 h)) 3 18 (xA X) := by
  refine vx_ofW (cc := cX5_player) (maxL := 3) (ret := some .int) (by decide) rfl ?_
  intro p e s m args below meth c s₁ B hml hout hv
  obtain ⟨rfl, hW, hK⟩ := hv
  have hl := lv_entry ([.ref a, .int x1, .int x2]) (n := 3) (Nat.le_of_ble_eq_true rfl)
  rw [lg_entry_eq]
  generalize (lg_sl ([.ref a, .int x1, .int x2]) ++ List.replicate (3 - (lg_sl ([.ref a, .int x1, .int x2])).length) Slot.unset).toArray = ls at hl ⊢
  have hl : lv_has ls 3 [(0, .ref a), (1, .int x1), (2, .int x2)] := hl
  exact xX5_player_c0 hO hst hout ⟨B.exec, B.bytes, B.returns, B.notSynchronized, hml, findClass_of_methodNamed B.named, fun w hw => atoms_spec (ws := vX5_player) B.pre w (List.mem_cons_of_mem _ hw), hK⟩ x1 x2 h _ _ ls _ (lv_sub hl [0, 1, 2] rfl) hW va_S.rf hs rfl
-- VillageBoard.owner(I)I
abbrev rmX5_owner : Room := ({ frames := 7, cells := 3, slots := 18, locals := 110 } : Room)
abbrev vX5_owner : List Cond := Cond.code yX5_owner cX5_owner 2 (some .int) :: lwG
theorem wX5_owner {R : Room} {s : State} {args : Array Value} {own : String} {idx : Nat} (hg : ∀ w ∈ lwG, w.before args s = true) (hl : Cond.methodLink own idx yX5_owner ∈ lwG) (hR : rmX5_owner.frames + 1 ≤ R.frames ∧ 8 + (2 + 11) + rmX5_owner.locals ≤ R.locals) : CallW R s args own RX5 idx yX5_owner cX5_owner 2 (some .int) vX5_owner rmX5_owner 3 18 1 := cwV 1 hg (gV hl q3_171 q3_172 q1_1 q3_173) rfl rfl rfl (by decide +kernel) hR
def fX5_owner_c15 (a : Nat) (x1 : Int32) (xs0 : Int32) (h : HH) : Nat × Int32 × HH := if fX5_requireIndex xs0 = 0 then ((0, fX0_ownerOf (a + 1) x1 h, h)) else (fX5_requireIndex xs0, 0, h)
def sX5_owner_c15 (a : Nat) (x1 : Int32) (xs0 : Int32) (h : HH) : Prop := (fX5_requireIndex xs0 = 0 → (sX0_ownerOf (a + 1) x1 h))
set_option maxRecDepth 100000 in
set_option maxHeartbeats 4000000 in
theorem xX5_owner_c15 {p : Program} {l : Launch} {e : Env} {s : State} {m : MethodId} {args : Array Value} {below : List Frame} {meth : Method} {c : Code} {X : Cx} {a : Nat} (hO : IsBd X a) (hst : l.stackTraces = false) (hout : ∀ x ∈ c.exceptionTable.toList, False) (C0 : CT p s m args meth c X cX5_owner 2 (some .int) RX5) (x1 : Int32) (xs0 : Int32) (h : HH) (H : Heap) (locs : List Loc) (ls : Array Slot) (res : Nat × Int32 × HH) (hl : lv_has ls 2 [(0, .ref a), (1, .int x1)]) (hW : WH X h H) (hS : va_S (xA X) s.heap H locs) (hs : sX5_owner_c15 a x1 xs0 h) (hres : fX5_owner_c15 a x1 xs0 h = res) : W p l e rmX5_owner s m args below meth c H locs 0 0 (vx_MQ below (QXi X res) (XXi X res) args s 3 18 (xA X)) (F0 m 15 ls [.int xs0]) := by
  obtain ⟨hx, hb, hr, hlk, hml, hown, hts, hK⟩ := id C0
  refine kxS (As := [.int xs0]) (rest := []) ⟨hx, hb, hml, hown, hts⟩ (kX5_requireIndex l hst X h xs0) (wX5_requireIndex hts q3_57 ⟨Nat.le_of_ble_eq_true rfl, Nat.le_of_ble_eq_true rfl⟩) hK hW hS rfl hl.1 rfl (Nat.le_of_ble_eq_true rfl) dX5_owner_15 ⟨Nat.le_of_ble_eq_true rfl, Nat.le_of_ble_eq_true rfl⟩ hlk hout (Nat.le_of_ble_eq_true rfl) (Nat.le_of_ble_eq_true rfl) (xh_i (fun c2 => (if_neg c2).symm.trans hres)) (fun c2 H locs hW hS => ?_)
  have hres := (if_pos c2).symm.trans hres
  have hs := hs c2
  refine lv_aload_n hx hb dX5_owner_18 rfl (lv_at hl 0 rfl) ?_
  refine g5_0 hx hb hts hown hK hW hO.1 (hts _ q1_210) dX5_owner_19 ?_
  refine lv_iload_n hx hb dX5_owner_22 rfl (lv_at hl 1 rfl) ?_
  have hc3 := hs
  refine kV_i (As := [.int x1]) (rest := []) ⟨hx, hb, hml, hown, hts⟩ (kX0_ownerOf l X h (a + 1) x1 hO.2.1 hc3) (wX0_ownerOf hts q3_174 ⟨Nat.le_of_ble_eq_true rfl, Nat.le_of_ble_eq_true rfl⟩) hK hW hS (va_recv hK.1 (hW.one hO.2.1.1) (ci := 0) (q0 := 0) rfl rfl) rfl hl.1 rfl (Nat.le_of_ble_eq_true rfl) dX5_owner_23 ⟨Nat.le_of_ble_eq_true rfl, Nat.le_of_ble_eq_true rfl⟩ (fun H locs hW hS => ?_)
  subst hres
  exact kxr_i hx hb hr hlk hK hW hS dX5_owner_26 (Nat.le_of_ble_eq_true rfl) (Nat.le_of_ble_eq_true rfl)
def fX5_owner_c14 (a : Nat) (x1 : Int32) (h : HH) : Nat × Int32 × HH := fX5_owner_c15 a x1 0 h
def sX5_owner_c14 (a : Nat) (x1 : Int32) (h : HH) : Prop := sX5_owner_c15 a x1 0 h
set_option maxRecDepth 100000 in
set_option maxHeartbeats 4000000 in
theorem xX5_owner_c14 {p : Program} {l : Launch} {e : Env} {s : State} {m : MethodId} {args : Array Value} {below : List Frame} {meth : Method} {c : Code} {X : Cx} {a : Nat} (hO : IsBd X a) (hst : l.stackTraces = false) (hout : ∀ x ∈ c.exceptionTable.toList, False) (C0 : CT p s m args meth c X cX5_owner 2 (some .int) RX5) (x1 : Int32) (h : HH) (H : Heap) (locs : List Loc) (ls : Array Slot) (res : Nat × Int32 × HH) (hl : lv_has ls 2 [(0, .ref a), (1, .int x1)]) (hW : WH X h H) (hS : va_S (xA X) s.heap H locs) (hs : sX5_owner_c14 a x1 h) (hres : fX5_owner_c14 a x1 h = res) : W p l e rmX5_owner s m args below meth c H locs 0 0 (vx_MQ below (QXi X res) (XXi X res) args s 3 18 (xA X)) (F0 m 14 ls []) := by
  obtain ⟨hx, hb, hr, hlk, hml, hown, hts, hK⟩ := id C0
  refine lv_iconst (v := 0) hx hb dX5_owner_14 (by decide) ?_
  exact xX5_owner_c15 hO hst hout C0 x1 0 h _ _ _ _ (lv_sub hl [0, 1] rfl) hW hS hs hres
def fX5_owner_c0 (a : Nat) (x1 : Int32) (h : HH) : Nat × Int32 × HH := if x1 < 0 then (fX5_owner_c14 a x1 h) else (if 8 ≤ x1 then (fX5_owner_c14 a x1 h) else (fX5_owner_c15 a x1 1 h))
def sX5_owner_c0 (a : Nat) (x1 : Int32) (h : HH) : Prop := (x1 < 0 → (sX5_owner_c14 a x1 h)) ∧ (¬ (x1 < 0) → ((8 ≤ x1 → (sX5_owner_c14 a x1 h)) ∧ (¬ (8 ≤ x1) → (sX5_owner_c15 a x1 1 h))))
set_option maxRecDepth 100000 in
set_option maxHeartbeats 4000000 in
theorem xX5_owner_c0 {p : Program} {l : Launch} {e : Env} {s : State} {m : MethodId} {args : Array Value} {below : List Frame} {meth : Method} {c : Code} {X : Cx} {a : Nat} (hO : IsBd X a) (hst : l.stackTraces = false) (hout : ∀ x ∈ c.exceptionTable.toList, False) (C0 : CT p s m args meth c X cX5_owner 2 (some .int) RX5) (x1 : Int32) (h : HH) (H : Heap) (locs : List Loc) (ls : Array Slot) (res : Nat × Int32 × HH) (hl : lv_has ls 2 [(0, .ref a), (1, .int x1)]) (hW : WH X h H) (hS : va_S (xA X) s.heap H locs) (hs : sX5_owner_c0 a x1 h) (hres : fX5_owner_c0 a x1 h = res) : W p l e rmX5_owner s m args below meth c H locs 0 0 (vx_MQ below (QXi X res) (XXi X res) args s 3 18 (xA X)) (F0 m 0 ls []) := by
  obtain ⟨hx, hb, hr, hlk, hml, hown, hts, hK⟩ := id C0
  refine lv_iload_n hx hb dX5_owner_0 rfl (lv_at hl 1 rfl) ?_
  refine lv_if_lt (tgt := 14) hx hb dX5_owner_1 (by decide) (fun c1 => ?_) (fun c1 => ?_)
  · have hres := (if_pos c1).symm.trans hres
    have hs := And.left hs c1
    exact xX5_owner_c14 hO hst hout C0 x1 h _ _ _ _ (lv_sub hl [0, 1] rfl) hW hS hs hres
  · have hres := (if_neg c1).symm.trans hres
    have hs := And.right hs c1
    refine lv_iload_n hx hb dX5_owner_4 rfl (lv_at hl 1 rfl) ?_
    refine lv_bipush (v := 8) hx hb dX5_owner_5 (by decide) ?_
    refine lv_icmp_ge (tgt := 14) hx hb dX5_owner_7 (by decide) (fun c4 => ?_) (fun c4 => ?_)
    · have hres := (if_pos c4).symm.trans hres
      have hs := And.left hs c4
      exact xX5_owner_c14 hO hst hout C0 x1 h _ _ _ _ (lv_sub hl [0, 1] rfl) hW hS hs hres
    · have hres := (if_neg c4).symm.trans hres
      have hs := And.right hs c4
      refine lv_iconst (v := 1) hx hb dX5_owner_10 (by decide) ?_
      refine lv_goto (tgt := 15) hx hb dX5_owner_11 (by decide) ?_
      exact xX5_owner_c15 hO hst hout C0 x1 1 h _ _ _ _ (lv_sub hl [0, 1] rfl) hW hS hs hres
def fX5_owner (a : Nat) (x1 : Int32) (h : HH) : Nat × Int32 × HH := fX5_owner_c0 a x1 h
def sX5_owner (a : Nat) (x1 : Int32) (h : HH) : Prop := sX5_owner_c0 a x1 h
set_option maxRecDepth 100000 in
set_option maxHeartbeats 4000000 in
theorem kX5_owner (l : Launch) (hst : l.stackTraces = false) (X : Cx) (h : HH) (a : Nat) (x1 : Int32) (hO : IsBd X a) (hs : sX5_owner a x1 h) : vx_Met l yX5_owner vX5_owner rmX5_owner (va_Pc [.ref a, .int x1] (fun U => WS X h U)) (QXi X (fX5_owner a x1 h)) (XXi X (fX5_owner a x1 h)) 3 18 (xA X) := by
  refine vx_ofW (cc := cX5_owner) (maxL := 2) (ret := some .int) (by decide) rfl ?_
  intro p e s m args below meth c s₁ B hml hout hv
  obtain ⟨rfl, hW, hK⟩ := hv
  have hl := lv_entry ([.ref a, .int x1]) (n := 2) (Nat.le_of_ble_eq_true rfl)
  rw [lg_entry_eq]
  generalize (lg_sl ([.ref a, .int x1]) ++ List.replicate (2 - (lg_sl ([.ref a, .int x1])).length) Slot.unset).toArray = ls at hl ⊢
  have hl : lv_has ls 2 [(0, .ref a), (1, .int x1)] := hl
  exact xX5_owner_c0 hO hst hout ⟨B.exec, B.bytes, B.returns, B.notSynchronized, hml, findClass_of_methodNamed B.named, fun w hw => atoms_spec (ws := vX5_owner) B.pre w (List.mem_cons_of_mem _ hw), hK⟩ x1 h _ _ ls _ (lv_sub hl [0, 1] rfl) hW va_S.rf hs rfl
-- VillageBoard.space(II)I
abbrev rmX5_space : Room := ({ frames := 7, cells := 3, slots := 18, locals := 110 } : Room)
abbrev vX5_space : List Cond := Cond.code yX5_space cX5_space 3 (some .int) :: lwG
theorem wX5_space {R : Room} {s : State} {args : Array Value} {own : String} {idx : Nat} (hg : ∀ w ∈ lwG, w.before args s = true) (hl : Cond.methodLink own idx yX5_space ∈ lwG) (hR : rmX5_space.frames + 1 ≤ R.frames ∧ 8 + (3 + 11) + rmX5_space.locals ≤ R.locals) : CallW R s args own RX5 idx yX5_space cX5_space 3 (some .int) vX5_space rmX5_space 3 18 2 := cwV 2 hg (gV hl q3_179 q3_180 q1_1 q3_181) rfl rfl rfl (by decide +kernel) hR
def fX5_space_c32 (a : Nat) (x1 : Int32) (x2 : Int32) (xs0 : Int32) (h : HH) : Nat × Int32 × HH := if fX5_requireArgument xs0 = 0 then ((0, fX0_spacePart (a + 1) x1 x2 h, h)) else (fX5_requireArgument xs0, 0, h)
def sX5_space_c32 (a : Nat) (x1 : Int32) (x2 : Int32) (xs0 : Int32) (h : HH) : Prop := (fX5_requireArgument xs0 = 0 → (sX0_spacePart (a + 1) x1 x2 h))
set_option maxRecDepth 100000 in
set_option maxHeartbeats 4000000 in
theorem xX5_space_c32 {p : Program} {l : Launch} {e : Env} {s : State} {m : MethodId} {args : Array Value} {below : List Frame} {meth : Method} {c : Code} {X : Cx} {a : Nat} (hO : IsBd X a) (hst : l.stackTraces = false) (hout : ∀ x ∈ c.exceptionTable.toList, False) (C0 : CT p s m args meth c X cX5_space 3 (some .int) RX5) (x1 : Int32) (x2 : Int32) (xs0 : Int32) (h : HH) (H : Heap) (locs : List Loc) (ls : Array Slot) (res : Nat × Int32 × HH) (hl : lv_has ls 3 [(0, .ref a), (1, .int x1), (2, .int x2)]) (hW : WH X h H) (hS : va_S (xA X) s.heap H locs) (hs : sX5_space_c32 a x1 x2 xs0 h) (hres : fX5_space_c32 a x1 x2 xs0 h = res) : W p l e rmX5_space s m args below meth c H locs 1 6 (vx_MQ below (QXi X res) (XXi X res) args s 3 18 (xA X)) (F0 m 32 ls [.int xs0]) := by
  obtain ⟨hx, hb, hr, hlk, hml, hown, hts, hK⟩ := id C0
  refine kxS (As := [.int xs0]) (rest := []) ⟨hx, hb, hml, hown, hts⟩ (kX5_requireArgument l hst X h xs0) (wX5_requireArgument hts q2_212 ⟨Nat.le_of_ble_eq_true rfl, Nat.le_of_ble_eq_true rfl⟩) hK hW hS rfl hl.1 rfl (Nat.le_of_ble_eq_true rfl) dX5_space_32 ⟨Nat.le_of_ble_eq_true rfl, Nat.le_of_ble_eq_true rfl⟩ hlk hout (Nat.le_of_ble_eq_true rfl) (Nat.le_of_ble_eq_true rfl) (xh_i (fun c4 => (if_neg c4).symm.trans hres)) (fun c4 H locs hW hS => ?_)
  have hres := (if_pos c4).symm.trans hres
  have hs := hs c4
  refine lv_aload_n hx hb dX5_space_35 rfl (lv_at hl 0 rfl) ?_
  refine g5_0 hx hb hts hown hK hW hO.1 (hts _ q1_210) dX5_space_36 ?_
  refine lv_iload_n hx hb dX5_space_39 rfl (lv_at hl 1 rfl) ?_
  refine lv_iload_n hx hb dX5_space_40 rfl (lv_at hl 2 rfl) ?_
  have hc5 := hs
  refine kV_i (As := [.int x1, .int x2]) (rest := []) ⟨hx, hb, hml, hown, hts⟩ (kX0_spacePart l X h (a + 1) x1 x2 hO.2.1 hc5) (wX0_spacePart hts q2_113 ⟨Nat.le_of_ble_eq_true rfl, Nat.le_of_ble_eq_true rfl⟩) hK hW hS (va_recv hK.1 (hW.one hO.2.1.1) (ci := 0) (q0 := 0) rfl rfl) rfl hl.1 rfl (Nat.le_of_ble_eq_true rfl) dX5_space_41 ⟨Nat.le_of_ble_eq_true rfl, Nat.le_of_ble_eq_true rfl⟩ (fun H locs hW hS => ?_)
  subst hres
  exact kxr_i hx hb hr hlk hK hW hS dX5_space_44 (Nat.le_of_ble_eq_true rfl) (Nat.le_of_ble_eq_true rfl)
def fX5_space_c31 (a : Nat) (x1 : Int32) (x2 : Int32) (h : HH) : Nat × Int32 × HH := fX5_space_c32 a x1 x2 0 h
def sX5_space_c31 (a : Nat) (x1 : Int32) (x2 : Int32) (h : HH) : Prop := sX5_space_c32 a x1 x2 0 h
set_option maxRecDepth 100000 in
set_option maxHeartbeats 4000000 in
theorem xX5_space_c31 {p : Program} {l : Launch} {e : Env} {s : State} {m : MethodId} {args : Array Value} {below : List Frame} {meth : Method} {c : Code} {X : Cx} {a : Nat} (hO : IsBd X a) (hst : l.stackTraces = false) (hout : ∀ x ∈ c.exceptionTable.toList, False) (C0 : CT p s m args meth c X cX5_space 3 (some .int) RX5) (x1 : Int32) (x2 : Int32) (h : HH) (H : Heap) (locs : List Loc) (ls : Array Slot) (res : Nat × Int32 × HH) (hl : lv_has ls 3 [(0, .ref a), (1, .int x1), (2, .int x2)]) (hW : WH X h H) (hS : va_S (xA X) s.heap H locs) (hs : sX5_space_c31 a x1 x2 h) (hres : fX5_space_c31 a x1 x2 h = res) : W p l e rmX5_space s m args below meth c H locs 1 6 (vx_MQ below (QXi X res) (XXi X res) args s 3 18 (xA X)) (F0 m 31 ls []) := by
  obtain ⟨hx, hb, hr, hlk, hml, hown, hts, hK⟩ := id C0
  refine lv_iconst (v := 0) hx hb dX5_space_31 (by decide) ?_
  exact xX5_space_c32 hO hst hout C0 x1 x2 0 h _ _ _ _ (lv_sub hl [0, 1, 2] rfl) hW hS hs hres
def fX5_space_c15 (a : Nat) (x1 : Int32) (x2 : Int32) (xs0 : Int32) (h : HH) : Nat × Int32 × HH := if fX5_requireIndex xs0 = 0 then (if x2 < 0 then (fX5_space_c31 a x1 x2 h) else (if 4 ≤ x2 then (fX5_space_c31 a x1 x2 h) else (fX5_space_c32 a x1 x2 1 h))) else (fX5_requireIndex xs0, 0, h)
def sX5_space_c15 (a : Nat) (x1 : Int32) (x2 : Int32) (xs0 : Int32) (h : HH) : Prop := (fX5_requireIndex xs0 = 0 → ((x2 < 0 → (sX5_space_c31 a x1 x2 h)) ∧ (¬ (x2 < 0) → ((4 ≤ x2 → (sX5_space_c31 a x1 x2 h)) ∧ (¬ (4 ≤ x2) → (sX5_space_c32 a x1 x2 1 h))))))
set_option maxRecDepth 100000 in
set_option maxHeartbeats 4000000 in
theorem xX5_space_c15 {p : Program} {l : Launch} {e : Env} {s : State} {m : MethodId} {args : Array Value} {below : List Frame} {meth : Method} {c : Code} {X : Cx} {a : Nat} (hO : IsBd X a) (hst : l.stackTraces = false) (hout : ∀ x ∈ c.exceptionTable.toList, False) (C0 : CT p s m args meth c X cX5_space 3 (some .int) RX5) (x1 : Int32) (x2 : Int32) (xs0 : Int32) (h : HH) (H : Heap) (locs : List Loc) (ls : Array Slot) (res : Nat × Int32 × HH) (hl : lv_has ls 3 [(0, .ref a), (1, .int x1), (2, .int x2)]) (hW : WH X h H) (hS : va_S (xA X) s.heap H locs) (hs : sX5_space_c15 a x1 x2 xs0 h) (hres : fX5_space_c15 a x1 x2 xs0 h = res) : W p l e rmX5_space s m args below meth c H locs 0 0 (vx_MQ below (QXi X res) (XXi X res) args s 3 18 (xA X)) (F0 m 15 ls [.int xs0]) := by
  obtain ⟨hx, hb, hr, hlk, hml, hown, hts, hK⟩ := id C0
  refine kxS (As := [.int xs0]) (rest := []) ⟨hx, hb, hml, hown, hts⟩ (kX5_requireIndex l hst X h xs0) (wX5_requireIndex hts q3_57 ⟨Nat.le_of_ble_eq_true rfl, Nat.le_of_ble_eq_true rfl⟩) hK hW hS rfl hl.1 rfl (Nat.le_of_ble_eq_true rfl) dX5_space_15 ⟨Nat.le_of_ble_eq_true rfl, Nat.le_of_ble_eq_true rfl⟩ hlk hout (Nat.le_of_ble_eq_true rfl) (Nat.le_of_ble_eq_true rfl) (xh_i (fun c2 => (if_neg c2).symm.trans hres)) (fun c2 H locs hW hS => ?_)
  have hres := (if_pos c2).symm.trans hres
  have hs := hs c2
  refine lv_iload_n hx hb dX5_space_18 rfl (lv_at hl 2 rfl) ?_
  refine lv_if_lt (tgt := 31) hx hb dX5_space_19 (by decide) (fun c3 => ?_) (fun c3 => ?_)
  · have hres := (if_pos c3).symm.trans hres
    have hs := And.left hs c3
    exact xX5_space_c31 hO hst hout C0 x1 x2 h _ _ _ _ (lv_sub hl [0, 1, 2] rfl) hW hS hs hres
  · have hres := (if_neg c3).symm.trans hres
    have hs := And.right hs c3
    refine lv_iload_n hx hb dX5_space_22 rfl (lv_at hl 2 rfl) ?_
    refine lv_iconst (v := 4) hx hb dX5_space_23 (by decide) ?_
    refine lv_icmp_ge (tgt := 31) hx hb dX5_space_24 (by decide) (fun c6 => ?_) (fun c6 => ?_)
    · have hres := (if_pos c6).symm.trans hres
      have hs := And.left hs c6
      exact xX5_space_c31 hO hst hout C0 x1 x2 h _ _ _ _ (lv_sub hl [0, 1, 2] rfl) hW hS hs hres
    · have hres := (if_neg c6).symm.trans hres
      have hs := And.right hs c6
      refine lv_iconst (v := 1) hx hb dX5_space_27 (by decide) ?_
      refine lv_goto (tgt := 32) hx hb dX5_space_28 (by decide) ?_
      exact xX5_space_c32 hO hst hout C0 x1 x2 1 h _ _ _ _ (lv_sub hl [0, 1, 2] rfl) hW hS hs hres
def fX5_space_c14 (a : Nat) (x1 : Int32) (x2 : Int32) (h : HH) : Nat × Int32 × HH := fX5_space_c15 a x1 x2 0 h
def sX5_space_c14 (a : Nat) (x1 : Int32) (x2 : Int32) (h : HH) : Prop := sX5_space_c15 a x1 x2 0 h
set_option maxRecDepth 100000 in
set_option maxHeartbeats 4000000 in
theorem xX5_space_c14 {p : Program} {l : Launch} {e : Env} {s : State} {m : MethodId} {args : Array Value} {below : List Frame} {meth : Method} {c : Code} {X : Cx} {a : Nat} (hO : IsBd X a) (hst : l.stackTraces = false) (hout : ∀ x ∈ c.exceptionTable.toList, False) (C0 : CT p s m args meth c X cX5_space 3 (some .int) RX5) (x1 : Int32) (x2 : Int32) (h : HH) (H : Heap) (locs : List Loc) (ls : Array Slot) (res : Nat × Int32 × HH) (hl : lv_has ls 3 [(0, .ref a), (1, .int x1), (2, .int x2)]) (hW : WH X h H) (hS : va_S (xA X) s.heap H locs) (hs : sX5_space_c14 a x1 x2 h) (hres : fX5_space_c14 a x1 x2 h = res) : W p l e rmX5_space s m args below meth c H locs 0 0 (vx_MQ below (QXi X res) (XXi X res) args s 3 18 (xA X)) (F0 m 14 ls []) := by
  obtain ⟨hx, hb, hr, hlk, hml, hown, hts, hK⟩ := id C0
  refine lv_iconst (v := 0) hx hb dX5_space_14 (by decide) ?_
  exact xX5_space_c15 hO hst hout C0 x1 x2 0 h _ _ _ _ (lv_sub hl [0, 1, 2] rfl) hW hS hs hres
def fX5_space_c0 (a : Nat) (x1 : Int32) (x2 : Int32) (h : HH) : Nat × Int32 × HH := if x1 < 0 then (fX5_space_c14 a x1 x2 h) else (if 12 ≤ x1 then (fX5_space_c14 a x1 x2 h) else (fX5_space_c15 a x1 x2 1 h))
def sX5_space_c0 (a : Nat) (x1 : Int32) (x2 : Int32) (h : HH) : Prop := (x1 < 0 → (sX5_space_c14 a x1 x2 h)) ∧ (¬ (x1 < 0) → ((12 ≤ x1 → (sX5_space_c14 a x1 x2 h)) ∧ (¬ (12 ≤ x1) → (sX5_space_c15 a x1 x2 1 h))))
set_option maxRecDepth 100000 in
set_option maxHeartbeats 4000000 in
theorem xX5_space_c0 {p : Program} {l : Launch} {e : Env} {s : State} {m : MethodId} {args : Array Value} {below : List Frame} {meth : Method} {c : Code} {X : Cx} {a : Nat} (hO : IsBd X a) (hst : l.stackTraces = false) (hout : ∀ x ∈ c.exceptionTable.toList, False) (C0 : CT p s m args meth c X cX5_space 3 (some .int) RX5) (x1 : Int32) (x2 : Int32) (h : HH) (H : Heap) (locs : List Loc) (ls : Array Slot) (res : Nat × Int32 × HH) (hl : lv_has ls 3 [(0, .ref a), (1, .int x1), (2, .int x2)]) (hW : WH X h H) (hS : va_S (xA X) s.heap H locs) (hs : sX5_space_c0 a x1 x2 h) (hres : fX5_space_c0 a x1 x2 h = res) : W p l e rmX5_space s m args below meth c H locs 0 0 (vx_MQ below (QXi X res) (XXi X res) args s 3 18 (xA X)) (F0 m 0 ls []) := by
  obtain ⟨hx, hb, hr, hlk, hml, hown, hts, hK⟩ := id C0
  refine lv_iload_n hx hb dX5_space_0 rfl (lv_at hl 1 rfl) ?_
  refine lv_if_lt (tgt := 14) hx hb dX5_space_1 (by decide) (fun c1 => ?_) (fun c1 => ?_)
  · have hres := (if_pos c1).symm.trans hres
    have hs := And.left hs c1
    exact xX5_space_c14 hO hst hout C0 x1 x2 h _ _ _ _ (lv_sub hl [0, 1, 2] rfl) hW hS hs hres
  · have hres := (if_neg c1).symm.trans hres
    have hs := And.right hs c1
    refine lv_iload_n hx hb dX5_space_4 rfl (lv_at hl 1 rfl) ?_
    refine lv_bipush (v := 12) hx hb dX5_space_5 (by decide) ?_
    refine lv_icmp_ge (tgt := 14) hx hb dX5_space_7 (by decide) (fun c7 => ?_) (fun c7 => ?_)
    · have hres := (if_pos c7).symm.trans hres
      have hs := And.left hs c7
      exact xX5_space_c14 hO hst hout C0 x1 x2 h _ _ _ _ (lv_sub hl [0, 1, 2] rfl) hW hS hs hres
    · have hres := (if_neg c7).symm.trans hres
      have hs := And.right hs c7
      refine lv_iconst (v := 1) hx hb dX5_space_10 (by decide) ?_
      refine lv_goto (tgt := 15) hx hb dX5_space_11 (by decide) ?_
      exact xX5_space_c15 hO hst hout C0 x1 x2 1 h _ _ _ _ (lv_sub hl [0, 1, 2] rfl) hW hS hs hres
def fX5_space (a : Nat) (x1 : Int32) (x2 : Int32) (h : HH) : Nat × Int32 × HH := fX5_space_c0 a x1 x2 h
def sX5_space (a : Nat) (x1 : Int32) (x2 : Int32) (h : HH) : Prop := sX5_space_c0 a x1 x2 h
set_option maxRecDepth 100000 in
set_option maxHeartbeats 4000000 in
theorem kX5_space (l : Launch) (hst : l.stackTraces = false) (X : Cx) (h : HH) (a : Nat) (x1 : Int32) (x2 : Int32) (hO : IsBd X a) (hs : sX5_space a x1 x2 h) : vx_Met l yX5_space vX5_space rmX5_space (va_Pc [.ref a, .int x1, .int x2] (fun U => WS X h U)) (QXi X (fX5_space a x1 x2 h)) (XXi X (fX5_space a x1 x2 h)) 3 18 (xA X) := by
  refine vx_ofW (cc := cX5_space) (maxL := 3) (ret := some .int) (by decide) rfl ?_
  intro p e s m args below meth c s₁ B hml hout hv
  obtain ⟨rfl, hW, hK⟩ := hv
  have hl := lv_entry ([.ref a, .int x1, .int x2]) (n := 3) (Nat.le_of_ble_eq_true rfl)
  rw [lg_entry_eq]
  generalize (lg_sl ([.ref a, .int x1, .int x2]) ++ List.replicate (3 - (lg_sl ([.ref a, .int x1, .int x2])).length) Slot.unset).toArray = ls at hl ⊢
  have hl : lv_has ls 3 [(0, .ref a), (1, .int x1), (2, .int x2)] := hl
  exact xX5_space_c0 hO hst hout ⟨B.exec, B.bytes, B.returns, B.notSynchronized, hml, findClass_of_methodNamed B.named, fun w hw => atoms_spec (ws := vX5_space) B.pre w (List.mem_cons_of_mem _ hw), hK⟩ x1 x2 h _ _ ls _ (lv_sub hl [0, 1, 2] rfl) hW va_S.rf hs rfl
-- VillageBoard.cost(III)I
abbrev rmX5_cost : Room := ({ frames := 8, cells := 3, slots := 18, locals := 131 } : Room)
abbrev vX5_cost : List Cond := Cond.code yX5_cost cX5_cost 4 (some .int) :: lwG
theorem wX5_cost {R : Room} {s : State} {args : Array Value} {own : String} {idx : Nat} (hg : ∀ w ∈ lwG, w.before args s = true) (hl : Cond.methodLink own idx yX5_cost ∈ lwG) (hR : rmX5_cost.frames + 1 ≤ R.frames ∧ 8 + (4 + 11) + rmX5_cost.locals ≤ R.locals) : CallW R s args own RX5 idx yX5_cost cX5_cost 4 (some .int) vX5_cost rmX5_cost 3 18 3 := cwV 3 hg (gV hl q3_186 q3_187 q1_1 q3_188) rfl rfl rfl (by decide +kernel) hR
def fX5_cost_c38 (a : Nat) (x1 : Int32) (x2 : Int32) (x3 : Int32) (xs0 : Int32) (h : HH) : Nat × Int32 × HH := if fX5_requireArgument xs0 = 0 then ((0, fX2_price (a + 1 + 7 + 2 * x1.toNatClampNeg) x2 x3 h, h)) else (fX5_requireArgument xs0, 0, h)
def sX5_cost_c38 (a : Nat) (x1 : Int32) (x2 : Int32) (x3 : Int32) (xs0 : Int32) (h : HH) : Prop := (fX5_requireArgument xs0 = 0 → ((vp_in x1 4) ∧ (sX2_price (a + 1 + 7 + 2 * x1.toNatClampNeg) x2 x3 h)))
set_option maxRecDepth 100000 in
set_option maxHeartbeats 4000000 in
theorem xX5_cost_c38 {p : Program} {l : Launch} {e : Env} {s : State} {m : MethodId} {args : Array Value} {below : List Frame} {meth : Method} {c : Code} {X : Cx} {a : Nat} (hO : IsBd X a) (hst : l.stackTraces = false) (hout : ∀ x ∈ c.exceptionTable.toList, False) (C0 : CT p s m args meth c X cX5_cost 4 (some .int) RX5) (x1 : Int32) (x2 : Int32) (x3 : Int32) (xs0 : Int32) (h : HH) (H : Heap) (locs : List Loc) (ls : Array Slot) (res : Nat × Int32 × HH) (hl : lv_has ls 4 [(0, .ref a), (1, .int x1), (2, .int x2), (3, .int x3)]) (hW : WH X h H) (hS : va_S (xA X) s.heap H locs) (hs : sX5_cost_c38 a x1 x2 x3 xs0 h) (hres : fX5_cost_c38 a x1 x2 x3 xs0 h = res) : W p l e rmX5_cost s m args below meth c H locs 2 12 (vx_MQ below (QXi X res) (XXi X res) args s 3 18 (xA X)) (F0 m 38 ls [.int xs0]) := by
  obtain ⟨hx, hb, hr, hlk, hml, hown, hts, hK⟩ := id C0
  refine kxS (As := [.int xs0]) (rest := []) ⟨hx, hb, hml, hown, hts⟩ (kX5_requireArgument l hst X h xs0) (wX5_requireArgument hts q2_212 ⟨Nat.le_of_ble_eq_true rfl, Nat.le_of_ble_eq_true rfl⟩) hK hW hS rfl hl.1 rfl (Nat.le_of_ble_eq_true rfl) dX5_cost_38 ⟨Nat.le_of_ble_eq_true rfl, Nat.le_of_ble_eq_true rfl⟩ hlk hout (Nat.le_of_ble_eq_true rfl) (Nat.le_of_ble_eq_true rfl) (xh_i (fun c5 => (if_neg c5).symm.trans hres)) (fun c5 H locs hW hS => ?_)
  have hres := (if_pos c5).symm.trans hres
  have hs := hs c5
  refine lv_aload_n hx hb dX5_cost_41 rfl (lv_at hl 0 rfl) ?_
  refine g5_0 hx hb hts hown hK hW hO.1 (hts _ q1_210) dX5_cost_42 ?_
  refine g0_5 hx hb hts hown hK hW hO.2.1.1 (hts _ q1_96) dX5_cost_45 ?_
  refine lv_iload_n hx hb dX5_cost_48 rfl (lv_at hl 1 rfl) ?_
  obtain ⟨hi6, hs⟩ := hs
  refine kb_aald (j := 1) hx hb hK hW hO.2.1.2.1 rfl rfl (k := x1.toNatClampNeg) rfl hi6 rfl dX5_cost_49 ?_
  refine lv_iload_n hx hb dX5_cost_50 rfl (lv_at hl 2 rfl) ?_
  refine lv_iload_n hx hb dX5_cost_51 rfl (lv_at hl 3 rfl) ?_
  have hc7 := hs
  refine kV_i (As := [.int x2, .int x3]) (rest := []) ⟨hx, hb, hml, hown, hts⟩ (kX2_price l X h (a + 1 + 7 + 2 * x1.toNatClampNeg) x2 x3 (hO.2.1.2.2.2.2.2.2 x1.toNatClampNeg (kin hi6)) hc7) (wX2_price hts q3_189 ⟨Nat.le_of_ble_eq_true rfl, Nat.le_of_ble_eq_true rfl⟩) hK hW hS (va_recv hK.1 (hW.one (hO.2.1.2.2.2.2.2.2 x1.toNatClampNeg (kin hi6)).1) (ci := 2) (q0 := 0) rfl rfl) rfl hl.1 rfl (Nat.le_of_ble_eq_true rfl) dX5_cost_52 ⟨Nat.le_of_ble_eq_true rfl, Nat.le_of_ble_eq_true rfl⟩ (fun H locs hW hS => ?_)
  subst hres
  exact kxr_i hx hb hr hlk hK hW hS dX5_cost_55 (Nat.le_of_ble_eq_true rfl) (Nat.le_of_ble_eq_true rfl)
def fX5_cost_c33 (a : Nat) (x1 : Int32) (x2 : Int32) (x3 : Int32) (h : HH) : Nat × Int32 × HH := fX5_cost_c38 a x1 x2 x3 1 h
def sX5_cost_c33 (a : Nat) (x1 : Int32) (x2 : Int32) (x3 : Int32) (h : HH) : Prop := sX5_cost_c38 a x1 x2 x3 1 h
set_option maxRecDepth 100000 in
set_option maxHeartbeats 4000000 in
theorem xX5_cost_c33 {p : Program} {l : Launch} {e : Env} {s : State} {m : MethodId} {args : Array Value} {below : List Frame} {meth : Method} {c : Code} {X : Cx} {a : Nat} (hO : IsBd X a) (hst : l.stackTraces = false) (hout : ∀ x ∈ c.exceptionTable.toList, False) (C0 : CT p s m args meth c X cX5_cost 4 (some .int) RX5) (x1 : Int32) (x2 : Int32) (x3 : Int32) (h : HH) (H : Heap) (locs : List Loc) (ls : Array Slot) (res : Nat × Int32 × HH) (hl : lv_has ls 4 [(0, .ref a), (1, .int x1), (2, .int x2), (3, .int x3)]) (hW : WH X h H) (hS : va_S (xA X) s.heap H locs) (hs : sX5_cost_c33 a x1 x2 x3 h) (hres : fX5_cost_c33 a x1 x2 x3 h = res) : W p l e rmX5_cost s m args below meth c H locs 2 12 (vx_MQ below (QXi X res) (XXi X res) args s 3 18 (xA X)) (F0 m 33 ls []) := by
  obtain ⟨hx, hb, hr, hlk, hml, hown, hts, hK⟩ := id C0
  refine lv_iconst (v := 1) hx hb dX5_cost_33 (by decide) ?_
  refine lv_goto (tgt := 38) hx hb dX5_cost_34 (by decide) ?_
  exact xX5_cost_c38 hO hst hout C0 x1 x2 x3 1 h _ _ _ _ (lv_sub hl [0, 1, 2, 3] rfl) hW hS hs hres
def fX5_cost_c21 (a : Nat) (x1 : Int32) (x2 : Int32) (x3 : Int32) (xs0 : Int32) (h : HH) : Nat × Int32 × HH := if fX5_requireArgument xs0 = 0 then (if x3 = 0 then (fX5_cost_c33 a x1 x2 x3 h) else (if x3 = 1 then (fX5_cost_c33 a x1 x2 x3 h) else (fX5_cost_c38 a x1 x2 x3 0 h))) else (fX5_requireArgument xs0, 0, h)
def sX5_cost_c21 (a : Nat) (x1 : Int32) (x2 : Int32) (x3 : Int32) (xs0 : Int32) (h : HH) : Prop := (fX5_requireArgument xs0 = 0 → ((x3 = 0 → (sX5_cost_c33 a x1 x2 x3 h)) ∧ (¬ (x3 = 0) → ((x3 = 1 → (sX5_cost_c33 a x1 x2 x3 h)) ∧ (¬ (x3 = 1) → (sX5_cost_c38 a x1 x2 x3 0 h))))))
set_option maxRecDepth 100000 in
set_option maxHeartbeats 4000000 in
theorem xX5_cost_c21 {p : Program} {l : Launch} {e : Env} {s : State} {m : MethodId} {args : Array Value} {below : List Frame} {meth : Method} {c : Code} {X : Cx} {a : Nat} (hO : IsBd X a) (hst : l.stackTraces = false) (hout : ∀ x ∈ c.exceptionTable.toList, False) (C0 : CT p s m args meth c X cX5_cost 4 (some .int) RX5) (x1 : Int32) (x2 : Int32) (x3 : Int32) (xs0 : Int32) (h : HH) (H : Heap) (locs : List Loc) (ls : Array Slot) (res : Nat × Int32 × HH) (hl : lv_has ls 4 [(0, .ref a), (1, .int x1), (2, .int x2), (3, .int x3)]) (hW : WH X h H) (hS : va_S (xA X) s.heap H locs) (hs : sX5_cost_c21 a x1 x2 x3 xs0 h) (hres : fX5_cost_c21 a x1 x2 x3 xs0 h = res) : W p l e rmX5_cost s m args below meth c H locs 1 6 (vx_MQ below (QXi X res) (XXi X res) args s 3 18 (xA X)) (F0 m 21 ls [.int xs0]) := by
  obtain ⟨hx, hb, hr, hlk, hml, hown, hts, hK⟩ := id C0
  refine kxS (As := [.int xs0]) (rest := []) ⟨hx, hb, hml, hown, hts⟩ (kX5_requireArgument l hst X h xs0) (wX5_requireArgument hts q2_212 ⟨Nat.le_of_ble_eq_true rfl, Nat.le_of_ble_eq_true rfl⟩) hK hW hS rfl hl.1 rfl (Nat.le_of_ble_eq_true rfl) dX5_cost_21 ⟨Nat.le_of_ble_eq_true rfl, Nat.le_of_ble_eq_true rfl⟩ hlk hout (Nat.le_of_ble_eq_true rfl) (Nat.le_of_ble_eq_true rfl) (xh_i (fun c3 => (if_neg c3).symm.trans hres)) (fun c3 H locs hW hS => ?_)
  have hres := (if_pos c3).symm.trans hres
  have hs := hs c3
  refine lv_iload_n hx hb dX5_cost_24 rfl (lv_at hl 3 rfl) ?_
  refine lv_if_eq (tgt := 33) hx hb dX5_cost_25 (by decide) (fun c4 => ?_) (fun c4 => ?_)
  · have hres := (if_pos c4).symm.trans hres
    have hs := And.left hs c4
    exact xX5_cost_c33 hO hst hout C0 x1 x2 x3 h _ _ _ _ (lv_sub hl [0, 1, 2, 3] rfl) hW hS hs hres
  · have hres := (if_neg c4).symm.trans hres
    have hs := And.right hs c4
    refine lv_iload_n hx hb dX5_cost_28 rfl (lv_at hl 3 rfl) ?_
    refine lv_iconst (v := 1) hx hb dX5_cost_29 (by decide) ?_
    refine lv_icmp_ne (tgt := 37) hx hb dX5_cost_30 (by decide) (fun c8 => ?_) (fun c8 => ?_)
    · have hres := (if_neg c8).symm.trans hres
      have hs := And.right hs c8
      refine lv_iconst (v := 0) hx hb dX5_cost_37 (by decide) ?_
      exact xX5_cost_c38 hO hst hout C0 x1 x2 x3 0 h _ _ _ _ (lv_sub hl [0, 1, 2, 3] rfl) hW hS hs hres
    · have hres := (if_pos c8).symm.trans hres
      have hs := And.left hs c8
      exact xX5_cost_c33 hO hst hout C0 x1 x2 x3 h _ _ _ _ (lv_sub hl [0, 1, 2, 3] rfl) hW hS hs hres
def fX5_cost_c20 (a : Nat) (x1 : Int32) (x2 : Int32) (x3 : Int32) (h : HH) : Nat × Int32 × HH := fX5_cost_c21 a x1 x2 x3 0 h
def sX5_cost_c20 (a : Nat) (x1 : Int32) (x2 : Int32) (x3 : Int32) (h : HH) : Prop := sX5_cost_c21 a x1 x2 x3 0 h
set_option maxRecDepth 100000 in
set_option maxHeartbeats 4000000 in
theorem xX5_cost_c20 {p : Program} {l : Launch} {e : Env} {s : State} {m : MethodId} {args : Array Value} {below : List Frame} {meth : Method} {c : Code} {X : Cx} {a : Nat} (hO : IsBd X a) (hst : l.stackTraces = false) (hout : ∀ x ∈ c.exceptionTable.toList, False) (C0 : CT p s m args meth c X cX5_cost 4 (some .int) RX5) (x1 : Int32) (x2 : Int32) (x3 : Int32) (h : HH) (H : Heap) (locs : List Loc) (ls : Array Slot) (res : Nat × Int32 × HH) (hl : lv_has ls 4 [(0, .ref a), (1, .int x1), (2, .int x2), (3, .int x3)]) (hW : WH X h H) (hS : va_S (xA X) s.heap H locs) (hs : sX5_cost_c20 a x1 x2 x3 h) (hres : fX5_cost_c20 a x1 x2 x3 h = res) : W p l e rmX5_cost s m args below meth c H locs 1 6 (vx_MQ below (QXi X res) (XXi X res) args s 3 18 (xA X)) (F0 m 20 ls []) := by
  obtain ⟨hx, hb, hr, hlk, hml, hown, hts, hK⟩ := id C0
  refine lv_iconst (v := 0) hx hb dX5_cost_20 (by decide) ?_
  exact xX5_cost_c21 hO hst hout C0 x1 x2 x3 0 h _ _ _ _ (lv_sub hl [0, 1, 2, 3] rfl) hW hS hs hres
def fX5_cost_c0 (a : Nat) (x1 : Int32) (x2 : Int32) (x3 : Int32) (h : HH) : Nat × Int32 × HH := if fX5_requirePlayer a x1 h = 0 then (if x2 < (-1) then (fX5_cost_c20 a x1 x2 x3 h) else (if 8 ≤ x2 then (fX5_cost_c20 a x1 x2 x3 h) else (fX5_cost_c21 a x1 x2 x3 1 h))) else (fX5_requirePlayer a x1 h, 0, h)
def sX5_cost_c0 (a : Nat) (x1 : Int32) (x2 : Int32) (x3 : Int32) (h : HH) : Prop := (fX5_requirePlayer a x1 h = 0 → ((x2 < (-1) → (sX5_cost_c20 a x1 x2 x3 h)) ∧ (¬ (x2 < (-1)) → ((8 ≤ x2 → (sX5_cost_c20 a x1 x2 x3 h)) ∧ (¬ (8 ≤ x2) → (sX5_cost_c21 a x1 x2 x3 1 h))))))
set_option maxRecDepth 100000 in
set_option maxHeartbeats 4000000 in
theorem xX5_cost_c0 {p : Program} {l : Launch} {e : Env} {s : State} {m : MethodId} {args : Array Value} {below : List Frame} {meth : Method} {c : Code} {X : Cx} {a : Nat} (hO : IsBd X a) (hst : l.stackTraces = false) (hout : ∀ x ∈ c.exceptionTable.toList, False) (C0 : CT p s m args meth c X cX5_cost 4 (some .int) RX5) (x1 : Int32) (x2 : Int32) (x3 : Int32) (h : HH) (H : Heap) (locs : List Loc) (ls : Array Slot) (res : Nat × Int32 × HH) (hl : lv_has ls 4 [(0, .ref a), (1, .int x1), (2, .int x2), (3, .int x3)]) (hW : WH X h H) (hS : va_S (xA X) s.heap H locs) (hs : sX5_cost_c0 a x1 x2 x3 h) (hres : fX5_cost_c0 a x1 x2 x3 h = res) : W p l e rmX5_cost s m args below meth c H locs 0 0 (vx_MQ below (QXi X res) (XXi X res) args s 3 18 (xA X)) (F0 m 0 ls []) := by
  obtain ⟨hx, hb, hr, hlk, hml, hown, hts, hK⟩ := id C0
  refine lv_aload_n hx hb dX5_cost_0 rfl (lv_at hl 0 rfl) ?_
  refine lv_iload_n hx hb dX5_cost_1 rfl (lv_at hl 1 rfl) ?_
  refine kxV (As := [.int x1]) (rest := []) ⟨hx, hb, hml, hown, hts⟩ (kX5_requirePlayer l hst X h a x1 hO) (wX5_requirePlayer hts q3_156 ⟨Nat.le_of_ble_eq_true rfl, Nat.le_of_ble_eq_true rfl⟩) hK hW hS (va_recv hK.1 (hW.one hO.1) (ci := 5) (q0 := 0) rfl rfl) rfl hl.1 rfl (Nat.le_of_ble_eq_true rfl) dX5_cost_2 ⟨Nat.le_of_ble_eq_true rfl, Nat.le_of_ble_eq_true rfl⟩ hlk hout (Nat.le_of_ble_eq_true rfl) (Nat.le_of_ble_eq_true rfl) (xh_i (fun c1 => (if_neg c1).symm.trans hres)) (fun c1 H locs hW hS => ?_)
  have hres := (if_pos c1).symm.trans hres
  have hs := hs c1
  refine lv_iload_n hx hb dX5_cost_5 rfl (lv_at hl 2 rfl) ?_
  refine lv_iconst (v := (-1)) hx hb dX5_cost_6 (by decide) ?_
  refine lv_icmp_lt (tgt := 20) hx hb dX5_cost_7 (by decide) (fun c2 => ?_) (fun c2 => ?_)
  · have hres := (if_pos c2).symm.trans hres
    have hs := And.left hs c2
    exact xX5_cost_c20 hO hst hout C0 x1 x2 x3 h _ _ _ _ (lv_sub hl [0, 1, 2, 3] rfl) hW hS hs hres
  · have hres := (if_neg c2).symm.trans hres
    have hs := And.right hs c2
    refine lv_iload_n hx hb dX5_cost_10 rfl (lv_at hl 2 rfl) ?_
    refine lv_bipush (v := 8) hx hb dX5_cost_11 (by decide) ?_
    refine lv_icmp_ge (tgt := 20) hx hb dX5_cost_13 (by decide) (fun c9 => ?_) (fun c9 => ?_)
    · have hres := (if_pos c9).symm.trans hres
      have hs := And.left hs c9
      exact xX5_cost_c20 hO hst hout C0 x1 x2 x3 h _ _ _ _ (lv_sub hl [0, 1, 2, 3] rfl) hW hS hs hres
    · have hres := (if_neg c9).symm.trans hres
      have hs := And.right hs c9
      refine lv_iconst (v := 1) hx hb dX5_cost_16 (by decide) ?_
      refine lv_goto (tgt := 21) hx hb dX5_cost_17 (by decide) ?_
      exact xX5_cost_c21 hO hst hout C0 x1 x2 x3 1 h _ _ _ _ (lv_sub hl [0, 1, 2, 3] rfl) hW hS hs hres
def fX5_cost (a : Nat) (x1 : Int32) (x2 : Int32) (x3 : Int32) (h : HH) : Nat × Int32 × HH := fX5_cost_c0 a x1 x2 x3 h
def sX5_cost (a : Nat) (x1 : Int32) (x2 : Int32) (x3 : Int32) (h : HH) : Prop := sX5_cost_c0 a x1 x2 x3 h
set_option maxRecDepth 100000 in
set_option maxHeartbeats 4000000 in
theorem kX5_cost (l : Launch) (hst : l.stackTraces = false) (X : Cx) (h : HH) (a : Nat) (x1 : Int32) (x2 : Int32) (x3 : Int32) (hO : IsBd X a) (hs : sX5_cost a x1 x2 x3 h) : vx_Met l yX5_cost vX5_cost rmX5_cost (va_Pc [.ref a, .int x1, .int x2, .int x3] (fun U => WS X h U)) (QXi X (fX5_cost a x1 x2 x3 h)) (XXi X (fX5_cost a x1 x2 x3 h)) 3 18 (xA X) := by
  refine vx_ofW (cc := cX5_cost) (maxL := 4) (ret := some .int) (by decide) rfl ?_
  intro p e s m args below meth c s₁ B hml hout hv
  obtain ⟨rfl, hW, hK⟩ := hv
  have hl := lv_entry ([.ref a, .int x1, .int x2, .int x3]) (n := 4) (Nat.le_of_ble_eq_true rfl)
  rw [lg_entry_eq]
  generalize (lg_sl ([.ref a, .int x1, .int x2, .int x3]) ++ List.replicate (4 - (lg_sl ([.ref a, .int x1, .int x2, .int x3])).length) Slot.unset).toArray = ls at hl ⊢
  have hl : lv_has ls 4 [(0, .ref a), (1, .int x1), (2, .int x2), (3, .int x3)] := hl
  exact xX5_cost_c0 hO hst hout ⟨B.exec, B.bytes, B.returns, B.notSynchronized, hml, findClass_of_methodNamed B.named, fun w hw => atoms_spec (ws := vX5_cost) B.pre w (List.mem_cons_of_mem _ hw), hK⟩ x1 x2 x3 h _ _ ls _ (lv_sub hl [0, 1, 2, 3] rfl) hW va_S.rf hs rfl
-- VillageBoard.need(I)I
abbrev rmX5_need : Room := ({ frames := 8, cells := 3, slots := 18, locals := 131 } : Room)
abbrev vX5_need : List Cond := Cond.code yX5_need cX5_need 2 (some .int) :: lwG
theorem wX5_need {R : Room} {s : State} {args : Array Value} {own : String} {idx : Nat} (hg : ∀ w ∈ lwG, w.before args s = true) (hl : Cond.methodLink own idx yX5_need ∈ lwG) (hR : rmX5_need.frames + 1 ≤ R.frames ∧ 8 + (2 + 11) + rmX5_need.locals ≤ R.locals) : CallW R s args own RX5 idx yX5_need cX5_need 2 (some .int) vX5_need rmX5_need 3 18 1 := cwV 1 hg (gV hl q3_194 q3_195 q1_1 q3_196) rfl rfl rfl (by decide +kernel) hR
def fX5_need_c0 (a : Nat) (x1 : Int32) (h : HH) : Nat × Int32 × HH := if fX5_requirePlayer a x1 h = 0 then ((0, fX2_foodNeeded (a + 1 + 7 + 2 * x1.toNatClampNeg) h, h)) else (fX5_requirePlayer a x1 h, 0, h)
def sX5_need_c0 (a : Nat) (x1 : Int32) (h : HH) : Prop := (fX5_requirePlayer a x1 h = 0 → (vp_in x1 4))
set_option maxRecDepth 100000 in
set_option maxHeartbeats 4000000 in
theorem xX5_need_c0 {p : Program} {l : Launch} {e : Env} {s : State} {m : MethodId} {args : Array Value} {below : List Frame} {meth : Method} {c : Code} {X : Cx} {a : Nat} (hO : IsBd X a) (hst : l.stackTraces = false) (hout : ∀ x ∈ c.exceptionTable.toList, False) (C0 : CT p s m args meth c X cX5_need 2 (some .int) RX5) (x1 : Int32) (h : HH) (H : Heap) (locs : List Loc) (ls : Array Slot) (res : Nat × Int32 × HH) (hl : lv_has ls 2 [(0, .ref a), (1, .int x1)]) (hW : WH X h H) (hS : va_S (xA X) s.heap H locs) (hs : sX5_need_c0 a x1 h) (hres : fX5_need_c0 a x1 h = res) : W p l e rmX5_need s m args below meth c H locs 0 0 (vx_MQ below (QXi X res) (XXi X res) args s 3 18 (xA X)) (F0 m 0 ls []) := by
  obtain ⟨hx, hb, hr, hlk, hml, hown, hts, hK⟩ := id C0
  refine lv_aload_n hx hb dX5_need_0 rfl (lv_at hl 0 rfl) ?_
  refine lv_iload_n hx hb dX5_need_1 rfl (lv_at hl 1 rfl) ?_
  refine kxV (As := [.int x1]) (rest := []) ⟨hx, hb, hml, hown, hts⟩ (kX5_requirePlayer l hst X h a x1 hO) (wX5_requirePlayer hts q3_156 ⟨Nat.le_of_ble_eq_true rfl, Nat.le_of_ble_eq_true rfl⟩) hK hW hS (va_recv hK.1 (hW.one hO.1) (ci := 5) (q0 := 0) rfl rfl) rfl hl.1 rfl (Nat.le_of_ble_eq_true rfl) dX5_need_2 ⟨Nat.le_of_ble_eq_true rfl, Nat.le_of_ble_eq_true rfl⟩ hlk hout (Nat.le_of_ble_eq_true rfl) (Nat.le_of_ble_eq_true rfl) (xh_i (fun c1 => (if_neg c1).symm.trans hres)) (fun c1 H locs hW hS => ?_)
  have hres := (if_pos c1).symm.trans hres
  have hs := hs c1
  refine lv_aload_n hx hb dX5_need_5 rfl (lv_at hl 0 rfl) ?_
  refine g5_0 hx hb hts hown hK hW hO.1 (hts _ q1_210) dX5_need_6 ?_
  refine g0_5 hx hb hts hown hK hW hO.2.1.1 (hts _ q1_96) dX5_need_9 ?_
  refine lv_iload_n hx hb dX5_need_12 rfl (lv_at hl 1 rfl) ?_
  have hi2 := hs
  refine kb_aald (j := 1) hx hb hK hW hO.2.1.2.1 rfl rfl (k := x1.toNatClampNeg) rfl hi2 rfl dX5_need_13 ?_
  refine kV_i (As := []) (rest := []) ⟨hx, hb, hml, hown, hts⟩ (kX2_foodNeeded l X h (a + 1 + 7 + 2 * x1.toNatClampNeg) (hO.2.1.2.2.2.2.2.2 x1.toNatClampNeg (kin hi2))) (wX2_foodNeeded hts q2_73 ⟨Nat.le_of_ble_eq_true rfl, Nat.le_of_ble_eq_true rfl⟩) hK hW hS (va_recv hK.1 (hW.one (hO.2.1.2.2.2.2.2.2 x1.toNatClampNeg (kin hi2)).1) (ci := 2) (q0 := 0) rfl rfl) rfl hl.1 rfl (Nat.le_of_ble_eq_true rfl) dX5_need_14 ⟨Nat.le_of_ble_eq_true rfl, Nat.le_of_ble_eq_true rfl⟩ (fun H locs hW hS => ?_)
  subst hres
  exact kxr_i hx hb hr hlk hK hW hS dX5_need_17 (Nat.le_of_ble_eq_true rfl) (Nat.le_of_ble_eq_true rfl)
def fX5_need (a : Nat) (x1 : Int32) (h : HH) : Nat × Int32 × HH := fX5_need_c0 a x1 h
def sX5_need (a : Nat) (x1 : Int32) (h : HH) : Prop := sX5_need_c0 a x1 h
set_option maxRecDepth 100000 in
set_option maxHeartbeats 4000000 in
theorem kX5_need (l : Launch) (hst : l.stackTraces = false) (X : Cx) (h : HH) (a : Nat) (x1 : Int32) (hO : IsBd X a) (hs : sX5_need a x1 h) : vx_Met l yX5_need vX5_need rmX5_need (va_Pc [.ref a, .int x1] (fun U => WS X h U)) (QXi X (fX5_need a x1 h)) (XXi X (fX5_need a x1 h)) 3 18 (xA X) := by
  refine vx_ofW (cc := cX5_need) (maxL := 2) (ret := some .int) (by decide) rfl ?_
  intro p e s m args below meth c s₁ B hml hout hv
  obtain ⟨rfl, hW, hK⟩ := hv
  have hl := lv_entry ([.ref a, .int x1]) (n := 2) (Nat.le_of_ble_eq_true rfl)
  rw [lg_entry_eq]
  generalize (lg_sl ([.ref a, .int x1]) ++ List.replicate (2 - (lg_sl ([.ref a, .int x1])).length) Slot.unset).toArray = ls at hl ⊢
  have hl : lv_has ls 2 [(0, .ref a), (1, .int x1)] := hl
  exact xX5_need_c0 hO hst hout ⟨B.exec, B.bytes, B.returns, B.notSynchronized, hml, findClass_of_methodNamed B.named, fun w hw => atoms_spec (ws := vX5_need) B.pre w (List.mem_cons_of_mem _ hw), hK⟩ x1 h _ _ ls _ (lv_sub hl [0, 1] rfl) hW va_S.rf hs rfl
-- VillageBoard.missing(I)I
abbrev rmX5_missing : Room := ({ frames := 8, cells := 3, slots := 18, locals := 131 } : Room)
abbrev vX5_missing : List Cond := Cond.code yX5_missing cX5_missing 2 (some .int) :: lwG
theorem wX5_missing {R : Room} {s : State} {args : Array Value} {own : String} {idx : Nat} (hg : ∀ w ∈ lwG, w.before args s = true) (hl : Cond.methodLink own idx yX5_missing ∈ lwG) (hR : rmX5_missing.frames + 1 ≤ R.frames ∧ 8 + (2 + 11) + rmX5_missing.locals ≤ R.locals) : CallW R s args own RX5 idx yX5_missing cX5_missing 2 (some .int) vX5_missing rmX5_missing 3 18 1 := cwV 1 hg (gV hl q3_201 q3_202 q1_1 q3_203) rfl rfl rfl (by decide +kernel) hR
def fX5_missing_c0 (a : Nat) (x1 : Int32) (h : HH) : Nat × Int32 × HH := if fX5_requirePlayer a x1 h = 0 then ((0, fX2_foodMissing (a + 1 + 7 + 2 * x1.toNatClampNeg) h, h)) else (fX5_requirePlayer a x1 h, 0, h)
def sX5_missing_c0 (a : Nat) (x1 : Int32) (h : HH) : Prop := (fX5_requirePlayer a x1 h = 0 → (vp_in x1 4))
set_option maxRecDepth 100000 in
set_option maxHeartbeats 4000000 in
theorem xX5_missing_c0 {p : Program} {l : Launch} {e : Env} {s : State} {m : MethodId} {args : Array Value} {below : List Frame} {meth : Method} {c : Code} {X : Cx} {a : Nat} (hO : IsBd X a) (hst : l.stackTraces = false) (hout : ∀ x ∈ c.exceptionTable.toList, False) (C0 : CT p s m args meth c X cX5_missing 2 (some .int) RX5) (x1 : Int32) (h : HH) (H : Heap) (locs : List Loc) (ls : Array Slot) (res : Nat × Int32 × HH) (hl : lv_has ls 2 [(0, .ref a), (1, .int x1)]) (hW : WH X h H) (hS : va_S (xA X) s.heap H locs) (hs : sX5_missing_c0 a x1 h) (hres : fX5_missing_c0 a x1 h = res) : W p l e rmX5_missing s m args below meth c H locs 0 0 (vx_MQ below (QXi X res) (XXi X res) args s 3 18 (xA X)) (F0 m 0 ls []) := by
  obtain ⟨hx, hb, hr, hlk, hml, hown, hts, hK⟩ := id C0
  refine lv_aload_n hx hb dX5_missing_0 rfl (lv_at hl 0 rfl) ?_
  refine lv_iload_n hx hb dX5_missing_1 rfl (lv_at hl 1 rfl) ?_
  refine kxV (As := [.int x1]) (rest := []) ⟨hx, hb, hml, hown, hts⟩ (kX5_requirePlayer l hst X h a x1 hO) (wX5_requirePlayer hts q3_156 ⟨Nat.le_of_ble_eq_true rfl, Nat.le_of_ble_eq_true rfl⟩) hK hW hS (va_recv hK.1 (hW.one hO.1) (ci := 5) (q0 := 0) rfl rfl) rfl hl.1 rfl (Nat.le_of_ble_eq_true rfl) dX5_missing_2 ⟨Nat.le_of_ble_eq_true rfl, Nat.le_of_ble_eq_true rfl⟩ hlk hout (Nat.le_of_ble_eq_true rfl) (Nat.le_of_ble_eq_true rfl) (xh_i (fun c1 => (if_neg c1).symm.trans hres)) (fun c1 H locs hW hS => ?_)
  have hres := (if_pos c1).symm.trans hres
  have hs := hs c1
  refine lv_aload_n hx hb dX5_missing_5 rfl (lv_at hl 0 rfl) ?_
  refine g5_0 hx hb hts hown hK hW hO.1 (hts _ q1_210) dX5_missing_6 ?_
  refine g0_5 hx hb hts hown hK hW hO.2.1.1 (hts _ q1_96) dX5_missing_9 ?_
  refine lv_iload_n hx hb dX5_missing_12 rfl (lv_at hl 1 rfl) ?_
  have hi2 := hs
  refine kb_aald (j := 1) hx hb hK hW hO.2.1.2.1 rfl rfl (k := x1.toNatClampNeg) rfl hi2 rfl dX5_missing_13 ?_
  refine kV_i (As := []) (rest := []) ⟨hx, hb, hml, hown, hts⟩ (kX2_foodMissing l X h (a + 1 + 7 + 2 * x1.toNatClampNeg) (hO.2.1.2.2.2.2.2.2 x1.toNatClampNeg (kin hi2))) (wX2_foodMissing hts q2_77 ⟨Nat.le_of_ble_eq_true rfl, Nat.le_of_ble_eq_true rfl⟩) hK hW hS (va_recv hK.1 (hW.one (hO.2.1.2.2.2.2.2.2 x1.toNatClampNeg (kin hi2)).1) (ci := 2) (q0 := 0) rfl rfl) rfl hl.1 rfl (Nat.le_of_ble_eq_true rfl) dX5_missing_14 ⟨Nat.le_of_ble_eq_true rfl, Nat.le_of_ble_eq_true rfl⟩ (fun H locs hW hS => ?_)
  subst hres
  exact kxr_i hx hb hr hlk hK hW hS dX5_missing_17 (Nat.le_of_ble_eq_true rfl) (Nat.le_of_ble_eq_true rfl)
def fX5_missing (a : Nat) (x1 : Int32) (h : HH) : Nat × Int32 × HH := fX5_missing_c0 a x1 h
def sX5_missing (a : Nat) (x1 : Int32) (h : HH) : Prop := sX5_missing_c0 a x1 h
set_option maxRecDepth 100000 in
set_option maxHeartbeats 4000000 in
theorem kX5_missing (l : Launch) (hst : l.stackTraces = false) (X : Cx) (h : HH) (a : Nat) (x1 : Int32) (hO : IsBd X a) (hs : sX5_missing a x1 h) : vx_Met l yX5_missing vX5_missing rmX5_missing (va_Pc [.ref a, .int x1] (fun U => WS X h U)) (QXi X (fX5_missing a x1 h)) (XXi X (fX5_missing a x1 h)) 3 18 (xA X) := by
  refine vx_ofW (cc := cX5_missing) (maxL := 2) (ret := some .int) (by decide) rfl ?_
  intro p e s m args below meth c s₁ B hml hout hv
  obtain ⟨rfl, hW, hK⟩ := hv
  have hl := lv_entry ([.ref a, .int x1]) (n := 2) (Nat.le_of_ble_eq_true rfl)
  rw [lg_entry_eq]
  generalize (lg_sl ([.ref a, .int x1]) ++ List.replicate (2 - (lg_sl ([.ref a, .int x1])).length) Slot.unset).toArray = ls at hl ⊢
  have hl : lv_has ls 2 [(0, .ref a), (1, .int x1)] := hl
  exact xX5_missing_c0 hO hst hout ⟨B.exec, B.bytes, B.returns, B.notSynchronized, hml, findClass_of_methodNamed B.named, fun w hw => atoms_spec (ws := vX5_missing) B.pre w (List.mem_cons_of_mem _ hw), hK⟩ x1 h _ _ ls _ (lv_sub hl [0, 1] rfl) hW va_S.rf hs rfl
-- VillageBoard.score(II)I
abbrev rmX5_score : Room := ({ frames := 8, cells := 3, slots := 18, locals := 131 } : Room)
abbrev vX5_score : List Cond := Cond.code yX5_score cX5_score 4 (some .int) :: lwG
theorem wX5_score {R : Room} {s : State} {args : Array Value} {own : String} {idx : Nat} (hg : ∀ w ∈ lwG, w.before args s = true) (hl : Cond.methodLink own idx yX5_score ∈ lwG) (hR : rmX5_score.frames + 1 ≤ R.frames ∧ 8 + (4 + 11) + rmX5_score.locals ≤ R.locals) : CallW R s args own RX5 idx yX5_score cX5_score 4 (some .int) vX5_score rmX5_score 3 18 2 := cwV 2 hg (gV hl q3_208 q3_209 q1_1 q3_210) rfl rfl rfl (by decide +kernel) hR
def fX5_score_c20 (a : Nat) (x1 : Int32) (x2 : Int32) (xs0 : Int32) (h : HH) : Nat × Int32 × HH := if fX5_requireArgument xs0 = 0 then (if x2 = 6 then ((0, fX2_wholeScore (a + 1 + 7 + 2 * x1.toNatClampNeg) h, h)) else ((0, fX2_scorePart (a + 1 + 7 + 2 * x1.toNatClampNeg) x2 h, h))) else (fX5_requireArgument xs0, 0, h)
def sX5_score_c20 (a : Nat) (x1 : Int32) (x2 : Int32) (xs0 : Int32) (h : HH) : Prop := (fX5_requireArgument xs0 = 0 → ((vp_in x1 4) ∧ ((x2 = 6 → (sX2_wholeScore (a + 1 + 7 + 2 * x1.toNatClampNeg) h)) ∧ (¬ (x2 = 6) → (sX2_scorePart (a + 1 + 7 + 2 * x1.toNatClampNeg) x2 h)))))
set_option maxRecDepth 100000 in
set_option maxHeartbeats 4000000 in
theorem xX5_score_c20 {p : Program} {l : Launch} {e : Env} {s : State} {m : MethodId} {args : Array Value} {below : List Frame} {meth : Method} {c : Code} {X : Cx} {a : Nat} (hO : IsBd X a) (hst : l.stackTraces = false) (hout : ∀ x ∈ c.exceptionTable.toList, False) (C0 : CT p s m args meth c X cX5_score 4 (some .int) RX5) (x1 : Int32) (x2 : Int32) (xs0 : Int32) (h : HH) (H : Heap) (locs : List Loc) (ls : Array Slot) (res : Nat × Int32 × HH) (hl : lv_has ls 4 [(0, .ref a), (1, .int x1), (2, .int x2)]) (hW : WH X h H) (hS : va_S (xA X) s.heap H locs) (hs : sX5_score_c20 a x1 x2 xs0 h) (hres : fX5_score_c20 a x1 x2 xs0 h = res) : W p l e rmX5_score s m args below meth c H locs 1 6 (vx_MQ below (QXi X res) (XXi X res) args s 3 18 (xA X)) (F0 m 20 ls [.int xs0]) := by
  obtain ⟨hx, hb, hr, hlk, hml, hown, hts, hK⟩ := id C0
  refine kxS (As := [.int xs0]) (rest := []) ⟨hx, hb, hml, hown, hts⟩ (kX5_requireArgument l hst X h xs0) (wX5_requireArgument hts q2_212 ⟨Nat.le_of_ble_eq_true rfl, Nat.le_of_ble_eq_true rfl⟩) hK hW hS rfl hl.1 rfl (Nat.le_of_ble_eq_true rfl) dX5_score_20 ⟨Nat.le_of_ble_eq_true rfl, Nat.le_of_ble_eq_true rfl⟩ hlk hout (Nat.le_of_ble_eq_true rfl) (Nat.le_of_ble_eq_true rfl) (xh_i (fun c3 => (if_neg c3).symm.trans hres)) (fun c3 H locs hW hS => ?_)
  have hres := (if_pos c3).symm.trans hres
  have hs := hs c3
  refine lv_aload_n hx hb dX5_score_23 rfl (lv_at hl 0 rfl) ?_
  refine g5_0 hx hb hts hown hK hW hO.1 (hts _ q1_210) dX5_score_24 ?_
  refine g0_5 hx hb hts hown hK hW hO.2.1.1 (hts _ q1_96) dX5_score_27 ?_
  refine lv_iload_n hx hb dX5_score_30 rfl (lv_at hl 1 rfl) ?_
  obtain ⟨hi4, hs⟩ := hs
  refine kb_aald (j := 1) hx hb hK hW hO.2.1.2.1 rfl rfl (k := x1.toNatClampNeg) rfl hi4 rfl dX5_score_31 ?_
  refine lv_astore_n (lv' := [(3, .ref (a + 1 + 7 + 2 * x1.toNatClampNeg)), (0, .ref a), (1, .int x1), (2, .int x2)]) hx hb dX5_score_32 rfl hl (by decide) rfl (fun ls hl => ?_)
  refine lv_iload_n hx hb dX5_score_33 rfl (lv_at hl 3 rfl) ?_
  refine lv_bipush (v := 6) hx hb dX5_score_34 (by decide) ?_
  refine lv_icmp_ne (tgt := 46) hx hb dX5_score_36 (by decide) (fun c5 => ?_) (fun c5 => ?_)
  · have hres := (if_neg c5).symm.trans hres
    have hs := And.right hs c5
    refine lv_aload_n hx hb dX5_score_46 rfl (lv_at hl 0 rfl) ?_
    refine lv_iload_n hx hb dX5_score_47 rfl (lv_at hl 3 rfl) ?_
    have hc6 := hs
    refine kV_i (As := [.int x2]) (rest := []) ⟨hx, hb, hml, hown, hts⟩ (kX2_scorePart l X h (a + 1 + 7 + 2 * x1.toNatClampNeg) x2 (hO.2.1.2.2.2.2.2.2 x1.toNatClampNeg (kin hi4)) hc6) (wX2_scorePart hts q2_82 ⟨Nat.le_of_ble_eq_true rfl, Nat.le_of_ble_eq_true rfl⟩) hK hW hS (va_recv hK.1 (hW.one (hO.2.1.2.2.2.2.2.2 x1.toNatClampNeg (kin hi4)).1) (ci := 2) (q0 := 0) rfl rfl) rfl hl.1 rfl (Nat.le_of_ble_eq_true rfl) dX5_score_48 ⟨Nat.le_of_ble_eq_true rfl, Nat.le_of_ble_eq_true rfl⟩ (fun H locs hW hS => ?_)
    subst hres
    exact kxr_i hx hb hr hlk hK hW hS dX5_score_51 (Nat.le_of_ble_eq_true rfl) (Nat.le_of_ble_eq_true rfl)
  · have hres := (if_pos c5).symm.trans hres
    have hs := And.left hs c5
    refine lv_aload_n hx hb dX5_score_39 rfl (lv_at hl 0 rfl) ?_
    have hc7 := hs
    refine kV_i (As := []) (rest := []) ⟨hx, hb, hml, hown, hts⟩ (kX2_wholeScore l X h (a + 1 + 7 + 2 * x1.toNatClampNeg) (hO.2.1.2.2.2.2.2.2 x1.toNatClampNeg (kin hi4)) hc7) (wX2_wholeScore hts q2_95 ⟨Nat.le_of_ble_eq_true rfl, Nat.le_of_ble_eq_true rfl⟩) hK hW hS (va_recv hK.1 (hW.one (hO.2.1.2.2.2.2.2.2 x1.toNatClampNeg (kin hi4)).1) (ci := 2) (q0 := 0) rfl rfl) rfl hl.1 rfl (Nat.le_of_ble_eq_true rfl) dX5_score_40 ⟨Nat.le_of_ble_eq_true rfl, Nat.le_of_ble_eq_true rfl⟩ (fun H locs hW hS => ?_)
    refine lv_goto (tgt := 51) hx hb dX5_score_43 (by decide) ?_
    subst hres
    exact kxr_i hx hb hr hlk hK hW hS dX5_score_51 (Nat.le_of_ble_eq_true rfl) (Nat.le_of_ble_eq_true rfl)
def fX5_score_c19 (a : Nat) (x1 : Int32) (x2 : Int32) (h : HH) : Nat × Int32 × HH := fX5_score_c20 a x1 x2 0 h
def sX5_score_c19 (a : Nat) (x1 : Int32) (x2 : Int32) (h : HH) : Prop := sX5_score_c20 a x1 x2 0 h
set_option maxRecDepth 100000 in
set_option maxHeartbeats 4000000 in
theorem xX5_score_c19 {p : Program} {l : Launch} {e : Env} {s : State} {m : MethodId} {args : Array Value} {below : List Frame} {meth : Method} {c : Code} {X : Cx} {a : Nat} (hO : IsBd X a) (hst : l.stackTraces = false) (hout : ∀ x ∈ c.exceptionTable.toList, False) (C0 : CT p s m args meth c X cX5_score 4 (some .int) RX5) (x1 : Int32) (x2 : Int32) (h : HH) (H : Heap) (locs : List Loc) (ls : Array Slot) (res : Nat × Int32 × HH) (hl : lv_has ls 4 [(0, .ref a), (1, .int x1), (2, .int x2)]) (hW : WH X h H) (hS : va_S (xA X) s.heap H locs) (hs : sX5_score_c19 a x1 x2 h) (hres : fX5_score_c19 a x1 x2 h = res) : W p l e rmX5_score s m args below meth c H locs 1 6 (vx_MQ below (QXi X res) (XXi X res) args s 3 18 (xA X)) (F0 m 19 ls []) := by
  obtain ⟨hx, hb, hr, hlk, hml, hown, hts, hK⟩ := id C0
  refine lv_iconst (v := 0) hx hb dX5_score_19 (by decide) ?_
  exact xX5_score_c20 hO hst hout C0 x1 x2 0 h _ _ _ _ (lv_sub hl [0, 1, 2] rfl) hW hS hs hres
def fX5_score_c0 (a : Nat) (x1 : Int32) (x2 : Int32) (h : HH) : Nat × Int32 × HH := if fX5_requirePlayer a x1 h = 0 then (if x2 < 0 then (fX5_score_c19 a x1 x2 h) else (if 6 < x2 then (fX5_score_c19 a x1 x2 h) else (fX5_score_c20 a x1 x2 1 h))) else (fX5_requirePlayer a x1 h, 0, h)
def sX5_score_c0 (a : Nat) (x1 : Int32) (x2 : Int32) (h : HH) : Prop := (fX5_requirePlayer a x1 h = 0 → ((x2 < 0 → (sX5_score_c19 a x1 x2 h)) ∧ (¬ (x2 < 0) → ((6 < x2 → (sX5_score_c19 a x1 x2 h)) ∧ (¬ (6 < x2) → (sX5_score_c20 a x1 x2 1 h))))))
set_option maxRecDepth 100000 in
set_option maxHeartbeats 4000000 in
theorem xX5_score_c0 {p : Program} {l : Launch} {e : Env} {s : State} {m : MethodId} {args : Array Value} {below : List Frame} {meth : Method} {c : Code} {X : Cx} {a : Nat} (hO : IsBd X a) (hst : l.stackTraces = false) (hout : ∀ x ∈ c.exceptionTable.toList, False) (C0 : CT p s m args meth c X cX5_score 4 (some .int) RX5) (x1 : Int32) (x2 : Int32) (h : HH) (H : Heap) (locs : List Loc) (ls : Array Slot) (res : Nat × Int32 × HH) (hl : lv_has ls 4 [(0, .ref a), (1, .int x1), (2, .int x2)]) (hW : WH X h H) (hS : va_S (xA X) s.heap H locs) (hs : sX5_score_c0 a x1 x2 h) (hres : fX5_score_c0 a x1 x2 h = res) : W p l e rmX5_score s m args below meth c H locs 0 0 (vx_MQ below (QXi X res) (XXi X res) args s 3 18 (xA X)) (F0 m 0 ls []) := by
  obtain ⟨hx, hb, hr, hlk, hml, hown, hts, hK⟩ := id C0
  refine lv_aload_n hx hb dX5_score_0 rfl (lv_at hl 0 rfl) ?_
  refine lv_iload_n hx hb dX5_score_1 rfl (lv_at hl 1 rfl) ?_
  refine kxV (As := [.int x1]) (rest := []) ⟨hx, hb, hml, hown, hts⟩ (kX5_requirePlayer l hst X h a x1 hO) (wX5_requirePlayer hts q3_156 ⟨Nat.le_of_ble_eq_true rfl, Nat.le_of_ble_eq_true rfl⟩) hK hW hS (va_recv hK.1 (hW.one hO.1) (ci := 5) (q0 := 0) rfl rfl) rfl hl.1 rfl (Nat.le_of_ble_eq_true rfl) dX5_score_2 ⟨Nat.le_of_ble_eq_true rfl, Nat.le_of_ble_eq_true rfl⟩ hlk hout (Nat.le_of_ble_eq_true rfl) (Nat.le_of_ble_eq_true rfl) (xh_i (fun c1 => (if_neg c1).symm.trans hres)) (fun c1 H locs hW hS => ?_)
  have hres := (if_pos c1).symm.trans hres
  have hs := hs c1
  refine lv_iload_n hx hb dX5_score_5 rfl (lv_at hl 2 rfl) ?_
  refine lv_if_lt (tgt := 19) hx hb dX5_score_6 (by decide) (fun c2 => ?_) (fun c2 => ?_)
  · have hres := (if_pos c2).symm.trans hres
    have hs := And.left hs c2
    exact xX5_score_c19 hO hst hout C0 x1 x2 h _ _ _ _ (lv_sub hl [0, 1, 2] rfl) hW hS hs hres
  · have hres := (if_neg c2).symm.trans hres
    have hs := And.right hs c2
    refine lv_iload_n hx hb dX5_score_9 rfl (lv_at hl 2 rfl) ?_
    refine lv_bipush (v := 6) hx hb dX5_score_10 (by decide) ?_
    refine lv_icmp_gt (tgt := 19) hx hb dX5_score_12 (by decide) (fun c8 => ?_) (fun c8 => ?_)
    · have hres := (if_pos c8).symm.trans hres
      have hs := And.left hs c8
      exact xX5_score_c19 hO hst hout C0 x1 x2 h _ _ _ _ (lv_sub hl [0, 1, 2] rfl) hW hS hs hres
    · have hres := (if_neg c8).symm.trans hres
      have hs := And.right hs c8
      refine lv_iconst (v := 1) hx hb dX5_score_15 (by decide) ?_
      refine lv_goto (tgt := 20) hx hb dX5_score_16 (by decide) ?_
      exact xX5_score_c20 hO hst hout C0 x1 x2 1 h _ _ _ _ (lv_sub hl [0, 1, 2] rfl) hW hS hs hres
def fX5_score (a : Nat) (x1 : Int32) (x2 : Int32) (h : HH) : Nat × Int32 × HH := fX5_score_c0 a x1 x2 h
def sX5_score (a : Nat) (x1 : Int32) (x2 : Int32) (h : HH) : Prop := sX5_score_c0 a x1 x2 h
set_option maxRecDepth 100000 in
set_option maxHeartbeats 4000000 in
theorem kX5_score (l : Launch) (hst : l.stackTraces = false) (X : Cx) (h : HH) (a : Nat) (x1 : Int32) (x2 : Int32) (hO : IsBd X a) (hs : sX5_score a x1 x2 h) : vx_Met l yX5_score vX5_score rmX5_score (va_Pc [.ref a, .int x1, .int x2] (fun U => WS X h U)) (QXi X (fX5_score a x1 x2 h)) (XXi X (fX5_score a x1 x2 h)) 3 18 (xA X) := by
  refine vx_ofW (cc := cX5_score) (maxL := 4) (ret := some .int) (by decide) rfl ?_
  intro p e s m args below meth c s₁ B hml hout hv
  obtain ⟨rfl, hW, hK⟩ := hv
  have hl := lv_entry ([.ref a, .int x1, .int x2]) (n := 4) (Nat.le_of_ble_eq_true rfl)
  rw [lg_entry_eq]
  generalize (lg_sl ([.ref a, .int x1, .int x2]) ++ List.replicate (4 - (lg_sl ([.ref a, .int x1, .int x2])).length) Slot.unset).toArray = ls at hl ⊢
  have hl : lv_has ls 4 [(0, .ref a), (1, .int x1), (2, .int x2)] := hl
  exact xX5_score_c0 hO hst hout ⟨B.exec, B.bytes, B.returns, B.notSynchronized, hml, findClass_of_methodNamed B.named, fun w hw => atoms_spec (ws := vX5_score) B.pre w (List.mem_cons_of_mem _ hw), hK⟩ x1 x2 h _ _ ls _ (lv_sub hl [0, 1, 2] rfl) hW va_S.rf hs rfl
-- VillageBoard.rank(I)I
abbrev rmX5_rank : Room := ({ frames := 8, cells := 3, slots := 18, locals := 131 } : Room)
abbrev vX5_rank : List Cond := Cond.code yX5_rank cX5_rank 2 (some .int) :: lwG
theorem wX5_rank {R : Room} {s : State} {args : Array Value} {own : String} {idx : Nat} (hg : ∀ w ∈ lwG, w.before args s = true) (hl : Cond.methodLink own idx yX5_rank ∈ lwG) (hR : rmX5_rank.frames + 1 ≤ R.frames ∧ 8 + (2 + 11) + rmX5_rank.locals ≤ R.locals) : CallW R s args own RX5 idx yX5_rank cX5_rank 2 (some .int) vX5_rank rmX5_rank 3 18 1 := cwV 1 hg (gV hl q3_215 q3_216 q1_1 q3_217) rfl rfl rfl (by decide +kernel) hR
def fX5_rank_c0 (a : Nat) (x1 : Int32) (h : HH) : Nat × Int32 × HH := if fX5_requirePlayer a x1 h = 0 then ((0, fX0_rankOf (a + 1) x1 h, h)) else (fX5_requirePlayer a x1 h, 0, h)
def sX5_rank_c0 (a : Nat) (x1 : Int32) (h : HH) : Prop := (fX5_requirePlayer a x1 h = 0 → (sX0_rankOf (a + 1) x1 h))
set_option maxRecDepth 100000 in
set_option maxHeartbeats 4000000 in
theorem xX5_rank_c0 {p : Program} {l : Launch} {e : Env} {s : State} {m : MethodId} {args : Array Value} {below : List Frame} {meth : Method} {c : Code} {X : Cx} {a : Nat} (hO : IsBd X a) (hst : l.stackTraces = false) (hout : ∀ x ∈ c.exceptionTable.toList, False) (C0 : CT p s m args meth c X cX5_rank 2 (some .int) RX5) (x1 : Int32) (h : HH) (H : Heap) (locs : List Loc) (ls : Array Slot) (res : Nat × Int32 × HH) (hl : lv_has ls 2 [(0, .ref a), (1, .int x1)]) (hW : WH X h H) (hS : va_S (xA X) s.heap H locs) (hs : sX5_rank_c0 a x1 h) (hres : fX5_rank_c0 a x1 h = res) : W p l e rmX5_rank s m args below meth c H locs 0 0 (vx_MQ below (QXi X res) (XXi X res) args s 3 18 (xA X)) (F0 m 0 ls []) := by
  obtain ⟨hx, hb, hr, hlk, hml, hown, hts, hK⟩ := id C0
  refine lv_aload_n hx hb dX5_rank_0 rfl (lv_at hl 0 rfl) ?_
  refine lv_iload_n hx hb dX5_rank_1 rfl (lv_at hl 1 rfl) ?_
  refine kxV (As := [.int x1]) (rest := []) ⟨hx, hb, hml, hown, hts⟩ (kX5_requirePlayer l hst X h a x1 hO) (wX5_requirePlayer hts q3_156 ⟨Nat.le_of_ble_eq_true rfl, Nat.le_of_ble_eq_true rfl⟩) hK hW hS (va_recv hK.1 (hW.one hO.1) (ci := 5) (q0 := 0) rfl rfl) rfl hl.1 rfl (Nat.le_of_ble_eq_true rfl) dX5_rank_2 ⟨Nat.le_of_ble_eq_true rfl, Nat.le_of_ble_eq_true rfl⟩ hlk hout (Nat.le_of_ble_eq_true rfl) (Nat.le_of_ble_eq_true rfl) (xh_i (fun c1 => (if_neg c1).symm.trans hres)) (fun c1 H locs hW hS => ?_)
  have hres := (if_pos c1).symm.trans hres
  have hs := hs c1
  refine lv_aload_n hx hb dX5_rank_5 rfl (lv_at hl 0 rfl) ?_
  refine g5_0 hx hb hts hown hK hW hO.1 (hts _ q1_210) dX5_rank_6 ?_
  refine lv_iload_n hx hb dX5_rank_9 rfl (lv_at hl 1 rfl) ?_
  have hc2 := hs
  refine kV_i (As := [.int x1]) (rest := []) ⟨hx, hb, hml, hown, hts⟩ (kX0_rankOf l X h (a + 1) x1 hO.2.1 hc2) (wX0_rankOf hts q2_100 ⟨Nat.le_of_ble_eq_true rfl, Nat.le_of_ble_eq_true rfl⟩) hK hW hS (va_recv hK.1 (hW.one hO.2.1.1) (ci := 0) (q0 := 0) rfl rfl) rfl hl.1 rfl (Nat.le_of_ble_eq_true rfl) dX5_rank_10 ⟨Nat.le_of_ble_eq_true rfl, Nat.le_of_ble_eq_true rfl⟩ (fun H locs hW hS => ?_)
  subst hres
  exact kxr_i hx hb hr hlk hK hW hS dX5_rank_13 (Nat.le_of_ble_eq_true rfl) (Nat.le_of_ble_eq_true rfl)
def fX5_rank (a : Nat) (x1 : Int32) (h : HH) : Nat × Int32 × HH := fX5_rank_c0 a x1 h
def sX5_rank (a : Nat) (x1 : Int32) (h : HH) : Prop := sX5_rank_c0 a x1 h
set_option maxRecDepth 100000 in
set_option maxHeartbeats 4000000 in
theorem kX5_rank (l : Launch) (hst : l.stackTraces = false) (X : Cx) (h : HH) (a : Nat) (x1 : Int32) (hO : IsBd X a) (hs : sX5_rank a x1 h) : vx_Met l yX5_rank vX5_rank rmX5_rank (va_Pc [.ref a, .int x1] (fun U => WS X h U)) (QXi X (fX5_rank a x1 h)) (XXi X (fX5_rank a x1 h)) 3 18 (xA X) := by
  refine vx_ofW (cc := cX5_rank) (maxL := 2) (ret := some .int) (by decide) rfl ?_
  intro p e s m args below meth c s₁ B hml hout hv
  obtain ⟨rfl, hW, hK⟩ := hv
  have hl := lv_entry ([.ref a, .int x1]) (n := 2) (Nat.le_of_ble_eq_true rfl)
  rw [lg_entry_eq]
  generalize (lg_sl ([.ref a, .int x1]) ++ List.replicate (2 - (lg_sl ([.ref a, .int x1])).length) Slot.unset).toArray = ls at hl ⊢
  have hl : lv_has ls 2 [(0, .ref a), (1, .int x1)] := hl
  exact xX5_rank_c0 hO hst hout ⟨B.exec, B.bytes, B.returns, B.notSynchronized, hml, findClass_of_methodNamed B.named, fun w hw => atoms_spec (ws := vX5_rank) B.pre w (List.mem_cons_of_mem _ hw), hK⟩ x1 h _ _ ls _ (lv_sub hl [0, 1] rfl) hW va_S.rf hs rfl
-- VillageBoard.possible()I
abbrev rmX5_possible : Room := ({ frames := 5, cells := 0, slots := 0, locals := 116 } : Room)
abbrev vX5_possible : List Cond := Cond.code yX5_possible cX5_possible 1 (some .int) :: lwG
theorem wX5_possible {R : Room} {s : State} {args : Array Value} {own : String} {idx : Nat} (hg : ∀ w ∈ lwG, w.before args s = true) (hl : Cond.methodLink own idx yX5_possible ∈ lwG) (hR : rmX5_possible.frames + 1 ≤ R.frames ∧ 8 + (1 + 11) + rmX5_possible.locals ≤ R.locals) : CallW R s args own RX5 idx yX5_possible cX5_possible 1 (some .int) vX5_possible rmX5_possible 0 0 0 := cwV 0 hg (gV hl q2_0 q2_1 q1_1 q2_2) rfl rfl rfl (by decide +kernel) hR
def fX5_possible_c11 (a : Nat) (xs0 : Int32) (h : HH) : Int32 × HH := (xs0, h)
set_option maxRecDepth 100000 in
set_option maxHeartbeats 4000000 in
theorem xX5_possible_c11 {p : Program} {l : Launch} {e : Env} {s : State} {m : MethodId} {args : Array Value} {below : List Frame} {meth : Method} {c : Code} {X : Cx} {a : Nat} (hO : IsBd X a) (C0 : CT p s m args meth c X cX5_possible 1 (some .int) RX5) (xs0 : Int32) (h : HH) (H : Heap) (locs : List Loc) (ls : Array Slot) (res : Int32 × HH) (hl : lv_has ls 1 []) (hW : WH X h H) (hS : va_S (xA X) s.heap H locs) (hres : fX5_possible_c11 a xs0 h = res) : W p l e rmX5_possible s m args below meth c H locs 0 0 (MQ below (QI X res.1 res.2) args s 0 0 (xA X)) (F0 m 11 ls [.int xs0]) := by
  obtain ⟨hx, hb, hr, hlk, hml, hown, hts, hK⟩ := id C0
  subst hres
  exact kr_i hx hb hr hlk hK hW hS dX5_possible_11
def fX5_possible_c0 (a : Nat) (h : HH) : Int32 × HH := fX5_possible_c11 a ((fX0_listPlacements (a + 1) (a + 109) h).1) ((fX0_listPlacements (a + 1) (a + 109) h).2)
def sX5_possible_c0 (a : Nat) (h : HH) : Prop := sX0_listPlacements (a + 1) (a + 109) h
set_option maxRecDepth 100000 in
set_option maxHeartbeats 4000000 in
theorem xX5_possible_c0 {p : Program} {l : Launch} {e : Env} {s : State} {m : MethodId} {args : Array Value} {below : List Frame} {meth : Method} {c : Code} {X : Cx} {a : Nat} (hO : IsBd X a) (C0 : CT p s m args meth c X cX5_possible 1 (some .int) RX5) (h : HH) (H : Heap) (locs : List Loc) (ls : Array Slot) (res : Int32 × HH) (hl : lv_has ls 1 [(0, .ref a)]) (hW : WH X h H) (hS : va_S (xA X) s.heap H locs) (hs : sX5_possible_c0 a h) (hres : fX5_possible_c0 a h = res) : W p l e rmX5_possible s m args below meth c H locs 0 0 (MQ below (QI X res.1 res.2) args s 0 0 (xA X)) (F0 m 0 ls []) := by
  obtain ⟨hx, hb, hr, hlk, hml, hown, hts, hK⟩ := id C0
  refine lv_aload_n hx hb dX5_possible_0 rfl (lv_at hl 0 rfl) ?_
  refine g5_0 hx hb hts hown hK hW hO.1 (hts _ q1_210) dX5_possible_1 ?_
  refine lv_aload_n hx hb dX5_possible_4 rfl (lv_at hl 0 rfl) ?_
  refine g5_3 hx hb hts hown hK hW hO.1 (hts _ q1_213) dX5_possible_5 ?_
  have hc1 := hs
  refine kV_i (As := [.ref (a + 109)]) (rest := []) ⟨hx, hb, hml, hown, hts⟩ (kX0_listPlacements l X h (a + 1) (a + 109) hO.2.1 hO.2.2.2.2 hc1) (wX0_listPlacements hts q2_3 ⟨Nat.le_of_ble_eq_true rfl, Nat.le_of_ble_eq_true rfl⟩) hK hW hS (va_recv hK.1 (hW.one hO.2.1.1) (ci := 0) (q0 := 0) rfl rfl) rfl hl.1 rfl (Nat.le_of_ble_eq_true rfl) dX5_possible_8 ⟨Nat.zero_le _, Nat.zero_le _⟩ (fun H locs hW hS => ?_)
  exact xX5_possible_c11 hO C0 ((fX0_listPlacements (a + 1) (a + 109) h).1) ((fX0_listPlacements (a + 1) (a + 109) h).2) _ _ _ _ (lv_sub hl [] rfl) hW hS hres
def fX5_possible (a : Nat) (h : HH) : Int32 × HH := fX5_possible_c0 a h
def sX5_possible (a : Nat) (h : HH) : Prop := sX5_possible_c0 a h
set_option maxRecDepth 100000 in
set_option maxHeartbeats 4000000 in
theorem kX5_possible (l : Launch) (X : Cx) (h : HH) (a : Nat) (hO : IsBd X a) (hs : sX5_possible a h) : Met l yX5_possible vX5_possible rmX5_possible (va_Pc [.ref a] (fun U => WS X h U)) (QI X (fX5_possible a h).1 (fX5_possible a h).2) 0 0 (xA X) := by
  refine Met.ofW (cc := cX5_possible) (maxL := 1) (ret := some .int) (by decide) rfl ?_
  intro p e s m args below meth c s₁ B hml hv
  obtain ⟨rfl, hW, hK⟩ := hv
  have hl := lv_entry ([.ref a]) (n := 1) (Nat.le_of_ble_eq_true rfl)
  rw [lg_entry_eq]
  generalize (lg_sl ([.ref a]) ++ List.replicate (1 - (lg_sl ([.ref a])).length) Slot.unset).toArray = ls at hl ⊢
  have hl : lv_has ls 1 [(0, .ref a)] := hl
  exact xX5_possible_c0 hO ⟨B.exec, B.bytes, B.returns, B.notSynchronized, hml, findClass_of_methodNamed B.named, fun w hw => atoms_spec (ws := vX5_possible) B.pre w (List.mem_cons_of_mem _ hw), hK⟩ h _ _ ls _ (lv_sub hl [0] rfl) hW va_S.rf hs rfl
-- VillageBoard.option(I)I
abbrev rmX5_option : Room := ({ frames := 7, cells := 3, slots := 18, locals := 116 } : Room)
abbrev vX5_option : List Cond := Cond.code yX5_option cX5_option 2 (some .int) :: lwG
theorem wX5_option {R : Room} {s : State} {args : Array Value} {own : String} {idx : Nat} (hg : ∀ w ∈ lwG, w.before args s = true) (hl : Cond.methodLink own idx yX5_option ∈ lwG) (hR : rmX5_option.frames + 1 ≤ R.frames ∧ 8 + (2 + 11) + rmX5_option.locals ≤ R.locals) : CallW R s args own RX5 idx yX5_option cX5_option 2 (some .int) vX5_option rmX5_option 3 18 1 := cwV 1 hg (gV hl q3_222 q3_223 q1_1 q3_224) rfl rfl rfl (by decide +kernel) hR
def fX5_option_c24 (a : Nat) (x1 : Int32) (xs0 : Int32) (h : HH) : Nat × Int32 × HH := if fX5_requireIndex xs0 = 0 then ((0, h (a + 109) x1.toNatClampNeg, h)) else (fX5_requireIndex xs0, 0, h)
def sX5_option_c24 (a : Nat) (x1 : Int32) (xs0 : Int32) (h : HH) : Prop := (fX5_requireIndex xs0 = 0 → (vp_in x1 40))
set_option maxRecDepth 100000 in
set_option maxHeartbeats 4000000 in
theorem xX5_option_c24 {p : Program} {l : Launch} {e : Env} {s : State} {m : MethodId} {args : Array Value} {below : List Frame} {meth : Method} {c : Code} {X : Cx} {a : Nat} (hO : IsBd X a) (hst : l.stackTraces = false) (hout : ∀ x ∈ c.exceptionTable.toList, False) (C0 : CT p s m args meth c X cX5_option 2 (some .int) RX5) (x1 : Int32) (xs0 : Int32) (h : HH) (H : Heap) (locs : List Loc) (ls : Array Slot) (res : Nat × Int32 × HH) (hl : lv_has ls 2 [(0, .ref a), (1, .int x1)]) (hW : WH X h H) (hS : va_S (xA X) s.heap H locs) (hs : sX5_option_c24 a x1 xs0 h) (hres : fX5_option_c24 a x1 xs0 h = res) : W p l e rmX5_option s m args below meth c H locs 0 0 (vx_MQ below (QXi X res) (XXi X res) args s 3 18 (xA X)) (F0 m 24 ls [.int xs0]) := by
  obtain ⟨hx, hb, hr, hlk, hml, hown, hts, hK⟩ := id C0
  refine kxS (As := [.int xs0]) (rest := []) ⟨hx, hb, hml, hown, hts⟩ (kX5_requireIndex l hst X h xs0) (wX5_requireIndex hts q3_57 ⟨Nat.le_of_ble_eq_true rfl, Nat.le_of_ble_eq_true rfl⟩) hK hW hS rfl hl.1 rfl (Nat.le_of_ble_eq_true rfl) dX5_option_24 ⟨Nat.le_of_ble_eq_true rfl, Nat.le_of_ble_eq_true rfl⟩ hlk hout (Nat.le_of_ble_eq_true rfl) (Nat.le_of_ble_eq_true rfl) (xh_i (fun c2 => (if_neg c2).symm.trans hres)) (fun c2 H locs hW hS => ?_)
  have hres := (if_pos c2).symm.trans hres
  have hs := hs c2
  refine lv_aload_n hx hb dX5_option_27 rfl (lv_at hl 0 rfl) ?_
  refine g5_3 hx hb hts hown hK hW hO.1 (hts _ q1_213) dX5_option_28 ?_
  refine lv_iload_n hx hb dX5_option_31 rfl (lv_at hl 1 rfl) ?_
  have hi3 := hs
  refine kb_iald hx hb hK hW hO.2.2.2.2 (k := x1.toNatClampNeg) rfl hi3 dX5_option_32 ?_
  subst hres
  exact kxr_i hx hb hr hlk hK hW hS dX5_option_33 (Nat.le_of_ble_eq_true rfl) (Nat.le_of_ble_eq_true rfl)
def fX5_option_c23 (a : Nat) (x1 : Int32) (h : HH) : Nat × Int32 × HH := fX5_option_c24 a x1 0 h
def sX5_option_c23 (a : Nat) (x1 : Int32) (h : HH) : Prop := sX5_option_c24 a x1 0 h
set_option maxRecDepth 100000 in
set_option maxHeartbeats 4000000 in
theorem xX5_option_c23 {p : Program} {l : Launch} {e : Env} {s : State} {m : MethodId} {args : Array Value} {below : List Frame} {meth : Method} {c : Code} {X : Cx} {a : Nat} (hO : IsBd X a) (hst : l.stackTraces = false) (hout : ∀ x ∈ c.exceptionTable.toList, False) (C0 : CT p s m args meth c X cX5_option 2 (some .int) RX5) (x1 : Int32) (h : HH) (H : Heap) (locs : List Loc) (ls : Array Slot) (res : Nat × Int32 × HH) (hl : lv_has ls 2 [(0, .ref a), (1, .int x1)]) (hW : WH X h H) (hS : va_S (xA X) s.heap H locs) (hs : sX5_option_c23 a x1 h) (hres : fX5_option_c23 a x1 h = res) : W p l e rmX5_option s m args below meth c H locs 0 0 (vx_MQ below (QXi X res) (XXi X res) args s 3 18 (xA X)) (F0 m 23 ls []) := by
  obtain ⟨hx, hb, hr, hlk, hml, hown, hts, hK⟩ := id C0
  refine lv_iconst (v := 0) hx hb dX5_option_23 (by decide) ?_
  exact xX5_option_c24 hO hst hout C0 x1 0 h _ _ _ _ (lv_sub hl [0, 1] rfl) hW hS hs hres
def fX5_option_c16 (a : Nat) (x1 : Int32) (xs0 : Int32) (xs1 : Int32) (h : HH) : Nat × Int32 × HH := if xs0 ≤ xs1 then (fX5_option_c23 a x1 h) else (fX5_option_c24 a x1 1 h)
def sX5_option_c16 (a : Nat) (x1 : Int32) (xs0 : Int32) (xs1 : Int32) (h : HH) : Prop := (xs0 ≤ xs1 → (sX5_option_c23 a x1 h)) ∧ (¬ (xs0 ≤ xs1) → (sX5_option_c24 a x1 1 h))
set_option maxRecDepth 100000 in
set_option maxHeartbeats 4000000 in
theorem xX5_option_c16 {p : Program} {l : Launch} {e : Env} {s : State} {m : MethodId} {args : Array Value} {below : List Frame} {meth : Method} {c : Code} {X : Cx} {a : Nat} (hO : IsBd X a) (hst : l.stackTraces = false) (hout : ∀ x ∈ c.exceptionTable.toList, False) (C0 : CT p s m args meth c X cX5_option 2 (some .int) RX5) (x1 : Int32) (xs0 : Int32) (xs1 : Int32) (h : HH) (H : Heap) (locs : List Loc) (ls : Array Slot) (res : Nat × Int32 × HH) (hl : lv_has ls 2 [(0, .ref a), (1, .int x1)]) (hW : WH X h H) (hS : va_S (xA X) s.heap H locs) (hs : sX5_option_c16 a x1 xs0 xs1 h) (hres : fX5_option_c16 a x1 xs0 xs1 h = res) : W p l e rmX5_option s m args below meth c H locs 0 0 (vx_MQ below (QXi X res) (XXi X res) args s 3 18 (xA X)) (F0 m 16 ls [.int xs0, .int xs1]) := by
  obtain ⟨hx, hb, hr, hlk, hml, hown, hts, hK⟩ := id C0
  refine lv_icmp_ge (tgt := 23) hx hb dX5_option_16 (by decide) (fun c5 => ?_) (fun c5 => ?_)
  · have hres := (if_pos c5).symm.trans hres
    have hs := And.left hs c5
    exact xX5_option_c23 hO hst hout C0 x1 h _ _ _ _ (lv_sub hl [0, 1] rfl) hW hS hs hres
  · have hres := (if_neg c5).symm.trans hres
    have hs := And.right hs c5
    refine lv_iconst (v := 1) hx hb dX5_option_19 (by decide) ?_
    refine lv_goto (tgt := 24) hx hb dX5_option_20 (by decide) ?_
    exact xX5_option_c24 hO hst hout C0 x1 1 h _ _ _ _ (lv_sub hl [0, 1] rfl) hW hS hs hres
def fX5_option_c0 (a : Nat) (x1 : Int32) (h : HH) : Nat × Int32 × HH := if x1 < 0 then (fX5_option_c23 a x1 h) else (fX5_option_c16 a x1 ((fX0_listPlacements (a + 1) (a + 109) h).1) x1 ((fX0_listPlacements (a + 1) (a + 109) h).2))
def sX5_option_c0 (a : Nat) (x1 : Int32) (h : HH) : Prop := (x1 < 0 → (sX5_option_c23 a x1 h)) ∧ (¬ (x1 < 0) → ((sX0_listPlacements (a + 1) (a + 109) h) ∧ (sX5_option_c16 a x1 ((fX0_listPlacements (a + 1) (a + 109) h).1) x1 ((fX0_listPlacements (a + 1) (a + 109) h).2))))
set_option maxRecDepth 100000 in
set_option maxHeartbeats 4000000 in
theorem xX5_option_c0 {p : Program} {l : Launch} {e : Env} {s : State} {m : MethodId} {args : Array Value} {below : List Frame} {meth : Method} {c : Code} {X : Cx} {a : Nat} (hO : IsBd X a) (hst : l.stackTraces = false) (hout : ∀ x ∈ c.exceptionTable.toList, False) (C0 : CT p s m args meth c X cX5_option 2 (some .int) RX5) (x1 : Int32) (h : HH) (H : Heap) (locs : List Loc) (ls : Array Slot) (res : Nat × Int32 × HH) (hl : lv_has ls 2 [(0, .ref a), (1, .int x1)]) (hW : WH X h H) (hS : va_S (xA X) s.heap H locs) (hs : sX5_option_c0 a x1 h) (hres : fX5_option_c0 a x1 h = res) : W p l e rmX5_option s m args below meth c H locs 0 0 (vx_MQ below (QXi X res) (XXi X res) args s 3 18 (xA X)) (F0 m 0 ls []) := by
  obtain ⟨hx, hb, hr, hlk, hml, hown, hts, hK⟩ := id C0
  refine lv_iload_n hx hb dX5_option_0 rfl (lv_at hl 1 rfl) ?_
  refine lv_if_lt (tgt := 23) hx hb dX5_option_1 (by decide) (fun c1 => ?_) (fun c1 => ?_)
  · have hres := (if_pos c1).symm.trans hres
    have hs := And.left hs c1
    exact xX5_option_c23 hO hst hout C0 x1 h _ _ _ _ (lv_sub hl [0, 1] rfl) hW hS hs hres
  · have hres := (if_neg c1).symm.trans hres
    have hs := And.right hs c1
    refine lv_iload_n hx hb dX5_option_4 rfl (lv_at hl 1 rfl) ?_
    refine lv_aload_n hx hb dX5_option_5 rfl (lv_at hl 0 rfl) ?_
    refine g5_0 hx hb hts hown hK hW hO.1 (hts _ q1_210) dX5_option_6 ?_
    refine lv_aload_n hx hb dX5_option_9 rfl (lv_at hl 0 rfl) ?_
    refine g5_3 hx hb hts hown hK hW hO.1 (hts _ q1_213) dX5_option_10 ?_
    obtain ⟨hc4, hs⟩ := hs
    refine kV_i (As := [.ref (a + 109)]) (rest := [.int x1]) ⟨hx, hb, hml, hown, hts⟩ (kX0_listPlacements l X h (a + 1) (a + 109) hO.2.1 hO.2.2.2.2 hc4) (wX0_listPlacements hts q2_3 ⟨Nat.le_of_ble_eq_true rfl, Nat.le_of_ble_eq_true rfl⟩) hK hW hS (va_recv hK.1 (hW.one hO.2.1.1) (ci := 0) (q0 := 0) rfl rfl) rfl hl.1 rfl (Nat.le_of_ble_eq_true rfl) dX5_option_13 ⟨Nat.le_of_ble_eq_true rfl, Nat.le_of_ble_eq_true rfl⟩ (fun H locs hW hS => ?_)
    exact xX5_option_c16 hO hst hout C0 x1 ((fX0_listPlacements (a + 1) (a + 109) h).1) x1 ((fX0_listPlacements (a + 1) (a + 109) h).2) _ _ _ _ (lv_sub hl [0, 1] rfl) hW hS hs hres
def fX5_option (a : Nat) (x1 : Int32) (h : HH) : Nat × Int32 × HH := fX5_option_c0 a x1 h
def sX5_option (a : Nat) (x1 : Int32) (h : HH) : Prop := sX5_option_c0 a x1 h
set_option maxRecDepth 100000 in
set_option maxHeartbeats 4000000 in
theorem kX5_option (l : Launch) (hst : l.stackTraces = false) (X : Cx) (h : HH) (a : Nat) (x1 : Int32) (hO : IsBd X a) (hs : sX5_option a x1 h) : vx_Met l yX5_option vX5_option rmX5_option (va_Pc [.ref a, .int x1] (fun U => WS X h U)) (QXi X (fX5_option a x1 h)) (XXi X (fX5_option a x1 h)) 3 18 (xA X) := by
  refine vx_ofW (cc := cX5_option) (maxL := 2) (ret := some .int) (by decide) rfl ?_
  intro p e s m args below meth c s₁ B hml hout hv
  obtain ⟨rfl, hW, hK⟩ := hv
  have hl := lv_entry ([.ref a, .int x1]) (n := 2) (Nat.le_of_ble_eq_true rfl)
  rw [lg_entry_eq]
  generalize (lg_sl ([.ref a, .int x1]) ++ List.replicate (2 - (lg_sl ([.ref a, .int x1])).length) Slot.unset).toArray = ls at hl ⊢
  have hl : lv_has ls 2 [(0, .ref a), (1, .int x1)] := hl
  exact xX5_option_c0 hO hst hout ⟨B.exec, B.bytes, B.returns, B.notSynchronized, hml, findClass_of_methodNamed B.named, fun w hw => atoms_spec (ws := vX5_option) B.pre w (List.mem_cons_of_mem _ hw), hK⟩ x1 h _ _ ls _ (lv_sub hl [0, 1] rfl) hW va_S.rf hs rfl
-- VillageBoard.bestScore(I)I
abbrev rmX5_bestScore : Room := ({ frames := 12, cells := 3, slots := 18, locals := 294 } : Room)
abbrev vX5_bestScore : List Cond := Cond.code yX5_bestScore cX5_bestScore 2 (some .int) :: lwG
theorem wX5_bestScore {R : Room} {s : State} {args : Array Value} {own : String} {idx : Nat} (hg : ∀ w ∈ lwG, w.before args s = true) (hl : Cond.methodLink own idx yX5_bestScore ∈ lwG) (hR : rmX5_bestScore.frames + 1 ≤ R.frames ∧ 8 + (2 + 11) + rmX5_bestScore.locals ≤ R.locals) : CallW R s args own RX5 idx yX5_bestScore cX5_bestScore 2 (some .int) vX5_bestScore rmX5_bestScore 3 18 1 := cwV 1 hg (gV hl q3_229 q3_230 q1_1 q3_231) rfl rfl rfl (by decide +kernel) hR
def fX5_bestScore_c34 (a : Nat) (h : HH) : Nat × Int32 × HH := (0, fX3_bestResult (a + 78) h, h)
set_option maxRecDepth 100000 in
set_option maxHeartbeats 4000000 in
theorem xX5_bestScore_c34 {p : Program} {l : Launch} {e : Env} {s : State} {m : MethodId} {args : Array Value} {below : List Frame} {meth : Method} {c : Code} {X : Cx} {a : Nat} (hO : IsBd X a) (hst : l.stackTraces = false) (hout : ∀ x ∈ c.exceptionTable.toList, False) (C0 : CT p s m args meth c X cX5_bestScore 2 (some .int) RX5) (h : HH) (H : Heap) (locs : List Loc) (ls : Array Slot) (res : Nat × Int32 × HH) (hl : lv_has ls 2 []) (hW : WH X h H) (hS : va_S (xA X) s.heap H locs) (hres : fX5_bestScore_c34 a h = res) : W p l e rmX5_bestScore s m args below meth c H locs 1 6 (vx_MQ below (QXi X res) (XXi X res) args s 3 18 (xA X)) (F0 m 34 ls [.ref (a + 78)]) := by
  obtain ⟨hx, hb, hr, hlk, hml, hown, hts, hK⟩ := id C0
  refine kV_i (As := []) (rest := []) ⟨hx, hb, hml, hown, hts⟩ (kX3_bestResult l X h (a + 78) hO.2.2.2.1) (wX3_bestResult hts q2_184 ⟨Nat.le_of_ble_eq_true rfl, Nat.le_of_ble_eq_true rfl⟩) hK hW hS (va_recv hK.1 (hW.one hO.2.2.2.1.1) (ci := 3) (q0 := 0) rfl rfl) rfl hl.1 rfl (Nat.le_of_ble_eq_true rfl) dX5_bestScore_34 ⟨Nat.le_of_ble_eq_true rfl, Nat.le_of_ble_eq_true rfl⟩ (fun H locs hW hS => ?_)
  subst hres
  exact kxr_i hx hb hr hlk hK hW hS dX5_bestScore_37 (Nat.le_of_ble_eq_true rfl) (Nat.le_of_ble_eq_true rfl)
def fX5_bestScore_c15 (a : Nat) (x1 : Int32) (xs0 : Int32) (h : HH) : Nat × Int32 × HH := if fX5_requireArgument xs0 = 0 then (fX5_bestScore_c34 a (fX3_run (a + 78) (a + 1) x1 h)) else (fX5_requireArgument xs0, 0, h)
def sX5_bestScore_c15 (a : Nat) (x1 : Int32) (xs0 : Int32) (h : HH) : Prop := (fX5_requireArgument xs0 = 0 → (sX3_run (a + 78) (a + 1) x1 h))
set_option maxRecDepth 100000 in
set_option maxHeartbeats 4000000 in
theorem xX5_bestScore_c15 {p : Program} {l : Launch} {e : Env} {s : State} {m : MethodId} {args : Array Value} {below : List Frame} {meth : Method} {c : Code} {X : Cx} {a : Nat} (hO : IsBd X a) (hst : l.stackTraces = false) (hout : ∀ x ∈ c.exceptionTable.toList, False) (C0 : CT p s m args meth c X cX5_bestScore 2 (some .int) RX5) (x1 : Int32) (xs0 : Int32) (h : HH) (H : Heap) (locs : List Loc) (ls : Array Slot) (res : Nat × Int32 × HH) (hl : lv_has ls 2 [(0, .ref a), (1, .int x1)]) (hW : WH X h H) (hS : va_S (xA X) s.heap H locs) (hs : sX5_bestScore_c15 a x1 xs0 h) (hres : fX5_bestScore_c15 a x1 xs0 h = res) : W p l e rmX5_bestScore s m args below meth c H locs 0 0 (vx_MQ below (QXi X res) (XXi X res) args s 3 18 (xA X)) (F0 m 15 ls [.int xs0]) := by
  obtain ⟨hx, hb, hr, hlk, hml, hown, hts, hK⟩ := id C0
  refine kxS (As := [.int xs0]) (rest := []) ⟨hx, hb, hml, hown, hts⟩ (kX5_requireArgument l hst X h xs0) (wX5_requireArgument hts q2_212 ⟨Nat.le_of_ble_eq_true rfl, Nat.le_of_ble_eq_true rfl⟩) hK hW hS rfl hl.1 rfl (Nat.le_of_ble_eq_true rfl) dX5_bestScore_15 ⟨Nat.le_of_ble_eq_true rfl, Nat.le_of_ble_eq_true rfl⟩ hlk hout (Nat.le_of_ble_eq_true rfl) (Nat.le_of_ble_eq_true rfl) (xh_i (fun c2 => (if_neg c2).symm.trans hres)) (fun c2 H locs hW hS => ?_)
  have hres := (if_pos c2).symm.trans hres
  have hs := hs c2
  refine lv_aload_n hx hb dX5_bestScore_18 rfl (lv_at hl 0 rfl) ?_
  refine g5_2 hx hb hts hown hK hW hO.1 (hts _ q1_212) dX5_bestScore_19 ?_
  refine lv_aload_n hx hb dX5_bestScore_22 rfl (lv_at hl 0 rfl) ?_
  refine g5_0 hx hb hts hown hK hW hO.1 (hts _ q1_210) dX5_bestScore_23 ?_
  refine lv_iload_n hx hb dX5_bestScore_26 rfl (lv_at hl 1 rfl) ?_
  have hc3 := hs
  refine kV_v (As := [.ref (a + 1), .int x1]) (rest := []) ⟨hx, hb, hml, hown, hts⟩ (kX3_run l X h (a + 78) (a + 1) x1 hO.2.2.2.1 hO.2.1 hc3) (wX3_run hts q2_117 ⟨Nat.le_of_ble_eq_true rfl, Nat.le_of_ble_eq_true rfl⟩) hK hW hS (va_recv hK.1 (hW.one hO.2.2.2.1.1) (ci := 3) (q0 := 0) rfl rfl) rfl hl.1 rfl (Nat.le_of_ble_eq_true rfl) dX5_bestScore_27 ⟨Nat.le_of_ble_eq_true rfl, Nat.le_of_ble_eq_true rfl⟩ (fun H locs hW hS => ?_)
  refine lv_aload_n hx hb dX5_bestScore_30 rfl (lv_at hl 0 rfl) ?_
  refine g5_2 hx hb hts hown hK hW hO.1 (hts _ q1_212) dX5_bestScore_31 ?_
  exact xX5_bestScore_c34 hO hst hout C0 (fX3_run (a + 78) (a + 1) x1 h) _ _ _ _ (lv_sub hl [] rfl) hW hS hres
def fX5_bestScore_c14 (a : Nat) (x1 : Int32) (h : HH) : Nat × Int32 × HH := fX5_bestScore_c15 a x1 0 h
def sX5_bestScore_c14 (a : Nat) (x1 : Int32) (h : HH) : Prop := sX5_bestScore_c15 a x1 0 h
set_option maxRecDepth 100000 in
set_option maxHeartbeats 4000000 in
theorem xX5_bestScore_c14 {p : Program} {l : Launch} {e : Env} {s : State} {m : MethodId} {args : Array Value} {below : List Frame} {meth : Method} {c : Code} {X : Cx} {a : Nat} (hO : IsBd X a) (hst : l.stackTraces = false) (hout : ∀ x ∈ c.exceptionTable.toList, False) (C0 : CT p s m args meth c X cX5_bestScore 2 (some .int) RX5) (x1 : Int32) (h : HH) (H : Heap) (locs : List Loc) (ls : Array Slot) (res : Nat × Int32 × HH) (hl : lv_has ls 2 [(0, .ref a), (1, .int x1)]) (hW : WH X h H) (hS : va_S (xA X) s.heap H locs) (hs : sX5_bestScore_c14 a x1 h) (hres : fX5_bestScore_c14 a x1 h = res) : W p l e rmX5_bestScore s m args below meth c H locs 0 0 (vx_MQ below (QXi X res) (XXi X res) args s 3 18 (xA X)) (F0 m 14 ls []) := by
  obtain ⟨hx, hb, hr, hlk, hml, hown, hts, hK⟩ := id C0
  refine lv_iconst (v := 0) hx hb dX5_bestScore_14 (by decide) ?_
  exact xX5_bestScore_c15 hO hst hout C0 x1 0 h _ _ _ _ (lv_sub hl [0, 1] rfl) hW hS hs hres
def fX5_bestScore_c0 (a : Nat) (x1 : Int32) (h : HH) : Nat × Int32 × HH := if x1 < 1 then (fX5_bestScore_c14 a x1 h) else (if 3 < x1 then (fX5_bestScore_c14 a x1 h) else (fX5_bestScore_c15 a x1 1 h))
def sX5_bestScore_c0 (a : Nat) (x1 : Int32) (h : HH) : Prop := (x1 < 1 → (sX5_bestScore_c14 a x1 h)) ∧ (¬ (x1 < 1) → ((3 < x1 → (sX5_bestScore_c14 a x1 h)) ∧ (¬ (3 < x1) → (sX5_bestScore_c15 a x1 1 h))))
set_option maxRecDepth 100000 in
set_option maxHeartbeats 4000000 in
theorem xX5_bestScore_c0 {p : Program} {l : Launch} {e : Env} {s : State} {m : MethodId} {args : Array Value} {below : List Frame} {meth : Method} {c : Code} {X : Cx} {a : Nat} (hO : IsBd X a) (hst : l.stackTraces = false) (hout : ∀ x ∈ c.exceptionTable.toList, False) (C0 : CT p s m args meth c X cX5_bestScore 2 (some .int) RX5) (x1 : Int32) (h : HH) (H : Heap) (locs : List Loc) (ls : Array Slot) (res : Nat × Int32 × HH) (hl : lv_has ls 2 [(0, .ref a), (1, .int x1)]) (hW : WH X h H) (hS : va_S (xA X) s.heap H locs) (hs : sX5_bestScore_c0 a x1 h) (hres : fX5_bestScore_c0 a x1 h = res) : W p l e rmX5_bestScore s m args below meth c H locs 0 0 (vx_MQ below (QXi X res) (XXi X res) args s 3 18 (xA X)) (F0 m 0 ls []) := by
  obtain ⟨hx, hb, hr, hlk, hml, hown, hts, hK⟩ := id C0
  refine lv_iload_n hx hb dX5_bestScore_0 rfl (lv_at hl 1 rfl) ?_
  refine lv_iconst (v := 1) hx hb dX5_bestScore_1 (by decide) ?_
  refine lv_icmp_lt (tgt := 14) hx hb dX5_bestScore_2 (by decide) (fun c1 => ?_) (fun c1 => ?_)
  · have hres := (if_pos c1).symm.trans hres
    have hs := And.left hs c1
    exact xX5_bestScore_c14 hO hst hout C0 x1 h _ _ _ _ (lv_sub hl [0, 1] rfl) hW hS hs hres
  · have hres := (if_neg c1).symm.trans hres
    have hs := And.right hs c1
    refine lv_iload_n hx hb dX5_bestScore_5 rfl (lv_at hl 1 rfl) ?_
    refine lv_iconst (v := 3) hx hb dX5_bestScore_6 (by decide) ?_
    refine lv_icmp_gt (tgt := 14) hx hb dX5_bestScore_7 (by decide) (fun c4 => ?_) (fun c4 => ?_)
    · have hres := (if_pos c4).symm.trans hres
      have hs := And.left hs c4
      exact xX5_bestScore_c14 hO hst hout C0 x1 h _ _ _ _ (lv_sub hl [0, 1] rfl) hW hS hs hres
    · have hres := (if_neg c4).symm.trans hres
      have hs := And.right hs c4
      refine lv_iconst (v := 1) hx hb dX5_bestScore_10 (by decide) ?_
      refine lv_goto (tgt := 15) hx hb dX5_bestScore_11 (by decide) ?_
      exact xX5_bestScore_c15 hO hst hout C0 x1 1 h _ _ _ _ (lv_sub hl [0, 1] rfl) hW hS hs hres
def fX5_bestScore (a : Nat) (x1 : Int32) (h : HH) : Nat × Int32 × HH := fX5_bestScore_c0 a x1 h
def sX5_bestScore (a : Nat) (x1 : Int32) (h : HH) : Prop := sX5_bestScore_c0 a x1 h
set_option maxRecDepth 100000 in
set_option maxHeartbeats 4000000 in
theorem kX5_bestScore (l : Launch) (hst : l.stackTraces = false) (X : Cx) (h : HH) (a : Nat) (x1 : Int32) (hO : IsBd X a) (hs : sX5_bestScore a x1 h) : vx_Met l yX5_bestScore vX5_bestScore rmX5_bestScore (va_Pc [.ref a, .int x1] (fun U => WS X h U)) (QXi X (fX5_bestScore a x1 h)) (XXi X (fX5_bestScore a x1 h)) 3 18 (xA X) := by
  refine vx_ofW (cc := cX5_bestScore) (maxL := 2) (ret := some .int) (by decide) rfl ?_
  intro p e s m args below meth c s₁ B hml hout hv
  obtain ⟨rfl, hW, hK⟩ := hv
  have hl := lv_entry ([.ref a, .int x1]) (n := 2) (Nat.le_of_ble_eq_true rfl)
  rw [lg_entry_eq]
  generalize (lg_sl ([.ref a, .int x1]) ++ List.replicate (2 - (lg_sl ([.ref a, .int x1])).length) Slot.unset).toArray = ls at hl ⊢
  have hl : lv_has ls 2 [(0, .ref a), (1, .int x1)] := hl
  exact xX5_bestScore_c0 hO hst hout ⟨B.exec, B.bytes, B.returns, B.notSynchronized, hml, findClass_of_methodNamed B.named, fun w hw => atoms_spec (ws := vX5_bestScore) B.pre w (List.mem_cons_of_mem _ hw), hK⟩ x1 h _ _ ls _ (lv_sub hl [0, 1] rfl) hW va_S.rf hs rfl
-- VillageBoard.bestPlacement(II)I
abbrev rmX5_bestPlacement : Room := ({ frames := 12, cells := 3, slots := 18, locals := 294 } : Room)
abbrev vX5_bestPlacement : List Cond := Cond.code yX5_bestPlacement cX5_bestPlacement 3 (some .int) :: lwG
theorem wX5_bestPlacement {R : Room} {s : State} {args : Array Value} {own : String} {idx : Nat} (hg : ∀ w ∈ lwG, w.before args s = true) (hl : Cond.methodLink own idx yX5_bestPlacement ∈ lwG) (hR : rmX5_bestPlacement.frames + 1 ≤ R.frames ∧ 8 + (3 + 11) + rmX5_bestPlacement.locals ≤ R.locals) : CallW R s args own RX5 idx yX5_bestPlacement cX5_bestPlacement 3 (some .int) vX5_bestPlacement rmX5_bestPlacement 3 18 2 := cwV 2 hg (gV hl q3_236 q3_237 q1_1 q3_238) rfl rfl rfl (by decide +kernel) hR
def fX5_bestPlacement_c52 (a : Nat) (xs0 : Int32) (h : HH) : Nat × Int32 × HH := (0, fX3_bestStep (a + 78) xs0 h, h)
def sX5_bestPlacement_c52 (a : Nat) (xs0 : Int32) (h : HH) : Prop := sX3_bestStep (a + 78) xs0 h
set_option maxRecDepth 100000 in
set_option maxHeartbeats 4000000 in
theorem xX5_bestPlacement_c52 {p : Program} {l : Launch} {e : Env} {s : State} {m : MethodId} {args : Array Value} {below : List Frame} {meth : Method} {c : Code} {X : Cx} {a : Nat} (hO : IsBd X a) (hst : l.stackTraces = false) (hout : ∀ x ∈ c.exceptionTable.toList, False) (C0 : CT p s m args meth c X cX5_bestPlacement 3 (some .int) RX5) (xs0 : Int32) (h : HH) (H : Heap) (locs : List Loc) (ls : Array Slot) (res : Nat × Int32 × HH) (hl : lv_has ls 3 []) (hW : WH X h H) (hS : va_S (xA X) s.heap H locs) (hs : sX5_bestPlacement_c52 a xs0 h) (hres : fX5_bestPlacement_c52 a xs0 h = res) : W p l e rmX5_bestPlacement s m args below meth c H locs 2 12 (vx_MQ below (QXi X res) (XXi X res) args s 3 18 (xA X)) (F0 m 52 ls [.int xs0, .ref (a + 78)]) := by
  obtain ⟨hx, hb, hr, hlk, hml, hown, hts, hK⟩ := id C0
  have hc6 := hs
  refine kV_i (As := [.int xs0]) (rest := []) ⟨hx, hb, hml, hown, hts⟩ (kX3_bestStep l X h (a + 78) xs0 hO.2.2.2.1 hc6) (wX3_bestStep hts q2_188 ⟨Nat.le_of_ble_eq_true rfl, Nat.le_of_ble_eq_true rfl⟩) hK hW hS (va_recv hK.1 (hW.one hO.2.2.2.1.1) (ci := 3) (q0 := 0) rfl rfl) rfl hl.1 rfl (Nat.le_of_ble_eq_true rfl) dX5_bestPlacement_52 ⟨Nat.le_of_ble_eq_true rfl, Nat.le_of_ble_eq_true rfl⟩ (fun H locs hW hS => ?_)
  subst hres
  exact kxr_i hx hb hr hlk hK hW hS dX5_bestPlacement_55 (Nat.le_of_ble_eq_true rfl) (Nat.le_of_ble_eq_true rfl)
def fX5_bestPlacement_c32 (a : Nat) (x1 : Int32) (x2 : Int32) (xs0 : Int32) (h : HH) : Nat × Int32 × HH := if fX5_requireArgument xs0 = 0 then (fX5_bestPlacement_c52 a x2 (fX3_run (a + 78) (a + 1) x1 h)) else (fX5_requireArgument xs0, 0, h)
def sX5_bestPlacement_c32 (a : Nat) (x1 : Int32) (x2 : Int32) (xs0 : Int32) (h : HH) : Prop := (fX5_requireArgument xs0 = 0 → ((sX3_run (a + 78) (a + 1) x1 h) ∧ (sX5_bestPlacement_c52 a x2 (fX3_run (a + 78) (a + 1) x1 h))))
set_option maxRecDepth 100000 in
set_option maxHeartbeats 4000000 in
theorem xX5_bestPlacement_c32 {p : Program} {l : Launch} {e : Env} {s : State} {m : MethodId} {args : Array Value} {below : List Frame} {meth : Method} {c : Code} {X : Cx} {a : Nat} (hO : IsBd X a) (hst : l.stackTraces = false) (hout : ∀ x ∈ c.exceptionTable.toList, False) (C0 : CT p s m args meth c X cX5_bestPlacement 3 (some .int) RX5) (x1 : Int32) (x2 : Int32) (xs0 : Int32) (h : HH) (H : Heap) (locs : List Loc) (ls : Array Slot) (res : Nat × Int32 × HH) (hl : lv_has ls 3 [(0, .ref a), (1, .int x1), (2, .int x2)]) (hW : WH X h H) (hS : va_S (xA X) s.heap H locs) (hs : sX5_bestPlacement_c32 a x1 x2 xs0 h) (hres : fX5_bestPlacement_c32 a x1 x2 xs0 h = res) : W p l e rmX5_bestPlacement s m args below meth c H locs 1 6 (vx_MQ below (QXi X res) (XXi X res) args s 3 18 (xA X)) (F0 m 32 ls [.int xs0]) := by
  obtain ⟨hx, hb, hr, hlk, hml, hown, hts, hK⟩ := id C0
  refine kxS (As := [.int xs0]) (rest := []) ⟨hx, hb, hml, hown, hts⟩ (kX5_requireArgument l hst X h xs0) (wX5_requireArgument hts q2_212 ⟨Nat.le_of_ble_eq_true rfl, Nat.le_of_ble_eq_true rfl⟩) hK hW hS rfl hl.1 rfl (Nat.le_of_ble_eq_true rfl) dX5_bestPlacement_32 ⟨Nat.le_of_ble_eq_true rfl, Nat.le_of_ble_eq_true rfl⟩ hlk hout (Nat.le_of_ble_eq_true rfl) (Nat.le_of_ble_eq_true rfl) (xh_i (fun c4 => (if_neg c4).symm.trans hres)) (fun c4 H locs hW hS => ?_)
  have hres := (if_pos c4).symm.trans hres
  have hs := hs c4
  refine lv_aload_n hx hb dX5_bestPlacement_35 rfl (lv_at hl 0 rfl) ?_
  refine g5_2 hx hb hts hown hK hW hO.1 (hts _ q1_212) dX5_bestPlacement_36 ?_
  refine lv_aload_n hx hb dX5_bestPlacement_39 rfl (lv_at hl 0 rfl) ?_
  refine g5_0 hx hb hts hown hK hW hO.1 (hts _ q1_210) dX5_bestPlacement_40 ?_
  refine lv_iload_n hx hb dX5_bestPlacement_43 rfl (lv_at hl 1 rfl) ?_
  obtain ⟨hc5, hs⟩ := hs
  refine kV_v (As := [.ref (a + 1), .int x1]) (rest := []) ⟨hx, hb, hml, hown, hts⟩ (kX3_run l X h (a + 78) (a + 1) x1 hO.2.2.2.1 hO.2.1 hc5) (wX3_run hts q2_117 ⟨Nat.le_of_ble_eq_true rfl, Nat.le_of_ble_eq_true rfl⟩) hK hW hS (va_recv hK.1 (hW.one hO.2.2.2.1.1) (ci := 3) (q0 := 0) rfl rfl) rfl hl.1 rfl (Nat.le_of_ble_eq_true rfl) dX5_bestPlacement_44 ⟨Nat.le_of_ble_eq_true rfl, Nat.le_of_ble_eq_true rfl⟩ (fun H locs hW hS => ?_)
  refine lv_aload_n hx hb dX5_bestPlacement_47 rfl (lv_at hl 0 rfl) ?_
  refine g5_2 hx hb hts hown hK hW hO.1 (hts _ q1_212) dX5_bestPlacement_48 ?_
  refine lv_iload_n hx hb dX5_bestPlacement_51 rfl (lv_at hl 2 rfl) ?_
  exact xX5_bestPlacement_c52 hO hst hout C0 x2 (fX3_run (a + 78) (a + 1) x1 h) _ _ _ _ (lv_sub hl [] rfl) hW hS hs hres
def fX5_bestPlacement_c31 (a : Nat) (x1 : Int32) (x2 : Int32) (h : HH) : Nat × Int32 × HH := fX5_bestPlacement_c32 a x1 x2 0 h
def sX5_bestPlacement_c31 (a : Nat) (x1 : Int32) (x2 : Int32) (h : HH) : Prop := sX5_bestPlacement_c32 a x1 x2 0 h
set_option maxRecDepth 100000 in
set_option maxHeartbeats 4000000 in
theorem xX5_bestPlacement_c31 {p : Program} {l : Launch} {e : Env} {s : State} {m : MethodId} {args : Array Value} {below : List Frame} {meth : Method} {c : Code} {X : Cx} {a : Nat} (hO : IsBd X a) (hst : l.stackTraces = false) (hout : ∀ x ∈ c.exceptionTable.toList, False) (C0 : CT p s m args meth c X cX5_bestPlacement 3 (some .int) RX5) (x1 : Int32) (x2 : Int32) (h : HH) (H : Heap) (locs : List Loc) (ls : Array Slot) (res : Nat × Int32 × HH) (hl : lv_has ls 3 [(0, .ref a), (1, .int x1), (2, .int x2)]) (hW : WH X h H) (hS : va_S (xA X) s.heap H locs) (hs : sX5_bestPlacement_c31 a x1 x2 h) (hres : fX5_bestPlacement_c31 a x1 x2 h = res) : W p l e rmX5_bestPlacement s m args below meth c H locs 1 6 (vx_MQ below (QXi X res) (XXi X res) args s 3 18 (xA X)) (F0 m 31 ls []) := by
  obtain ⟨hx, hb, hr, hlk, hml, hown, hts, hK⟩ := id C0
  refine lv_iconst (v := 0) hx hb dX5_bestPlacement_31 (by decide) ?_
  exact xX5_bestPlacement_c32 hO hst hout C0 x1 x2 0 h _ _ _ _ (lv_sub hl [0, 1, 2] rfl) hW hS hs hres
def fX5_bestPlacement_c15 (a : Nat) (x1 : Int32) (x2 : Int32) (xs0 : Int32) (h : HH) : Nat × Int32 × HH := if fX5_requireArgument xs0 = 0 then (if x2 < 0 then (fX5_bestPlacement_c31 a x1 x2 h) else (if x1 ≤ x2 then (fX5_bestPlacement_c31 a x1 x2 h) else (fX5_bestPlacement_c32 a x1 x2 1 h))) else (fX5_requireArgument xs0, 0, h)
def sX5_bestPlacement_c15 (a : Nat) (x1 : Int32) (x2 : Int32) (xs0 : Int32) (h : HH) : Prop := (fX5_requireArgument xs0 = 0 → ((x2 < 0 → (sX5_bestPlacement_c31 a x1 x2 h)) ∧ (¬ (x2 < 0) → ((x1 ≤ x2 → (sX5_bestPlacement_c31 a x1 x2 h)) ∧ (¬ (x1 ≤ x2) → (sX5_bestPlacement_c32 a x1 x2 1 h))))))
set_option maxRecDepth 100000 in
set_option maxHeartbeats 4000000 in
theorem xX5_bestPlacement_c15 {p : Program} {l : Launch} {e : Env} {s : State} {m : MethodId} {args : Array Value} {below : List Frame} {meth : Method} {c : Code} {X : Cx} {a : Nat} (hO : IsBd X a) (hst : l.stackTraces = false) (hout : ∀ x ∈ c.exceptionTable.toList, False) (C0 : CT p s m args meth c X cX5_bestPlacement 3 (some .int) RX5) (x1 : Int32) (x2 : Int32) (xs0 : Int32) (h : HH) (H : Heap) (locs : List Loc) (ls : Array Slot) (res : Nat × Int32 × HH) (hl : lv_has ls 3 [(0, .ref a), (1, .int x1), (2, .int x2)]) (hW : WH X h H) (hS : va_S (xA X) s.heap H locs) (hs : sX5_bestPlacement_c15 a x1 x2 xs0 h) (hres : fX5_bestPlacement_c15 a x1 x2 xs0 h = res) : W p l e rmX5_bestPlacement s m args below meth c H locs 0 0 (vx_MQ below (QXi X res) (XXi X res) args s 3 18 (xA X)) (F0 m 15 ls [.int xs0]) := by
  obtain ⟨hx, hb, hr, hlk, hml, hown, hts, hK⟩ := id C0
  refine kxS (As := [.int xs0]) (rest := []) ⟨hx, hb, hml, hown, hts⟩ (kX5_requireArgument l hst X h xs0) (wX5_requireArgument hts q2_212 ⟨Nat.le_of_ble_eq_true rfl, Nat.le_of_ble_eq_true rfl⟩) hK hW hS rfl hl.1 rfl (Nat.le_of_ble_eq_true rfl) dX5_bestPlacement_15 ⟨Nat.le_of_ble_eq_true rfl, Nat.le_of_ble_eq_true rfl⟩ hlk hout (Nat.le_of_ble_eq_true rfl) (Nat.le_of_ble_eq_true rfl) (xh_i (fun c2 => (if_neg c2).symm.trans hres)) (fun c2 H locs hW hS => ?_)
  have hres := (if_pos c2).symm.trans hres
  have hs := hs c2
  refine lv_iload_n hx hb dX5_bestPlacement_18 rfl (lv_at hl 2 rfl) ?_
  refine lv_if_lt (tgt := 31) hx hb dX5_bestPlacement_19 (by decide) (fun c3 => ?_) (fun c3 => ?_)
  · have hres := (if_pos c3).symm.trans hres
    have hs := And.left hs c3
    exact xX5_bestPlacement_c31 hO hst hout C0 x1 x2 h _ _ _ _ (lv_sub hl [0, 1, 2] rfl) hW hS hs hres
  · have hres := (if_neg c3).symm.trans hres
    have hs := And.right hs c3
    refine lv_iload_n hx hb dX5_bestPlacement_22 rfl (lv_at hl 2 rfl) ?_
    refine lv_iload_n hx hb dX5_bestPlacement_23 rfl (lv_at hl 1 rfl) ?_
    refine lv_icmp_ge (tgt := 31) hx hb dX5_bestPlacement_24 (by decide) (fun c7 => ?_) (fun c7 => ?_)
    · have hres := (if_pos c7).symm.trans hres
      have hs := And.left hs c7
      exact xX5_bestPlacement_c31 hO hst hout C0 x1 x2 h _ _ _ _ (lv_sub hl [0, 1, 2] rfl) hW hS hs hres
    · have hres := (if_neg c7).symm.trans hres
      have hs := And.right hs c7
      refine lv_iconst (v := 1) hx hb dX5_bestPlacement_27 (by decide) ?_
      refine lv_goto (tgt := 32) hx hb dX5_bestPlacement_28 (by decide) ?_
      exact xX5_bestPlacement_c32 hO hst hout C0 x1 x2 1 h _ _ _ _ (lv_sub hl [0, 1, 2] rfl) hW hS hs hres
def fX5_bestPlacement_c14 (a : Nat) (x1 : Int32) (x2 : Int32) (h : HH) : Nat × Int32 × HH := fX5_bestPlacement_c15 a x1 x2 0 h
def sX5_bestPlacement_c14 (a : Nat) (x1 : Int32) (x2 : Int32) (h : HH) : Prop := sX5_bestPlacement_c15 a x1 x2 0 h
set_option maxRecDepth 100000 in
set_option maxHeartbeats 4000000 in
theorem xX5_bestPlacement_c14 {p : Program} {l : Launch} {e : Env} {s : State} {m : MethodId} {args : Array Value} {below : List Frame} {meth : Method} {c : Code} {X : Cx} {a : Nat} (hO : IsBd X a) (hst : l.stackTraces = false) (hout : ∀ x ∈ c.exceptionTable.toList, False) (C0 : CT p s m args meth c X cX5_bestPlacement 3 (some .int) RX5) (x1 : Int32) (x2 : Int32) (h : HH) (H : Heap) (locs : List Loc) (ls : Array Slot) (res : Nat × Int32 × HH) (hl : lv_has ls 3 [(0, .ref a), (1, .int x1), (2, .int x2)]) (hW : WH X h H) (hS : va_S (xA X) s.heap H locs) (hs : sX5_bestPlacement_c14 a x1 x2 h) (hres : fX5_bestPlacement_c14 a x1 x2 h = res) : W p l e rmX5_bestPlacement s m args below meth c H locs 0 0 (vx_MQ below (QXi X res) (XXi X res) args s 3 18 (xA X)) (F0 m 14 ls []) := by
  obtain ⟨hx, hb, hr, hlk, hml, hown, hts, hK⟩ := id C0
  refine lv_iconst (v := 0) hx hb dX5_bestPlacement_14 (by decide) ?_
  exact xX5_bestPlacement_c15 hO hst hout C0 x1 x2 0 h _ _ _ _ (lv_sub hl [0, 1, 2] rfl) hW hS hs hres
def fX5_bestPlacement_c0 (a : Nat) (x1 : Int32) (x2 : Int32) (h : HH) : Nat × Int32 × HH := if x1 < 1 then (fX5_bestPlacement_c14 a x1 x2 h) else (if 3 < x1 then (fX5_bestPlacement_c14 a x1 x2 h) else (fX5_bestPlacement_c15 a x1 x2 1 h))
def sX5_bestPlacement_c0 (a : Nat) (x1 : Int32) (x2 : Int32) (h : HH) : Prop := (x1 < 1 → (sX5_bestPlacement_c14 a x1 x2 h)) ∧ (¬ (x1 < 1) → ((3 < x1 → (sX5_bestPlacement_c14 a x1 x2 h)) ∧ (¬ (3 < x1) → (sX5_bestPlacement_c15 a x1 x2 1 h))))
set_option maxRecDepth 100000 in
set_option maxHeartbeats 4000000 in
theorem xX5_bestPlacement_c0 {p : Program} {l : Launch} {e : Env} {s : State} {m : MethodId} {args : Array Value} {below : List Frame} {meth : Method} {c : Code} {X : Cx} {a : Nat} (hO : IsBd X a) (hst : l.stackTraces = false) (hout : ∀ x ∈ c.exceptionTable.toList, False) (C0 : CT p s m args meth c X cX5_bestPlacement 3 (some .int) RX5) (x1 : Int32) (x2 : Int32) (h : HH) (H : Heap) (locs : List Loc) (ls : Array Slot) (res : Nat × Int32 × HH) (hl : lv_has ls 3 [(0, .ref a), (1, .int x1), (2, .int x2)]) (hW : WH X h H) (hS : va_S (xA X) s.heap H locs) (hs : sX5_bestPlacement_c0 a x1 x2 h) (hres : fX5_bestPlacement_c0 a x1 x2 h = res) : W p l e rmX5_bestPlacement s m args below meth c H locs 0 0 (vx_MQ below (QXi X res) (XXi X res) args s 3 18 (xA X)) (F0 m 0 ls []) := by
  obtain ⟨hx, hb, hr, hlk, hml, hown, hts, hK⟩ := id C0
  refine lv_iload_n hx hb dX5_bestPlacement_0 rfl (lv_at hl 1 rfl) ?_
  refine lv_iconst (v := 1) hx hb dX5_bestPlacement_1 (by decide) ?_
  refine lv_icmp_lt (tgt := 14) hx hb dX5_bestPlacement_2 (by decide) (fun c1 => ?_) (fun c1 => ?_)
  · have hres := (if_pos c1).symm.trans hres
    have hs := And.left hs c1
    exact xX5_bestPlacement_c14 hO hst hout C0 x1 x2 h _ _ _ _ (lv_sub hl [0, 1, 2] rfl) hW hS hs hres
  · have hres := (if_neg c1).symm.trans hres
    have hs := And.right hs c1
    refine lv_iload_n hx hb dX5_bestPlacement_5 rfl (lv_at hl 1 rfl) ?_
    refine lv_iconst (v := 3) hx hb dX5_bestPlacement_6 (by decide) ?_
    refine lv_icmp_gt (tgt := 14) hx hb dX5_bestPlacement_7 (by decide) (fun c8 => ?_) (fun c8 => ?_)
    · have hres := (if_pos c8).symm.trans hres
      have hs := And.left hs c8
      exact xX5_bestPlacement_c14 hO hst hout C0 x1 x2 h _ _ _ _ (lv_sub hl [0, 1, 2] rfl) hW hS hs hres
    · have hres := (if_neg c8).symm.trans hres
      have hs := And.right hs c8
      refine lv_iconst (v := 1) hx hb dX5_bestPlacement_10 (by decide) ?_
      refine lv_goto (tgt := 15) hx hb dX5_bestPlacement_11 (by decide) ?_
      exact xX5_bestPlacement_c15 hO hst hout C0 x1 x2 1 h _ _ _ _ (lv_sub hl [0, 1, 2] rfl) hW hS hs hres
def fX5_bestPlacement (a : Nat) (x1 : Int32) (x2 : Int32) (h : HH) : Nat × Int32 × HH := fX5_bestPlacement_c0 a x1 x2 h
def sX5_bestPlacement (a : Nat) (x1 : Int32) (x2 : Int32) (h : HH) : Prop := sX5_bestPlacement_c0 a x1 x2 h
set_option maxRecDepth 100000 in
set_option maxHeartbeats 4000000 in
theorem kX5_bestPlacement (l : Launch) (hst : l.stackTraces = false) (X : Cx) (h : HH) (a : Nat) (x1 : Int32) (x2 : Int32) (hO : IsBd X a) (hs : sX5_bestPlacement a x1 x2 h) : vx_Met l yX5_bestPlacement vX5_bestPlacement rmX5_bestPlacement (va_Pc [.ref a, .int x1, .int x2] (fun U => WS X h U)) (QXi X (fX5_bestPlacement a x1 x2 h)) (XXi X (fX5_bestPlacement a x1 x2 h)) 3 18 (xA X) := by
  refine vx_ofW (cc := cX5_bestPlacement) (maxL := 3) (ret := some .int) (by decide) rfl ?_
  intro p e s m args below meth c s₁ B hml hout hv
  obtain ⟨rfl, hW, hK⟩ := hv
  have hl := lv_entry ([.ref a, .int x1, .int x2]) (n := 3) (Nat.le_of_ble_eq_true rfl)
  rw [lg_entry_eq]
  generalize (lg_sl ([.ref a, .int x1, .int x2]) ++ List.replicate (3 - (lg_sl ([.ref a, .int x1, .int x2])).length) Slot.unset).toArray = ls at hl ⊢
  have hl : lv_has ls 3 [(0, .ref a), (1, .int x1), (2, .int x2)] := hl
  exact xX5_bestPlacement_c0 hO hst hout ⟨B.exec, B.bytes, B.returns, B.notSynchronized, hml, findClass_of_methodNamed B.named, fun w hw => atoms_spec (ws := vX5_bestPlacement) B.pre w (List.mem_cons_of_mem _ hw), hK⟩ x1 x2 h _ _ ls _ (lv_sub hl [0, 1, 2] rfl) hW va_S.rf hs rfl
-- VillageBoard.moves()I
abbrev rmX5_moves : Room := ({ frames := 0, cells := 0, slots := 0, locals := 0 } : Room)
abbrev vX5_moves : List Cond := Cond.code yX5_moves cX5_moves 1 (some .int) :: lwG
theorem wX5_moves {R : Room} {s : State} {args : Array Value} {own : String} {idx : Nat} (hg : ∀ w ∈ lwG, w.before args s = true) (hl : Cond.methodLink own idx yX5_moves ∈ lwG) (hR : rmX5_moves.frames + 1 ≤ R.frames ∧ 8 + (1 + 11) + rmX5_moves.locals ≤ R.locals) : CallW R s args own RX5 idx yX5_moves cX5_moves 1 (some .int) vX5_moves rmX5_moves 0 0 0 := cwV 0 hg (gV hl q2_53 q2_54 q1_1 q2_55) rfl rfl rfl (by decide +kernel) hR
def fX5_moves_c0 (a : Nat) (h : HH) : Int32 := h (a + 1 + 5) 2
set_option maxRecDepth 100000 in
set_option maxHeartbeats 4000000 in
theorem xX5_moves_c0 {p : Program} {l : Launch} {e : Env} {s : State} {m : MethodId} {args : Array Value} {below : List Frame} {meth : Method} {c : Code} {X : Cx} {a : Nat} (hO : IsBd X a) (C0 : CT p s m args meth c X cX5_moves 1 (some .int) RX5) (h : HH) (H : Heap) (locs : List Loc) (ls : Array Slot) (res : Int32) (hl : lv_has ls 1 [(0, .ref a)]) (hW : WH X h H) (hS : va_S (xA X) s.heap H locs) (hres : fX5_moves_c0 a h = res) : W p l e rmX5_moves s m args below meth c H locs 0 0 (MQ below (QI X res h) args s 0 0 (xA X)) (F0 m 0 ls []) := by
  obtain ⟨hx, hb, hr, hlk, hml, hown, hts, hK⟩ := id C0
  refine lv_aload_n hx hb dX5_moves_0 rfl (lv_at hl 0 rfl) ?_
  refine g5_0 hx hb hts hown hK hW hO.1 (hts _ q1_210) dX5_moves_1 ?_
  refine g0_9 hx hb hts hown hK hW hO.2.1.1 (hts _ q1_102) dX5_moves_4 ?_
  refine g1_2 hx hb hts hown hK hW hO.2.1.2.2.2.2.2.1.1 (hts _ q1_41) dX5_moves_7 ?_
  subst hres
  exact kr_i hx hb hr hlk hK hW hS dX5_moves_10
def fX5_moves (a : Nat) (h : HH) : Int32 := fX5_moves_c0 a h
set_option maxRecDepth 100000 in
set_option maxHeartbeats 4000000 in
theorem kX5_moves (l : Launch) (X : Cx) (h : HH) (a : Nat) (hO : IsBd X a) : Met l yX5_moves vX5_moves rmX5_moves (va_Pc [.ref a] (fun U => WS X h U)) (QI X (fX5_moves a h) h) 0 0 (xA X) := by
  refine Met.ofW (cc := cX5_moves) (maxL := 1) (ret := some .int) (by decide) rfl ?_
  intro p e s m args below meth c s₁ B hml hv
  obtain ⟨rfl, hW, hK⟩ := hv
  have hl := lv_entry ([.ref a]) (n := 1) (Nat.le_of_ble_eq_true rfl)
  rw [lg_entry_eq]
  generalize (lg_sl ([.ref a]) ++ List.replicate (1 - (lg_sl ([.ref a])).length) Slot.unset).toArray = ls at hl ⊢
  have hl : lv_has ls 1 [(0, .ref a)] := hl
  exact xX5_moves_c0 hO ⟨B.exec, B.bytes, B.returns, B.notSynchronized, hml, findClass_of_methodNamed B.named, fun w hw => atoms_spec (ws := vX5_moves) B.pre w (List.mem_cons_of_mem _ hw), hK⟩ h _ _ ls _ (lv_sub hl [0] rfl) hW va_S.rf rfl
-- VillageBoard.move(II)I
abbrev rmX5_move : Room := ({ frames := 7, cells := 3, slots := 18, locals := 110 } : Room)
abbrev vX5_move : List Cond := Cond.code yX5_move cX5_move 3 (some .int) :: lwG
theorem wX5_move {R : Room} {s : State} {args : Array Value} {own : String} {idx : Nat} (hg : ∀ w ∈ lwG, w.before args s = true) (hl : Cond.methodLink own idx yX5_move ∈ lwG) (hR : rmX5_move.frames + 1 ≤ R.frames ∧ 8 + (3 + 11) + rmX5_move.locals ≤ R.locals) : CallW R s args own RX5 idx yX5_move cX5_move 3 (some .int) vX5_move rmX5_move 3 18 2 := cwV 2 hg (gV hl q4_3 q4_4 q1_1 q4_5) rfl rfl rfl (by decide +kernel) hR
def fX5_move_c40 (a : Nat) (x1 : Int32) (x2 : Int32) (xs0 : Int32) (h : HH) : Nat × Int32 × HH := if fX5_requireArgument xs0 = 0 then ((0, fX1_part (a + 1 + 5) x1 x2 h, h)) else (fX5_requireArgument xs0, 0, h)
def sX5_move_c40 (a : Nat) (x1 : Int32) (x2 : Int32) (xs0 : Int32) (h : HH) : Prop := (fX5_requireArgument xs0 = 0 → (sX1_part (a + 1 + 5) x1 x2 h))
set_option maxRecDepth 100000 in
set_option maxHeartbeats 4000000 in
theorem xX5_move_c40 {p : Program} {l : Launch} {e : Env} {s : State} {m : MethodId} {args : Array Value} {below : List Frame} {meth : Method} {c : Code} {X : Cx} {a : Nat} (hO : IsBd X a) (hst : l.stackTraces = false) (hout : ∀ x ∈ c.exceptionTable.toList, False) (C0 : CT p s m args meth c X cX5_move 3 (some .int) RX5) (x1 : Int32) (x2 : Int32) (xs0 : Int32) (h : HH) (H : Heap) (locs : List Loc) (ls : Array Slot) (res : Nat × Int32 × HH) (hl : lv_has ls 3 [(0, .ref a), (1, .int x1), (2, .int x2)]) (hW : WH X h H) (hS : va_S (xA X) s.heap H locs) (hs : sX5_move_c40 a x1 x2 xs0 h) (hres : fX5_move_c40 a x1 x2 xs0 h = res) : W p l e rmX5_move s m args below meth c H locs 1 6 (vx_MQ below (QXi X res) (XXi X res) args s 3 18 (xA X)) (F0 m 40 ls [.int xs0]) := by
  obtain ⟨hx, hb, hr, hlk, hml, hown, hts, hK⟩ := id C0
  refine kxS (As := [.int xs0]) (rest := []) ⟨hx, hb, hml, hown, hts⟩ (kX5_requireArgument l hst X h xs0) (wX5_requireArgument hts q2_212 ⟨Nat.le_of_ble_eq_true rfl, Nat.le_of_ble_eq_true rfl⟩) hK hW hS rfl hl.1 rfl (Nat.le_of_ble_eq_true rfl) dX5_move_40 ⟨Nat.le_of_ble_eq_true rfl, Nat.le_of_ble_eq_true rfl⟩ hlk hout (Nat.le_of_ble_eq_true rfl) (Nat.le_of_ble_eq_true rfl) (xh_i (fun c4 => (if_neg c4).symm.trans hres)) (fun c4 H locs hW hS => ?_)
  have hres := (if_pos c4).symm.trans hres
  have hs := hs c4
  refine lv_aload_n hx hb dX5_move_43 rfl (lv_at hl 0 rfl) ?_
  refine g5_0 hx hb hts hown hK hW hO.1 (hts _ q1_210) dX5_move_44 ?_
  refine g0_9 hx hb hts hown hK hW hO.2.1.1 (hts _ q1_102) dX5_move_47 ?_
  refine lv_iload_n hx hb dX5_move_50 rfl (lv_at hl 1 rfl) ?_
  refine lv_iload_n hx hb dX5_move_51 rfl (lv_at hl 2 rfl) ?_
  have hc5 := hs
  refine kV_i (As := [.int x1, .int x2]) (rest := []) ⟨hx, hb, hml, hown, hts⟩ (kX1_part l X h (a + 1 + 5) x1 x2 hO.2.1.2.2.2.2.2.1 hc5) (wX1_part hts q2_196 ⟨Nat.le_of_ble_eq_true rfl, Nat.le_of_ble_eq_true rfl⟩) hK hW hS (va_recv hK.1 (hW.one hO.2.1.2.2.2.2.2.1.1) (ci := 1) (q0 := 0) rfl rfl) rfl hl.1 rfl (Nat.le_of_ble_eq_true rfl) dX5_move_52 ⟨Nat.le_of_ble_eq_true rfl, Nat.le_of_ble_eq_true rfl⟩ (fun H locs hW hS => ?_)
  subst hres
  exact kxr_i hx hb hr hlk hK hW hS dX5_move_55 (Nat.le_of_ble_eq_true rfl) (Nat.le_of_ble_eq_true rfl)
def fX5_move_c39 (a : Nat) (x1 : Int32) (x2 : Int32) (h : HH) : Nat × Int32 × HH := fX5_move_c40 a x1 x2 0 h
def sX5_move_c39 (a : Nat) (x1 : Int32) (x2 : Int32) (h : HH) : Prop := sX5_move_c40 a x1 x2 0 h
set_option maxRecDepth 100000 in
set_option maxHeartbeats 4000000 in
theorem xX5_move_c39 {p : Program} {l : Launch} {e : Env} {s : State} {m : MethodId} {args : Array Value} {below : List Frame} {meth : Method} {c : Code} {X : Cx} {a : Nat} (hO : IsBd X a) (hst : l.stackTraces = false) (hout : ∀ x ∈ c.exceptionTable.toList, False) (C0 : CT p s m args meth c X cX5_move 3 (some .int) RX5) (x1 : Int32) (x2 : Int32) (h : HH) (H : Heap) (locs : List Loc) (ls : Array Slot) (res : Nat × Int32 × HH) (hl : lv_has ls 3 [(0, .ref a), (1, .int x1), (2, .int x2)]) (hW : WH X h H) (hS : va_S (xA X) s.heap H locs) (hs : sX5_move_c39 a x1 x2 h) (hres : fX5_move_c39 a x1 x2 h = res) : W p l e rmX5_move s m args below meth c H locs 1 6 (vx_MQ below (QXi X res) (XXi X res) args s 3 18 (xA X)) (F0 m 39 ls []) := by
  obtain ⟨hx, hb, hr, hlk, hml, hown, hts, hK⟩ := id C0
  refine lv_iconst (v := 0) hx hb dX5_move_39 (by decide) ?_
  exact xX5_move_c40 hO hst hout C0 x1 x2 0 h _ _ _ _ (lv_sub hl [0, 1, 2] rfl) hW hS hs hres
def fX5_move_c23 (a : Nat) (x1 : Int32) (x2 : Int32) (xs0 : Int32) (h : HH) : Nat × Int32 × HH := if fX5_requireIndex xs0 = 0 then (if x2 < 0 then (fX5_move_c39 a x1 x2 h) else (if 4 ≤ x2 then (fX5_move_c39 a x1 x2 h) else (fX5_move_c40 a x1 x2 1 h))) else (fX5_requireIndex xs0, 0, h)
def sX5_move_c23 (a : Nat) (x1 : Int32) (x2 : Int32) (xs0 : Int32) (h : HH) : Prop := (fX5_requireIndex xs0 = 0 → ((x2 < 0 → (sX5_move_c39 a x1 x2 h)) ∧ (¬ (x2 < 0) → ((4 ≤ x2 → (sX5_move_c39 a x1 x2 h)) ∧ (¬ (4 ≤ x2) → (sX5_move_c40 a x1 x2 1 h))))))
set_option maxRecDepth 100000 in
set_option maxHeartbeats 4000000 in
theorem xX5_move_c23 {p : Program} {l : Launch} {e : Env} {s : State} {m : MethodId} {args : Array Value} {below : List Frame} {meth : Method} {c : Code} {X : Cx} {a : Nat} (hO : IsBd X a) (hst : l.stackTraces = false) (hout : ∀ x ∈ c.exceptionTable.toList, False) (C0 : CT p s m args meth c X cX5_move 3 (some .int) RX5) (x1 : Int32) (x2 : Int32) (xs0 : Int32) (h : HH) (H : Heap) (locs : List Loc) (ls : Array Slot) (res : Nat × Int32 × HH) (hl : lv_has ls 3 [(0, .ref a), (1, .int x1), (2, .int x2)]) (hW : WH X h H) (hS : va_S (xA X) s.heap H locs) (hs : sX5_move_c23 a x1 x2 xs0 h) (hres : fX5_move_c23 a x1 x2 xs0 h = res) : W p l e rmX5_move s m args below meth c H locs 0 0 (vx_MQ below (QXi X res) (XXi X res) args s 3 18 (xA X)) (F0 m 23 ls [.int xs0]) := by
  obtain ⟨hx, hb, hr, hlk, hml, hown, hts, hK⟩ := id C0
  refine kxS (As := [.int xs0]) (rest := []) ⟨hx, hb, hml, hown, hts⟩ (kX5_requireIndex l hst X h xs0) (wX5_requireIndex hts q3_57 ⟨Nat.le_of_ble_eq_true rfl, Nat.le_of_ble_eq_true rfl⟩) hK hW hS rfl hl.1 rfl (Nat.le_of_ble_eq_true rfl) dX5_move_23 ⟨Nat.le_of_ble_eq_true rfl, Nat.le_of_ble_eq_true rfl⟩ hlk hout (Nat.le_of_ble_eq_true rfl) (Nat.le_of_ble_eq_true rfl) (xh_i (fun c2 => (if_neg c2).symm.trans hres)) (fun c2 H locs hW hS => ?_)
  have hres := (if_pos c2).symm.trans hres
  have hs := hs c2
  refine lv_iload_n hx hb dX5_move_26 rfl (lv_at hl 2 rfl) ?_
  refine lv_if_lt (tgt := 39) hx hb dX5_move_27 (by decide) (fun c3 => ?_) (fun c3 => ?_)
  · have hres := (if_pos c3).symm.trans hres
    have hs := And.left hs c3
    exact xX5_move_c39 hO hst hout C0 x1 x2 h _ _ _ _ (lv_sub hl [0, 1, 2] rfl) hW hS hs hres
  · have hres := (if_neg c3).symm.trans hres
    have hs := And.right hs c3
    refine lv_iload_n hx hb dX5_move_30 rfl (lv_at hl 2 rfl) ?_
    refine lv_iconst (v := 4) hx hb dX5_move_31 (by decide) ?_
    refine lv_icmp_ge (tgt := 39) hx hb dX5_move_32 (by decide) (fun c6 => ?_) (fun c6 => ?_)
    · have hres := (if_pos c6).symm.trans hres
      have hs := And.left hs c6
      exact xX5_move_c39 hO hst hout C0 x1 x2 h _ _ _ _ (lv_sub hl [0, 1, 2] rfl) hW hS hs hres
    · have hres := (if_neg c6).symm.trans hres
      have hs := And.right hs c6
      refine lv_iconst (v := 1) hx hb dX5_move_35 (by decide) ?_
      refine lv_goto (tgt := 40) hx hb dX5_move_36 (by decide) ?_
      exact xX5_move_c40 hO hst hout C0 x1 x2 1 h _ _ _ _ (lv_sub hl [0, 1, 2] rfl) hW hS hs hres
def fX5_move_c22 (a : Nat) (x1 : Int32) (x2 : Int32) (h : HH) : Nat × Int32 × HH := fX5_move_c23 a x1 x2 0 h
def sX5_move_c22 (a : Nat) (x1 : Int32) (x2 : Int32) (h : HH) : Prop := sX5_move_c23 a x1 x2 0 h
set_option maxRecDepth 100000 in
set_option maxHeartbeats 4000000 in
theorem xX5_move_c22 {p : Program} {l : Launch} {e : Env} {s : State} {m : MethodId} {args : Array Value} {below : List Frame} {meth : Method} {c : Code} {X : Cx} {a : Nat} (hO : IsBd X a) (hst : l.stackTraces = false) (hout : ∀ x ∈ c.exceptionTable.toList, False) (C0 : CT p s m args meth c X cX5_move 3 (some .int) RX5) (x1 : Int32) (x2 : Int32) (h : HH) (H : Heap) (locs : List Loc) (ls : Array Slot) (res : Nat × Int32 × HH) (hl : lv_has ls 3 [(0, .ref a), (1, .int x1), (2, .int x2)]) (hW : WH X h H) (hS : va_S (xA X) s.heap H locs) (hs : sX5_move_c22 a x1 x2 h) (hres : fX5_move_c22 a x1 x2 h = res) : W p l e rmX5_move s m args below meth c H locs 0 0 (vx_MQ below (QXi X res) (XXi X res) args s 3 18 (xA X)) (F0 m 22 ls []) := by
  obtain ⟨hx, hb, hr, hlk, hml, hown, hts, hK⟩ := id C0
  refine lv_iconst (v := 0) hx hb dX5_move_22 (by decide) ?_
  exact xX5_move_c23 hO hst hout C0 x1 x2 0 h _ _ _ _ (lv_sub hl [0, 1, 2] rfl) hW hS hs hres
def fX5_move_c0 (a : Nat) (x1 : Int32) (x2 : Int32) (h : HH) : Nat × Int32 × HH := if x1 < 0 then (fX5_move_c22 a x1 x2 h) else (if (h (a + 1 + 5) 2) ≤ x1 then (fX5_move_c22 a x1 x2 h) else (fX5_move_c23 a x1 x2 1 h))
def sX5_move_c0 (a : Nat) (x1 : Int32) (x2 : Int32) (h : HH) : Prop := (x1 < 0 → (sX5_move_c22 a x1 x2 h)) ∧ (¬ (x1 < 0) → (((h (a + 1 + 5) 2) ≤ x1 → (sX5_move_c22 a x1 x2 h)) ∧ (¬ ((h (a + 1 + 5) 2) ≤ x1) → (sX5_move_c23 a x1 x2 1 h))))
set_option maxRecDepth 100000 in
set_option maxHeartbeats 4000000 in
theorem xX5_move_c0 {p : Program} {l : Launch} {e : Env} {s : State} {m : MethodId} {args : Array Value} {below : List Frame} {meth : Method} {c : Code} {X : Cx} {a : Nat} (hO : IsBd X a) (hst : l.stackTraces = false) (hout : ∀ x ∈ c.exceptionTable.toList, False) (C0 : CT p s m args meth c X cX5_move 3 (some .int) RX5) (x1 : Int32) (x2 : Int32) (h : HH) (H : Heap) (locs : List Loc) (ls : Array Slot) (res : Nat × Int32 × HH) (hl : lv_has ls 3 [(0, .ref a), (1, .int x1), (2, .int x2)]) (hW : WH X h H) (hS : va_S (xA X) s.heap H locs) (hs : sX5_move_c0 a x1 x2 h) (hres : fX5_move_c0 a x1 x2 h = res) : W p l e rmX5_move s m args below meth c H locs 0 0 (vx_MQ below (QXi X res) (XXi X res) args s 3 18 (xA X)) (F0 m 0 ls []) := by
  obtain ⟨hx, hb, hr, hlk, hml, hown, hts, hK⟩ := id C0
  refine lv_iload_n hx hb dX5_move_0 rfl (lv_at hl 1 rfl) ?_
  refine lv_if_lt (tgt := 22) hx hb dX5_move_1 (by decide) (fun c1 => ?_) (fun c1 => ?_)
  · have hres := (if_pos c1).symm.trans hres
    have hs := And.left hs c1
    exact xX5_move_c22 hO hst hout C0 x1 x2 h _ _ _ _ (lv_sub hl [0, 1, 2] rfl) hW hS hs hres
  · have hres := (if_neg c1).symm.trans hres
    have hs := And.right hs c1
    refine lv_iload_n hx hb dX5_move_4 rfl (lv_at hl 1 rfl) ?_
    refine lv_aload_n hx hb dX5_move_5 rfl (lv_at hl 0 rfl) ?_
    refine g5_0 hx hb hts hown hK hW hO.1 (hts _ q1_210) dX5_move_6 ?_
    refine g0_9 hx hb hts hown hK hW hO.2.1.1 (hts _ q1_102) dX5_move_9 ?_
    refine g1_2 hx hb hts hown hK hW hO.2.1.2.2.2.2.2.1.1 (hts _ q1_41) dX5_move_12 ?_
    refine lv_icmp_ge (tgt := 22) hx hb dX5_move_15 (by decide) (fun c7 => ?_) (fun c7 => ?_)
    · have hres := (if_pos c7).symm.trans hres
      have hs := And.left hs c7
      exact xX5_move_c22 hO hst hout C0 x1 x2 h _ _ _ _ (lv_sub hl [0, 1, 2] rfl) hW hS hs hres
    · have hres := (if_neg c7).symm.trans hres
      have hs := And.right hs c7
      refine lv_iconst (v := 1) hx hb dX5_move_18 (by decide) ?_
      refine lv_goto (tgt := 23) hx hb dX5_move_19 (by decide) ?_
      exact xX5_move_c23 hO hst hout C0 x1 x2 1 h _ _ _ _ (lv_sub hl [0, 1, 2] rfl) hW hS hs hres
def fX5_move (a : Nat) (x1 : Int32) (x2 : Int32) (h : HH) : Nat × Int32 × HH := fX5_move_c0 a x1 x2 h
def sX5_move (a : Nat) (x1 : Int32) (x2 : Int32) (h : HH) : Prop := sX5_move_c0 a x1 x2 h
set_option maxRecDepth 100000 in
set_option maxHeartbeats 4000000 in
theorem kX5_move (l : Launch) (hst : l.stackTraces = false) (X : Cx) (h : HH) (a : Nat) (x1 : Int32) (x2 : Int32) (hO : IsBd X a) (hs : sX5_move a x1 x2 h) : vx_Met l yX5_move vX5_move rmX5_move (va_Pc [.ref a, .int x1, .int x2] (fun U => WS X h U)) (QXi X (fX5_move a x1 x2 h)) (XXi X (fX5_move a x1 x2 h)) 3 18 (xA X) := by
  refine vx_ofW (cc := cX5_move) (maxL := 3) (ret := some .int) (by decide) rfl ?_
  intro p e s m args below meth c s₁ B hml hout hv
  obtain ⟨rfl, hW, hK⟩ := hv
  have hl := lv_entry ([.ref a, .int x1, .int x2]) (n := 3) (Nat.le_of_ble_eq_true rfl)
  rw [lg_entry_eq]
  generalize (lg_sl ([.ref a, .int x1, .int x2]) ++ List.replicate (3 - (lg_sl ([.ref a, .int x1, .int x2])).length) Slot.unset).toArray = ls at hl ⊢
  have hl : lv_has ls 3 [(0, .ref a), (1, .int x1), (2, .int x2)] := hl
  exact xX5_move_c0 hO hst hout ⟨B.exec, B.bytes, B.returns, B.notSynchronized, hml, findClass_of_methodNamed B.named, fun w hw => atoms_spec (ws := vX5_move) B.pre w (List.mem_cons_of_mem _ hw), hK⟩ x1 x2 h _ _ ls _ (lv_sub hl [0, 1, 2] rfl) hW va_S.rf hs rfl
-- VillageBoard.undo()I
abbrev rmX5_undo : Room := ({ frames := 7, cells := 3, slots := 18, locals := 124 } : Room)
abbrev vX5_undo : List Cond := Cond.code yX5_undo cX5_undo 1 (some .int) :: lwG
theorem wX5_undo {R : Room} {s : State} {args : Array Value} {own : String} {idx : Nat} (hg : ∀ w ∈ lwG, w.before args s = true) (hl : Cond.methodLink own idx yX5_undo ∈ lwG) (hR : rmX5_undo.frames + 1 ≤ R.frames ∧ 8 + (1 + 11) + rmX5_undo.locals ≤ R.locals) : CallW R s args own RX5 idx yX5_undo cX5_undo 1 (some .int) vX5_undo rmX5_undo 3 18 0 := cwV 0 hg (gV hl q4_10 q4_11 q1_1 q4_12) rfl rfl rfl (by decide +kernel) hR
def fX5_undo_c33 (a : Nat) (h : HH) : Nat × Int32 × HH := (0, h (a + 16) 2, h)
set_option maxRecDepth 100000 in
set_option maxHeartbeats 4000000 in
theorem xX5_undo_c33 {p : Program} {l : Launch} {e : Env} {s : State} {m : MethodId} {args : Array Value} {below : List Frame} {meth : Method} {c : Code} {X : Cx} {a : Nat} (hO : IsBd X a) (hst : l.stackTraces = false) (hout : ∀ x ∈ c.exceptionTable.toList, False) (C0 : CT p s m args meth c X cX5_undo 1 (some .int) RX5) (h : HH) (H : Heap) (locs : List Loc) (ls : Array Slot) (res : Nat × Int32 × HH) (hl : lv_has ls 1 []) (hW : WH X h H) (hS : va_S (xA X) s.heap H locs) (hres : fX5_undo_c33 a h = res) : W p l e rmX5_undo s m args below meth c H locs 1 6 (vx_MQ below (QXi X res) (XXi X res) args s 3 18 (xA X)) (F0 m 33 ls [.ref (a + 16)]) := by
  obtain ⟨hx, hb, hr, hlk, hml, hown, hts, hK⟩ := id C0
  refine g4_2 hx hb hts hown hK hW hO.2.2.1.1 (hts _ q1_136) dX5_undo_33 ?_
  subst hres
  exact kxr_i hx hb hr hlk hK hW hS dX5_undo_36 (Nat.le_of_ble_eq_true rfl) (Nat.le_of_ble_eq_true rfl)
def fX5_undo_c15 (a : Nat) (xs0 : Int32) (h : HH) : Nat × Int32 × HH := if fX5_requireState xs0 = 0 then (fX5_undo_c33 a (fX4_pop (a + 16) (a + 1) h)) else (fX5_requireState xs0, 0, h)
def sX5_undo_c15 (a : Nat) (xs0 : Int32) (h : HH) : Prop := (fX5_requireState xs0 = 0 → (sX4_pop (a + 16) (a + 1) h))
set_option maxRecDepth 100000 in
set_option maxHeartbeats 4000000 in
theorem xX5_undo_c15 {p : Program} {l : Launch} {e : Env} {s : State} {m : MethodId} {args : Array Value} {below : List Frame} {meth : Method} {c : Code} {X : Cx} {a : Nat} (hO : IsBd X a) (hst : l.stackTraces = false) (hout : ∀ x ∈ c.exceptionTable.toList, False) (C0 : CT p s m args meth c X cX5_undo 1 (some .int) RX5) (xs0 : Int32) (h : HH) (H : Heap) (locs : List Loc) (ls : Array Slot) (res : Nat × Int32 × HH) (hl : lv_has ls 1 [(0, .ref a)]) (hW : WH X h H) (hS : va_S (xA X) s.heap H locs) (hs : sX5_undo_c15 a xs0 h) (hres : fX5_undo_c15 a xs0 h = res) : W p l e rmX5_undo s m args below meth c H locs 0 0 (vx_MQ below (QXi X res) (XXi X res) args s 3 18 (xA X)) (F0 m 15 ls [.int xs0]) := by
  obtain ⟨hx, hb, hr, hlk, hml, hown, hts, hK⟩ := id C0
  refine kxS (As := [.int xs0]) (rest := []) ⟨hx, hb, hml, hown, hts⟩ (kX5_requireState l hst X h xs0) (wX5_requireState hts q3_88 ⟨Nat.le_of_ble_eq_true rfl, Nat.le_of_ble_eq_true rfl⟩) hK hW hS rfl hl.1 rfl (Nat.le_of_ble_eq_true rfl) dX5_undo_15 ⟨Nat.le_of_ble_eq_true rfl, Nat.le_of_ble_eq_true rfl⟩ hlk hout (Nat.le_of_ble_eq_true rfl) (Nat.le_of_ble_eq_true rfl) (xh_i (fun c2 => (if_neg c2).symm.trans hres)) (fun c2 H locs hW hS => ?_)
  have hres := (if_pos c2).symm.trans hres
  have hs := hs c2
  refine lv_aload_n hx hb dX5_undo_18 rfl (lv_at hl 0 rfl) ?_
  refine g5_1 hx hb hts hown hK hW hO.1 (hts _ q1_211) dX5_undo_19 ?_
  refine lv_aload_n hx hb dX5_undo_22 rfl (lv_at hl 0 rfl) ?_
  refine g5_0 hx hb hts hown hK hW hO.1 (hts _ q1_210) dX5_undo_23 ?_
  have hc3 := hs
  refine kV_v (As := [.ref (a + 1)]) (rest := []) ⟨hx, hb, hml, hown, hts⟩ (kX4_pop l X h (a + 16) (a + 1) hO.2.2.1 hO.2.1 hc3) (wX4_pop hts q4_13 ⟨Nat.le_of_ble_eq_true rfl, Nat.le_of_ble_eq_true rfl⟩) hK hW hS (va_recv hK.1 (hW.one hO.2.2.1.1) (ci := 4) (q0 := 0) rfl rfl) rfl hl.1 rfl (Nat.le_of_ble_eq_true rfl) dX5_undo_26 ⟨Nat.le_of_ble_eq_true rfl, Nat.le_of_ble_eq_true rfl⟩ (fun H locs hW hS => ?_)
  refine lv_aload_n hx hb dX5_undo_29 rfl (lv_at hl 0 rfl) ?_
  refine g5_1 hx hb hts hown hK hW hO.1 (hts _ q1_211) dX5_undo_30 ?_
  exact xX5_undo_c33 hO hst hout C0 (fX4_pop (a + 16) (a + 1) h) _ _ _ _ (lv_sub hl [] rfl) hW hS hres
def fX5_undo_c0 (a : Nat) (h : HH) : Nat × Int32 × HH := if (h (a + 16) 2) ≤ 0 then (fX5_undo_c15 a 0 h) else (fX5_undo_c15 a 1 h)
def sX5_undo_c0 (a : Nat) (h : HH) : Prop := ((h (a + 16) 2) ≤ 0 → (sX5_undo_c15 a 0 h)) ∧ (¬ ((h (a + 16) 2) ≤ 0) → (sX5_undo_c15 a 1 h))
set_option maxRecDepth 100000 in
set_option maxHeartbeats 4000000 in
theorem xX5_undo_c0 {p : Program} {l : Launch} {e : Env} {s : State} {m : MethodId} {args : Array Value} {below : List Frame} {meth : Method} {c : Code} {X : Cx} {a : Nat} (hO : IsBd X a) (hst : l.stackTraces = false) (hout : ∀ x ∈ c.exceptionTable.toList, False) (C0 : CT p s m args meth c X cX5_undo 1 (some .int) RX5) (h : HH) (H : Heap) (locs : List Loc) (ls : Array Slot) (res : Nat × Int32 × HH) (hl : lv_has ls 1 [(0, .ref a)]) (hW : WH X h H) (hS : va_S (xA X) s.heap H locs) (hs : sX5_undo_c0 a h) (hres : fX5_undo_c0 a h = res) : W p l e rmX5_undo s m args below meth c H locs 0 0 (vx_MQ below (QXi X res) (XXi X res) args s 3 18 (xA X)) (F0 m 0 ls []) := by
  obtain ⟨hx, hb, hr, hlk, hml, hown, hts, hK⟩ := id C0
  refine lv_aload_n hx hb dX5_undo_0 rfl (lv_at hl 0 rfl) ?_
  refine g5_1 hx hb hts hown hK hW hO.1 (hts _ q1_211) dX5_undo_1 ?_
  refine g4_2 hx hb hts hown hK hW hO.2.2.1.1 (hts _ q1_136) dX5_undo_4 ?_
  refine lv_if_le (tgt := 14) hx hb dX5_undo_7 (by decide) (fun c1 => ?_) (fun c1 => ?_)
  · have hres := (if_pos c1).symm.trans hres
    have hs := And.left hs c1
    refine lv_iconst (v := 0) hx hb dX5_undo_14 (by decide) ?_
    exact xX5_undo_c15 hO hst hout C0 0 h _ _ _ _ (lv_sub hl [0] rfl) hW hS hs hres
  · have hres := (if_neg c1).symm.trans hres
    have hs := And.right hs c1
    refine lv_iconst (v := 1) hx hb dX5_undo_10 (by decide) ?_
    refine lv_goto (tgt := 15) hx hb dX5_undo_11 (by decide) ?_
    exact xX5_undo_c15 hO hst hout C0 1 h _ _ _ _ (lv_sub hl [0] rfl) hW hS hs hres
def fX5_undo (a : Nat) (h : HH) : Nat × Int32 × HH := fX5_undo_c0 a h
def sX5_undo (a : Nat) (h : HH) : Prop := sX5_undo_c0 a h
set_option maxRecDepth 100000 in
set_option maxHeartbeats 4000000 in
theorem kX5_undo (l : Launch) (hst : l.stackTraces = false) (X : Cx) (h : HH) (a : Nat) (hO : IsBd X a) (hs : sX5_undo a h) : vx_Met l yX5_undo vX5_undo rmX5_undo (va_Pc [.ref a] (fun U => WS X h U)) (QXi X (fX5_undo a h)) (XXi X (fX5_undo a h)) 3 18 (xA X) := by
  refine vx_ofW (cc := cX5_undo) (maxL := 1) (ret := some .int) (by decide) rfl ?_
  intro p e s m args below meth c s₁ B hml hout hv
  obtain ⟨rfl, hW, hK⟩ := hv
  have hl := lv_entry ([.ref a]) (n := 1) (Nat.le_of_ble_eq_true rfl)
  rw [lg_entry_eq]
  generalize (lg_sl ([.ref a]) ++ List.replicate (1 - (lg_sl ([.ref a])).length) Slot.unset).toArray = ls at hl ⊢
  have hl : lv_has ls 1 [(0, .ref a)] := hl
  exact xX5_undo_c0 hO hst hout ⟨B.exec, B.bytes, B.returns, B.notSynchronized, hml, findClass_of_methodNamed B.named, fun w hw => atoms_spec (ws := vX5_undo) B.pre w (List.mem_cons_of_mem _ hw), hK⟩ h _ _ ls _ (lv_sub hl [0] rfl) hW va_S.rf hs rfl
-- VillageBoard.mix(JJ)J
abbrev rmX5_mix : Room := ({ frames := 0, cells := 0, slots := 0, locals := 0 } : Room)
abbrev vX5_mix : List Cond := Cond.code yX5_mix cX5_mix 4 (some .long) :: lwG
theorem wX5_mix {R : Room} {s : State} {args : Array Value} {idx : Nat} (hg : ∀ w ∈ lwG, w.before args s = true) (hl : Cond.methodLink RX5 idx yX5_mix ∈ lwG) (hR : rmX5_mix.frames + 1 ≤ R.frames ∧ 8 + (4 + 11) + rmX5_mix.locals ≤ R.locals) : CallB R s args RX5 idx yX5_mix cX5_mix 4 (some .long) vX5_mix rmX5_mix 0 0 2 ∧ (Cond.static yX5_mix).before args s = true := cwS 2 hg (gS hl q2_62 q1_1 q2_63) rfl rfl rfl (by decide +kernel) hR
def fX5_mix_c0 (y0 : Int64) (y2 : Int64) : Int64 := (31 * y0) + y2
set_option maxRecDepth 100000 in
set_option maxHeartbeats 4000000 in
theorem xX5_mix_c0 {p : Program} {l : Launch} {e : Env} {s : State} {m : MethodId} {args : Array Value} {below : List Frame} {meth : Method} {c : Code} {X : Cx} (C0 : CT p s m args meth c X cX5_mix 4 (some .long) RX5) (y0 : Int64) (y2 : Int64) (h : HH) (H : Heap) (locs : List Loc) (ls : Array Slot) (res : Int64) (hl : lv_has ls 4 [(0, .long y0), (2, .long y2)]) (hW : WH X h H) (hS : va_S (xA X) s.heap H locs) (hres : fX5_mix_c0 y0 y2 = res) : W p l e rmX5_mix s m args below meth c H locs 0 0 (MQ below (QJ X res h) args s 0 0 (xA X)) (F0 m 0 ls []) := by
  obtain ⟨hx, hb, hr, hlk, hml, hown, hts, hK⟩ := id C0
  refine lv_ldc2 hx hb hown (hts _ q2_64) dX5_mix_0 ?_
  refine lv_lload_n hx hb dX5_mix_3 rfl (lv_at hl 0 rfl) ?_
  refine lv_lmul hx hb dX5_mix_4 ?_
  refine lv_lload_n hx hb dX5_mix_5 rfl (lv_at hl 1 rfl) ?_
  refine lv_ladd hx hb dX5_mix_6 ?_
  subst hres
  exact kr_l hx hb hr hlk hK hW hS dX5_mix_7
def fX5_mix (y0 : Int64) (y2 : Int64) : Int64 := fX5_mix_c0 y0 y2
set_option maxRecDepth 100000 in
set_option maxHeartbeats 4000000 in
theorem kX5_mix (l : Launch) (X : Cx) (h : HH) (y0 : Int64) (y2 : Int64) : Met l yX5_mix vX5_mix rmX5_mix (va_Pc [.long y0, .long y2] (fun U => WS X h U)) (QJ X (fX5_mix y0 y2) h) 0 0 (xA X) := by
  refine Met.ofW (cc := cX5_mix) (maxL := 4) (ret := some .long) (by decide) rfl ?_
  intro p e s m args below meth c s₁ B hml hv
  obtain ⟨rfl, hW, hK⟩ := hv
  have hl := lv_entry ([.long y0, .long y2]) (n := 4) (Nat.le_of_ble_eq_true rfl)
  rw [lg_entry_eq]
  generalize (lg_sl ([.long y0, .long y2]) ++ List.replicate (4 - (lg_sl ([.long y0, .long y2])).length) Slot.unset).toArray = ls at hl ⊢
  have hl : lv_has ls 4 [(0, .long y0), (2, .long y2)] := hl
  exact xX5_mix_c0 ⟨B.exec, B.bytes, B.returns, B.notSynchronized, hml, findClass_of_methodNamed B.named, fun w hw => atoms_spec (ws := vX5_mix) B.pre w (List.mem_cons_of_mem _ hw), hK⟩ y0 y2 h _ _ ls _ (lv_sub hl [0, 1] rfl) hW va_S.rf rfl
-- VillageBoard.mixPlayer(JI)J
abbrev rmX5_mixPlayer : Room := ({ frames := 5, cells := 0, slots := 0, locals := 111 } : Room)
abbrev vX5_mixPlayer : List Cond := Cond.code yX5_mixPlayer cX5_mixPlayer 8 (some .long) :: lwG
theorem wX5_mixPlayer {R : Room} {s : State} {args : Array Value} {own : String} {idx : Nat} (hg : ∀ w ∈ lwG, w.before args s = true) (hl : Cond.methodLink own idx yX5_mixPlayer ∈ lwG) (hR : rmX5_mixPlayer.frames + 1 ≤ R.frames ∧ 8 + (8 + 11) + rmX5_mixPlayer.locals ≤ R.locals) : CallW R s args own RX5 idx yX5_mixPlayer cX5_mixPlayer 8 (some .long) vX5_mixPlayer rmX5_mixPlayer 0 0 2 := cwV 2 hg (gV hl q2_67 q0_3 q1_1 q2_68) rfl rfl rfl (by decide +kernel) hR
def fX5_mixPlayer_c105 (a : Nat) : Nat → Int32 → Nat → Int64 → Int32 → HH → Int64
  | 0, x3, r4, y5, x7, h => 0
  | n + 1, x3, r4, y5, x7, h => if 6 ≤ x7 then (fX5_mix (fX5_mix y5 ((fX2_wholeScore r4 h).toInt64)) ((fX0_rankOf (a + 1) x3 h).toInt64)) else ((fX5_mixPlayer_c105 a n) x3 r4 (fX5_mix y5 ((fX2_scorePart r4 x7 h).toInt64)) (x7 + 1) h)
def sX5_mixPlayer_c105 (a : Nat) : Nat → Int32 → Nat → Int64 → Int32 → HH → Prop
  | 0, _, _, _, _, _ => False
  | n + 1, x3, r4, y5, x7, h => (6 ≤ x7 → ((sX2_wholeScore r4 h) ∧ (sX0_rankOf (a + 1) x3 h))) ∧ (¬ (6 ≤ x7) → ((sX2_scorePart r4 x7 h) ∧ ((sX5_mixPlayer_c105 a n) x3 r4 (fX5_mix y5 ((fX2_scorePart r4 x7 h).toInt64)) (x7 + 1) h)))
set_option maxRecDepth 100000 in
set_option maxHeartbeats 4000000 in
theorem xX5_mixPlayer_c105 {p : Program} {l : Launch} {e : Env} {s : State} {m : MethodId} {args : Array Value} {below : List Frame} {meth : Method} {c : Code} {X : Cx} {a : Nat} (hO : IsBd X a) (C0 : CT p s m args meth c X cX5_mixPlayer 8 (some .long) RX5) : ∀ (n : Nat) (x3 : Int32) (r4 : Nat) (y5 : Int64) (x7 : Int32) (hr4 : IsPl X r4) (h : HH) (H : Heap) (locs : List Loc) (ls : Array Slot) (res : Int64) (hl : lv_has ls 8 [(0, .ref a), (3, .int x3), (4, .ref r4), (5, .long y5), (7, .int x7)]) (hW : WH X h H) (hS : va_S (xA X) s.heap H locs) (hs : sX5_mixPlayer_c105 a n x3 r4 y5 x7 h) (hres : fX5_mixPlayer_c105 a n x3 r4 y5 x7 h = res), W p l e rmX5_mixPlayer s m args below meth c H locs 0 0 (MQ below (QJ X res h) args s 0 0 (xA X)) (F0 m 105 ls []) := by
  obtain ⟨hx, hb, hr, hlk, hml, hown, hts, hK⟩ := id C0
  intro n
  induction n with
  | zero =>
    intro _ _ _ _ _ _ _ _ _ _ _ _ _ hs _
    exact hs.elim
  | succ n ih =>
    intro x3 r4 y5 x7 hr4 h H locs ls res hl hW hS hs hres
    refine lv_iload hx hb dX5_mixPlayer_105 (lv_at hl 4 rfl) ?_
    refine lv_bipush (v := 6) hx hb dX5_mixPlayer_107 (by decide) ?_
    refine lv_icmp_ge (tgt := 133) hx hb dX5_mixPlayer_109 (by decide) (fun c4 => ?_) (fun c4 => ?_)
    · have hres := (if_pos c4).symm.trans hres
      have hs := And.left hs c4
      refine lv_lload hx hb dX5_mixPlayer_133 (lv_at hl 3 rfl) ?_
      refine lv_aload hx hb dX5_mixPlayer_135 (lv_at hl 2 rfl) ?_
      obtain ⟨hc5, hs⟩ := hs
      refine kV_i (As := []) (rest := [.long y5]) ⟨hx, hb, hml, hown, hts⟩ (kX2_wholeScore l X h r4 hr4 hc5) (wX2_wholeScore hts q2_95 ⟨Nat.le_of_ble_eq_true rfl, Nat.le_of_ble_eq_true rfl⟩) hK hW hS (va_recv hK.1 (hW.one hr4.1) (ci := 2) (q0 := 0) rfl rfl) rfl hl.1 rfl (Nat.le_of_ble_eq_true rfl) dX5_mixPlayer_137 ⟨Nat.zero_le _, Nat.zero_le _⟩ (fun H locs hW hS => ?_)
      refine lv_i2l hx hb dX5_mixPlayer_140 rfl ?_
      refine kS_l (As := [.long y5, .long ((fX2_wholeScore r4 h).toInt64)]) (rest := []) ⟨hx, hb, hml, hown, hts⟩ (kX5_mix l X h y5 ((fX2_wholeScore r4 h).toInt64)) (wX5_mix hts q2_61 ⟨Nat.le_of_ble_eq_true rfl, Nat.le_of_ble_eq_true rfl⟩) hK hW hS rfl hl.1 rfl (Nat.le_of_ble_eq_true rfl) dX5_mixPlayer_141 ⟨Nat.zero_le _, Nat.zero_le _⟩ (fun H locs hW hS => ?_)
      refine lv_lstore (lv' := [(5, .long (fX5_mix y5 ((fX2_wholeScore r4 h).toInt64))), (0, .ref a), (3, .int x3), (4, .ref r4), (7, .int x7)]) hx hb dX5_mixPlayer_144 hl (by decide) rfl (fun ls hl => ?_)
      refine lv_lload hx hb dX5_mixPlayer_146 (lv_at hl 0 rfl) ?_
      refine lv_aload_n hx hb dX5_mixPlayer_148 rfl (lv_at hl 1 rfl) ?_
      refine g5_0 hx hb hts hown hK hW hO.1 (hts _ q1_210) dX5_mixPlayer_149 ?_
      refine lv_iload_n hx hb dX5_mixPlayer_152 rfl (lv_at hl 2 rfl) ?_
      have hc6 := hs
      refine kV_i (As := [.int x3]) (rest := [.long (fX5_mix y5 ((fX2_wholeScore r4 h).toInt64))]) ⟨hx, hb, hml, hown, hts⟩ (kX0_rankOf l X h (a + 1) x3 hO.2.1 hc6) (wX0_rankOf hts q2_100 ⟨Nat.le_of_ble_eq_true rfl, Nat.le_of_ble_eq_true rfl⟩) hK hW hS (va_recv hK.1 (hW.one hO.2.1.1) (ci := 0) (q0 := 0) rfl rfl) rfl hl.1 rfl (Nat.le_of_ble_eq_true rfl) dX5_mixPlayer_153 ⟨Nat.zero_le _, Nat.zero_le _⟩ (fun H locs hW hS => ?_)
      refine lv_i2l hx hb dX5_mixPlayer_156 rfl ?_
      refine kS_l (As := [.long (fX5_mix y5 ((fX2_wholeScore r4 h).toInt64)), .long ((fX0_rankOf (a + 1) x3 h).toInt64)]) (rest := []) ⟨hx, hb, hml, hown, hts⟩ (kX5_mix l X h (fX5_mix y5 ((fX2_wholeScore r4 h).toInt64)) ((fX0_rankOf (a + 1) x3 h).toInt64)) (wX5_mix hts q2_61 ⟨Nat.le_of_ble_eq_true rfl, Nat.le_of_ble_eq_true rfl⟩) hK hW hS rfl hl.1 rfl (Nat.le_of_ble_eq_true rfl) dX5_mixPlayer_157 ⟨Nat.zero_le _, Nat.zero_le _⟩ (fun H locs hW hS => ?_)
      subst hres
      exact kr_l hx hb hr hlk hK hW hS dX5_mixPlayer_160
    · have hres := (if_neg c4).symm.trans hres
      have hs := And.right hs c4
      refine lv_lload hx hb dX5_mixPlayer_112 (lv_at hl 3 rfl) ?_
      refine lv_aload hx hb dX5_mixPlayer_114 (lv_at hl 2 rfl) ?_
      refine lv_iload hx hb dX5_mixPlayer_116 (lv_at hl 4 rfl) ?_
      obtain ⟨hc7, hs⟩ := hs
      refine kV_i (As := [.int x7]) (rest := [.long y5]) ⟨hx, hb, hml, hown, hts⟩ (kX2_scorePart l X h r4 x7 hr4 hc7) (wX2_scorePart hts q2_82 ⟨Nat.le_of_ble_eq_true rfl, Nat.le_of_ble_eq_true rfl⟩) hK hW hS (va_recv hK.1 (hW.one hr4.1) (ci := 2) (q0 := 0) rfl rfl) rfl hl.1 rfl (Nat.le_of_ble_eq_true rfl) dX5_mixPlayer_118 ⟨Nat.zero_le _, Nat.zero_le _⟩ (fun H locs hW hS => ?_)
      refine lv_i2l hx hb dX5_mixPlayer_121 rfl ?_
      refine kS_l (As := [.long y5, .long ((fX2_scorePart r4 x7 h).toInt64)]) (rest := []) ⟨hx, hb, hml, hown, hts⟩ (kX5_mix l X h y5 ((fX2_scorePart r4 x7 h).toInt64)) (wX5_mix hts q2_61 ⟨Nat.le_of_ble_eq_true rfl, Nat.le_of_ble_eq_true rfl⟩) hK hW hS rfl hl.1 rfl (Nat.le_of_ble_eq_true rfl) dX5_mixPlayer_122 ⟨Nat.zero_le _, Nat.zero_le _⟩ (fun H locs hW hS => ?_)
      refine lv_lstore (lv' := [(5, .long (fX5_mix y5 ((fX2_scorePart r4 x7 h).toInt64))), (0, .ref a), (3, .int x3), (4, .ref r4), (7, .int x7)]) hx hb dX5_mixPlayer_125 hl (by decide) rfl (fun ls hl => ?_)
      refine lv_iinc (v := x7 + 1) (lv' := [(7, .int (x7 + 1)), (5, .long (fX5_mix y5 ((fX2_scorePart r4 x7 h).toInt64))), (0, .ref a), (3, .int x3), (4, .ref r4)]) hx hb dX5_mixPlayer_127 hl (k := 4) rfl rfl (by decide) rfl (fun ls hl => ?_)
      refine lv_goto (tgt := 105) hx hb dX5_mixPlayer_130 (by decide) ?_
      exact ih x3 r4 (fX5_mix y5 ((fX2_scorePart r4 x7 h).toInt64)) (x7 + 1) hr4 h _ _ _ _ (lv_sub hl [2, 3, 4, 1, 0] rfl) hW hS hs hres
def fX5_mixPlayer_c48 (a : Nat) : Nat → Int32 → Nat → Int64 → Int32 → HH → Int64
  | 0, x3, r4, y5, x7, h => 0
  | n + 1, x3, r4, y5, x7, h => if 6 ≤ x7 then (fX5_mixPlayer_c105 a 7 x3 r4 (fX5_mix (fX5_mix y5 ((fX2_foodNeeded r4 h).toInt64)) ((fX2_foodMissing r4 h).toInt64)) 0 h) else ((fX5_mixPlayer_c48 a n) x3 r4 (fX5_mix y5 ((fX2_part r4 x7 h).toInt64)) (x7 + 1) h)
def sX5_mixPlayer_c48 (a : Nat) : Nat → Int32 → Nat → Int64 → Int32 → HH → Prop
  | 0, _, _, _, _, _ => False
  | n + 1, x3, r4, y5, x7, h => (6 ≤ x7 → (sX5_mixPlayer_c105 a 7 x3 r4 (fX5_mix (fX5_mix y5 ((fX2_foodNeeded r4 h).toInt64)) ((fX2_foodMissing r4 h).toInt64)) 0 h)) ∧ (¬ (6 ≤ x7) → ((sX5_mixPlayer_c48 a n) x3 r4 (fX5_mix y5 ((fX2_part r4 x7 h).toInt64)) (x7 + 1) h))
set_option maxRecDepth 100000 in
set_option maxHeartbeats 4000000 in
theorem xX5_mixPlayer_c48 {p : Program} {l : Launch} {e : Env} {s : State} {m : MethodId} {args : Array Value} {below : List Frame} {meth : Method} {c : Code} {X : Cx} {a : Nat} (hO : IsBd X a) (C0 : CT p s m args meth c X cX5_mixPlayer 8 (some .long) RX5) : ∀ (n : Nat) (x3 : Int32) (r4 : Nat) (y5 : Int64) (x7 : Int32) (hr4 : IsPl X r4) (h : HH) (H : Heap) (locs : List Loc) (ls : Array Slot) (res : Int64) (hl : lv_has ls 8 [(0, .ref a), (3, .int x3), (4, .ref r4), (5, .long y5), (7, .int x7)]) (hW : WH X h H) (hS : va_S (xA X) s.heap H locs) (hs : sX5_mixPlayer_c48 a n x3 r4 y5 x7 h) (hres : fX5_mixPlayer_c48 a n x3 r4 y5 x7 h = res), W p l e rmX5_mixPlayer s m args below meth c H locs 0 0 (MQ below (QJ X res h) args s 0 0 (xA X)) (F0 m 48 ls []) := by
  obtain ⟨hx, hb, hr, hlk, hml, hown, hts, hK⟩ := id C0
  intro n
  induction n with
  | zero =>
    intro _ _ _ _ _ _ _ _ _ _ _ _ _ hs _
    exact hs.elim
  | succ n ih =>
    intro x3 r4 y5 x7 hr4 h H locs ls res hl hW hS hs hres
    refine lv_iload hx hb dX5_mixPlayer_48 (lv_at hl 4 rfl) ?_
    refine lv_bipush (v := 6) hx hb dX5_mixPlayer_50 (by decide) ?_
    refine lv_icmp_ge (tgt := 76) hx hb dX5_mixPlayer_52 (by decide) (fun c3 => ?_) (fun c3 => ?_)
    · have hres := (if_pos c3).symm.trans hres
      have hs := And.left hs c3
      refine lv_lload hx hb dX5_mixPlayer_76 (lv_at hl 3 rfl) ?_
      refine lv_aload hx hb dX5_mixPlayer_78 (lv_at hl 2 rfl) ?_
      refine kV_i (As := []) (rest := [.long y5]) ⟨hx, hb, hml, hown, hts⟩ (kX2_foodNeeded l X h r4 hr4) (wX2_foodNeeded hts q2_73 ⟨Nat.le_of_ble_eq_true rfl, Nat.le_of_ble_eq_true rfl⟩) hK hW hS (va_recv hK.1 (hW.one hr4.1) (ci := 2) (q0 := 0) rfl rfl) rfl hl.1 rfl (Nat.le_of_ble_eq_true rfl) dX5_mixPlayer_80 ⟨Nat.zero_le _, Nat.zero_le _⟩ (fun H locs hW hS => ?_)
      refine lv_i2l hx hb dX5_mixPlayer_83 rfl ?_
      refine kS_l (As := [.long y5, .long ((fX2_foodNeeded r4 h).toInt64)]) (rest := []) ⟨hx, hb, hml, hown, hts⟩ (kX5_mix l X h y5 ((fX2_foodNeeded r4 h).toInt64)) (wX5_mix hts q2_61 ⟨Nat.le_of_ble_eq_true rfl, Nat.le_of_ble_eq_true rfl⟩) hK hW hS rfl hl.1 rfl (Nat.le_of_ble_eq_true rfl) dX5_mixPlayer_84 ⟨Nat.zero_le _, Nat.zero_le _⟩ (fun H locs hW hS => ?_)
      refine lv_lstore (lv' := [(5, .long (fX5_mix y5 ((fX2_foodNeeded r4 h).toInt64))), (0, .ref a), (3, .int x3), (4, .ref r4), (7, .int x7)]) hx hb dX5_mixPlayer_87 hl (by decide) rfl (fun ls hl => ?_)
      refine lv_lload hx hb dX5_mixPlayer_89 (lv_at hl 0 rfl) ?_
      refine lv_aload hx hb dX5_mixPlayer_91 (lv_at hl 3 rfl) ?_
      refine kV_i (As := []) (rest := [.long (fX5_mix y5 ((fX2_foodNeeded r4 h).toInt64))]) ⟨hx, hb, hml, hown, hts⟩ (kX2_foodMissing l X h r4 hr4) (wX2_foodMissing hts q2_77 ⟨Nat.le_of_ble_eq_true rfl, Nat.le_of_ble_eq_true rfl⟩) hK hW hS (va_recv hK.1 (hW.one hr4.1) (ci := 2) (q0 := 0) rfl rfl) rfl hl.1 rfl (Nat.le_of_ble_eq_true rfl) dX5_mixPlayer_93 ⟨Nat.zero_le _, Nat.zero_le _⟩ (fun H locs hW hS => ?_)
      refine lv_i2l hx hb dX5_mixPlayer_96 rfl ?_
      refine kS_l (As := [.long (fX5_mix y5 ((fX2_foodNeeded r4 h).toInt64)), .long ((fX2_foodMissing r4 h).toInt64)]) (rest := []) ⟨hx, hb, hml, hown, hts⟩ (kX5_mix l X h (fX5_mix y5 ((fX2_foodNeeded r4 h).toInt64)) ((fX2_foodMissing r4 h).toInt64)) (wX5_mix hts q2_61 ⟨Nat.le_of_ble_eq_true rfl, Nat.le_of_ble_eq_true rfl⟩) hK hW hS rfl hl.1 rfl (Nat.le_of_ble_eq_true rfl) dX5_mixPlayer_97 ⟨Nat.zero_le _, Nat.zero_le _⟩ (fun H locs hW hS => ?_)
      refine lv_lstore (lv' := [(5, .long (fX5_mix (fX5_mix y5 ((fX2_foodNeeded r4 h).toInt64)) ((fX2_foodMissing r4 h).toInt64))), (0, .ref a), (3, .int x3), (4, .ref r4), (7, .int x7)]) hx hb dX5_mixPlayer_100 hl (by decide) rfl (fun ls hl => ?_)
      refine lv_iconst (v := 0) hx hb dX5_mixPlayer_102 (by decide) ?_
      refine lv_istore (lv' := [(7, .int 0), (5, .long (fX5_mix (fX5_mix y5 ((fX2_foodNeeded r4 h).toInt64)) ((fX2_foodMissing r4 h).toInt64))), (0, .ref a), (3, .int x3), (4, .ref r4)]) hx hb dX5_mixPlayer_103 hl (by decide) rfl (fun ls hl => ?_)
      exact xX5_mixPlayer_c105 hO C0 7 x3 r4 (fX5_mix (fX5_mix y5 ((fX2_foodNeeded r4 h).toInt64)) ((fX2_foodMissing r4 h).toInt64)) 0 hr4 h _ _ _ _ (lv_sub hl [2, 3, 4, 1, 0] rfl) hW hS hs hres
    · have hres := (if_neg c3).symm.trans hres
      have hs := And.right hs c3
      refine lv_lload hx hb dX5_mixPlayer_55 (lv_at hl 3 rfl) ?_
      refine lv_aload hx hb dX5_mixPlayer_57 (lv_at hl 2 rfl) ?_
      refine lv_iload hx hb dX5_mixPlayer_59 (lv_at hl 4 rfl) ?_
      refine kV_i (As := [.int x7]) (rest := [.long y5]) ⟨hx, hb, hml, hown, hts⟩ (kX2_part l X h r4 x7 hr4) (wX2_part hts q2_69 ⟨Nat.le_of_ble_eq_true rfl, Nat.le_of_ble_eq_true rfl⟩) hK hW hS (va_recv hK.1 (hW.one hr4.1) (ci := 2) (q0 := 0) rfl rfl) rfl hl.1 rfl (Nat.le_of_ble_eq_true rfl) dX5_mixPlayer_61 ⟨Nat.zero_le _, Nat.zero_le _⟩ (fun H locs hW hS => ?_)
      refine lv_i2l hx hb dX5_mixPlayer_64 rfl ?_
      refine kS_l (As := [.long y5, .long ((fX2_part r4 x7 h).toInt64)]) (rest := []) ⟨hx, hb, hml, hown, hts⟩ (kX5_mix l X h y5 ((fX2_part r4 x7 h).toInt64)) (wX5_mix hts q2_61 ⟨Nat.le_of_ble_eq_true rfl, Nat.le_of_ble_eq_true rfl⟩) hK hW hS rfl hl.1 rfl (Nat.le_of_ble_eq_true rfl) dX5_mixPlayer_65 ⟨Nat.zero_le _, Nat.zero_le _⟩ (fun H locs hW hS => ?_)
      refine lv_lstore (lv' := [(5, .long (fX5_mix y5 ((fX2_part r4 x7 h).toInt64))), (0, .ref a), (3, .int x3), (4, .ref r4), (7, .int x7)]) hx hb dX5_mixPlayer_68 hl (by decide) rfl (fun ls hl => ?_)
      refine lv_iinc (v := x7 + 1) (lv' := [(7, .int (x7 + 1)), (5, .long (fX5_mix y5 ((fX2_part r4 x7 h).toInt64))), (0, .ref a), (3, .int x3), (4, .ref r4)]) hx hb dX5_mixPlayer_70 hl (k := 4) rfl rfl (by decide) rfl (fun ls hl => ?_)
      refine lv_goto (tgt := 48) hx hb dX5_mixPlayer_73 (by decide) ?_
      exact ih x3 r4 (fX5_mix y5 ((fX2_part r4 x7 h).toInt64)) (x7 + 1) hr4 h _ _ _ _ (lv_sub hl [2, 3, 4, 1, 0] rfl) hW hS hs hres
def fX5_mixPlayer_c17 (a : Nat) : Nat → Int32 → Nat → Int64 → Int32 → HH → Int64
  | 0, x3, r4, y5, x7, h => 0
  | n + 1, x3, r4, y5, x7, h => if 5 ≤ x7 then (fX5_mixPlayer_c48 a 7 x3 r4 y5 0 h) else ((fX5_mixPlayer_c17 a n) x3 r4 (fX5_mix y5 ((h (r4 + 1) x7.toNatClampNeg).toInt64)) (x7 + 1) h)
def sX5_mixPlayer_c17 (a : Nat) : Nat → Int32 → Nat → Int64 → Int32 → HH → Prop
  | 0, _, _, _, _, _ => False
  | n + 1, x3, r4, y5, x7, h => (5 ≤ x7 → (sX5_mixPlayer_c48 a 7 x3 r4 y5 0 h)) ∧ (¬ (5 ≤ x7) → ((vp_in x7 5) ∧ ((sX5_mixPlayer_c17 a n) x3 r4 (fX5_mix y5 ((h (r4 + 1) x7.toNatClampNeg).toInt64)) (x7 + 1) h)))
set_option maxRecDepth 100000 in
set_option maxHeartbeats 4000000 in
theorem xX5_mixPlayer_c17 {p : Program} {l : Launch} {e : Env} {s : State} {m : MethodId} {args : Array Value} {below : List Frame} {meth : Method} {c : Code} {X : Cx} {a : Nat} (hO : IsBd X a) (C0 : CT p s m args meth c X cX5_mixPlayer 8 (some .long) RX5) : ∀ (n : Nat) (x3 : Int32) (r4 : Nat) (y5 : Int64) (x7 : Int32) (hr4 : IsPl X r4) (h : HH) (H : Heap) (locs : List Loc) (ls : Array Slot) (res : Int64) (hl : lv_has ls 8 [(0, .ref a), (3, .int x3), (4, .ref r4), (5, .long y5), (7, .int x7)]) (hW : WH X h H) (hS : va_S (xA X) s.heap H locs) (hs : sX5_mixPlayer_c17 a n x3 r4 y5 x7 h) (hres : fX5_mixPlayer_c17 a n x3 r4 y5 x7 h = res), W p l e rmX5_mixPlayer s m args below meth c H locs 0 0 (MQ below (QJ X res h) args s 0 0 (xA X)) (F0 m 17 ls []) := by
  obtain ⟨hx, hb, hr, hlk, hml, hown, hts, hK⟩ := id C0
  intro n
  induction n with
  | zero =>
    intro _ _ _ _ _ _ _ _ _ _ _ _ _ hs _
    exact hs.elim
  | succ n ih =>
    intro x3 r4 y5 x7 hr4 h H locs ls res hl hW hS hs hres
    refine lv_iload hx hb dX5_mixPlayer_17 (lv_at hl 4 rfl) ?_
    refine lv_iconst (v := 5) hx hb dX5_mixPlayer_19 (by decide) ?_
    refine lv_icmp_ge (tgt := 45) hx hb dX5_mixPlayer_20 (by decide) (fun c2 => ?_) (fun c2 => ?_)
    · have hres := (if_pos c2).symm.trans hres
      have hs := And.left hs c2
      refine lv_iconst (v := 0) hx hb dX5_mixPlayer_45 (by decide) ?_
      refine lv_istore (lv' := [(7, .int 0), (0, .ref a), (3, .int x3), (4, .ref r4), (5, .long y5)]) hx hb dX5_mixPlayer_46 hl (by decide) rfl (fun ls hl => ?_)
      exact xX5_mixPlayer_c48 hO C0 7 x3 r4 y5 0 hr4 h _ _ _ _ (lv_sub hl [1, 2, 3, 4, 0] rfl) hW hS hs hres
    · have hres := (if_neg c2).symm.trans hres
      have hs := And.right hs c2
      refine lv_lload hx hb dX5_mixPlayer_23 (lv_at hl 3 rfl) ?_
      refine lv_aload hx hb dX5_mixPlayer_25 (lv_at hl 2 rfl) ?_
      refine g2_0 hx hb hts hown hK hW hr4.1 (hts _ q1_56) dX5_mixPlayer_27 ?_
      refine lv_iload hx hb dX5_mixPlayer_30 (lv_at hl 4 rfl) ?_
      obtain ⟨hi8, hs⟩ := hs
      refine kb_iald hx hb hK hW hr4.2 (k := x7.toNatClampNeg) rfl hi8 dX5_mixPlayer_32 ?_
      refine lv_i2l hx hb dX5_mixPlayer_33 rfl ?_
      refine kS_l (As := [.long y5, .long ((h (r4 + 1) x7.toNatClampNeg).toInt64)]) (rest := []) ⟨hx, hb, hml, hown, hts⟩ (kX5_mix l X h y5 ((h (r4 + 1) x7.toNatClampNeg).toInt64)) (wX5_mix hts q2_61 ⟨Nat.le_of_ble_eq_true rfl, Nat.le_of_ble_eq_true rfl⟩) hK hW hS rfl hl.1 rfl (Nat.le_of_ble_eq_true rfl) dX5_mixPlayer_34 ⟨Nat.zero_le _, Nat.zero_le _⟩ (fun H locs hW hS => ?_)
      refine lv_lstore (lv' := [(5, .long (fX5_mix y5 ((h (r4 + 1) x7.toNatClampNeg).toInt64))), (0, .ref a), (3, .int x3), (4, .ref r4), (7, .int x7)]) hx hb dX5_mixPlayer_37 hl (by decide) rfl (fun ls hl => ?_)
      refine lv_iinc (v := x7 + 1) (lv' := [(7, .int (x7 + 1)), (5, .long (fX5_mix y5 ((h (r4 + 1) x7.toNatClampNeg).toInt64))), (0, .ref a), (3, .int x3), (4, .ref r4)]) hx hb dX5_mixPlayer_39 hl (k := 4) rfl rfl (by decide) rfl (fun ls hl => ?_)
      refine lv_goto (tgt := 17) hx hb dX5_mixPlayer_42 (by decide) ?_
      exact ih x3 r4 (fX5_mix y5 ((h (r4 + 1) x7.toNatClampNeg).toInt64)) (x7 + 1) hr4 h _ _ _ _ (lv_sub hl [2, 3, 4, 1, 0] rfl) hW hS hs hres
def fX5_mixPlayer_c0 (a : Nat) (y1 : Int64) (x3 : Int32) (h : HH) : Int64 := fX5_mixPlayer_c17 a 6 x3 (a + 1 + 7 + 2 * x3.toNatClampNeg) y1 0 h
def sX5_mixPlayer_c0 (a : Nat) (y1 : Int64) (x3 : Int32) (h : HH) : Prop := (vp_in x3 4) ∧ (sX5_mixPlayer_c17 a 6 x3 (a + 1 + 7 + 2 * x3.toNatClampNeg) y1 0 h)
set_option maxRecDepth 100000 in
set_option maxHeartbeats 4000000 in
theorem xX5_mixPlayer_c0 {p : Program} {l : Launch} {e : Env} {s : State} {m : MethodId} {args : Array Value} {below : List Frame} {meth : Method} {c : Code} {X : Cx} {a : Nat} (hO : IsBd X a) (C0 : CT p s m args meth c X cX5_mixPlayer 8 (some .long) RX5) (y1 : Int64) (x3 : Int32) (h : HH) (H : Heap) (locs : List Loc) (ls : Array Slot) (res : Int64) (hl : lv_has ls 8 [(0, .ref a), (1, .long y1), (3, .int x3)]) (hW : WH X h H) (hS : va_S (xA X) s.heap H locs) (hs : sX5_mixPlayer_c0 a y1 x3 h) (hres : fX5_mixPlayer_c0 a y1 x3 h = res) : W p l e rmX5_mixPlayer s m args below meth c H locs 0 0 (MQ below (QJ X res h) args s 0 0 (xA X)) (F0 m 0 ls []) := by
  obtain ⟨hx, hb, hr, hlk, hml, hown, hts, hK⟩ := id C0
  refine lv_aload_n hx hb dX5_mixPlayer_0 rfl (lv_at hl 0 rfl) ?_
  refine g5_0 hx hb hts hown hK hW hO.1 (hts _ q1_210) dX5_mixPlayer_1 ?_
  refine g0_5 hx hb hts hown hK hW hO.2.1.1 (hts _ q1_96) dX5_mixPlayer_4 ?_
  refine lv_iload_n hx hb dX5_mixPlayer_7 rfl (lv_at hl 2 rfl) ?_
  obtain ⟨hi1, hs⟩ := hs
  refine kb_aald (j := 1) hx hb hK hW hO.2.1.2.1 rfl rfl (k := x3.toNatClampNeg) rfl hi1 rfl dX5_mixPlayer_8 ?_
  refine lv_astore (lv' := [(4, .ref (a + 1 + 7 + 2 * x3.toNatClampNeg)), (0, .ref a), (1, .long y1), (3, .int x3)]) hx hb dX5_mixPlayer_9 hl (by decide) rfl (fun ls hl => ?_)
  refine lv_lload_n hx hb dX5_mixPlayer_11 rfl (lv_at hl 2 rfl) ?_
  refine lv_lstore (lv' := [(5, .long y1), (4, .ref (a + 1 + 7 + 2 * x3.toNatClampNeg)), (0, .ref a), (1, .long y1), (3, .int x3)]) hx hb dX5_mixPlayer_12 hl (by decide) rfl (fun ls hl => ?_)
  refine lv_iconst (v := 0) hx hb dX5_mixPlayer_14 (by decide) ?_
  refine lv_istore (lv' := [(7, .int 0), (5, .long y1), (4, .ref (a + 1 + 7 + 2 * x3.toNatClampNeg)), (0, .ref a), (1, .long y1), (3, .int x3)]) hx hb dX5_mixPlayer_15 hl (by decide) rfl (fun ls hl => ?_)
  exact xX5_mixPlayer_c17 hO C0 6 x3 (a + 1 + 7 + 2 * x3.toNatClampNeg) y1 0 (hO.2.1.2.2.2.2.2.2 x3.toNatClampNeg (kin hi1)) h _ _ _ _ (lv_sub hl [3, 5, 2, 1, 0] rfl) hW hS hs hres
def fX5_mixPlayer (a : Nat) (y1 : Int64) (x3 : Int32) (h : HH) : Int64 := fX5_mixPlayer_c0 a y1 x3 h
def sX5_mixPlayer (a : Nat) (y1 : Int64) (x3 : Int32) (h : HH) : Prop := sX5_mixPlayer_c0 a y1 x3 h
set_option maxRecDepth 100000 in
set_option maxHeartbeats 4000000 in
theorem kX5_mixPlayer (l : Launch) (X : Cx) (h : HH) (a : Nat) (y1 : Int64) (x3 : Int32) (hO : IsBd X a) (hs : sX5_mixPlayer a y1 x3 h) : Met l yX5_mixPlayer vX5_mixPlayer rmX5_mixPlayer (va_Pc [.ref a, .long y1, .int x3] (fun U => WS X h U)) (QJ X (fX5_mixPlayer a y1 x3 h) h) 0 0 (xA X) := by
  refine Met.ofW (cc := cX5_mixPlayer) (maxL := 8) (ret := some .long) (by decide) rfl ?_
  intro p e s m args below meth c s₁ B hml hv
  obtain ⟨rfl, hW, hK⟩ := hv
  have hl := lv_entry ([.ref a, .long y1, .int x3]) (n := 8) (Nat.le_of_ble_eq_true rfl)
  rw [lg_entry_eq]
  generalize (lg_sl ([.ref a, .long y1, .int x3]) ++ List.replicate (8 - (lg_sl ([.ref a, .long y1, .int x3])).length) Slot.unset).toArray = ls at hl ⊢
  have hl : lv_has ls 8 [(0, .ref a), (1, .long y1), (3, .int x3)] := hl
  exact xX5_mixPlayer_c0 hO ⟨B.exec, B.bytes, B.returns, B.notSynchronized, hml, findClass_of_methodNamed B.named, fun w hw => atoms_spec (ws := vX5_mixPlayer) B.pre w (List.mem_cons_of_mem _ hw), hK⟩ y1 x3 h _ _ ls _ (lv_sub hl [0, 1, 2] rfl) hW va_S.rf hs rfl
-- VillageBoard.mixSpaces(J)J
abbrev rmX5_mixSpaces : Room := ({ frames := 1, cells := 0, slots := 0, locals := 23 } : Room)
abbrev vX5_mixSpaces : List Cond := Cond.code yX5_mixSpaces cX5_mixSpaces 7 (some .long) :: lwG
theorem wX5_mixSpaces {R : Room} {s : State} {args : Array Value} {own : String} {idx : Nat} (hg : ∀ w ∈ lwG, w.before args s = true) (hl : Cond.methodLink own idx yX5_mixSpaces ∈ lwG) (hR : rmX5_mixSpaces.frames + 1 ≤ R.frames ∧ 8 + (7 + 11) + rmX5_mixSpaces.locals ≤ R.locals) : CallW R s args own RX5 idx yX5_mixSpaces cX5_mixSpaces 7 (some .long) vX5_mixSpaces rmX5_mixSpaces 0 0 1 := cwV 1 hg (gV hl q2_111 q0_5 q1_1 q2_112) rfl rfl rfl (by decide +kernel) hR
def fX5_mixSpaces_c15 (a : Nat) (k5 : Int64 → Int32 → HH → Int64) : Nat → Int64 → Int32 → Int32 → HH → Int64
  | 0, y3, x5, x6, h => 0
  | n + 1, y3, x5, x6, h => if 4 ≤ x6 then (k5 y3 (x5 + 1) h) else ((fX5_mixSpaces_c15 a k5 n) (fX5_mix y3 ((fX0_spacePart (a + 1) x5 x6 h).toInt64)) x5 (x6 + 1) h)
def sX5_mixSpaces_c15 (a : Nat) (K5 : Int64 → Int32 → HH → Prop) : Nat → Int64 → Int32 → Int32 → HH → Prop
  | 0, _, _, _, _ => False
  | n + 1, y3, x5, x6, h => (4 ≤ x6 → (K5 y3 (x5 + 1) h)) ∧ (¬ (4 ≤ x6) → ((sX0_spacePart (a + 1) x5 x6 h) ∧ ((sX5_mixSpaces_c15 a K5 n) (fX5_mix y3 ((fX0_spacePart (a + 1) x5 x6 h).toInt64)) x5 (x6 + 1) h)))
set_option maxRecDepth 100000 in
set_option maxHeartbeats 4000000 in
theorem xX5_mixSpaces_c15 {p : Program} {l : Launch} {e : Env} {s : State} {m : MethodId} {args : Array Value} {below : List Frame} {meth : Method} {c : Code} {X : Cx} {a : Nat} (hO : IsBd X a) (C0 : CT p s m args meth c X cX5_mixSpaces 7 (some .long) RX5) {k5 : Int64 → Int32 → HH → Int64} {K5 : Int64 → Int32 → HH → Prop} (hk5 : ∀ (y3 : Int64) (x5 : Int32) (h : HH) (H : Heap) (locs : List Loc) (ls : Array Slot) (res : Int64) (hl : lv_has ls 7 [(0, .ref a), (3, .long y3), (5, .int x5)]) (hW : WH X h H) (hS : va_S (xA X) s.heap H locs) (_ : K5 y3 x5 h) (hres : k5 y3 x5 h = res), W p l e rmX5_mixSpaces s m args below meth c H locs 0 0 (MQ below (QJ X res h) args s 0 0 (xA X)) (F0 m 5 ls [])) : ∀ (n : Nat) (y3 : Int64) (x5 : Int32) (x6 : Int32) (h : HH) (H : Heap) (locs : List Loc) (ls : Array Slot) (res : Int64) (hl : lv_has ls 7 [(0, .ref a), (3, .long y3), (5, .int x5), (6, .int x6)]) (hW : WH X h H) (hS : va_S (xA X) s.heap H locs) (hs : sX5_mixSpaces_c15 a K5 n y3 x5 x6 h) (hres : fX5_mixSpaces_c15 a k5 n y3 x5 x6 h = res), W p l e rmX5_mixSpaces s m args below meth c H locs 0 0 (MQ below (QJ X res h) args s 0 0 (xA X)) (F0 m 15 ls []) := by
  obtain ⟨hx, hb, hr, hlk, hml, hown, hts, hK⟩ := id C0
  intro n
  induction n with
  | zero =>
    intro _ _ _ _ _ _ _ _ _ _ _ hs _
    exact hs.elim
  | succ n ih =>
    intro y3 x5 x6 h H locs ls res hl hW hS hs hres
    refine lv_iload hx hb dX5_mixSpaces_15 (lv_at hl 3 rfl) ?_
    refine lv_iconst (v := 4) hx hb dX5_mixSpaces_17 (by decide) ?_
    refine lv_icmp_ge (tgt := 44) hx hb dX5_mixSpaces_18 (by decide) (fun c2 => ?_) (fun c2 => ?_)
    · have hres := (if_pos c2).symm.trans hres
      have hs := And.left hs c2
      refine lv_iinc (v := x5 + 1) (lv' := [(5, .int (x5 + 1)), (0, .ref a), (3, .long y3), (6, .int x6)]) hx hb dX5_mixSpaces_44 hl (k := 2) rfl rfl (by decide) rfl (fun ls hl => ?_)
      refine lv_goto (tgt := 5) hx hb dX5_mixSpaces_47 (by decide) ?_
      exact hk5 y3 (x5 + 1) h _ _ _ _ (lv_sub hl [1, 2, 0] rfl) hW hS hs hres
    · have hres := (if_neg c2).symm.trans hres
      have hs := And.right hs c2
      refine lv_lload_n hx hb dX5_mixSpaces_21 rfl (lv_at hl 1 rfl) ?_
      refine lv_aload_n hx hb dX5_mixSpaces_22 rfl (lv_at hl 0 rfl) ?_
      refine g5_0 hx hb hts hown hK hW hO.1 (hts _ q1_210) dX5_mixSpaces_23 ?_
      refine lv_iload hx hb dX5_mixSpaces_26 (lv_at hl 2 rfl) ?_
      refine lv_iload hx hb dX5_mixSpaces_28 (lv_at hl 3 rfl) ?_
      obtain ⟨hc3, hs⟩ := hs
      refine kV_i (As := [.int x5, .int x6]) (rest := [.long y3]) ⟨hx, hb, hml, hown, hts⟩ (kX0_spacePart l X h (a + 1) x5 x6 hO.2.1 hc3) (wX0_spacePart hts q2_113 ⟨Nat.le_of_ble_eq_true rfl, Nat.le_of_ble_eq_true rfl⟩) hK hW hS (va_recv hK.1 (hW.one hO.2.1.1) (ci := 0) (q0 := 0) rfl rfl) rfl hl.1 rfl (Nat.le_of_ble_eq_true rfl) dX5_mixSpaces_30 ⟨Nat.zero_le _, Nat.zero_le _⟩ (fun H locs hW hS => ?_)
      refine lv_i2l hx hb dX5_mixSpaces_33 rfl ?_
      refine kS_l (As := [.long y3, .long ((fX0_spacePart (a + 1) x5 x6 h).toInt64)]) (rest := []) ⟨hx, hb, hml, hown, hts⟩ (kX5_mix l X h y3 ((fX0_spacePart (a + 1) x5 x6 h).toInt64)) (wX5_mix hts q2_61 ⟨Nat.le_of_ble_eq_true rfl, Nat.le_of_ble_eq_true rfl⟩) hK hW hS rfl hl.1 rfl (Nat.le_of_ble_eq_true rfl) dX5_mixSpaces_34 ⟨Nat.zero_le _, Nat.zero_le _⟩ (fun H locs hW hS => ?_)
      refine lv_lstore_n (lv' := [(3, .long (fX5_mix y3 ((fX0_spacePart (a + 1) x5 x6 h).toInt64))), (0, .ref a), (5, .int x5), (6, .int x6)]) hx hb dX5_mixSpaces_37 rfl hl (by decide) rfl (fun ls hl => ?_)
      refine lv_iinc (v := x6 + 1) (lv' := [(6, .int (x6 + 1)), (3, .long (fX5_mix y3 ((fX0_spacePart (a + 1) x5 x6 h).toInt64))), (0, .ref a), (5, .int x5)]) hx hb dX5_mixSpaces_38 hl (k := 3) rfl rfl (by decide) rfl (fun ls hl => ?_)
      refine lv_goto (tgt := 15) hx hb dX5_mixSpaces_41 (by decide) ?_
      exact ih (fX5_mix y3 ((fX0_spacePart (a + 1) x5 x6 h).toInt64)) x5 (x6 + 1) h _ _ _ _ (lv_sub hl [2, 1, 3, 0] rfl) hW hS hs hres
def fX5_mixSpaces_c5 (a : Nat) : Nat → Int64 → Int32 → HH → Int64
  | 0, y3, x5, h => 0
  | n + 1, y3, x5, h => if 12 ≤ x5 then y3 else (fX5_mixSpaces_c15 a (fX5_mixSpaces_c5 a n) 5 y3 x5 0 h)
def sX5_mixSpaces_c5 (a : Nat) : Nat → Int64 → Int32 → HH → Prop
  | 0, _, _, _ => False
  | n + 1, y3, x5, h => (12 ≤ x5 → True) ∧ (¬ (12 ≤ x5) → (sX5_mixSpaces_c15 a (sX5_mixSpaces_c5 a n) 5 y3 x5 0 h))
set_option maxRecDepth 100000 in
set_option maxHeartbeats 4000000 in
theorem xX5_mixSpaces_c5 {p : Program} {l : Launch} {e : Env} {s : State} {m : MethodId} {args : Array Value} {below : List Frame} {meth : Method} {c : Code} {X : Cx} {a : Nat} (hO : IsBd X a) (C0 : CT p s m args meth c X cX5_mixSpaces 7 (some .long) RX5) : ∀ (n : Nat) (y3 : Int64) (x5 : Int32) (h : HH) (H : Heap) (locs : List Loc) (ls : Array Slot) (res : Int64) (hl : lv_has ls 7 [(0, .ref a), (3, .long y3), (5, .int x5)]) (hW : WH X h H) (hS : va_S (xA X) s.heap H locs) (hs : sX5_mixSpaces_c5 a n y3 x5 h) (hres : fX5_mixSpaces_c5 a n y3 x5 h = res), W p l e rmX5_mixSpaces s m args below meth c H locs 0 0 (MQ below (QJ X res h) args s 0 0 (xA X)) (F0 m 5 ls []) := by
  obtain ⟨hx, hb, hr, hlk, hml, hown, hts, hK⟩ := id C0
  intro n
  induction n with
  | zero =>
    intro _ _ _ _ _ _ _ _ _ _ hs _
    exact hs.elim
  | succ n ih =>
    intro y3 x5 h H locs ls res hl hW hS hs hres
    refine lv_iload hx hb dX5_mixSpaces_5 (lv_at hl 2 rfl) ?_
    refine lv_bipush (v := 12) hx hb dX5_mixSpaces_7 (by decide) ?_
    refine lv_icmp_ge (tgt := 50) hx hb dX5_mixSpaces_9 (by decide) (fun c1 => ?_) (fun c1 => ?_)
    · have hres := (if_pos c1).symm.trans hres
      have hs := And.left hs c1
      refine lv_lload_n hx hb dX5_mixSpaces_50 rfl (lv_at hl 1 rfl) ?_
      subst hres
      exact kr_l hx hb hr hlk hK hW hS dX5_mixSpaces_51
    · have hres := (if_neg c1).symm.trans hres
      have hs := And.right hs c1
      refine lv_iconst (v := 0) hx hb dX5_mixSpaces_12 (by decide) ?_
      refine lv_istore (lv' := [(6, .int 0), (0, .ref a), (3, .long y3), (5, .int x5)]) hx hb dX5_mixSpaces_13 hl (by decide) rfl (fun ls hl => ?_)
      exact xX5_mixSpaces_c15 hO C0 ih 5 y3 x5 0 h _ _ _ _ (lv_sub hl [1, 2, 3, 0] rfl) hW hS hs hres
def fX5_mixSpaces_c0 (a : Nat) (y1 : Int64) (h : HH) : Int64 := fX5_mixSpaces_c5 a 13 y1 0 h
def sX5_mixSpaces_c0 (a : Nat) (y1 : Int64) (h : HH) : Prop := sX5_mixSpaces_c5 a 13 y1 0 h
set_option maxRecDepth 100000 in
set_option maxHeartbeats 4000000 in
theorem xX5_mixSpaces_c0 {p : Program} {l : Launch} {e : Env} {s : State} {m : MethodId} {args : Array Value} {below : List Frame} {meth : Method} {c : Code} {X : Cx} {a : Nat} (hO : IsBd X a) (C0 : CT p s m args meth c X cX5_mixSpaces 7 (some .long) RX5) (y1 : Int64) (h : HH) (H : Heap) (locs : List Loc) (ls : Array Slot) (res : Int64) (hl : lv_has ls 7 [(0, .ref a), (1, .long y1)]) (hW : WH X h H) (hS : va_S (xA X) s.heap H locs) (hs : sX5_mixSpaces_c0 a y1 h) (hres : fX5_mixSpaces_c0 a y1 h = res) : W p l e rmX5_mixSpaces s m args below meth c H locs 0 0 (MQ below (QJ X res h) args s 0 0 (xA X)) (F0 m 0 ls []) := by
  obtain ⟨hx, hb, hr, hlk, hml, hown, hts, hK⟩ := id C0
  refine lv_lload_n hx hb dX5_mixSpaces_0 rfl (lv_at hl 1 rfl) ?_
  refine lv_lstore_n (lv' := [(3, .long y1), (0, .ref a), (1, .long y1)]) hx hb dX5_mixSpaces_1 rfl hl (by decide) rfl (fun ls hl => ?_)
  refine lv_iconst (v := 0) hx hb dX5_mixSpaces_2 (by decide) ?_
  refine lv_istore (lv' := [(5, .int 0), (3, .long y1), (0, .ref a), (1, .long y1)]) hx hb dX5_mixSpaces_3 hl (by decide) rfl (fun ls hl => ?_)
  exact xX5_mixSpaces_c5 hO C0 13 y1 0 h _ _ _ _ (lv_sub hl [2, 1, 0] rfl) hW hS hs hres
def fX5_mixSpaces (a : Nat) (y1 : Int64) (h : HH) : Int64 := fX5_mixSpaces_c0 a y1 h
def sX5_mixSpaces (a : Nat) (y1 : Int64) (h : HH) : Prop := sX5_mixSpaces_c0 a y1 h
set_option maxRecDepth 100000 in
set_option maxHeartbeats 4000000 in
theorem kX5_mixSpaces (l : Launch) (X : Cx) (h : HH) (a : Nat) (y1 : Int64) (hO : IsBd X a) (hs : sX5_mixSpaces a y1 h) : Met l yX5_mixSpaces vX5_mixSpaces rmX5_mixSpaces (va_Pc [.ref a, .long y1] (fun U => WS X h U)) (QJ X (fX5_mixSpaces a y1 h) h) 0 0 (xA X) := by
  refine Met.ofW (cc := cX5_mixSpaces) (maxL := 7) (ret := some .long) (by decide) rfl ?_
  intro p e s m args below meth c s₁ B hml hv
  obtain ⟨rfl, hW, hK⟩ := hv
  have hl := lv_entry ([.ref a, .long y1]) (n := 7) (Nat.le_of_ble_eq_true rfl)
  rw [lg_entry_eq]
  generalize (lg_sl ([.ref a, .long y1]) ++ List.replicate (7 - (lg_sl ([.ref a, .long y1])).length) Slot.unset).toArray = ls at hl ⊢
  have hl : lv_has ls 7 [(0, .ref a), (1, .long y1)] := hl
  exact xX5_mixSpaces_c0 hO ⟨B.exec, B.bytes, B.returns, B.notSynchronized, hml, findClass_of_methodNamed B.named, fun w hw => atoms_spec (ws := vX5_mixSpaces) B.pre w (List.mem_cons_of_mem _ hw), hK⟩ y1 h _ _ ls _ (lv_sub hl [0, 1] rfl) hW va_S.rf hs rfl
-- VillageBoard.mixHistory(J)J
abbrev rmX5_mixHistory : Room := ({ frames := 2, cells := 0, slots := 0, locals := 43 } : Room)
abbrev vX5_mixHistory : List Cond := Cond.code yX5_mixHistory cX5_mixHistory 7 (some .long) :: lwG
theorem wX5_mixHistory {R : Room} {s : State} {args : Array Value} {own : String} {idx : Nat} (hg : ∀ w ∈ lwG, w.before args s = true) (hl : Cond.methodLink own idx yX5_mixHistory ∈ lwG) (hR : rmX5_mixHistory.frames + 1 ≤ R.frames ∧ 8 + (7 + 11) + rmX5_mixHistory.locals ≤ R.locals) : CallW R s args own RX5 idx yX5_mixHistory cX5_mixHistory 7 (some .long) vX5_mixHistory rmX5_mixHistory 0 0 1 := cwV 1 hg (gV hl q2_194 q0_10 q1_1 q2_195) rfl rfl rfl (by decide +kernel) hR
def fX5_mixHistory_c37 (a : Nat) (k19 : Int64 → Int32 → HH → Int64) : Nat → Int64 → Int32 → Int32 → HH → Int64
  | 0, y3, x5, x6, h => 0
  | n + 1, y3, x5, x6, h => if 4 ≤ x6 then (k19 y3 (x5 + 1) h) else ((fX5_mixHistory_c37 a k19 n) (fX5_mix y3 ((fX1_part (a + 1 + 5) x5 x6 h).toInt64)) x5 (x6 + 1) h)
def sX5_mixHistory_c37 (a : Nat) (K19 : Int64 → Int32 → HH → Prop) : Nat → Int64 → Int32 → Int32 → HH → Prop
  | 0, _, _, _, _ => False
  | n + 1, y3, x5, x6, h => (4 ≤ x6 → (K19 y3 (x5 + 1) h)) ∧ (¬ (4 ≤ x6) → ((sX1_part (a + 1 + 5) x5 x6 h) ∧ ((sX5_mixHistory_c37 a K19 n) (fX5_mix y3 ((fX1_part (a + 1 + 5) x5 x6 h).toInt64)) x5 (x6 + 1) h)))
set_option maxRecDepth 100000 in
set_option maxHeartbeats 4000000 in
theorem xX5_mixHistory_c37 {p : Program} {l : Launch} {e : Env} {s : State} {m : MethodId} {args : Array Value} {below : List Frame} {meth : Method} {c : Code} {X : Cx} {a : Nat} (hO : IsBd X a) (C0 : CT p s m args meth c X cX5_mixHistory 7 (some .long) RX5) {k19 : Int64 → Int32 → HH → Int64} {K19 : Int64 → Int32 → HH → Prop} (hk19 : ∀ (y3 : Int64) (x5 : Int32) (h : HH) (H : Heap) (locs : List Loc) (ls : Array Slot) (res : Int64) (hl : lv_has ls 7 [(0, .ref a), (3, .long y3), (5, .int x5)]) (hW : WH X h H) (hS : va_S (xA X) s.heap H locs) (_ : K19 y3 x5 h) (hres : k19 y3 x5 h = res), W p l e rmX5_mixHistory s m args below meth c H locs 0 0 (MQ below (QJ X res h) args s 0 0 (xA X)) (F0 m 19 ls [])) : ∀ (n : Nat) (y3 : Int64) (x5 : Int32) (x6 : Int32) (h : HH) (H : Heap) (locs : List Loc) (ls : Array Slot) (res : Int64) (hl : lv_has ls 7 [(0, .ref a), (3, .long y3), (5, .int x5), (6, .int x6)]) (hW : WH X h H) (hS : va_S (xA X) s.heap H locs) (hs : sX5_mixHistory_c37 a K19 n y3 x5 x6 h) (hres : fX5_mixHistory_c37 a k19 n y3 x5 x6 h = res), W p l e rmX5_mixHistory s m args below meth c H locs 0 0 (MQ below (QJ X res h) args s 0 0 (xA X)) (F0 m 37 ls []) := by
  obtain ⟨hx, hb, hr, hlk, hml, hown, hts, hK⟩ := id C0
  intro n
  induction n with
  | zero =>
    intro _ _ _ _ _ _ _ _ _ _ _ hs _
    exact hs.elim
  | succ n ih =>
    intro y3 x5 x6 h H locs ls res hl hW hS hs hres
    refine lv_iload hx hb dX5_mixHistory_37 (lv_at hl 3 rfl) ?_
    refine lv_iconst (v := 4) hx hb dX5_mixHistory_39 (by decide) ?_
    refine lv_icmp_ge (tgt := 69) hx hb dX5_mixHistory_40 (by decide) (fun c2 => ?_) (fun c2 => ?_)
    · have hres := (if_pos c2).symm.trans hres
      have hs := And.left hs c2
      refine lv_iinc (v := x5 + 1) (lv' := [(5, .int (x5 + 1)), (0, .ref a), (3, .long y3), (6, .int x6)]) hx hb dX5_mixHistory_69 hl (k := 2) rfl rfl (by decide) rfl (fun ls hl => ?_)
      refine lv_goto (tgt := 19) hx hb dX5_mixHistory_72 (by decide) ?_
      exact hk19 y3 (x5 + 1) h _ _ _ _ (lv_sub hl [1, 2, 0] rfl) hW hS hs hres
    · have hres := (if_neg c2).symm.trans hres
      have hs := And.right hs c2
      refine lv_lload_n hx hb dX5_mixHistory_43 rfl (lv_at hl 1 rfl) ?_
      refine lv_aload_n hx hb dX5_mixHistory_44 rfl (lv_at hl 0 rfl) ?_
      refine g5_0 hx hb hts hown hK hW hO.1 (hts _ q1_210) dX5_mixHistory_45 ?_
      refine g0_9 hx hb hts hown hK hW hO.2.1.1 (hts _ q1_102) dX5_mixHistory_48 ?_
      refine lv_iload hx hb dX5_mixHistory_51 (lv_at hl 2 rfl) ?_
      refine lv_iload hx hb dX5_mixHistory_53 (lv_at hl 3 rfl) ?_
      obtain ⟨hc3, hs⟩ := hs
      refine kV_i (As := [.int x5, .int x6]) (rest := [.long y3]) ⟨hx, hb, hml, hown, hts⟩ (kX1_part l X h (a + 1 + 5) x5 x6 hO.2.1.2.2.2.2.2.1 hc3) (wX1_part hts q2_196 ⟨Nat.le_of_ble_eq_true rfl, Nat.le_of_ble_eq_true rfl⟩) hK hW hS (va_recv hK.1 (hW.one hO.2.1.2.2.2.2.2.1.1) (ci := 1) (q0 := 0) rfl rfl) rfl hl.1 rfl (Nat.le_of_ble_eq_true rfl) dX5_mixHistory_55 ⟨Nat.zero_le _, Nat.zero_le _⟩ (fun H locs hW hS => ?_)
      refine lv_i2l hx hb dX5_mixHistory_58 rfl ?_
      refine kS_l (As := [.long y3, .long ((fX1_part (a + 1 + 5) x5 x6 h).toInt64)]) (rest := []) ⟨hx, hb, hml, hown, hts⟩ (kX5_mix l X h y3 ((fX1_part (a + 1 + 5) x5 x6 h).toInt64)) (wX5_mix hts q2_61 ⟨Nat.le_of_ble_eq_true rfl, Nat.le_of_ble_eq_true rfl⟩) hK hW hS rfl hl.1 rfl (Nat.le_of_ble_eq_true rfl) dX5_mixHistory_59 ⟨Nat.zero_le _, Nat.zero_le _⟩ (fun H locs hW hS => ?_)
      refine lv_lstore_n (lv' := [(3, .long (fX5_mix y3 ((fX1_part (a + 1 + 5) x5 x6 h).toInt64))), (0, .ref a), (5, .int x5), (6, .int x6)]) hx hb dX5_mixHistory_62 rfl hl (by decide) rfl (fun ls hl => ?_)
      refine lv_iinc (v := x6 + 1) (lv' := [(6, .int (x6 + 1)), (3, .long (fX5_mix y3 ((fX1_part (a + 1 + 5) x5 x6 h).toInt64))), (0, .ref a), (5, .int x5)]) hx hb dX5_mixHistory_63 hl (k := 3) rfl rfl (by decide) rfl (fun ls hl => ?_)
      refine lv_goto (tgt := 37) hx hb dX5_mixHistory_66 (by decide) ?_
      exact ih (fX5_mix y3 ((fX1_part (a + 1 + 5) x5 x6 h).toInt64)) x5 (x6 + 1) h _ _ _ _ (lv_sub hl [2, 1, 3, 0] rfl) hW hS hs hres
def fX5_mixHistory_c19 (a : Nat) : Nat → Int64 → Int32 → HH → Int64
  | 0, y3, x5, h => 0
  | n + 1, y3, x5, h => if (h (a + 1 + 5) 2) ≤ x5 then y3 else (fX5_mixHistory_c37 a (fX5_mixHistory_c19 a n) 5 y3 x5 0 h)
def sX5_mixHistory_c19 (a : Nat) : Nat → Int64 → Int32 → HH → Prop
  | 0, _, _, _ => False
  | n + 1, y3, x5, h => ((h (a + 1 + 5) 2) ≤ x5 → True) ∧ (¬ ((h (a + 1 + 5) 2) ≤ x5) → (sX5_mixHistory_c37 a (sX5_mixHistory_c19 a n) 5 y3 x5 0 h))
set_option maxRecDepth 100000 in
set_option maxHeartbeats 4000000 in
theorem xX5_mixHistory_c19 {p : Program} {l : Launch} {e : Env} {s : State} {m : MethodId} {args : Array Value} {below : List Frame} {meth : Method} {c : Code} {X : Cx} {a : Nat} (hO : IsBd X a) (C0 : CT p s m args meth c X cX5_mixHistory 7 (some .long) RX5) : ∀ (n : Nat) (y3 : Int64) (x5 : Int32) (h : HH) (H : Heap) (locs : List Loc) (ls : Array Slot) (res : Int64) (hl : lv_has ls 7 [(0, .ref a), (3, .long y3), (5, .int x5)]) (hW : WH X h H) (hS : va_S (xA X) s.heap H locs) (hs : sX5_mixHistory_c19 a n y3 x5 h) (hres : fX5_mixHistory_c19 a n y3 x5 h = res), W p l e rmX5_mixHistory s m args below meth c H locs 0 0 (MQ below (QJ X res h) args s 0 0 (xA X)) (F0 m 19 ls []) := by
  obtain ⟨hx, hb, hr, hlk, hml, hown, hts, hK⟩ := id C0
  intro n
  induction n with
  | zero =>
    intro _ _ _ _ _ _ _ _ _ _ hs _
    exact hs.elim
  | succ n ih =>
    intro y3 x5 h H locs ls res hl hW hS hs hres
    refine lv_iload hx hb dX5_mixHistory_19 (lv_at hl 2 rfl) ?_
    refine lv_aload_n hx hb dX5_mixHistory_21 rfl (lv_at hl 0 rfl) ?_
    refine g5_0 hx hb hts hown hK hW hO.1 (hts _ q1_210) dX5_mixHistory_22 ?_
    refine g0_9 hx hb hts hown hK hW hO.2.1.1 (hts _ q1_102) dX5_mixHistory_25 ?_
    refine g1_2 hx hb hts hown hK hW hO.2.1.2.2.2.2.2.1.1 (hts _ q1_41) dX5_mixHistory_28 ?_
    refine lv_icmp_ge (tgt := 75) hx hb dX5_mixHistory_31 (by decide) (fun c1 => ?_) (fun c1 => ?_)
    · have hres := (if_pos c1).symm.trans hres
      have hs := And.left hs c1
      refine lv_lload_n hx hb dX5_mixHistory_75 rfl (lv_at hl 1 rfl) ?_
      subst hres
      exact kr_l hx hb hr hlk hK hW hS dX5_mixHistory_76
    · have hres := (if_neg c1).symm.trans hres
      have hs := And.right hs c1
      refine lv_iconst (v := 0) hx hb dX5_mixHistory_34 (by decide) ?_
      refine lv_istore (lv' := [(6, .int 0), (0, .ref a), (3, .long y3), (5, .int x5)]) hx hb dX5_mixHistory_35 hl (by decide) rfl (fun ls hl => ?_)
      exact xX5_mixHistory_c37 hO C0 ih 5 y3 x5 0 h _ _ _ _ (lv_sub hl [1, 2, 3, 0] rfl) hW hS hs hres
def fX5_mixHistory_c0 (a : Nat) (y1 : Int64) (h : HH) : Int64 := fX5_mixHistory_c19 a 31 (fX5_mix y1 ((h (a + 1 + 5) 2).toInt64)) 0 h
def sX5_mixHistory_c0 (a : Nat) (y1 : Int64) (h : HH) : Prop := sX5_mixHistory_c19 a 31 (fX5_mix y1 ((h (a + 1 + 5) 2).toInt64)) 0 h
set_option maxRecDepth 100000 in
set_option maxHeartbeats 4000000 in
theorem xX5_mixHistory_c0 {p : Program} {l : Launch} {e : Env} {s : State} {m : MethodId} {args : Array Value} {below : List Frame} {meth : Method} {c : Code} {X : Cx} {a : Nat} (hO : IsBd X a) (C0 : CT p s m args meth c X cX5_mixHistory 7 (some .long) RX5) (y1 : Int64) (h : HH) (H : Heap) (locs : List Loc) (ls : Array Slot) (res : Int64) (hl : lv_has ls 7 [(0, .ref a), (1, .long y1)]) (hW : WH X h H) (hS : va_S (xA X) s.heap H locs) (hs : sX5_mixHistory_c0 a y1 h) (hres : fX5_mixHistory_c0 a y1 h = res) : W p l e rmX5_mixHistory s m args below meth c H locs 0 0 (MQ below (QJ X res h) args s 0 0 (xA X)) (F0 m 0 ls []) := by
  obtain ⟨hx, hb, hr, hlk, hml, hown, hts, hK⟩ := id C0
  refine lv_lload_n hx hb dX5_mixHistory_0 rfl (lv_at hl 1 rfl) ?_
  refine lv_aload_n hx hb dX5_mixHistory_1 rfl (lv_at hl 0 rfl) ?_
  refine g5_0 hx hb hts hown hK hW hO.1 (hts _ q1_210) dX5_mixHistory_2 ?_
  refine g0_9 hx hb hts hown hK hW hO.2.1.1 (hts _ q1_102) dX5_mixHistory_5 ?_
  refine g1_2 hx hb hts hown hK hW hO.2.1.2.2.2.2.2.1.1 (hts _ q1_41) dX5_mixHistory_8 ?_
  refine lv_i2l hx hb dX5_mixHistory_11 rfl ?_
  refine kS_l (As := [.long y1, .long ((h (a + 1 + 5) 2).toInt64)]) (rest := []) ⟨hx, hb, hml, hown, hts⟩ (kX5_mix l X h y1 ((h (a + 1 + 5) 2).toInt64)) (wX5_mix hts q2_61 ⟨Nat.le_of_ble_eq_true rfl, Nat.le_of_ble_eq_true rfl⟩) hK hW hS rfl hl.1 rfl (Nat.le_of_ble_eq_true rfl) dX5_mixHistory_12 ⟨Nat.zero_le _, Nat.zero_le _⟩ (fun H locs hW hS => ?_)
  refine lv_lstore_n (lv' := [(3, .long (fX5_mix y1 ((h (a + 1 + 5) 2).toInt64))), (0, .ref a), (1, .long y1)]) hx hb dX5_mixHistory_15 rfl hl (by decide) rfl (fun ls hl => ?_)
  refine lv_iconst (v := 0) hx hb dX5_mixHistory_16 (by decide) ?_
  refine lv_istore (lv' := [(5, .int 0), (3, .long (fX5_mix y1 ((h (a + 1 + 5) 2).toInt64))), (0, .ref a), (1, .long y1)]) hx hb dX5_mixHistory_17 hl (by decide) rfl (fun ls hl => ?_)
  exact xX5_mixHistory_c19 hO C0 31 (fX5_mix y1 ((h (a + 1 + 5) 2).toInt64)) 0 h _ _ _ _ (lv_sub hl [2, 1, 0] rfl) hW hS hs hres
def fX5_mixHistory (a : Nat) (y1 : Int64) (h : HH) : Int64 := fX5_mixHistory_c0 a y1 h
def sX5_mixHistory (a : Nat) (y1 : Int64) (h : HH) : Prop := sX5_mixHistory_c0 a y1 h
set_option maxRecDepth 100000 in
set_option maxHeartbeats 4000000 in
theorem kX5_mixHistory (l : Launch) (X : Cx) (h : HH) (a : Nat) (y1 : Int64) (hO : IsBd X a) (hs : sX5_mixHistory a y1 h) : Met l yX5_mixHistory vX5_mixHistory rmX5_mixHistory (va_Pc [.ref a, .long y1] (fun U => WS X h U)) (QJ X (fX5_mixHistory a y1 h) h) 0 0 (xA X) := by
  refine Met.ofW (cc := cX5_mixHistory) (maxL := 7) (ret := some .long) (by decide) rfl ?_
  intro p e s m args below meth c s₁ B hml hv
  obtain ⟨rfl, hW, hK⟩ := hv
  have hl := lv_entry ([.ref a, .long y1]) (n := 7) (Nat.le_of_ble_eq_true rfl)
  rw [lg_entry_eq]
  generalize (lg_sl ([.ref a, .long y1]) ++ List.replicate (7 - (lg_sl ([.ref a, .long y1])).length) Slot.unset).toArray = ls at hl ⊢
  have hl : lv_has ls 7 [(0, .ref a), (1, .long y1)] := hl
  exact xX5_mixHistory_c0 hO ⟨B.exec, B.bytes, B.returns, B.notSynchronized, hml, findClass_of_methodNamed B.named, fun w hw => atoms_spec (ws := vX5_mixHistory) B.pre w (List.mem_cons_of_mem _ hw), hK⟩ y1 h _ _ ls _ (lv_sub hl [0, 1] rfl) hW va_S.rf hs rfl
-- VillageBoard.digest()J
abbrev rmX5_digest : Room := ({ frames := 12, cells := 0, slots := 0, locals := 294 } : Room)
abbrev vX5_digest : List Cond := Cond.code yX5_digest cX5_digest 4 (some .long) :: lwG
theorem wX5_digest {R : Room} {s : State} {args : Array Value} {own : String} {idx : Nat} (hg : ∀ w ∈ lwG, w.before args s = true) (hl : Cond.methodLink own idx yX5_digest ∈ lwG) (hR : rmX5_digest.frames + 1 ≤ R.frames ∧ 8 + (4 + 11) + rmX5_digest.locals ≤ R.locals) : CallW R s args own RX5 idx yX5_digest cX5_digest 4 (some .long) vX5_digest rmX5_digest 0 0 0 := cwV 0 hg (gV hl q2_57 q2_58 q1_1 q2_59) rfl rfl rfl (by decide +kernel) hR
def fX5_digest_c146 (a : Nat) (ys1 : Int64) (h : HH) : Int64 × HH := (fX5_mixHistory a (fX5_mix (fX5_mix ys1 ((fX3_bestResult (a + 78) h).toInt64)) ((fX3_bestStep (a + 78) 0 h).toInt64)) h, h)
def sX5_digest_c146 (a : Nat) (ys1 : Int64) (h : HH) : Prop := (sX3_bestStep (a + 78) 0 h) ∧ (sX5_mixHistory a (fX5_mix (fX5_mix ys1 ((fX3_bestResult (a + 78) h).toInt64)) ((fX3_bestStep (a + 78) 0 h).toInt64)) h)
set_option maxRecDepth 100000 in
set_option maxHeartbeats 4000000 in
theorem xX5_digest_c146 {p : Program} {l : Launch} {e : Env} {s : State} {m : MethodId} {args : Array Value} {below : List Frame} {meth : Method} {c : Code} {X : Cx} {a : Nat} (hO : IsBd X a) (C0 : CT p s m args meth c X cX5_digest 4 (some .long) RX5) (ys1 : Int64) (h : HH) (H : Heap) (locs : List Loc) (ls : Array Slot) (res : Int64 × HH) (hl : lv_has ls 4 [(0, .ref a)]) (hW : WH X h H) (hS : va_S (xA X) s.heap H locs) (hs : sX5_digest_c146 a ys1 h) (hres : fX5_digest_c146 a ys1 h = res) : W p l e rmX5_digest s m args below meth c H locs 0 0 (MQ below (QJ X res.1 res.2) args s 0 0 (xA X)) (F0 m 146 ls [.ref (a + 78), .long ys1]) := by
  obtain ⟨hx, hb, hr, hlk, hml, hown, hts, hK⟩ := id C0
  refine kV_i (As := []) (rest := [.long ys1]) ⟨hx, hb, hml, hown, hts⟩ (kX3_bestResult l X h (a + 78) hO.2.2.2.1) (wX3_bestResult hts q2_184 ⟨Nat.le_of_ble_eq_true rfl, Nat.le_of_ble_eq_true rfl⟩) hK hW hS (va_recv hK.1 (hW.one hO.2.2.2.1.1) (ci := 3) (q0 := 0) rfl rfl) rfl hl.1 rfl (Nat.le_of_ble_eq_true rfl) dX5_digest_146 ⟨Nat.zero_le _, Nat.zero_le _⟩ (fun H locs hW hS => ?_)
  refine lv_i2l hx hb dX5_digest_149 rfl ?_
  refine kS_l (As := [.long ys1, .long ((fX3_bestResult (a + 78) h).toInt64)]) (rest := []) ⟨hx, hb, hml, hown, hts⟩ (kX5_mix l X h ys1 ((fX3_bestResult (a + 78) h).toInt64)) (wX5_mix hts q2_61 ⟨Nat.le_of_ble_eq_true rfl, Nat.le_of_ble_eq_true rfl⟩) hK hW hS rfl hl.1 rfl (Nat.le_of_ble_eq_true rfl) dX5_digest_150 ⟨Nat.zero_le _, Nat.zero_le _⟩ (fun H locs hW hS => ?_)
  refine lv_lstore_n (lv' := [(1, .long (fX5_mix ys1 ((fX3_bestResult (a + 78) h).toInt64))), (0, .ref a)]) hx hb dX5_digest_153 rfl hl (by decide) rfl (fun ls hl => ?_)
  refine lv_lload_n hx hb dX5_digest_154 rfl (lv_at hl 0 rfl) ?_
  refine lv_aload_n hx hb dX5_digest_155 rfl (lv_at hl 1 rfl) ?_
  refine g5_2 hx hb hts hown hK hW hO.1 (hts _ q1_212) dX5_digest_156 ?_
  refine lv_iconst (v := 0) hx hb dX5_digest_159 (by decide) ?_
  obtain ⟨hc5, hs⟩ := hs
  refine kV_i (As := [.int 0]) (rest := [.long (fX5_mix ys1 ((fX3_bestResult (a + 78) h).toInt64))]) ⟨hx, hb, hml, hown, hts⟩ (kX3_bestStep l X h (a + 78) 0 hO.2.2.2.1 hc5) (wX3_bestStep hts q2_188 ⟨Nat.le_of_ble_eq_true rfl, Nat.le_of_ble_eq_true rfl⟩) hK hW hS (va_recv hK.1 (hW.one hO.2.2.2.1.1) (ci := 3) (q0 := 0) rfl rfl) rfl hl.1 rfl (Nat.le_of_ble_eq_true rfl) dX5_digest_160 ⟨Nat.zero_le _, Nat.zero_le _⟩ (fun H locs hW hS => ?_)
  refine lv_i2l hx hb dX5_digest_163 rfl ?_
  refine kS_l (As := [.long (fX5_mix ys1 ((fX3_bestResult (a + 78) h).toInt64)), .long ((fX3_bestStep (a + 78) 0 h).toInt64)]) (rest := []) ⟨hx, hb, hml, hown, hts⟩ (kX5_mix l X h (fX5_mix ys1 ((fX3_bestResult (a + 78) h).toInt64)) ((fX3_bestStep (a + 78) 0 h).toInt64)) (wX5_mix hts q2_61 ⟨Nat.le_of_ble_eq_true rfl, Nat.le_of_ble_eq_true rfl⟩) hK hW hS rfl hl.1 rfl (Nat.le_of_ble_eq_true rfl) dX5_digest_164 ⟨Nat.zero_le _, Nat.zero_le _⟩ (fun H locs hW hS => ?_)
  refine lv_lstore_n (lv' := [(1, .long (fX5_mix (fX5_mix ys1 ((fX3_bestResult (a + 78) h).toInt64)) ((fX3_bestStep (a + 78) 0 h).toInt64))), (0, .ref a)]) hx hb dX5_digest_167 rfl hl (by decide) rfl (fun ls hl => ?_)
  refine lv_aload_n hx hb dX5_digest_168 rfl (lv_at hl 1 rfl) ?_
  refine lv_lload_n hx hb dX5_digest_169 rfl (lv_at hl 0 rfl) ?_
  have hc6 := hs
  refine kV_l (As := [.long (fX5_mix (fX5_mix ys1 ((fX3_bestResult (a + 78) h).toInt64)) ((fX3_bestStep (a + 78) 0 h).toInt64))]) (rest := []) ⟨hx, hb, hml, hown, hts⟩ (kX5_mixHistory l X h a (fX5_mix (fX5_mix ys1 ((fX3_bestResult (a + 78) h).toInt64)) ((fX3_bestStep (a + 78) 0 h).toInt64)) hO hc6) (wX5_mixHistory hts q2_192 ⟨Nat.le_of_ble_eq_true rfl, Nat.le_of_ble_eq_true rfl⟩) hK hW hS (va_recv hK.1 (hW.one hO.1) (ci := 5) (q0 := 0) rfl rfl) rfl hl.1 rfl (Nat.le_of_ble_eq_true rfl) dX5_digest_170 ⟨Nat.zero_le _, Nat.zero_le _⟩ (fun H locs hW hS => ?_)
  subst hres
  exact kr_l hx hb hr hlk hK hW hS dX5_digest_173
def fX5_digest_c124 (a : Nat) (xs0 : Int32) (ys1 : Int64) (h : HH) : Int64 × HH := fX5_digest_c146 a (fX5_mix ys1 xs0.toInt64) (fX3_run (a + 78) (a + 1) 1 h)
def sX5_digest_c124 (a : Nat) (xs0 : Int32) (ys1 : Int64) (h : HH) : Prop := (sX3_run (a + 78) (a + 1) 1 h) ∧ (sX5_digest_c146 a (fX5_mix ys1 xs0.toInt64) (fX3_run (a + 78) (a + 1) 1 h))
set_option maxRecDepth 100000 in
set_option maxHeartbeats 4000000 in
theorem xX5_digest_c124 {p : Program} {l : Launch} {e : Env} {s : State} {m : MethodId} {args : Array Value} {below : List Frame} {meth : Method} {c : Code} {X : Cx} {a : Nat} (hO : IsBd X a) (C0 : CT p s m args meth c X cX5_digest 4 (some .long) RX5) (xs0 : Int32) (ys1 : Int64) (h : HH) (H : Heap) (locs : List Loc) (ls : Array Slot) (res : Int64 × HH) (hl : lv_has ls 4 [(0, .ref a)]) (hW : WH X h H) (hS : va_S (xA X) s.heap H locs) (hs : sX5_digest_c124 a xs0 ys1 h) (hres : fX5_digest_c124 a xs0 ys1 h = res) : W p l e rmX5_digest s m args below meth c H locs 0 0 (MQ below (QJ X res.1 res.2) args s 0 0 (xA X)) (F0 m 124 ls [.int xs0, .long ys1]) := by
  obtain ⟨hx, hb, hr, hlk, hml, hown, hts, hK⟩ := id C0
  refine lv_i2l hx hb dX5_digest_124 rfl ?_
  refine kS_l (As := [.long ys1, .long xs0.toInt64]) (rest := []) ⟨hx, hb, hml, hown, hts⟩ (kX5_mix l X h ys1 xs0.toInt64) (wX5_mix hts q2_61 ⟨Nat.le_of_ble_eq_true rfl, Nat.le_of_ble_eq_true rfl⟩) hK hW hS rfl hl.1 rfl (Nat.le_of_ble_eq_true rfl) dX5_digest_125 ⟨Nat.zero_le _, Nat.zero_le _⟩ (fun H locs hW hS => ?_)
  refine lv_lstore_n (lv' := [(1, .long (fX5_mix ys1 xs0.toInt64)), (0, .ref a)]) hx hb dX5_digest_128 rfl hl (by decide) rfl (fun ls hl => ?_)
  refine lv_aload_n hx hb dX5_digest_129 rfl (lv_at hl 1 rfl) ?_
  refine g5_2 hx hb hts hown hK hW hO.1 (hts _ q1_212) dX5_digest_130 ?_
  refine lv_aload_n hx hb dX5_digest_133 rfl (lv_at hl 1 rfl) ?_
  refine g5_0 hx hb hts hown hK hW hO.1 (hts _ q1_210) dX5_digest_134 ?_
  refine lv_iconst (v := 1) hx hb dX5_digest_137 (by decide) ?_
  obtain ⟨hc4, hs⟩ := hs
  refine kV_v (As := [.ref (a + 1), .int 1]) (rest := []) ⟨hx, hb, hml, hown, hts⟩ (kX3_run l X h (a + 78) (a + 1) 1 hO.2.2.2.1 hO.2.1 hc4) (wX3_run hts q2_117 ⟨Nat.le_of_ble_eq_true rfl, Nat.le_of_ble_eq_true rfl⟩) hK hW hS (va_recv hK.1 (hW.one hO.2.2.2.1.1) (ci := 3) (q0 := 0) rfl rfl) rfl hl.1 rfl (Nat.le_of_ble_eq_true rfl) dX5_digest_138 ⟨Nat.zero_le _, Nat.zero_le _⟩ (fun H locs hW hS => ?_)
  refine lv_lload_n hx hb dX5_digest_141 rfl (lv_at hl 0 rfl) ?_
  refine lv_aload_n hx hb dX5_digest_142 rfl (lv_at hl 1 rfl) ?_
  refine g5_2 hx hb hts hown hK hW hO.1 (hts _ q1_212) dX5_digest_143 ?_
  exact xX5_digest_c146 hO C0 (fX5_mix ys1 xs0.toInt64) (fX3_run (a + 78) (a + 1) 1 h) _ _ _ _ (lv_sub hl [1] rfl) hW hS hs hres
def fX5_digest_c82 (a : Nat) : Nat → Int64 → Int32 → HH → Int64 × HH
  | 0, y1, x3, h => (0, h)
  | n + 1, y1, x3, h => if (h (a + 1) 0) ≤ x3 then (fX5_digest_c124 a ((fX0_listPlacements (a + 1) (a + 109) h).1) (fX5_mixSpaces a y1 h) ((fX0_listPlacements (a + 1) (a + 109) h).2)) else ((fX5_digest_c82 a n) (fX5_mixPlayer a y1 x3 h) (x3 + 1) h)
def sX5_digest_c82 (a : Nat) : Nat → Int64 → Int32 → HH → Prop
  | 0, _, _, _ => False
  | n + 1, y1, x3, h => ((h (a + 1) 0) ≤ x3 → ((sX5_mixSpaces a y1 h) ∧ ((sX0_listPlacements (a + 1) (a + 109) h) ∧ (sX5_digest_c124 a ((fX0_listPlacements (a + 1) (a + 109) h).1) (fX5_mixSpaces a y1 h) ((fX0_listPlacements (a + 1) (a + 109) h).2))))) ∧ (¬ ((h (a + 1) 0) ≤ x3) → ((sX5_mixPlayer a y1 x3 h) ∧ ((sX5_digest_c82 a n) (fX5_mixPlayer a y1 x3 h) (x3 + 1) h)))
set_option maxRecDepth 100000 in
set_option maxHeartbeats 4000000 in
theorem xX5_digest_c82 {p : Program} {l : Launch} {e : Env} {s : State} {m : MethodId} {args : Array Value} {below : List Frame} {meth : Method} {c : Code} {X : Cx} {a : Nat} (hO : IsBd X a) (C0 : CT p s m args meth c X cX5_digest 4 (some .long) RX5) : ∀ (n : Nat) (y1 : Int64) (x3 : Int32) (h : HH) (H : Heap) (locs : List Loc) (ls : Array Slot) (res : Int64 × HH) (hl : lv_has ls 4 [(0, .ref a), (1, .long y1), (3, .int x3)]) (hW : WH X h H) (hS : va_S (xA X) s.heap H locs) (hs : sX5_digest_c82 a n y1 x3 h) (hres : fX5_digest_c82 a n y1 x3 h = res), W p l e rmX5_digest s m args below meth c H locs 0 0 (MQ below (QJ X res.1 res.2) args s 0 0 (xA X)) (F0 m 82 ls []) := by
  obtain ⟨hx, hb, hr, hlk, hml, hown, hts, hK⟩ := id C0
  intro n
  induction n with
  | zero =>
    intro _ _ _ _ _ _ _ _ _ _ hs _
    exact hs.elim
  | succ n ih =>
    intro y1 x3 h H locs ls res hl hW hS hs hres
    refine lv_iload_n hx hb dX5_digest_82 rfl (lv_at hl 2 rfl) ?_
    refine lv_aload_n hx hb dX5_digest_83 rfl (lv_at hl 0 rfl) ?_
    refine g5_0 hx hb hts hown hK hW hO.1 (hts _ q1_210) dX5_digest_84 ?_
    refine g0_0 hx hb hts hown hK hW hO.2.1.1 (hts _ q1_84) dX5_digest_87 ?_
    refine lv_icmp_ge (tgt := 106) hx hb dX5_digest_90 (by decide) (fun c1 => ?_) (fun c1 => ?_)
    · have hres := (if_pos c1).symm.trans hres
      have hs := And.left hs c1
      refine lv_aload_n hx hb dX5_digest_106 rfl (lv_at hl 0 rfl) ?_
      refine lv_lload_n hx hb dX5_digest_107 rfl (lv_at hl 1 rfl) ?_
      obtain ⟨hc2, hs⟩ := hs
      refine kV_l (As := [.long y1]) (rest := []) ⟨hx, hb, hml, hown, hts⟩ (kX5_mixSpaces l X h a y1 hO hc2) (wX5_mixSpaces hts q2_109 ⟨Nat.le_of_ble_eq_true rfl, Nat.le_of_ble_eq_true rfl⟩) hK hW hS (va_recv hK.1 (hW.one hO.1) (ci := 5) (q0 := 0) rfl rfl) rfl hl.1 rfl (Nat.le_of_ble_eq_true rfl) dX5_digest_108 ⟨Nat.zero_le _, Nat.zero_le _⟩ (fun H locs hW hS => ?_)
      refine lv_lstore_n (lv' := [(1, .long (fX5_mixSpaces a y1 h)), (0, .ref a), (3, .int x3)]) hx hb dX5_digest_111 rfl hl (by decide) rfl (fun ls hl => ?_)
      refine lv_lload_n hx hb dX5_digest_112 rfl (lv_at hl 0 rfl) ?_
      refine lv_aload_n hx hb dX5_digest_113 rfl (lv_at hl 1 rfl) ?_
      refine g5_0 hx hb hts hown hK hW hO.1 (hts _ q1_210) dX5_digest_114 ?_
      refine lv_aload_n hx hb dX5_digest_117 rfl (lv_at hl 1 rfl) ?_
      refine g5_3 hx hb hts hown hK hW hO.1 (hts _ q1_213) dX5_digest_118 ?_
      obtain ⟨hc3, hs⟩ := hs
      refine kV_i (As := [.ref (a + 109)]) (rest := [.long (fX5_mixSpaces a y1 h)]) ⟨hx, hb, hml, hown, hts⟩ (kX0_listPlacements l X h (a + 1) (a + 109) hO.2.1 hO.2.2.2.2 hc3) (wX0_listPlacements hts q2_3 ⟨Nat.le_of_ble_eq_true rfl, Nat.le_of_ble_eq_true rfl⟩) hK hW hS (va_recv hK.1 (hW.one hO.2.1.1) (ci := 0) (q0 := 0) rfl rfl) rfl hl.1 rfl (Nat.le_of_ble_eq_true rfl) dX5_digest_121 ⟨Nat.zero_le _, Nat.zero_le _⟩ (fun H locs hW hS => ?_)
      exact xX5_digest_c124 hO C0 ((fX0_listPlacements (a + 1) (a + 109) h).1) (fX5_mixSpaces a y1 h) ((fX0_listPlacements (a + 1) (a + 109) h).2) _ _ _ _ (lv_sub hl [1] rfl) hW hS hs hres
    · have hres := (if_neg c1).symm.trans hres
      have hs := And.right hs c1
      refine lv_aload_n hx hb dX5_digest_93 rfl (lv_at hl 0 rfl) ?_
      refine lv_lload_n hx hb dX5_digest_94 rfl (lv_at hl 1 rfl) ?_
      refine lv_iload_n hx hb dX5_digest_95 rfl (lv_at hl 2 rfl) ?_
      obtain ⟨hc7, hs⟩ := hs
      refine kV_l (As := [.long y1, .int x3]) (rest := []) ⟨hx, hb, hml, hown, hts⟩ (kX5_mixPlayer l X h a y1 x3 hO hc7) (wX5_mixPlayer hts q2_65 ⟨Nat.le_of_ble_eq_true rfl, Nat.le_of_ble_eq_true rfl⟩) hK hW hS (va_recv hK.1 (hW.one hO.1) (ci := 5) (q0 := 0) rfl rfl) rfl hl.1 rfl (Nat.le_of_ble_eq_true rfl) dX5_digest_96 ⟨Nat.zero_le _, Nat.zero_le _⟩ (fun H locs hW hS => ?_)
      refine lv_lstore_n (lv' := [(1, .long (fX5_mixPlayer a y1 x3 h)), (0, .ref a), (3, .int x3)]) hx hb dX5_digest_99 rfl hl (by decide) rfl (fun ls hl => ?_)
      refine lv_iinc (v := x3 + 1) (lv' := [(3, .int (x3 + 1)), (1, .long (fX5_mixPlayer a y1 x3 h)), (0, .ref a)]) hx hb dX5_digest_100 hl (k := 2) rfl rfl (by decide) rfl (fun ls hl => ?_)
      refine lv_goto (tgt := 82) hx hb dX5_digest_103 (by decide) ?_
      exact ih (fX5_mixPlayer a y1 x3 h) (x3 + 1) h _ _ _ _ (lv_sub hl [2, 1, 0] rfl) hW hS hs hres
def fX5_digest_c0 (a : Nat) (h : HH) : Int64 × HH := fX5_digest_c82 a 5 (fX5_mix (fX5_mix (fX5_mix (fX5_mix (fX5_mix (fX5_mix 18482 ((h (a + 16) 2).toInt64)) ((h (a + 1) 0).toInt64)) ((h (a + 1) 2).toInt64)) ((h (a + 1) 1).toInt64)) ((h (a + 1) 3).toInt64)) ((h (a + 1) 4).toInt64)) 0 h
def sX5_digest_c0 (a : Nat) (h : HH) : Prop := sX5_digest_c82 a 5 (fX5_mix (fX5_mix (fX5_mix (fX5_mix (fX5_mix (fX5_mix 18482 ((h (a + 16) 2).toInt64)) ((h (a + 1) 0).toInt64)) ((h (a + 1) 2).toInt64)) ((h (a + 1) 1).toInt64)) ((h (a + 1) 3).toInt64)) ((h (a + 1) 4).toInt64)) 0 h
set_option maxRecDepth 100000 in
set_option maxHeartbeats 4000000 in
theorem xX5_digest_c0 {p : Program} {l : Launch} {e : Env} {s : State} {m : MethodId} {args : Array Value} {below : List Frame} {meth : Method} {c : Code} {X : Cx} {a : Nat} (hO : IsBd X a) (C0 : CT p s m args meth c X cX5_digest 4 (some .long) RX5) (h : HH) (H : Heap) (locs : List Loc) (ls : Array Slot) (res : Int64 × HH) (hl : lv_has ls 4 [(0, .ref a)]) (hW : WH X h H) (hS : va_S (xA X) s.heap H locs) (hs : sX5_digest_c0 a h) (hres : fX5_digest_c0 a h = res) : W p l e rmX5_digest s m args below meth c H locs 0 0 (MQ below (QJ X res.1 res.2) args s 0 0 (xA X)) (F0 m 0 ls []) := by
  obtain ⟨hx, hb, hr, hlk, hml, hown, hts, hK⟩ := id C0
  refine lv_ldc2 hx hb hown (hts _ q2_60) dX5_digest_0 ?_
  refine lv_aload_n hx hb dX5_digest_3 rfl (lv_at hl 0 rfl) ?_
  refine g5_1 hx hb hts hown hK hW hO.1 (hts _ q1_211) dX5_digest_4 ?_
  refine g4_2 hx hb hts hown hK hW hO.2.2.1.1 (hts _ q1_136) dX5_digest_7 ?_
  refine lv_i2l hx hb dX5_digest_10 rfl ?_
  refine kS_l (As := [.long 18482, .long ((h (a + 16) 2).toInt64)]) (rest := []) ⟨hx, hb, hml, hown, hts⟩ (kX5_mix l X h 18482 ((h (a + 16) 2).toInt64)) (wX5_mix hts q2_61 ⟨Nat.le_of_ble_eq_true rfl, Nat.le_of_ble_eq_true rfl⟩) hK hW hS rfl hl.1 rfl (Nat.le_of_ble_eq_true rfl) dX5_digest_11 ⟨Nat.zero_le _, Nat.zero_le _⟩ (fun H locs hW hS => ?_)
  refine lv_lstore_n (lv' := [(1, .long (fX5_mix 18482 ((h (a + 16) 2).toInt64))), (0, .ref a)]) hx hb dX5_digest_14 rfl hl (by decide) rfl (fun ls hl => ?_)
  refine lv_lload_n hx hb dX5_digest_15 rfl (lv_at hl 0 rfl) ?_
  refine lv_aload_n hx hb dX5_digest_16 rfl (lv_at hl 1 rfl) ?_
  refine g5_0 hx hb hts hown hK hW hO.1 (hts _ q1_210) dX5_digest_17 ?_
  refine g0_0 hx hb hts hown hK hW hO.2.1.1 (hts _ q1_84) dX5_digest_20 ?_
  refine lv_i2l hx hb dX5_digest_23 rfl ?_
  refine kS_l (As := [.long (fX5_mix 18482 ((h (a + 16) 2).toInt64)), .long ((h (a + 1) 0).toInt64)]) (rest := []) ⟨hx, hb, hml, hown, hts⟩ (kX5_mix l X h (fX5_mix 18482 ((h (a + 16) 2).toInt64)) ((h (a + 1) 0).toInt64)) (wX5_mix hts q2_61 ⟨Nat.le_of_ble_eq_true rfl, Nat.le_of_ble_eq_true rfl⟩) hK hW hS rfl hl.1 rfl (Nat.le_of_ble_eq_true rfl) dX5_digest_24 ⟨Nat.zero_le _, Nat.zero_le _⟩ (fun H locs hW hS => ?_)
  refine lv_lstore_n (lv' := [(1, .long (fX5_mix (fX5_mix 18482 ((h (a + 16) 2).toInt64)) ((h (a + 1) 0).toInt64))), (0, .ref a)]) hx hb dX5_digest_27 rfl hl (by decide) rfl (fun ls hl => ?_)
  refine lv_lload_n hx hb dX5_digest_28 rfl (lv_at hl 0 rfl) ?_
  refine lv_aload_n hx hb dX5_digest_29 rfl (lv_at hl 1 rfl) ?_
  refine g5_0 hx hb hts hown hK hW hO.1 (hts _ q1_210) dX5_digest_30 ?_
  refine g0_2 hx hb hts hown hK hW hO.2.1.1 (hts _ q1_88) dX5_digest_33 ?_
  refine lv_i2l hx hb dX5_digest_36 rfl ?_
  refine kS_l (As := [.long (fX5_mix (fX5_mix 18482 ((h (a + 16) 2).toInt64)) ((h (a + 1) 0).toInt64)), .long ((h (a + 1) 2).toInt64)]) (rest := []) ⟨hx, hb, hml, hown, hts⟩ (kX5_mix l X h (fX5_mix (fX5_mix 18482 ((h (a + 16) 2).toInt64)) ((h (a + 1) 0).toInt64)) ((h (a + 1) 2).toInt64)) (wX5_mix hts q2_61 ⟨Nat.le_of_ble_eq_true rfl, Nat.le_of_ble_eq_true rfl⟩) hK hW hS rfl hl.1 rfl (Nat.le_of_ble_eq_true rfl) dX5_digest_37 ⟨Nat.zero_le _, Nat.zero_le _⟩ (fun H locs hW hS => ?_)
  refine lv_lstore_n (lv' := [(1, .long (fX5_mix (fX5_mix (fX5_mix 18482 ((h (a + 16) 2).toInt64)) ((h (a + 1) 0).toInt64)) ((h (a + 1) 2).toInt64))), (0, .ref a)]) hx hb dX5_digest_40 rfl hl (by decide) rfl (fun ls hl => ?_)
  refine lv_lload_n hx hb dX5_digest_41 rfl (lv_at hl 0 rfl) ?_
  refine lv_aload_n hx hb dX5_digest_42 rfl (lv_at hl 1 rfl) ?_
  refine g5_0 hx hb hts hown hK hW hO.1 (hts _ q1_210) dX5_digest_43 ?_
  refine g0_1 hx hb hts hown hK hW hO.2.1.1 (hts _ q1_86) dX5_digest_46 ?_
  refine lv_i2l hx hb dX5_digest_49 rfl ?_
  refine kS_l (As := [.long (fX5_mix (fX5_mix (fX5_mix 18482 ((h (a + 16) 2).toInt64)) ((h (a + 1) 0).toInt64)) ((h (a + 1) 2).toInt64)), .long ((h (a + 1) 1).toInt64)]) (rest := []) ⟨hx, hb, hml, hown, hts⟩ (kX5_mix l X h (fX5_mix (fX5_mix (fX5_mix 18482 ((h (a + 16) 2).toInt64)) ((h (a + 1) 0).toInt64)) ((h (a + 1) 2).toInt64)) ((h (a + 1) 1).toInt64)) (wX5_mix hts q2_61 ⟨Nat.le_of_ble_eq_true rfl, Nat.le_of_ble_eq_true rfl⟩) hK hW hS rfl hl.1 rfl (Nat.le_of_ble_eq_true rfl) dX5_digest_50 ⟨Nat.zero_le _, Nat.zero_le _⟩ (fun H locs hW hS => ?_)
  refine lv_lstore_n (lv' := [(1, .long (fX5_mix (fX5_mix (fX5_mix (fX5_mix 18482 ((h (a + 16) 2).toInt64)) ((h (a + 1) 0).toInt64)) ((h (a + 1) 2).toInt64)) ((h (a + 1) 1).toInt64))), (0, .ref a)]) hx hb dX5_digest_53 rfl hl (by decide) rfl (fun ls hl => ?_)
  refine lv_lload_n hx hb dX5_digest_54 rfl (lv_at hl 0 rfl) ?_
  refine lv_aload_n hx hb dX5_digest_55 rfl (lv_at hl 1 rfl) ?_
  refine g5_0 hx hb hts hown hK hW hO.1 (hts _ q1_210) dX5_digest_56 ?_
  refine g0_3 hx hb hts hown hK hW hO.2.1.1 (hts _ q1_90) dX5_digest_59 ?_
  refine lv_i2l hx hb dX5_digest_62 rfl ?_
  refine kS_l (As := [.long (fX5_mix (fX5_mix (fX5_mix (fX5_mix 18482 ((h (a + 16) 2).toInt64)) ((h (a + 1) 0).toInt64)) ((h (a + 1) 2).toInt64)) ((h (a + 1) 1).toInt64)), .long ((h (a + 1) 3).toInt64)]) (rest := []) ⟨hx, hb, hml, hown, hts⟩ (kX5_mix l X h (fX5_mix (fX5_mix (fX5_mix (fX5_mix 18482 ((h (a + 16) 2).toInt64)) ((h (a + 1) 0).toInt64)) ((h (a + 1) 2).toInt64)) ((h (a + 1) 1).toInt64)) ((h (a + 1) 3).toInt64)) (wX5_mix hts q2_61 ⟨Nat.le_of_ble_eq_true rfl, Nat.le_of_ble_eq_true rfl⟩) hK hW hS rfl hl.1 rfl (Nat.le_of_ble_eq_true rfl) dX5_digest_63 ⟨Nat.zero_le _, Nat.zero_le _⟩ (fun H locs hW hS => ?_)
  refine lv_lstore_n (lv' := [(1, .long (fX5_mix (fX5_mix (fX5_mix (fX5_mix (fX5_mix 18482 ((h (a + 16) 2).toInt64)) ((h (a + 1) 0).toInt64)) ((h (a + 1) 2).toInt64)) ((h (a + 1) 1).toInt64)) ((h (a + 1) 3).toInt64))), (0, .ref a)]) hx hb dX5_digest_66 rfl hl (by decide) rfl (fun ls hl => ?_)
  refine lv_lload_n hx hb dX5_digest_67 rfl (lv_at hl 0 rfl) ?_
  refine lv_aload_n hx hb dX5_digest_68 rfl (lv_at hl 1 rfl) ?_
  refine g5_0 hx hb hts hown hK hW hO.1 (hts _ q1_210) dX5_digest_69 ?_
  refine g0_4 hx hb hts hown hK hW hO.2.1.1 (hts _ q1_93) dX5_digest_72 ?_
  refine lv_i2l hx hb dX5_digest_75 rfl ?_
  refine kS_l (As := [.long (fX5_mix (fX5_mix (fX5_mix (fX5_mix (fX5_mix 18482 ((h (a + 16) 2).toInt64)) ((h (a + 1) 0).toInt64)) ((h (a + 1) 2).toInt64)) ((h (a + 1) 1).toInt64)) ((h (a + 1) 3).toInt64)), .long ((h (a + 1) 4).toInt64)]) (rest := []) ⟨hx, hb, hml, hown, hts⟩ (kX5_mix l X h (fX5_mix (fX5_mix (fX5_mix (fX5_mix (fX5_mix 18482 ((h (a + 16) 2).toInt64)) ((h (a + 1) 0).toInt64)) ((h (a + 1) 2).toInt64)) ((h (a + 1) 1).toInt64)) ((h (a + 1) 3).toInt64)) ((h (a + 1) 4).toInt64)) (wX5_mix hts q2_61 ⟨Nat.le_of_ble_eq_true rfl, Nat.le_of_ble_eq_true rfl⟩) hK hW hS rfl hl.1 rfl (Nat.le_of_ble_eq_true rfl) dX5_digest_76 ⟨Nat.zero_le _, Nat.zero_le _⟩ (fun H locs hW hS => ?_)
  refine lv_lstore_n (lv' := [(1, .long (fX5_mix (fX5_mix (fX5_mix (fX5_mix (fX5_mix (fX5_mix 18482 ((h (a + 16) 2).toInt64)) ((h (a + 1) 0).toInt64)) ((h (a + 1) 2).toInt64)) ((h (a + 1) 1).toInt64)) ((h (a + 1) 3).toInt64)) ((h (a + 1) 4).toInt64))), (0, .ref a)]) hx hb dX5_digest_79 rfl hl (by decide) rfl (fun ls hl => ?_)
  refine lv_iconst (v := 0) hx hb dX5_digest_80 (by decide) ?_
  refine lv_istore_n (lv' := [(3, .int 0), (1, .long (fX5_mix (fX5_mix (fX5_mix (fX5_mix (fX5_mix (fX5_mix 18482 ((h (a + 16) 2).toInt64)) ((h (a + 1) 0).toInt64)) ((h (a + 1) 2).toInt64)) ((h (a + 1) 1).toInt64)) ((h (a + 1) 3).toInt64)) ((h (a + 1) 4).toInt64))), (0, .ref a)]) hx hb dX5_digest_81 rfl hl (by decide) rfl (fun ls hl => ?_)
  exact xX5_digest_c82 hO C0 5 (fX5_mix (fX5_mix (fX5_mix (fX5_mix (fX5_mix (fX5_mix 18482 ((h (a + 16) 2).toInt64)) ((h (a + 1) 0).toInt64)) ((h (a + 1) 2).toInt64)) ((h (a + 1) 1).toInt64)) ((h (a + 1) 3).toInt64)) ((h (a + 1) 4).toInt64)) 0 h _ _ _ _ (lv_sub hl [2, 1, 0] rfl) hW hS hs hres
def fX5_digest (a : Nat) (h : HH) : Int64 × HH := fX5_digest_c0 a h
def sX5_digest (a : Nat) (h : HH) : Prop := sX5_digest_c0 a h
set_option maxRecDepth 100000 in
set_option maxHeartbeats 4000000 in
theorem kX5_digest (l : Launch) (X : Cx) (h : HH) (a : Nat) (hO : IsBd X a) (hs : sX5_digest a h) : Met l yX5_digest vX5_digest rmX5_digest (va_Pc [.ref a] (fun U => WS X h U)) (QJ X (fX5_digest a h).1 (fX5_digest a h).2) 0 0 (xA X) := by
  refine Met.ofW (cc := cX5_digest) (maxL := 4) (ret := some .long) (by decide) rfl ?_
  intro p e s m args below meth c s₁ B hml hv
  obtain ⟨rfl, hW, hK⟩ := hv
  have hl := lv_entry ([.ref a]) (n := 4) (Nat.le_of_ble_eq_true rfl)
  rw [lg_entry_eq]
  generalize (lg_sl ([.ref a]) ++ List.replicate (4 - (lg_sl ([.ref a])).length) Slot.unset).toArray = ls at hl ⊢
  have hl : lv_has ls 4 [(0, .ref a)] := hl
  exact xX5_digest_c0 hO ⟨B.exec, B.bytes, B.returns, B.notSynchronized, hml, findClass_of_methodNamed B.named, fun w hw => atoms_spec (ws := vX5_digest) B.pre w (List.mem_cons_of_mem _ hw), hK⟩ h _ _ ls _ (lv_sub hl [0] rfl) hW va_S.rf hs rfl
