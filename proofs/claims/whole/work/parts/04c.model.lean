-- VillageBoardModel.play(II)I
abbrev rmX6_play : Room := ({ frames := 9, cells := 0, slots := 0, locals := 206 } : Room)
abbrev vX6_play : List Cond := Cond.code yX6_play cX6_play 4 (some .int) :: lwG
theorem wX6_play {R : Room} {s : State} {args : Array Value} {own : String} {idx : Nat} (hg : ∀ w ∈ lwG, w.before args s = true) (hl : Cond.methodLink own idx yX6_play ∈ lwG) (hR : rmX6_play.frames + 1 ≤ R.frames ∧ 8 + (4 + 11) + rmX6_play.locals ≤ R.locals) : CallW R s args own RX6 idx yX6_play cX6_play 4 (some .int) vX6_play rmX6_play 0 0 2 := cwV 2 hg (gV hl q4_219 q4_220 q1_7 q4_221) rfl rfl rfl (by decide +kernel) hR
def fX6_play_c92 (a : Nat) (k39 : Int32 → Int32 → Int32 → HH → Int32 × HH) (x1 : Int32) (x2 : Int32) (x3 : Int32) (h : HH) : Int32 × HH := k39 x1 x2 (x3 + 1) h
def sX6_play_c92 (a : Nat) (K39 : Int32 → Int32 → Int32 → HH → Prop) (x1 : Int32) (x2 : Int32) (x3 : Int32) (h : HH) : Prop := K39 x1 x2 (x3 + 1) h
set_option maxRecDepth 100000 in
set_option maxHeartbeats 4000000 in
theorem xX6_play_c92 {p : Program} {l : Launch} {e : Env} {s : State} {m : MethodId} {args : Array Value} {below : List Frame} {meth : Method} {c : Code} {X : Cx} {a : Nat} (hO : IsMo X a) (C0 : CT p s m args meth c X cX6_play 4 (some .int) RX6) {k39 : Int32 → Int32 → Int32 → HH → Int32 × HH} {K39 : Int32 → Int32 → Int32 → HH → Prop} (hk39 : ∀ (x1 : Int32) (x2 : Int32) (x3 : Int32) (h : HH) (H : Heap) (locs : List Loc) (ls : Array Slot) (res : Int32 × HH) (hl : lv_has ls 4 [(0, .ref a), (1, .int x1), (2, .int x2), (3, .int x3)]) (hW : WH X h H) (hS : va_S (xA X) s.heap H locs) (_ : K39 x1 x2 x3 h) (hres : k39 x1 x2 x3 h = res), W p l e rmX6_play s m args below meth c H locs 0 0 (MQ below (QI X res.1 res.2) args s 0 0 (xA X)) (F0 m 39 ls [])) (x1 : Int32) (x2 : Int32) (x3 : Int32) (h : HH) (H : Heap) (locs : List Loc) (ls : Array Slot) (res : Int32 × HH) (hl : lv_has ls 4 [(0, .ref a), (1, .int x1), (2, .int x2), (3, .int x3)]) (hW : WH X h H) (hS : va_S (xA X) s.heap H locs) (hs : sX6_play_c92 a K39 x1 x2 x3 h) (hres : fX6_play_c92 a k39 x1 x2 x3 h = res) : W p l e rmX6_play s m args below meth c H locs 0 0 (MQ below (QI X res.1 res.2) args s 0 0 (xA X)) (F0 m 92 ls []) := by
  obtain ⟨hx, hb, hr, hlk, hml, hown, hts, hK⟩ := id C0
  refine lv_iinc (v := x3 + 1) (lv' := [(3, .int (x3 + 1)), (0, .ref a), (1, .int x1), (2, .int x2)]) hx hb dX6_play_92 hl (k := 3) rfl rfl (by decide) rfl (fun ls hl => ?_)
  refine lv_goto (tgt := 39) hx hb dX6_play_95 (by decide) ?_
  exact hk39 x1 x2 (x3 + 1) h _ _ _ _ (lv_sub hl [1, 2, 3, 0] rfl) hW hS hs hres
def fX6_play_c57 (a : Nat) (k39 : Int32 → Int32 → Int32 → HH → Int32 × HH) (x1 : Int32) (x2 : Int32) (x3 : Int32) (h : HH) : Int32 × HH := if (h a 7) = 0 then (fX6_play_c92 a k39 x1 x2 x3 (fX6_skips a h)) else (fX6_play_c92 a k39 x1 x2 x3 (fX6_places a ((h (a + 5) 0) / 25) (jrem (h (a + 5) 0) 25) h))
def sX6_play_c57 (a : Nat) (K39 : Int32 → Int32 → Int32 → HH → Prop) (x1 : Int32) (x2 : Int32) (x3 : Int32) (h : HH) : Prop := ((h a 7) = 0 → ((sX6_skips a h) ∧ (sX6_play_c92 a K39 x1 x2 x3 (fX6_skips a h)))) ∧ (¬ ((h a 7) = 0) → ((sX6_places a ((h (a + 5) 0) / 25) (jrem (h (a + 5) 0) 25) h) ∧ (sX6_play_c92 a K39 x1 x2 x3 (fX6_places a ((h (a + 5) 0) / 25) (jrem (h (a + 5) 0) 25) h))))
set_option maxRecDepth 100000 in
set_option maxHeartbeats 4000000 in
theorem xX6_play_c57 {p : Program} {l : Launch} {e : Env} {s : State} {m : MethodId} {args : Array Value} {below : List Frame} {meth : Method} {c : Code} {X : Cx} {a : Nat} (hO : IsMo X a) (C0 : CT p s m args meth c X cX6_play 4 (some .int) RX6) {k39 : Int32 → Int32 → Int32 → HH → Int32 × HH} {K39 : Int32 → Int32 → Int32 → HH → Prop} (hk39 : ∀ (x1 : Int32) (x2 : Int32) (x3 : Int32) (h : HH) (H : Heap) (locs : List Loc) (ls : Array Slot) (res : Int32 × HH) (hl : lv_has ls 4 [(0, .ref a), (1, .int x1), (2, .int x2), (3, .int x3)]) (hW : WH X h H) (hS : va_S (xA X) s.heap H locs) (_ : K39 x1 x2 x3 h) (hres : k39 x1 x2 x3 h = res), W p l e rmX6_play s m args below meth c H locs 0 0 (MQ below (QI X res.1 res.2) args s 0 0 (xA X)) (F0 m 39 ls [])) (x1 : Int32) (x2 : Int32) (x3 : Int32) (h : HH) (H : Heap) (locs : List Loc) (ls : Array Slot) (res : Int32 × HH) (hl : lv_has ls 4 [(0, .ref a), (1, .int x1), (2, .int x2), (3, .int x3)]) (hW : WH X h H) (hS : va_S (xA X) s.heap H locs) (hs : sX6_play_c57 a K39 x1 x2 x3 h) (hres : fX6_play_c57 a k39 x1 x2 x3 h = res) : W p l e rmX6_play s m args below meth c H locs 0 0 (MQ below (QI X res.1 res.2) args s 0 0 (xA X)) (F0 m 57 ls [.ref a]) := by
  obtain ⟨hx, hb, hr, hlk, hml, hown, hts, hK⟩ := id C0
  refine g6_7 hx hb hts hown hK hW hO.1 (hts _ q4_56) dX6_play_57 ?_
  refine lv_if_ne (tgt := 70) hx hb dX6_play_60 (by decide) (fun c7 => ?_) (fun c7 => ?_)
  · have hres := (if_neg c7).symm.trans hres
    have hs := And.right hs c7
    refine lv_aload_n hx hb dX6_play_70 rfl (lv_at hl 0 rfl) ?_
    refine lv_aload_n hx hb dX6_play_71 rfl (lv_at hl 0 rfl) ?_
    refine g6_6 hx hb hts hown hK hW hO.1 (hts _ q4_55) dX6_play_72 ?_
    refine lv_iconst (v := 0) hx hb dX6_play_75 (by decide) ?_
    refine kb_iald hx hb hK hW hO.2.2.2.2.2 (k := 0) (by decide) (vpd (by decide)) dX6_play_76 ?_
    refine lv_bipush (v := 25) hx hb dX6_play_77 (by decide) ?_
    refine lv_idiv hx hb dX6_play_79 (by decide) ?_
    refine lv_aload_n hx hb dX6_play_80 rfl (lv_at hl 0 rfl) ?_
    refine g6_6 hx hb hts hown hK hW hO.1 (hts _ q4_55) dX6_play_81 ?_
    refine lv_iconst (v := 0) hx hb dX6_play_84 (by decide) ?_
    refine kb_iald hx hb hK hW hO.2.2.2.2.2 (k := 0) (by decide) (vpd (by decide)) dX6_play_85 ?_
    refine lv_bipush (v := 25) hx hb dX6_play_86 (by decide) ?_
    refine kb_irem hx hb dX6_play_88 (by decide) ?_
    obtain ⟨hc8, hs⟩ := hs
    refine kV_v (As := [.int ((h (a + 5) 0) / 25), .int (jrem (h (a + 5) 0) 25)]) (rest := []) ⟨hx, hb, hml, hown, hts⟩ (kX6_places l X h a ((h (a + 5) 0) / 25) (jrem (h (a + 5) 0) 25) hO hc8) (wX6_places hts q4_150 ⟨Nat.le_of_ble_eq_true rfl, Nat.le_of_ble_eq_true rfl⟩) hK hW hS (va_recv hK.1 (hW.one hO.1) (ci := 6) (q0 := 0) rfl rfl) rfl hl.1 rfl (Nat.le_of_ble_eq_true rfl) dX6_play_89 ⟨Nat.zero_le _, Nat.zero_le _⟩ (fun H locs hW hS => ?_)
    exact xX6_play_c92 hO C0 hk39 x1 x2 x3 (fX6_places a ((h (a + 5) 0) / 25) (jrem (h (a + 5) 0) 25) h) _ _ _ _ (lv_sub hl [0, 1, 2, 3] rfl) hW hS hs hres
  · have hres := (if_pos c7).symm.trans hres
    have hs := And.left hs c7
    refine lv_aload_n hx hb dX6_play_63 rfl (lv_at hl 0 rfl) ?_
    obtain ⟨hc9, hs⟩ := hs
    refine kV_v (As := []) (rest := []) ⟨hx, hb, hml, hown, hts⟩ (kX6_skips l X h a hO hc9) (wX6_skips hts q4_214 ⟨Nat.le_of_ble_eq_true rfl, Nat.le_of_ble_eq_true rfl⟩) hK hW hS (va_recv hK.1 (hW.one hO.1) (ci := 6) (q0 := 0) rfl rfl) rfl hl.1 rfl (Nat.le_of_ble_eq_true rfl) dX6_play_64 ⟨Nat.zero_le _, Nat.zero_le _⟩ (fun H locs hW hS => ?_)
    refine lv_goto (tgt := 92) hx hb dX6_play_67 (by decide) ?_
    exact xX6_play_c92 hO C0 hk39 x1 x2 x3 (fX6_skips a h) _ _ _ _ (lv_sub hl [0, 1, 2, 3] rfl) hW hS hs hres
def fX6_play_c39 (a : Nat) : Nat → Int32 → Int32 → Int32 → HH → Int32 × HH
  | 0, x1, x2, x3, h => (0, h)
  | n + 1, x1, x2, x3, h => if x2 ≤ x3 then ((x3, h)) else (if (bI (fX6_isOver a h)) = 0 then (fX6_play_c57 a (fX6_play_c39 a n) x1 x2 x3 (fX6_searches a x1 h)) else ((x3, h)))
def sX6_play_c39 (a : Nat) : Nat → Int32 → Int32 → Int32 → HH → Prop
  | 0, _, _, _, _ => False
  | n + 1, x1, x2, x3, h => (x2 ≤ x3 → True) ∧ (¬ (x2 ≤ x3) → (((bI (fX6_isOver a h)) = 0 → ((sX6_searches a x1 h) ∧ (sX6_play_c57 a (sX6_play_c39 a n) x1 x2 x3 (fX6_searches a x1 h)))) ∧ (¬ ((bI (fX6_isOver a h)) = 0) → True)))
set_option maxRecDepth 100000 in
set_option maxHeartbeats 4000000 in
theorem xX6_play_c39 {p : Program} {l : Launch} {e : Env} {s : State} {m : MethodId} {args : Array Value} {below : List Frame} {meth : Method} {c : Code} {X : Cx} {a : Nat} (hO : IsMo X a) (C0 : CT p s m args meth c X cX6_play 4 (some .int) RX6) : ∀ (n : Nat) (x1 : Int32) (x2 : Int32) (x3 : Int32) (h : HH) (H : Heap) (locs : List Loc) (ls : Array Slot) (res : Int32 × HH) (hl : lv_has ls 4 [(0, .ref a), (1, .int x1), (2, .int x2), (3, .int x3)]) (hW : WH X h H) (hS : va_S (xA X) s.heap H locs) (hs : sX6_play_c39 a n x1 x2 x3 h) (hres : fX6_play_c39 a n x1 x2 x3 h = res), W p l e rmX6_play s m args below meth c H locs 0 0 (MQ below (QI X res.1 res.2) args s 0 0 (xA X)) (F0 m 39 ls []) := by
  obtain ⟨hx, hb, hr, hlk, hml, hown, hts, hK⟩ := id C0
  intro n
  induction n with
  | zero =>
    intro _ _ _ _ _ _ _ _ _ _ _ hs _
    exact hs.elim
  | succ n ih =>
    intro x1 x2 x3 h H locs ls res hl hW hS hs hres
    refine lv_iload_n hx hb dX6_play_39 rfl (lv_at hl 3 rfl) ?_
    refine lv_iload_n hx hb dX6_play_40 rfl (lv_at hl 2 rfl) ?_
    refine lv_icmp_ge (tgt := 98) hx hb dX6_play_41 (by decide) (fun c4 => ?_) (fun c4 => ?_)
    · have hres := (if_pos c4).symm.trans hres
      have hs := And.left hs c4
      refine lv_iload_n hx hb dX6_play_98 rfl (lv_at hl 3 rfl) ?_
      subst hres
      exact kr_i hx hb hr hlk hK hW hS dX6_play_99
    · have hres := (if_neg c4).symm.trans hres
      have hs := And.right hs c4
      refine lv_aload_n hx hb dX6_play_44 rfl (lv_at hl 0 rfl) ?_
      refine kV_i (As := []) (rest := []) ⟨hx, hb, hml, hown, hts⟩ (kX6_isOver l X h a hO) (wX6_isOver hts q4_114 ⟨Nat.le_of_ble_eq_true rfl, Nat.le_of_ble_eq_true rfl⟩) hK hW hS (va_recv hK.1 (hW.one hO.1) (ci := 6) (q0 := 0) rfl rfl) rfl hl.1 rfl (Nat.le_of_ble_eq_true rfl) dX6_play_45 ⟨Nat.zero_le _, Nat.zero_le _⟩ (fun H locs hW hS => ?_)
      refine lv_if_ne (tgt := 98) hx hb dX6_play_48 (by decide) (fun c5 => ?_) (fun c5 => ?_)
      · have hres := (if_neg c5).symm.trans hres
        have hs := And.right hs c5
        refine lv_iload_n hx hb dX6_play_98 rfl (lv_at hl 3 rfl) ?_
        subst hres
        exact kr_i hx hb hr hlk hK hW hS dX6_play_99
      · have hres := (if_pos c5).symm.trans hres
        have hs := And.left hs c5
        refine lv_aload_n hx hb dX6_play_51 rfl (lv_at hl 0 rfl) ?_
        refine lv_iload_n hx hb dX6_play_52 rfl (lv_at hl 1 rfl) ?_
        obtain ⟨hc6, hs⟩ := hs
        refine kV_v (As := [.int x1]) (rest := []) ⟨hx, hb, hml, hown, hts⟩ (kX6_searches l X h a x1 hO hc6) (wX6_searches hts q4_222 ⟨Nat.le_of_ble_eq_true rfl, Nat.le_of_ble_eq_true rfl⟩) hK hW hS (va_recv hK.1 (hW.one hO.1) (ci := 6) (q0 := 0) rfl rfl) rfl hl.1 rfl (Nat.le_of_ble_eq_true rfl) dX6_play_53 ⟨Nat.zero_le _, Nat.zero_le _⟩ (fun H locs hW hS => ?_)
        refine lv_aload_n hx hb dX6_play_56 rfl (lv_at hl 0 rfl) ?_
        exact xX6_play_c57 hO C0 ih x1 x2 x3 (fX6_searches a x1 h) _ _ _ _ (lv_sub hl [0, 1, 2, 3] rfl) hW hS hs hres
def fX6_play_c28 (a : Nat) (x1 : Int32) (x2 : Int32) (xs0 : Int32) (h : HH) : Int32 × HH := if xs0 = 0 then (fX6_play_c39 a 11 x1 x2 0 (fX6_saves a h)) else ((0, h))
def sX6_play_c28 (a : Nat) (x1 : Int32) (x2 : Int32) (xs0 : Int32) (h : HH) : Prop := (xs0 = 0 → ((sX6_saves a h) ∧ (sX6_play_c39 a 11 x1 x2 0 (fX6_saves a h)))) ∧ (¬ (xs0 = 0) → True)
set_option maxRecDepth 100000 in
set_option maxHeartbeats 4000000 in
theorem xX6_play_c28 {p : Program} {l : Launch} {e : Env} {s : State} {m : MethodId} {args : Array Value} {below : List Frame} {meth : Method} {c : Code} {X : Cx} {a : Nat} (hO : IsMo X a) (C0 : CT p s m args meth c X cX6_play 4 (some .int) RX6) (x1 : Int32) (x2 : Int32) (xs0 : Int32) (h : HH) (H : Heap) (locs : List Loc) (ls : Array Slot) (res : Int32 × HH) (hl : lv_has ls 4 [(0, .ref a), (1, .int x1), (2, .int x2)]) (hW : WH X h H) (hS : va_S (xA X) s.heap H locs) (hs : sX6_play_c28 a x1 x2 xs0 h) (hres : fX6_play_c28 a x1 x2 xs0 h = res) : W p l e rmX6_play s m args below meth c H locs 0 0 (MQ below (QI X res.1 res.2) args s 0 0 (xA X)) (F0 m 28 ls [.int xs0]) := by
  obtain ⟨hx, hb, hr, hlk, hml, hown, hts, hK⟩ := id C0
  refine lv_if_eq (tgt := 33) hx hb dX6_play_28 (by decide) (fun c2 => ?_) (fun c2 => ?_)
  · have hres := (if_pos c2).symm.trans hres
    have hs := And.left hs c2
    refine lv_aload_n hx hb dX6_play_33 rfl (lv_at hl 0 rfl) ?_
    obtain ⟨hc3, hs⟩ := hs
    refine kV_v (As := []) (rest := []) ⟨hx, hb, hml, hown, hts⟩ (kX6_saves l X h a hO hc3) (wX6_saves hts q4_99 ⟨Nat.le_of_ble_eq_true rfl, Nat.le_of_ble_eq_true rfl⟩) hK hW hS (va_recv hK.1 (hW.one hO.1) (ci := 6) (q0 := 0) rfl rfl) rfl hl.1 rfl (Nat.le_of_ble_eq_true rfl) dX6_play_34 ⟨Nat.zero_le _, Nat.zero_le _⟩ (fun H locs hW hS => ?_)
    refine lv_iconst (v := 0) hx hb dX6_play_37 (by decide) ?_
    refine lv_istore_n (lv' := [(3, .int 0), (0, .ref a), (1, .int x1), (2, .int x2)]) hx hb dX6_play_38 rfl hl (by decide) rfl (fun ls hl => ?_)
    exact xX6_play_c39 hO C0 11 x1 x2 0 (fX6_saves a h) _ _ _ _ (lv_sub hl [1, 2, 3, 0] rfl) hW hS hs hres
  · have hres := (if_neg c2).symm.trans hres
    have hs := And.right hs c2
    refine lv_iconst (v := 0) hx hb dX6_play_31 (by decide) ?_
    subst hres
    exact kr_i hx hb hr hlk hK hW hS dX6_play_32
def fX6_play_c25 (a : Nat) (x1 : Int32) (x2 : Int32) (xs0 : Int32) (h : HH) : Int32 × HH := fX6_play_c28 a x1 x2 (bI (fX6_refused a xs0 h).1) ((fX6_refused a xs0 h).2)
def sX6_play_c25 (a : Nat) (x1 : Int32) (x2 : Int32) (xs0 : Int32) (h : HH) : Prop := sX6_play_c28 a x1 x2 (bI (fX6_refused a xs0 h).1) ((fX6_refused a xs0 h).2)
set_option maxRecDepth 100000 in
set_option maxHeartbeats 4000000 in
theorem xX6_play_c25 {p : Program} {l : Launch} {e : Env} {s : State} {m : MethodId} {args : Array Value} {below : List Frame} {meth : Method} {c : Code} {X : Cx} {a : Nat} (hO : IsMo X a) (C0 : CT p s m args meth c X cX6_play 4 (some .int) RX6) (x1 : Int32) (x2 : Int32) (xs0 : Int32) (h : HH) (H : Heap) (locs : List Loc) (ls : Array Slot) (res : Int32 × HH) (hl : lv_has ls 4 [(0, .ref a), (1, .int x1), (2, .int x2)]) (hW : WH X h H) (hS : va_S (xA X) s.heap H locs) (hs : sX6_play_c25 a x1 x2 xs0 h) (hres : fX6_play_c25 a x1 x2 xs0 h = res) : W p l e rmX6_play s m args below meth c H locs 0 0 (MQ below (QI X res.1 res.2) args s 0 0 (xA X)) (F0 m 25 ls [.int xs0, .ref a]) := by
  obtain ⟨hx, hb, hr, hlk, hml, hown, hts, hK⟩ := id C0
  refine kV_i (As := [.int xs0]) (rest := []) ⟨hx, hb, hml, hown, hts⟩ (kX6_refused l X h a xs0 hO) (wX6_refused hts q4_88 ⟨Nat.le_of_ble_eq_true rfl, Nat.le_of_ble_eq_true rfl⟩) hK hW hS (va_recv hK.1 (hW.one hO.1) (ci := 6) (q0 := 0) rfl rfl) rfl hl.1 rfl (Nat.le_of_ble_eq_true rfl) dX6_play_25 ⟨Nat.zero_le _, Nat.zero_le _⟩ (fun H locs hW hS => ?_)
  exact xX6_play_c28 hO C0 x1 x2 (bI (fX6_refused a xs0 h).1) ((fX6_refused a xs0 h).2) _ _ _ _ (lv_sub hl [0, 1, 2] rfl) hW hS hs hres
def fX6_play_c24 (a : Nat) (x1 : Int32) (x2 : Int32) (h : HH) : Int32 × HH := fX6_play_c25 a x1 x2 1 h
def sX6_play_c24 (a : Nat) (x1 : Int32) (x2 : Int32) (h : HH) : Prop := sX6_play_c25 a x1 x2 1 h
set_option maxRecDepth 100000 in
set_option maxHeartbeats 4000000 in
theorem xX6_play_c24 {p : Program} {l : Launch} {e : Env} {s : State} {m : MethodId} {args : Array Value} {below : List Frame} {meth : Method} {c : Code} {X : Cx} {a : Nat} (hO : IsMo X a) (C0 : CT p s m args meth c X cX6_play 4 (some .int) RX6) (x1 : Int32) (x2 : Int32) (h : HH) (H : Heap) (locs : List Loc) (ls : Array Slot) (res : Int32 × HH) (hl : lv_has ls 4 [(0, .ref a), (1, .int x1), (2, .int x2)]) (hW : WH X h H) (hS : va_S (xA X) s.heap H locs) (hs : sX6_play_c24 a x1 x2 h) (hres : fX6_play_c24 a x1 x2 h = res) : W p l e rmX6_play s m args below meth c H locs 0 0 (MQ below (QI X res.1 res.2) args s 0 0 (xA X)) (F0 m 24 ls [.ref a]) := by
  obtain ⟨hx, hb, hr, hlk, hml, hown, hts, hK⟩ := id C0
  refine lv_iconst (v := 1) hx hb dX6_play_24 (by decide) ?_
  exact xX6_play_c25 hO C0 x1 x2 1 h _ _ _ _ (lv_sub hl [0, 1, 2] rfl) hW hS hs hres
def fX6_play_c0 (a : Nat) (x1 : Int32) (x2 : Int32) (h : HH) : Int32 × HH := if (bI (fX6_within x1 1 2)) = 0 then (fX6_play_c24 a x1 x2 h) else (if (bI (fX6_within x2 1 10)) = 0 then (fX6_play_c24 a x1 x2 h) else (fX6_play_c25 a x1 x2 0 h))
def sX6_play_c0 (a : Nat) (x1 : Int32) (x2 : Int32) (h : HH) : Prop := ((bI (fX6_within x1 1 2)) = 0 → (sX6_play_c24 a x1 x2 h)) ∧ (¬ ((bI (fX6_within x1 1 2)) = 0) → (((bI (fX6_within x2 1 10)) = 0 → (sX6_play_c24 a x1 x2 h)) ∧ (¬ ((bI (fX6_within x2 1 10)) = 0) → (sX6_play_c25 a x1 x2 0 h))))
set_option maxRecDepth 100000 in
set_option maxHeartbeats 4000000 in
theorem xX6_play_c0 {p : Program} {l : Launch} {e : Env} {s : State} {m : MethodId} {args : Array Value} {below : List Frame} {meth : Method} {c : Code} {X : Cx} {a : Nat} (hO : IsMo X a) (C0 : CT p s m args meth c X cX6_play 4 (some .int) RX6) (x1 : Int32) (x2 : Int32) (h : HH) (H : Heap) (locs : List Loc) (ls : Array Slot) (res : Int32 × HH) (hl : lv_has ls 4 [(0, .ref a), (1, .int x1), (2, .int x2)]) (hW : WH X h H) (hS : va_S (xA X) s.heap H locs) (hs : sX6_play_c0 a x1 x2 h) (hres : fX6_play_c0 a x1 x2 h = res) : W p l e rmX6_play s m args below meth c H locs 0 0 (MQ below (QI X res.1 res.2) args s 0 0 (xA X)) (F0 m 0 ls []) := by
  obtain ⟨hx, hb, hr, hlk, hml, hown, hts, hK⟩ := id C0
  refine lv_aload_n hx hb dX6_play_0 rfl (lv_at hl 0 rfl) ?_
  refine lv_iload_n hx hb dX6_play_1 rfl (lv_at hl 1 rfl) ?_
  refine lv_iconst (v := 1) hx hb dX6_play_2 (by decide) ?_
  refine lv_iconst (v := 2) hx hb dX6_play_3 (by decide) ?_
  refine kS_i (As := [.int x1, .int 1, .int 2]) (rest := [.ref a]) ⟨hx, hb, hml, hown, hts⟩ (kX6_within l X h x1 1 2) (wX6_within hts q4_96 ⟨Nat.le_of_ble_eq_true rfl, Nat.le_of_ble_eq_true rfl⟩) hK hW hS rfl hl.1 rfl (Nat.le_of_ble_eq_true rfl) dX6_play_4 ⟨Nat.zero_le _, Nat.zero_le _⟩ (fun H locs hW hS => ?_)
  refine lv_if_eq (tgt := 24) hx hb dX6_play_7 (by decide) (fun c1 => ?_) (fun c1 => ?_)
  · have hres := (if_pos c1).symm.trans hres
    have hs := And.left hs c1
    exact xX6_play_c24 hO C0 x1 x2 h _ _ _ _ (lv_sub hl [0, 1, 2] rfl) hW hS hs hres
  · have hres := (if_neg c1).symm.trans hres
    have hs := And.right hs c1
    refine lv_iload_n hx hb dX6_play_10 rfl (lv_at hl 2 rfl) ?_
    refine lv_iconst (v := 1) hx hb dX6_play_11 (by decide) ?_
    refine lv_bipush (v := 10) hx hb dX6_play_12 (by decide) ?_
    refine kS_i (As := [.int x2, .int 1, .int 10]) (rest := [.ref a]) ⟨hx, hb, hml, hown, hts⟩ (kX6_within l X h x2 1 10) (wX6_within hts q4_96 ⟨Nat.le_of_ble_eq_true rfl, Nat.le_of_ble_eq_true rfl⟩) hK hW hS rfl hl.1 rfl (Nat.le_of_ble_eq_true rfl) dX6_play_14 ⟨Nat.zero_le _, Nat.zero_le _⟩ (fun H locs hW hS => ?_)
    refine lv_if_eq (tgt := 24) hx hb dX6_play_17 (by decide) (fun c10 => ?_) (fun c10 => ?_)
    · have hres := (if_pos c10).symm.trans hres
      have hs := And.left hs c10
      exact xX6_play_c24 hO C0 x1 x2 h _ _ _ _ (lv_sub hl [0, 1, 2] rfl) hW hS hs hres
    · have hres := (if_neg c10).symm.trans hres
      have hs := And.right hs c10
      refine lv_iconst (v := 0) hx hb dX6_play_20 (by decide) ?_
      refine lv_goto (tgt := 25) hx hb dX6_play_21 (by decide) ?_
      exact xX6_play_c25 hO C0 x1 x2 0 h _ _ _ _ (lv_sub hl [0, 1, 2] rfl) hW hS hs hres
def fX6_play (a : Nat) (x1 : Int32) (x2 : Int32) (h : HH) : Int32 × HH := fX6_play_c0 a x1 x2 h
def sX6_play (a : Nat) (x1 : Int32) (x2 : Int32) (h : HH) : Prop := sX6_play_c0 a x1 x2 h
set_option maxRecDepth 100000 in
set_option maxHeartbeats 4000000 in
theorem kX6_play (l : Launch) (X : Cx) (h : HH) (a : Nat) (x1 : Int32) (x2 : Int32) (hO : IsMo X a) (hs : sX6_play a x1 x2 h) : Met l yX6_play vX6_play rmX6_play (va_Pc [.ref a, .int x1, .int x2] (fun U => WS X h U)) (QI X (fX6_play a x1 x2 h).1 (fX6_play a x1 x2 h).2) 0 0 (xA X) := by
  refine Met.ofW (cc := cX6_play) (maxL := 4) (ret := some .int) (by decide) rfl ?_
  intro p e s m args below meth c s₁ B hml hv
  obtain ⟨rfl, hW, hK⟩ := hv
  have hl := lv_entry ([.ref a, .int x1, .int x2]) (n := 4) (Nat.le_of_ble_eq_true rfl)
  rw [lg_entry_eq]
  generalize (lg_sl ([.ref a, .int x1, .int x2]) ++ List.replicate (4 - (lg_sl ([.ref a, .int x1, .int x2])).length) Slot.unset).toArray = ls at hl ⊢
  have hl : lv_has ls 4 [(0, .ref a), (1, .int x1), (2, .int x2)] := hl
  exact xX6_play_c0 hO ⟨B.exec, B.bytes, B.returns, B.notSynchronized, hml, findClass_of_methodNamed B.named, fun w hw => atoms_spec (ws := vX6_play) B.pre w (List.mem_cons_of_mem _ hw), hK⟩ x1 x2 h _ _ ls _ (lv_sub hl [0, 1, 2] rfl) hW va_S.rf hs rfl
-- VillageBoardModel.players()I
abbrev rmX6_players : Room := ({ frames := 0, cells := 0, slots := 0, locals := 0 } : Room)
abbrev vX6_players : List Cond := Cond.code yX6_players cX6_players 1 (some .int) :: lwG
theorem wX6_players {R : Room} {s : State} {args : Array Value} {own : String} {idx : Nat} (hg : ∀ w ∈ lwG, w.before args s = true) (hl : Cond.methodLink own idx yX6_players ∈ lwG) (hR : rmX6_players.frames + 1 ≤ R.frames ∧ 8 + (1 + 11) + rmX6_players.locals ≤ R.locals) : CallW R s args own RX6 idx yX6_players cX6_players 1 (some .int) vX6_players rmX6_players 0 0 0 := cwV 0 hg (gV hl q5_10 q5_11 q1_7 q5_12) rfl rfl rfl (by decide +kernel) hR
def fX6_players_c10 (a : Nat) (xs0 : Int32) (h : HH) : Int32 × HH := (h (a + 1) xs0.toNatClampNeg, h)
def sX6_players_c10 (a : Nat) (xs0 : Int32) (h : HH) : Prop := vp_in xs0 206
set_option maxRecDepth 100000 in
set_option maxHeartbeats 4000000 in
theorem xX6_players_c10 {p : Program} {l : Launch} {e : Env} {s : State} {m : MethodId} {args : Array Value} {below : List Frame} {meth : Method} {c : Code} {X : Cx} {a : Nat} (hO : IsMo X a) (C0 : CT p s m args meth c X cX6_players 1 (some .int) RX6) (xs0 : Int32) (h : HH) (H : Heap) (locs : List Loc) (ls : Array Slot) (res : Int32 × HH) (hl : lv_has ls 1 []) (hW : WH X h H) (hS : va_S (xA X) s.heap H locs) (hs : sX6_players_c10 a xs0 h) (hres : fX6_players_c10 a xs0 h = res) : W p l e rmX6_players s m args below meth c H locs 0 0 (MQ below (QI X res.1 res.2) args s 0 0 (xA X)) (F0 m 10 ls [.int xs0, .ref (a + 1)]) := by
  obtain ⟨hx, hb, hr, hlk, hml, hown, hts, hK⟩ := id C0
  have hi1 := hs
  refine kb_iald hx hb hK hW hO.2.1 (k := xs0.toNatClampNeg) rfl hi1 dX6_players_10 ?_
  subst hres
  exact kr_i hx hb hr hlk hK hW hS dX6_players_11
def fX6_players_c0 (a : Nat) (h : HH) : Int32 × HH := fX6_players_c10 a 0 (hset h a 4 0)
def sX6_players_c0 (a : Nat) (h : HH) : Prop := sX6_players_c10 a 0 (hset h a 4 0)
set_option maxRecDepth 100000 in
set_option maxHeartbeats 4000000 in
theorem xX6_players_c0 {p : Program} {l : Launch} {e : Env} {s : State} {m : MethodId} {args : Array Value} {below : List Frame} {meth : Method} {c : Code} {X : Cx} {a : Nat} (hO : IsMo X a) (C0 : CT p s m args meth c X cX6_players 1 (some .int) RX6) (h : HH) (H : Heap) (locs : List Loc) (ls : Array Slot) (res : Int32 × HH) (hl : lv_has ls 1 [(0, .ref a)]) (hW : WH X h H) (hS : va_S (xA X) s.heap H locs) (hs : sX6_players_c0 a h) (hres : fX6_players_c0 a h = res) : W p l e rmX6_players s m args below meth c H locs 0 0 (MQ below (QI X res.1 res.2) args s 0 0 (xA X)) (F0 m 0 ls []) := by
  obtain ⟨hx, hb, hr, hlk, hml, hown, hts, hK⟩ := id C0
  refine lv_aload_n hx hb dX6_players_0 rfl (lv_at hl 0 rfl) ?_
  refine lv_iconst (v := 0) hx hb dX6_players_1 (by decide) ?_
  refine p6_4 hx hb hts hown hK hW hS hO.1 (hts _ q4_53) dX6_players_2 (fun H locs hW hS => ?_)
  refine lv_aload_n hx hb dX6_players_5 rfl (lv_at hl 0 rfl) ?_
  refine g6_0 hx hb hts hown hK hW hO.1 (hts _ q4_49) dX6_players_6 ?_
  refine lv_iconst (v := 0) hx hb dX6_players_9 (by decide) ?_
  exact xX6_players_c10 hO C0 0 (hset h a 4 0) _ _ _ _ (lv_sub hl [] rfl) hW hS hs hres
def fX6_players (a : Nat) (h : HH) : Int32 × HH := fX6_players_c0 a h
def sX6_players (a : Nat) (h : HH) : Prop := sX6_players_c0 a h
set_option maxRecDepth 100000 in
set_option maxHeartbeats 4000000 in
theorem kX6_players (l : Launch) (X : Cx) (h : HH) (a : Nat) (hO : IsMo X a) (hs : sX6_players a h) : Met l yX6_players vX6_players rmX6_players (va_Pc [.ref a] (fun U => WS X h U)) (QI X (fX6_players a h).1 (fX6_players a h).2) 0 0 (xA X) := by
  refine Met.ofW (cc := cX6_players) (maxL := 1) (ret := some .int) (by decide) rfl ?_
  intro p e s m args below meth c s₁ B hml hv
  obtain ⟨rfl, hW, hK⟩ := hv
  have hl := lv_entry ([.ref a]) (n := 1) (Nat.le_of_ble_eq_true rfl)
  rw [lg_entry_eq]
  generalize (lg_sl ([.ref a]) ++ List.replicate (1 - (lg_sl ([.ref a])).length) Slot.unset).toArray = ls at hl ⊢
  have hl : lv_has ls 1 [(0, .ref a)] := hl
  exact xX6_players_c0 hO ⟨B.exec, B.bytes, B.returns, B.notSynchronized, hml, findClass_of_methodNamed B.named, fun w hw => atoms_spec (ws := vX6_players) B.pre w (List.mem_cons_of_mem _ hw), hK⟩ h _ _ ls _ (lv_sub hl [0] rfl) hW va_S.rf hs rfl
-- VillageBoardModel.round()I
abbrev rmX6_round : Room := ({ frames := 0, cells := 0, slots := 0, locals := 0 } : Room)
abbrev vX6_round : List Cond := Cond.code yX6_round cX6_round 1 (some .int) :: lwG
theorem wX6_round {R : Room} {s : State} {args : Array Value} {own : String} {idx : Nat} (hg : ∀ w ∈ lwG, w.before args s = true) (hl : Cond.methodLink own idx yX6_round ∈ lwG) (hR : rmX6_round.frames + 1 ≤ R.frames ∧ 8 + (1 + 11) + rmX6_round.locals ≤ R.locals) : CallW R s args own RX6 idx yX6_round cX6_round 1 (some .int) vX6_round rmX6_round 0 0 0 := cwV 0 hg (gV hl q5_14 q5_15 q1_7 q5_16) rfl rfl rfl (by decide +kernel) hR
def fX6_round_c10 (a : Nat) (xs0 : Int32) (h : HH) : Int32 × HH := (h (a + 1) xs0.toNatClampNeg, h)
def sX6_round_c10 (a : Nat) (xs0 : Int32) (h : HH) : Prop := vp_in xs0 206
set_option maxRecDepth 100000 in
set_option maxHeartbeats 4000000 in
theorem xX6_round_c10 {p : Program} {l : Launch} {e : Env} {s : State} {m : MethodId} {args : Array Value} {below : List Frame} {meth : Method} {c : Code} {X : Cx} {a : Nat} (hO : IsMo X a) (C0 : CT p s m args meth c X cX6_round 1 (some .int) RX6) (xs0 : Int32) (h : HH) (H : Heap) (locs : List Loc) (ls : Array Slot) (res : Int32 × HH) (hl : lv_has ls 1 []) (hW : WH X h H) (hS : va_S (xA X) s.heap H locs) (hs : sX6_round_c10 a xs0 h) (hres : fX6_round_c10 a xs0 h = res) : W p l e rmX6_round s m args below meth c H locs 0 0 (MQ below (QI X res.1 res.2) args s 0 0 (xA X)) (F0 m 10 ls [.int xs0, .ref (a + 1)]) := by
  obtain ⟨hx, hb, hr, hlk, hml, hown, hts, hK⟩ := id C0
  have hi1 := hs
  refine kb_iald hx hb hK hW hO.2.1 (k := xs0.toNatClampNeg) rfl hi1 dX6_round_10 ?_
  subst hres
  exact kr_i hx hb hr hlk hK hW hS dX6_round_11
def fX6_round_c0 (a : Nat) (h : HH) : Int32 × HH := fX6_round_c10 a 2 (hset h a 4 0)
def sX6_round_c0 (a : Nat) (h : HH) : Prop := sX6_round_c10 a 2 (hset h a 4 0)
set_option maxRecDepth 100000 in
set_option maxHeartbeats 4000000 in
theorem xX6_round_c0 {p : Program} {l : Launch} {e : Env} {s : State} {m : MethodId} {args : Array Value} {below : List Frame} {meth : Method} {c : Code} {X : Cx} {a : Nat} (hO : IsMo X a) (C0 : CT p s m args meth c X cX6_round 1 (some .int) RX6) (h : HH) (H : Heap) (locs : List Loc) (ls : Array Slot) (res : Int32 × HH) (hl : lv_has ls 1 [(0, .ref a)]) (hW : WH X h H) (hS : va_S (xA X) s.heap H locs) (hs : sX6_round_c0 a h) (hres : fX6_round_c0 a h = res) : W p l e rmX6_round s m args below meth c H locs 0 0 (MQ below (QI X res.1 res.2) args s 0 0 (xA X)) (F0 m 0 ls []) := by
  obtain ⟨hx, hb, hr, hlk, hml, hown, hts, hK⟩ := id C0
  refine lv_aload_n hx hb dX6_round_0 rfl (lv_at hl 0 rfl) ?_
  refine lv_iconst (v := 0) hx hb dX6_round_1 (by decide) ?_
  refine p6_4 hx hb hts hown hK hW hS hO.1 (hts _ q4_53) dX6_round_2 (fun H locs hW hS => ?_)
  refine lv_aload_n hx hb dX6_round_5 rfl (lv_at hl 0 rfl) ?_
  refine g6_0 hx hb hts hown hK hW hO.1 (hts _ q4_49) dX6_round_6 ?_
  refine lv_iconst (v := 2) hx hb dX6_round_9 (by decide) ?_
  exact xX6_round_c10 hO C0 2 (hset h a 4 0) _ _ _ _ (lv_sub hl [] rfl) hW hS hs hres
def fX6_round (a : Nat) (h : HH) : Int32 × HH := fX6_round_c0 a h
def sX6_round (a : Nat) (h : HH) : Prop := sX6_round_c0 a h
set_option maxRecDepth 100000 in
set_option maxHeartbeats 4000000 in
theorem kX6_round (l : Launch) (X : Cx) (h : HH) (a : Nat) (hO : IsMo X a) (hs : sX6_round a h) : Met l yX6_round vX6_round rmX6_round (va_Pc [.ref a] (fun U => WS X h U)) (QI X (fX6_round a h).1 (fX6_round a h).2) 0 0 (xA X) := by
  refine Met.ofW (cc := cX6_round) (maxL := 1) (ret := some .int) (by decide) rfl ?_
  intro p e s m args below meth c s₁ B hml hv
  obtain ⟨rfl, hW, hK⟩ := hv
  have hl := lv_entry ([.ref a]) (n := 1) (Nat.le_of_ble_eq_true rfl)
  rw [lg_entry_eq]
  generalize (lg_sl ([.ref a]) ++ List.replicate (1 - (lg_sl ([.ref a])).length) Slot.unset).toArray = ls at hl ⊢
  have hl : lv_has ls 1 [(0, .ref a)] := hl
  exact xX6_round_c0 hO ⟨B.exec, B.bytes, B.returns, B.notSynchronized, hml, findClass_of_methodNamed B.named, fun w hw => atoms_spec (ws := vX6_round) B.pre w (List.mem_cons_of_mem _ hw), hK⟩ h _ _ ls _ (lv_sub hl [0] rfl) hW va_S.rf hs rfl
-- VillageBoardModel.inTurn()I
abbrev rmX6_inTurn : Room := ({ frames := 0, cells := 0, slots := 0, locals := 0 } : Room)
abbrev vX6_inTurn : List Cond := Cond.code yX6_inTurn cX6_inTurn 1 (some .int) :: lwG
theorem wX6_inTurn {R : Room} {s : State} {args : Array Value} {own : String} {idx : Nat} (hg : ∀ w ∈ lwG, w.before args s = true) (hl : Cond.methodLink own idx yX6_inTurn ∈ lwG) (hR : rmX6_inTurn.frames + 1 ≤ R.frames ∧ 8 + (1 + 11) + rmX6_inTurn.locals ≤ R.locals) : CallW R s args own RX6 idx yX6_inTurn cX6_inTurn 1 (some .int) vX6_inTurn rmX6_inTurn 0 0 0 := cwV 0 hg (gV hl q5_18 q5_19 q1_7 q5_20) rfl rfl rfl (by decide +kernel) hR
def fX6_inTurn_c10 (a : Nat) (xs0 : Int32) (h : HH) : Int32 × HH := (h (a + 1) xs0.toNatClampNeg, h)
def sX6_inTurn_c10 (a : Nat) (xs0 : Int32) (h : HH) : Prop := vp_in xs0 206
set_option maxRecDepth 100000 in
set_option maxHeartbeats 4000000 in
theorem xX6_inTurn_c10 {p : Program} {l : Launch} {e : Env} {s : State} {m : MethodId} {args : Array Value} {below : List Frame} {meth : Method} {c : Code} {X : Cx} {a : Nat} (hO : IsMo X a) (C0 : CT p s m args meth c X cX6_inTurn 1 (some .int) RX6) (xs0 : Int32) (h : HH) (H : Heap) (locs : List Loc) (ls : Array Slot) (res : Int32 × HH) (hl : lv_has ls 1 []) (hW : WH X h H) (hS : va_S (xA X) s.heap H locs) (hs : sX6_inTurn_c10 a xs0 h) (hres : fX6_inTurn_c10 a xs0 h = res) : W p l e rmX6_inTurn s m args below meth c H locs 0 0 (MQ below (QI X res.1 res.2) args s 0 0 (xA X)) (F0 m 10 ls [.int xs0, .ref (a + 1)]) := by
  obtain ⟨hx, hb, hr, hlk, hml, hown, hts, hK⟩ := id C0
  have hi1 := hs
  refine kb_iald hx hb hK hW hO.2.1 (k := xs0.toNatClampNeg) rfl hi1 dX6_inTurn_10 ?_
  subst hres
  exact kr_i hx hb hr hlk hK hW hS dX6_inTurn_11
def fX6_inTurn_c0 (a : Nat) (h : HH) : Int32 × HH := fX6_inTurn_c10 a 3 (hset h a 4 0)
def sX6_inTurn_c0 (a : Nat) (h : HH) : Prop := sX6_inTurn_c10 a 3 (hset h a 4 0)
set_option maxRecDepth 100000 in
set_option maxHeartbeats 4000000 in
theorem xX6_inTurn_c0 {p : Program} {l : Launch} {e : Env} {s : State} {m : MethodId} {args : Array Value} {below : List Frame} {meth : Method} {c : Code} {X : Cx} {a : Nat} (hO : IsMo X a) (C0 : CT p s m args meth c X cX6_inTurn 1 (some .int) RX6) (h : HH) (H : Heap) (locs : List Loc) (ls : Array Slot) (res : Int32 × HH) (hl : lv_has ls 1 [(0, .ref a)]) (hW : WH X h H) (hS : va_S (xA X) s.heap H locs) (hs : sX6_inTurn_c0 a h) (hres : fX6_inTurn_c0 a h = res) : W p l e rmX6_inTurn s m args below meth c H locs 0 0 (MQ below (QI X res.1 res.2) args s 0 0 (xA X)) (F0 m 0 ls []) := by
  obtain ⟨hx, hb, hr, hlk, hml, hown, hts, hK⟩ := id C0
  refine lv_aload_n hx hb dX6_inTurn_0 rfl (lv_at hl 0 rfl) ?_
  refine lv_iconst (v := 0) hx hb dX6_inTurn_1 (by decide) ?_
  refine p6_4 hx hb hts hown hK hW hS hO.1 (hts _ q4_53) dX6_inTurn_2 (fun H locs hW hS => ?_)
  refine lv_aload_n hx hb dX6_inTurn_5 rfl (lv_at hl 0 rfl) ?_
  refine g6_0 hx hb hts hown hK hW hO.1 (hts _ q4_49) dX6_inTurn_6 ?_
  refine lv_iconst (v := 3) hx hb dX6_inTurn_9 (by decide) ?_
  exact xX6_inTurn_c10 hO C0 3 (hset h a 4 0) _ _ _ _ (lv_sub hl [] rfl) hW hS hs hres
def fX6_inTurn (a : Nat) (h : HH) : Int32 × HH := fX6_inTurn_c0 a h
def sX6_inTurn (a : Nat) (h : HH) : Prop := sX6_inTurn_c0 a h
set_option maxRecDepth 100000 in
set_option maxHeartbeats 4000000 in
theorem kX6_inTurn (l : Launch) (X : Cx) (h : HH) (a : Nat) (hO : IsMo X a) (hs : sX6_inTurn a h) : Met l yX6_inTurn vX6_inTurn rmX6_inTurn (va_Pc [.ref a] (fun U => WS X h U)) (QI X (fX6_inTurn a h).1 (fX6_inTurn a h).2) 0 0 (xA X) := by
  refine Met.ofW (cc := cX6_inTurn) (maxL := 1) (ret := some .int) (by decide) rfl ?_
  intro p e s m args below meth c s₁ B hml hv
  obtain ⟨rfl, hW, hK⟩ := hv
  have hl := lv_entry ([.ref a]) (n := 1) (Nat.le_of_ble_eq_true rfl)
  rw [lg_entry_eq]
  generalize (lg_sl ([.ref a]) ++ List.replicate (1 - (lg_sl ([.ref a])).length) Slot.unset).toArray = ls at hl ⊢
  have hl : lv_has ls 1 [(0, .ref a)] := hl
  exact xX6_inTurn_c0 hO ⟨B.exec, B.bytes, B.returns, B.notSynchronized, hml, findClass_of_methodNamed B.named, fun w hw => atoms_spec (ws := vX6_inTurn) B.pre w (List.mem_cons_of_mem _ hw), hK⟩ h _ _ ls _ (lv_sub hl [0] rfl) hW va_S.rf hs rfl
-- VillageBoardModel.startPlayer()I
abbrev rmX6_startPlayer : Room := ({ frames := 0, cells := 0, slots := 0, locals := 0 } : Room)
abbrev vX6_startPlayer : List Cond := Cond.code yX6_startPlayer cX6_startPlayer 1 (some .int) :: lwG
theorem wX6_startPlayer {R : Room} {s : State} {args : Array Value} {own : String} {idx : Nat} (hg : ∀ w ∈ lwG, w.before args s = true) (hl : Cond.methodLink own idx yX6_startPlayer ∈ lwG) (hR : rmX6_startPlayer.frames + 1 ≤ R.frames ∧ 8 + (1 + 11) + rmX6_startPlayer.locals ≤ R.locals) : CallW R s args own RX6 idx yX6_startPlayer cX6_startPlayer 1 (some .int) vX6_startPlayer rmX6_startPlayer 0 0 0 := cwV 0 hg (gV hl q5_22 q5_23 q1_7 q5_24) rfl rfl rfl (by decide +kernel) hR
def fX6_startPlayer_c10 (a : Nat) (xs0 : Int32) (h : HH) : Int32 × HH := (h (a + 1) xs0.toNatClampNeg, h)
def sX6_startPlayer_c10 (a : Nat) (xs0 : Int32) (h : HH) : Prop := vp_in xs0 206
set_option maxRecDepth 100000 in
set_option maxHeartbeats 4000000 in
theorem xX6_startPlayer_c10 {p : Program} {l : Launch} {e : Env} {s : State} {m : MethodId} {args : Array Value} {below : List Frame} {meth : Method} {c : Code} {X : Cx} {a : Nat} (hO : IsMo X a) (C0 : CT p s m args meth c X cX6_startPlayer 1 (some .int) RX6) (xs0 : Int32) (h : HH) (H : Heap) (locs : List Loc) (ls : Array Slot) (res : Int32 × HH) (hl : lv_has ls 1 []) (hW : WH X h H) (hS : va_S (xA X) s.heap H locs) (hs : sX6_startPlayer_c10 a xs0 h) (hres : fX6_startPlayer_c10 a xs0 h = res) : W p l e rmX6_startPlayer s m args below meth c H locs 0 0 (MQ below (QI X res.1 res.2) args s 0 0 (xA X)) (F0 m 10 ls [.int xs0, .ref (a + 1)]) := by
  obtain ⟨hx, hb, hr, hlk, hml, hown, hts, hK⟩ := id C0
  have hi1 := hs
  refine kb_iald hx hb hK hW hO.2.1 (k := xs0.toNatClampNeg) rfl hi1 dX6_startPlayer_10 ?_
  subst hres
  exact kr_i hx hb hr hlk hK hW hS dX6_startPlayer_11
def fX6_startPlayer_c0 (a : Nat) (h : HH) : Int32 × HH := fX6_startPlayer_c10 a 4 (hset h a 4 0)
def sX6_startPlayer_c0 (a : Nat) (h : HH) : Prop := sX6_startPlayer_c10 a 4 (hset h a 4 0)
set_option maxRecDepth 100000 in
set_option maxHeartbeats 4000000 in
theorem xX6_startPlayer_c0 {p : Program} {l : Launch} {e : Env} {s : State} {m : MethodId} {args : Array Value} {below : List Frame} {meth : Method} {c : Code} {X : Cx} {a : Nat} (hO : IsMo X a) (C0 : CT p s m args meth c X cX6_startPlayer 1 (some .int) RX6) (h : HH) (H : Heap) (locs : List Loc) (ls : Array Slot) (res : Int32 × HH) (hl : lv_has ls 1 [(0, .ref a)]) (hW : WH X h H) (hS : va_S (xA X) s.heap H locs) (hs : sX6_startPlayer_c0 a h) (hres : fX6_startPlayer_c0 a h = res) : W p l e rmX6_startPlayer s m args below meth c H locs 0 0 (MQ below (QI X res.1 res.2) args s 0 0 (xA X)) (F0 m 0 ls []) := by
  obtain ⟨hx, hb, hr, hlk, hml, hown, hts, hK⟩ := id C0
  refine lv_aload_n hx hb dX6_startPlayer_0 rfl (lv_at hl 0 rfl) ?_
  refine lv_iconst (v := 0) hx hb dX6_startPlayer_1 (by decide) ?_
  refine p6_4 hx hb hts hown hK hW hS hO.1 (hts _ q4_53) dX6_startPlayer_2 (fun H locs hW hS => ?_)
  refine lv_aload_n hx hb dX6_startPlayer_5 rfl (lv_at hl 0 rfl) ?_
  refine g6_0 hx hb hts hown hK hW hO.1 (hts _ q4_49) dX6_startPlayer_6 ?_
  refine lv_iconst (v := 4) hx hb dX6_startPlayer_9 (by decide) ?_
  exact xX6_startPlayer_c10 hO C0 4 (hset h a 4 0) _ _ _ _ (lv_sub hl [] rfl) hW hS hs hres
def fX6_startPlayer (a : Nat) (h : HH) : Int32 × HH := fX6_startPlayer_c0 a h
def sX6_startPlayer (a : Nat) (h : HH) : Prop := sX6_startPlayer_c0 a h
set_option maxRecDepth 100000 in
set_option maxHeartbeats 4000000 in
theorem kX6_startPlayer (l : Launch) (X : Cx) (h : HH) (a : Nat) (hO : IsMo X a) (hs : sX6_startPlayer a h) : Met l yX6_startPlayer vX6_startPlayer rmX6_startPlayer (va_Pc [.ref a] (fun U => WS X h U)) (QI X (fX6_startPlayer a h).1 (fX6_startPlayer a h).2) 0 0 (xA X) := by
  refine Met.ofW (cc := cX6_startPlayer) (maxL := 1) (ret := some .int) (by decide) rfl ?_
  intro p e s m args below meth c s₁ B hml hv
  obtain ⟨rfl, hW, hK⟩ := hv
  have hl := lv_entry ([.ref a]) (n := 1) (Nat.le_of_ble_eq_true rfl)
  rw [lg_entry_eq]
  generalize (lg_sl ([.ref a]) ++ List.replicate (1 - (lg_sl ([.ref a])).length) Slot.unset).toArray = ls at hl ⊢
  have hl : lv_has ls 1 [(0, .ref a)] := hl
  exact xX6_startPlayer_c0 hO ⟨B.exec, B.bytes, B.returns, B.notSynchronized, hml, findClass_of_methodNamed B.named, fun w hw => atoms_spec (ws := vX6_startPlayer) B.pre w (List.mem_cons_of_mem _ hw), hK⟩ h _ _ ls _ (lv_sub hl [0] rfl) hW va_S.rf hs rfl
-- VillageBoardModel.goods(II)I
abbrev rmX6_goods : Room := ({ frames := 2, cells := 0, slots := 0, locals := 43 } : Room)
abbrev vX6_goods : List Cond := Cond.code yX6_goods cX6_goods 3 (some .int) :: lwG
theorem wX6_goods {R : Room} {s : State} {args : Array Value} {own : String} {idx : Nat} (hg : ∀ w ∈ lwG, w.before args s = true) (hl : Cond.methodLink own idx yX6_goods ∈ lwG) (hR : rmX6_goods.frames + 1 ≤ R.frames ∧ 8 + (3 + 11) + rmX6_goods.locals ≤ R.locals) : CallW R s args own RX6 idx yX6_goods cX6_goods 3 (some .int) vX6_goods rmX6_goods 0 0 2 := cwV 2 hg (gV hl q5_26 q5_27 q1_7 q5_28) rfl rfl rfl (by decide +kernel) hR
def fX6_goods_c30 (a : Nat) (x1 : Int32) (x2 : Int32) (xs0 : Int32) (h : HH) : Int32 × HH := if xs0 = 0 then ((fX6_get a x1 x2 h, h)) else ((0, h))
def sX6_goods_c30 (a : Nat) (x1 : Int32) (x2 : Int32) (xs0 : Int32) (h : HH) : Prop := (xs0 = 0 → (sX6_get a x1 x2 h)) ∧ (¬ (xs0 = 0) → True)
set_option maxRecDepth 100000 in
set_option maxHeartbeats 4000000 in
theorem xX6_goods_c30 {p : Program} {l : Launch} {e : Env} {s : State} {m : MethodId} {args : Array Value} {below : List Frame} {meth : Method} {c : Code} {X : Cx} {a : Nat} (hO : IsMo X a) (C0 : CT p s m args meth c X cX6_goods 3 (some .int) RX6) (x1 : Int32) (x2 : Int32) (xs0 : Int32) (h : HH) (H : Heap) (locs : List Loc) (ls : Array Slot) (res : Int32 × HH) (hl : lv_has ls 3 [(0, .ref a), (1, .int x1), (2, .int x2)]) (hW : WH X h H) (hS : va_S (xA X) s.heap H locs) (hs : sX6_goods_c30 a x1 x2 xs0 h) (hres : fX6_goods_c30 a x1 x2 xs0 h = res) : W p l e rmX6_goods s m args below meth c H locs 0 0 (MQ below (QI X res.1 res.2) args s 0 0 (xA X)) (F0 m 30 ls [.int xs0]) := by
  obtain ⟨hx, hb, hr, hlk, hml, hown, hts, hK⟩ := id C0
  refine lv_if_eq (tgt := 37) hx hb dX6_goods_30 (by decide) (fun c3 => ?_) (fun c3 => ?_)
  · have hres := (if_pos c3).symm.trans hres
    have hs := And.left hs c3
    refine lv_aload_n hx hb dX6_goods_37 rfl (lv_at hl 0 rfl) ?_
    refine lv_iload_n hx hb dX6_goods_38 rfl (lv_at hl 1 rfl) ?_
    refine lv_iload_n hx hb dX6_goods_39 rfl (lv_at hl 2 rfl) ?_
    have hc4 := hs
    refine kV_i (As := [.int x1, .int x2]) (rest := []) ⟨hx, hb, hml, hown, hts⟩ (kX6_get l X h a x1 x2 hO hc4) (wX6_get hts q4_41 ⟨Nat.le_of_ble_eq_true rfl, Nat.le_of_ble_eq_true rfl⟩) hK hW hS (va_recv hK.1 (hW.one hO.1) (ci := 6) (q0 := 0) rfl rfl) rfl hl.1 rfl (Nat.le_of_ble_eq_true rfl) dX6_goods_40 ⟨Nat.zero_le _, Nat.zero_le _⟩ (fun H locs hW hS => ?_)
    subst hres
    exact kr_i hx hb hr hlk hK hW hS dX6_goods_43
  · have hres := (if_neg c3).symm.trans hres
    have hs := And.right hs c3
    refine lv_iconst (v := 0) hx hb dX6_goods_33 (by decide) ?_
    refine lv_goto (tgt := 43) hx hb dX6_goods_34 (by decide) ?_
    subst hres
    exact kr_i hx hb hr hlk hK hW hS dX6_goods_43
def fX6_goods_c27 (a : Nat) (x1 : Int32) (x2 : Int32) (xs0 : Int32) (h : HH) : Int32 × HH := fX6_goods_c30 a x1 x2 (bI (fX6_refused a xs0 h).1) ((fX6_refused a xs0 h).2)
def sX6_goods_c27 (a : Nat) (x1 : Int32) (x2 : Int32) (xs0 : Int32) (h : HH) : Prop := sX6_goods_c30 a x1 x2 (bI (fX6_refused a xs0 h).1) ((fX6_refused a xs0 h).2)
set_option maxRecDepth 100000 in
set_option maxHeartbeats 4000000 in
theorem xX6_goods_c27 {p : Program} {l : Launch} {e : Env} {s : State} {m : MethodId} {args : Array Value} {below : List Frame} {meth : Method} {c : Code} {X : Cx} {a : Nat} (hO : IsMo X a) (C0 : CT p s m args meth c X cX6_goods 3 (some .int) RX6) (x1 : Int32) (x2 : Int32) (xs0 : Int32) (h : HH) (H : Heap) (locs : List Loc) (ls : Array Slot) (res : Int32 × HH) (hl : lv_has ls 3 [(0, .ref a), (1, .int x1), (2, .int x2)]) (hW : WH X h H) (hS : va_S (xA X) s.heap H locs) (hs : sX6_goods_c27 a x1 x2 xs0 h) (hres : fX6_goods_c27 a x1 x2 xs0 h = res) : W p l e rmX6_goods s m args below meth c H locs 0 0 (MQ below (QI X res.1 res.2) args s 0 0 (xA X)) (F0 m 27 ls [.int xs0, .ref a]) := by
  obtain ⟨hx, hb, hr, hlk, hml, hown, hts, hK⟩ := id C0
  refine kV_i (As := [.int xs0]) (rest := []) ⟨hx, hb, hml, hown, hts⟩ (kX6_refused l X h a xs0 hO) (wX6_refused hts q4_88 ⟨Nat.le_of_ble_eq_true rfl, Nat.le_of_ble_eq_true rfl⟩) hK hW hS (va_recv hK.1 (hW.one hO.1) (ci := 6) (q0 := 0) rfl rfl) rfl hl.1 rfl (Nat.le_of_ble_eq_true rfl) dX6_goods_27 ⟨Nat.zero_le _, Nat.zero_le _⟩ (fun H locs hW hS => ?_)
  exact xX6_goods_c30 hO C0 x1 x2 (bI (fX6_refused a xs0 h).1) ((fX6_refused a xs0 h).2) _ _ _ _ (lv_sub hl [0, 1, 2] rfl) hW hS hs hres
def fX6_goods_c0 (a : Nat) (x1 : Int32) (x2 : Int32) (h : HH) : Int32 × HH := if (bI (fX6_isPlayer a x1 h)) = 0 then (fX6_goods_c27 a x1 x2 1 h) else (if (bI (fX6_within x2 0 4)) = 0 then (fX6_goods_c27 a x1 x2 2 h) else (fX6_goods_c27 a x1 x2 0 h))
def sX6_goods_c0 (a : Nat) (x1 : Int32) (x2 : Int32) (h : HH) : Prop := ((bI (fX6_isPlayer a x1 h)) = 0 → (sX6_goods_c27 a x1 x2 1 h)) ∧ (¬ ((bI (fX6_isPlayer a x1 h)) = 0) → (((bI (fX6_within x2 0 4)) = 0 → (sX6_goods_c27 a x1 x2 2 h)) ∧ (¬ ((bI (fX6_within x2 0 4)) = 0) → (sX6_goods_c27 a x1 x2 0 h))))
set_option maxRecDepth 100000 in
set_option maxHeartbeats 4000000 in
theorem xX6_goods_c0 {p : Program} {l : Launch} {e : Env} {s : State} {m : MethodId} {args : Array Value} {below : List Frame} {meth : Method} {c : Code} {X : Cx} {a : Nat} (hO : IsMo X a) (C0 : CT p s m args meth c X cX6_goods 3 (some .int) RX6) (x1 : Int32) (x2 : Int32) (h : HH) (H : Heap) (locs : List Loc) (ls : Array Slot) (res : Int32 × HH) (hl : lv_has ls 3 [(0, .ref a), (1, .int x1), (2, .int x2)]) (hW : WH X h H) (hS : va_S (xA X) s.heap H locs) (hs : sX6_goods_c0 a x1 x2 h) (hres : fX6_goods_c0 a x1 x2 h = res) : W p l e rmX6_goods s m args below meth c H locs 0 0 (MQ below (QI X res.1 res.2) args s 0 0 (xA X)) (F0 m 0 ls []) := by
  obtain ⟨hx, hb, hr, hlk, hml, hown, hts, hK⟩ := id C0
  refine lv_aload_n hx hb dX6_goods_0 rfl (lv_at hl 0 rfl) ?_
  refine lv_aload_n hx hb dX6_goods_1 rfl (lv_at hl 0 rfl) ?_
  refine lv_iload_n hx hb dX6_goods_2 rfl (lv_at hl 1 rfl) ?_
  refine kV_i (As := [.int x1]) (rest := [.ref a]) ⟨hx, hb, hml, hown, hts⟩ (kX6_isPlayer l X h a x1 hO) (wX6_isPlayer hts q5_29 ⟨Nat.le_of_ble_eq_true rfl, Nat.le_of_ble_eq_true rfl⟩) hK hW hS (va_recv hK.1 (hW.one hO.1) (ci := 6) (q0 := 0) rfl rfl) rfl hl.1 rfl (Nat.le_of_ble_eq_true rfl) dX6_goods_3 ⟨Nat.zero_le _, Nat.zero_le _⟩ (fun H locs hW hS => ?_)
  refine lv_if_ne (tgt := 13) hx hb dX6_goods_6 (by decide) (fun c1 => ?_) (fun c1 => ?_)
  · have hres := (if_neg c1).symm.trans hres
    have hs := And.right hs c1
    refine lv_iload_n hx hb dX6_goods_13 rfl (lv_at hl 2 rfl) ?_
    refine lv_iconst (v := 0) hx hb dX6_goods_14 (by decide) ?_
    refine lv_iconst (v := 4) hx hb dX6_goods_15 (by decide) ?_
    refine kS_i (As := [.int x2, .int 0, .int 4]) (rest := [.ref a]) ⟨hx, hb, hml, hown, hts⟩ (kX6_within l X h x2 0 4) (wX6_within hts q4_96 ⟨Nat.le_of_ble_eq_true rfl, Nat.le_of_ble_eq_true rfl⟩) hK hW hS rfl hl.1 rfl (Nat.le_of_ble_eq_true rfl) dX6_goods_16 ⟨Nat.zero_le _, Nat.zero_le _⟩ (fun H locs hW hS => ?_)
    refine lv_if_eq (tgt := 26) hx hb dX6_goods_19 (by decide) (fun c2 => ?_) (fun c2 => ?_)
    · have hres := (if_pos c2).symm.trans hres
      have hs := And.left hs c2
      refine lv_iconst (v := 2) hx hb dX6_goods_26 (by decide) ?_
      exact xX6_goods_c27 hO C0 x1 x2 2 h _ _ _ _ (lv_sub hl [0, 1, 2] rfl) hW hS hs hres
    · have hres := (if_neg c2).symm.trans hres
      have hs := And.right hs c2
      refine lv_iconst (v := 0) hx hb dX6_goods_22 (by decide) ?_
      refine lv_goto (tgt := 27) hx hb dX6_goods_23 (by decide) ?_
      exact xX6_goods_c27 hO C0 x1 x2 0 h _ _ _ _ (lv_sub hl [0, 1, 2] rfl) hW hS hs hres
  · have hres := (if_pos c1).symm.trans hres
    have hs := And.left hs c1
    refine lv_iconst (v := 1) hx hb dX6_goods_9 (by decide) ?_
    refine lv_goto (tgt := 27) hx hb dX6_goods_10 (by decide) ?_
    exact xX6_goods_c27 hO C0 x1 x2 1 h _ _ _ _ (lv_sub hl [0, 1, 2] rfl) hW hS hs hres
def fX6_goods (a : Nat) (x1 : Int32) (x2 : Int32) (h : HH) : Int32 × HH := fX6_goods_c0 a x1 x2 h
def sX6_goods (a : Nat) (x1 : Int32) (x2 : Int32) (h : HH) : Prop := sX6_goods_c0 a x1 x2 h
set_option maxRecDepth 100000 in
set_option maxHeartbeats 4000000 in
theorem kX6_goods (l : Launch) (X : Cx) (h : HH) (a : Nat) (x1 : Int32) (x2 : Int32) (hO : IsMo X a) (hs : sX6_goods a x1 x2 h) : Met l yX6_goods vX6_goods rmX6_goods (va_Pc [.ref a, .int x1, .int x2] (fun U => WS X h U)) (QI X (fX6_goods a x1 x2 h).1 (fX6_goods a x1 x2 h).2) 0 0 (xA X) := by
  refine Met.ofW (cc := cX6_goods) (maxL := 3) (ret := some .int) (by decide) rfl ?_
  intro p e s m args below meth c s₁ B hml hv
  obtain ⟨rfl, hW, hK⟩ := hv
  have hl := lv_entry ([.ref a, .int x1, .int x2]) (n := 3) (Nat.le_of_ble_eq_true rfl)
  rw [lg_entry_eq]
  generalize (lg_sl ([.ref a, .int x1, .int x2]) ++ List.replicate (3 - (lg_sl ([.ref a, .int x1, .int x2])).length) Slot.unset).toArray = ls at hl ⊢
  have hl : lv_has ls 3 [(0, .ref a), (1, .int x1), (2, .int x2)] := hl
  exact xX6_goods_c0 hO ⟨B.exec, B.bytes, B.returns, B.notSynchronized, hml, findClass_of_methodNamed B.named, fun w hw => atoms_spec (ws := vX6_goods) B.pre w (List.mem_cons_of_mem _ hw), hK⟩ x1 x2 h _ _ ls _ (lv_sub hl [0, 1, 2] rfl) hW va_S.rf hs rfl
-- VillageBoardModel.player(II)I
abbrev rmX6_player : Room := ({ frames := 2, cells := 0, slots := 0, locals := 43 } : Room)
abbrev vX6_player : List Cond := Cond.code yX6_player cX6_player 3 (some .int) :: lwG
theorem wX6_player {R : Room} {s : State} {args : Array Value} {own : String} {idx : Nat} (hg : ∀ w ∈ lwG, w.before args s = true) (hl : Cond.methodLink own idx yX6_player ∈ lwG) (hR : rmX6_player.frames + 1 ≤ R.frames ∧ 8 + (3 + 11) + rmX6_player.locals ≤ R.locals) : CallW R s args own RX6 idx yX6_player cX6_player 3 (some .int) vX6_player rmX6_player 0 0 2 := cwV 2 hg (gV hl q5_34 q5_35 q1_7 q5_36) rfl rfl rfl (by decide +kernel) hR
def fX6_player_c30 (a : Nat) (x1 : Int32) (x2 : Int32) (xs0 : Int32) (h : HH) : Int32 × HH := if xs0 = 0 then ((fX6_get a x1 (5 + x2) h, h)) else ((0, h))
def sX6_player_c30 (a : Nat) (x1 : Int32) (x2 : Int32) (xs0 : Int32) (h : HH) : Prop := (xs0 = 0 → (sX6_get a x1 (5 + x2) h)) ∧ (¬ (xs0 = 0) → True)
set_option maxRecDepth 100000 in
set_option maxHeartbeats 4000000 in
theorem xX6_player_c30 {p : Program} {l : Launch} {e : Env} {s : State} {m : MethodId} {args : Array Value} {below : List Frame} {meth : Method} {c : Code} {X : Cx} {a : Nat} (hO : IsMo X a) (C0 : CT p s m args meth c X cX6_player 3 (some .int) RX6) (x1 : Int32) (x2 : Int32) (xs0 : Int32) (h : HH) (H : Heap) (locs : List Loc) (ls : Array Slot) (res : Int32 × HH) (hl : lv_has ls 3 [(0, .ref a), (1, .int x1), (2, .int x2)]) (hW : WH X h H) (hS : va_S (xA X) s.heap H locs) (hs : sX6_player_c30 a x1 x2 xs0 h) (hres : fX6_player_c30 a x1 x2 xs0 h = res) : W p l e rmX6_player s m args below meth c H locs 0 0 (MQ below (QI X res.1 res.2) args s 0 0 (xA X)) (F0 m 30 ls [.int xs0]) := by
  obtain ⟨hx, hb, hr, hlk, hml, hown, hts, hK⟩ := id C0
  refine lv_if_eq (tgt := 37) hx hb dX6_player_30 (by decide) (fun c3 => ?_) (fun c3 => ?_)
  · have hres := (if_pos c3).symm.trans hres
    have hs := And.left hs c3
    refine lv_aload_n hx hb dX6_player_37 rfl (lv_at hl 0 rfl) ?_
    refine lv_iload_n hx hb dX6_player_38 rfl (lv_at hl 1 rfl) ?_
    refine lv_iconst (v := 5) hx hb dX6_player_39 (by decide) ?_
    refine lv_iload_n hx hb dX6_player_40 rfl (lv_at hl 2 rfl) ?_
    refine lv_iadd hx hb dX6_player_41 ?_
    have hc4 := hs
    refine kV_i (As := [.int x1, .int (5 + x2)]) (rest := []) ⟨hx, hb, hml, hown, hts⟩ (kX6_get l X h a x1 (5 + x2) hO hc4) (wX6_get hts q4_41 ⟨Nat.le_of_ble_eq_true rfl, Nat.le_of_ble_eq_true rfl⟩) hK hW hS (va_recv hK.1 (hW.one hO.1) (ci := 6) (q0 := 0) rfl rfl) rfl hl.1 rfl (Nat.le_of_ble_eq_true rfl) dX6_player_42 ⟨Nat.zero_le _, Nat.zero_le _⟩ (fun H locs hW hS => ?_)
    subst hres
    exact kr_i hx hb hr hlk hK hW hS dX6_player_45
  · have hres := (if_neg c3).symm.trans hres
    have hs := And.right hs c3
    refine lv_iconst (v := 0) hx hb dX6_player_33 (by decide) ?_
    refine lv_goto (tgt := 45) hx hb dX6_player_34 (by decide) ?_
    subst hres
    exact kr_i hx hb hr hlk hK hW hS dX6_player_45
def fX6_player_c27 (a : Nat) (x1 : Int32) (x2 : Int32) (xs0 : Int32) (h : HH) : Int32 × HH := fX6_player_c30 a x1 x2 (bI (fX6_refused a xs0 h).1) ((fX6_refused a xs0 h).2)
def sX6_player_c27 (a : Nat) (x1 : Int32) (x2 : Int32) (xs0 : Int32) (h : HH) : Prop := sX6_player_c30 a x1 x2 (bI (fX6_refused a xs0 h).1) ((fX6_refused a xs0 h).2)
set_option maxRecDepth 100000 in
set_option maxHeartbeats 4000000 in
theorem xX6_player_c27 {p : Program} {l : Launch} {e : Env} {s : State} {m : MethodId} {args : Array Value} {below : List Frame} {meth : Method} {c : Code} {X : Cx} {a : Nat} (hO : IsMo X a) (C0 : CT p s m args meth c X cX6_player 3 (some .int) RX6) (x1 : Int32) (x2 : Int32) (xs0 : Int32) (h : HH) (H : Heap) (locs : List Loc) (ls : Array Slot) (res : Int32 × HH) (hl : lv_has ls 3 [(0, .ref a), (1, .int x1), (2, .int x2)]) (hW : WH X h H) (hS : va_S (xA X) s.heap H locs) (hs : sX6_player_c27 a x1 x2 xs0 h) (hres : fX6_player_c27 a x1 x2 xs0 h = res) : W p l e rmX6_player s m args below meth c H locs 0 0 (MQ below (QI X res.1 res.2) args s 0 0 (xA X)) (F0 m 27 ls [.int xs0, .ref a]) := by
  obtain ⟨hx, hb, hr, hlk, hml, hown, hts, hK⟩ := id C0
  refine kV_i (As := [.int xs0]) (rest := []) ⟨hx, hb, hml, hown, hts⟩ (kX6_refused l X h a xs0 hO) (wX6_refused hts q4_88 ⟨Nat.le_of_ble_eq_true rfl, Nat.le_of_ble_eq_true rfl⟩) hK hW hS (va_recv hK.1 (hW.one hO.1) (ci := 6) (q0 := 0) rfl rfl) rfl hl.1 rfl (Nat.le_of_ble_eq_true rfl) dX6_player_27 ⟨Nat.zero_le _, Nat.zero_le _⟩ (fun H locs hW hS => ?_)
  exact xX6_player_c30 hO C0 x1 x2 (bI (fX6_refused a xs0 h).1) ((fX6_refused a xs0 h).2) _ _ _ _ (lv_sub hl [0, 1, 2] rfl) hW hS hs hres
def fX6_player_c0 (a : Nat) (x1 : Int32) (x2 : Int32) (h : HH) : Int32 × HH := if (bI (fX6_isPlayer a x1 h)) = 0 then (fX6_player_c27 a x1 x2 1 h) else (if (bI (fX6_within x2 0 5)) = 0 then (fX6_player_c27 a x1 x2 2 h) else (fX6_player_c27 a x1 x2 0 h))
def sX6_player_c0 (a : Nat) (x1 : Int32) (x2 : Int32) (h : HH) : Prop := ((bI (fX6_isPlayer a x1 h)) = 0 → (sX6_player_c27 a x1 x2 1 h)) ∧ (¬ ((bI (fX6_isPlayer a x1 h)) = 0) → (((bI (fX6_within x2 0 5)) = 0 → (sX6_player_c27 a x1 x2 2 h)) ∧ (¬ ((bI (fX6_within x2 0 5)) = 0) → (sX6_player_c27 a x1 x2 0 h))))
set_option maxRecDepth 100000 in
set_option maxHeartbeats 4000000 in
theorem xX6_player_c0 {p : Program} {l : Launch} {e : Env} {s : State} {m : MethodId} {args : Array Value} {below : List Frame} {meth : Method} {c : Code} {X : Cx} {a : Nat} (hO : IsMo X a) (C0 : CT p s m args meth c X cX6_player 3 (some .int) RX6) (x1 : Int32) (x2 : Int32) (h : HH) (H : Heap) (locs : List Loc) (ls : Array Slot) (res : Int32 × HH) (hl : lv_has ls 3 [(0, .ref a), (1, .int x1), (2, .int x2)]) (hW : WH X h H) (hS : va_S (xA X) s.heap H locs) (hs : sX6_player_c0 a x1 x2 h) (hres : fX6_player_c0 a x1 x2 h = res) : W p l e rmX6_player s m args below meth c H locs 0 0 (MQ below (QI X res.1 res.2) args s 0 0 (xA X)) (F0 m 0 ls []) := by
  obtain ⟨hx, hb, hr, hlk, hml, hown, hts, hK⟩ := id C0
  refine lv_aload_n hx hb dX6_player_0 rfl (lv_at hl 0 rfl) ?_
  refine lv_aload_n hx hb dX6_player_1 rfl (lv_at hl 0 rfl) ?_
  refine lv_iload_n hx hb dX6_player_2 rfl (lv_at hl 1 rfl) ?_
  refine kV_i (As := [.int x1]) (rest := [.ref a]) ⟨hx, hb, hml, hown, hts⟩ (kX6_isPlayer l X h a x1 hO) (wX6_isPlayer hts q5_29 ⟨Nat.le_of_ble_eq_true rfl, Nat.le_of_ble_eq_true rfl⟩) hK hW hS (va_recv hK.1 (hW.one hO.1) (ci := 6) (q0 := 0) rfl rfl) rfl hl.1 rfl (Nat.le_of_ble_eq_true rfl) dX6_player_3 ⟨Nat.zero_le _, Nat.zero_le _⟩ (fun H locs hW hS => ?_)
  refine lv_if_ne (tgt := 13) hx hb dX6_player_6 (by decide) (fun c1 => ?_) (fun c1 => ?_)
  · have hres := (if_neg c1).symm.trans hres
    have hs := And.right hs c1
    refine lv_iload_n hx hb dX6_player_13 rfl (lv_at hl 2 rfl) ?_
    refine lv_iconst (v := 0) hx hb dX6_player_14 (by decide) ?_
    refine lv_iconst (v := 5) hx hb dX6_player_15 (by decide) ?_
    refine kS_i (As := [.int x2, .int 0, .int 5]) (rest := [.ref a]) ⟨hx, hb, hml, hown, hts⟩ (kX6_within l X h x2 0 5) (wX6_within hts q4_96 ⟨Nat.le_of_ble_eq_true rfl, Nat.le_of_ble_eq_true rfl⟩) hK hW hS rfl hl.1 rfl (Nat.le_of_ble_eq_true rfl) dX6_player_16 ⟨Nat.zero_le _, Nat.zero_le _⟩ (fun H locs hW hS => ?_)
    refine lv_if_eq (tgt := 26) hx hb dX6_player_19 (by decide) (fun c2 => ?_) (fun c2 => ?_)
    · have hres := (if_pos c2).symm.trans hres
      have hs := And.left hs c2
      refine lv_iconst (v := 2) hx hb dX6_player_26 (by decide) ?_
      exact xX6_player_c27 hO C0 x1 x2 2 h _ _ _ _ (lv_sub hl [0, 1, 2] rfl) hW hS hs hres
    · have hres := (if_neg c2).symm.trans hres
      have hs := And.right hs c2
      refine lv_iconst (v := 0) hx hb dX6_player_22 (by decide) ?_
      refine lv_goto (tgt := 27) hx hb dX6_player_23 (by decide) ?_
      exact xX6_player_c27 hO C0 x1 x2 0 h _ _ _ _ (lv_sub hl [0, 1, 2] rfl) hW hS hs hres
  · have hres := (if_pos c1).symm.trans hres
    have hs := And.left hs c1
    refine lv_iconst (v := 1) hx hb dX6_player_9 (by decide) ?_
    refine lv_goto (tgt := 27) hx hb dX6_player_10 (by decide) ?_
    exact xX6_player_c27 hO C0 x1 x2 1 h _ _ _ _ (lv_sub hl [0, 1, 2] rfl) hW hS hs hres
def fX6_player (a : Nat) (x1 : Int32) (x2 : Int32) (h : HH) : Int32 × HH := fX6_player_c0 a x1 x2 h
def sX6_player (a : Nat) (x1 : Int32) (x2 : Int32) (h : HH) : Prop := sX6_player_c0 a x1 x2 h
set_option maxRecDepth 100000 in
set_option maxHeartbeats 4000000 in
theorem kX6_player (l : Launch) (X : Cx) (h : HH) (a : Nat) (x1 : Int32) (x2 : Int32) (hO : IsMo X a) (hs : sX6_player a x1 x2 h) : Met l yX6_player vX6_player rmX6_player (va_Pc [.ref a, .int x1, .int x2] (fun U => WS X h U)) (QI X (fX6_player a x1 x2 h).1 (fX6_player a x1 x2 h).2) 0 0 (xA X) := by
  refine Met.ofW (cc := cX6_player) (maxL := 3) (ret := some .int) (by decide) rfl ?_
  intro p e s m args below meth c s₁ B hml hv
  obtain ⟨rfl, hW, hK⟩ := hv
  have hl := lv_entry ([.ref a, .int x1, .int x2]) (n := 3) (Nat.le_of_ble_eq_true rfl)
  rw [lg_entry_eq]
  generalize (lg_sl ([.ref a, .int x1, .int x2]) ++ List.replicate (3 - (lg_sl ([.ref a, .int x1, .int x2])).length) Slot.unset).toArray = ls at hl ⊢
  have hl : lv_has ls 3 [(0, .ref a), (1, .int x1), (2, .int x2)] := hl
  exact xX6_player_c0 hO ⟨B.exec, B.bytes, B.returns, B.notSynchronized, hml, findClass_of_methodNamed B.named, fun w hw => atoms_spec (ws := vX6_player) B.pre w (List.mem_cons_of_mem _ hw), hK⟩ x1 x2 h _ _ ls _ (lv_sub hl [0, 1, 2] rfl) hW va_S.rf hs rfl
-- VillageBoardModel.owner(I)I
abbrev rmX6_owner : Room := ({ frames := 4, cells := 0, slots := 0, locals := 88 } : Room)
abbrev vX6_owner : List Cond := Cond.code yX6_owner cX6_owner 2 (some .int) :: lwG
theorem wX6_owner {R : Room} {s : State} {args : Array Value} {own : String} {idx : Nat} (hg : ∀ w ∈ lwG, w.before args s = true) (hl : Cond.methodLink own idx yX6_owner ∈ lwG) (hR : rmX6_owner.frames + 1 ≤ R.frames ∧ 8 + (2 + 11) + rmX6_owner.locals ≤ R.locals) : CallW R s args own RX6 idx yX6_owner cX6_owner 2 (some .int) vX6_owner rmX6_owner 0 0 1 := cwV 1 hg (gV hl q5_38 q5_39 q1_7 q5_40) rfl rfl rfl (by decide +kernel) hR
def fX6_owner_c19 (a : Nat) (x1 : Int32) (xs0 : Int32) (h : HH) : Int32 × HH := if xs0 = 0 then ((fX6_ownerOf a x1 h, h)) else ((0, h))
def sX6_owner_c19 (a : Nat) (x1 : Int32) (xs0 : Int32) (h : HH) : Prop := (xs0 = 0 → (sX6_ownerOf a x1 h)) ∧ (¬ (xs0 = 0) → True)
set_option maxRecDepth 100000 in
set_option maxHeartbeats 4000000 in
theorem xX6_owner_c19 {p : Program} {l : Launch} {e : Env} {s : State} {m : MethodId} {args : Array Value} {below : List Frame} {meth : Method} {c : Code} {X : Cx} {a : Nat} (hO : IsMo X a) (C0 : CT p s m args meth c X cX6_owner 2 (some .int) RX6) (x1 : Int32) (xs0 : Int32) (h : HH) (H : Heap) (locs : List Loc) (ls : Array Slot) (res : Int32 × HH) (hl : lv_has ls 2 [(0, .ref a), (1, .int x1)]) (hW : WH X h H) (hS : va_S (xA X) s.heap H locs) (hs : sX6_owner_c19 a x1 xs0 h) (hres : fX6_owner_c19 a x1 xs0 h = res) : W p l e rmX6_owner s m args below meth c H locs 0 0 (MQ below (QI X res.1 res.2) args s 0 0 (xA X)) (F0 m 19 ls [.int xs0]) := by
  obtain ⟨hx, hb, hr, hlk, hml, hown, hts, hK⟩ := id C0
  refine lv_if_eq (tgt := 26) hx hb dX6_owner_19 (by decide) (fun c2 => ?_) (fun c2 => ?_)
  · have hres := (if_pos c2).symm.trans hres
    have hs := And.left hs c2
    refine lv_aload_n hx hb dX6_owner_26 rfl (lv_at hl 0 rfl) ?_
    refine lv_iload_n hx hb dX6_owner_27 rfl (lv_at hl 1 rfl) ?_
    have hc3 := hs
    refine kV_i (As := [.int x1]) (rest := []) ⟨hx, hb, hml, hown, hts⟩ (kX6_ownerOf l X h a x1 hO hc3) (wX6_ownerOf hts q4_142 ⟨Nat.le_of_ble_eq_true rfl, Nat.le_of_ble_eq_true rfl⟩) hK hW hS (va_recv hK.1 (hW.one hO.1) (ci := 6) (q0 := 0) rfl rfl) rfl hl.1 rfl (Nat.le_of_ble_eq_true rfl) dX6_owner_28 ⟨Nat.zero_le _, Nat.zero_le _⟩ (fun H locs hW hS => ?_)
    subst hres
    exact kr_i hx hb hr hlk hK hW hS dX6_owner_31
  · have hres := (if_neg c2).symm.trans hres
    have hs := And.right hs c2
    refine lv_iconst (v := 0) hx hb dX6_owner_22 (by decide) ?_
    refine lv_goto (tgt := 31) hx hb dX6_owner_23 (by decide) ?_
    subst hres
    exact kr_i hx hb hr hlk hK hW hS dX6_owner_31
def fX6_owner_c16 (a : Nat) (x1 : Int32) (xs0 : Int32) (h : HH) : Int32 × HH := fX6_owner_c19 a x1 (bI (fX6_refused a xs0 h).1) ((fX6_refused a xs0 h).2)
def sX6_owner_c16 (a : Nat) (x1 : Int32) (xs0 : Int32) (h : HH) : Prop := sX6_owner_c19 a x1 (bI (fX6_refused a xs0 h).1) ((fX6_refused a xs0 h).2)
set_option maxRecDepth 100000 in
set_option maxHeartbeats 4000000 in
theorem xX6_owner_c16 {p : Program} {l : Launch} {e : Env} {s : State} {m : MethodId} {args : Array Value} {below : List Frame} {meth : Method} {c : Code} {X : Cx} {a : Nat} (hO : IsMo X a) (C0 : CT p s m args meth c X cX6_owner 2 (some .int) RX6) (x1 : Int32) (xs0 : Int32) (h : HH) (H : Heap) (locs : List Loc) (ls : Array Slot) (res : Int32 × HH) (hl : lv_has ls 2 [(0, .ref a), (1, .int x1)]) (hW : WH X h H) (hS : va_S (xA X) s.heap H locs) (hs : sX6_owner_c16 a x1 xs0 h) (hres : fX6_owner_c16 a x1 xs0 h = res) : W p l e rmX6_owner s m args below meth c H locs 0 0 (MQ below (QI X res.1 res.2) args s 0 0 (xA X)) (F0 m 16 ls [.int xs0, .ref a]) := by
  obtain ⟨hx, hb, hr, hlk, hml, hown, hts, hK⟩ := id C0
  refine kV_i (As := [.int xs0]) (rest := []) ⟨hx, hb, hml, hown, hts⟩ (kX6_refused l X h a xs0 hO) (wX6_refused hts q4_88 ⟨Nat.le_of_ble_eq_true rfl, Nat.le_of_ble_eq_true rfl⟩) hK hW hS (va_recv hK.1 (hW.one hO.1) (ci := 6) (q0 := 0) rfl rfl) rfl hl.1 rfl (Nat.le_of_ble_eq_true rfl) dX6_owner_16 ⟨Nat.zero_le _, Nat.zero_le _⟩ (fun H locs hW hS => ?_)
  exact xX6_owner_c19 hO C0 x1 (bI (fX6_refused a xs0 h).1) ((fX6_refused a xs0 h).2) _ _ _ _ (lv_sub hl [0, 1] rfl) hW hS hs hres
def fX6_owner_c0 (a : Nat) (x1 : Int32) (h : HH) : Int32 × HH := if (bI (fX6_within x1 0 7)) = 0 then (fX6_owner_c16 a x1 1 h) else (fX6_owner_c16 a x1 0 h)
def sX6_owner_c0 (a : Nat) (x1 : Int32) (h : HH) : Prop := ((bI (fX6_within x1 0 7)) = 0 → (sX6_owner_c16 a x1 1 h)) ∧ (¬ ((bI (fX6_within x1 0 7)) = 0) → (sX6_owner_c16 a x1 0 h))
set_option maxRecDepth 100000 in
set_option maxHeartbeats 4000000 in
theorem xX6_owner_c0 {p : Program} {l : Launch} {e : Env} {s : State} {m : MethodId} {args : Array Value} {below : List Frame} {meth : Method} {c : Code} {X : Cx} {a : Nat} (hO : IsMo X a) (C0 : CT p s m args meth c X cX6_owner 2 (some .int) RX6) (x1 : Int32) (h : HH) (H : Heap) (locs : List Loc) (ls : Array Slot) (res : Int32 × HH) (hl : lv_has ls 2 [(0, .ref a), (1, .int x1)]) (hW : WH X h H) (hS : va_S (xA X) s.heap H locs) (hs : sX6_owner_c0 a x1 h) (hres : fX6_owner_c0 a x1 h = res) : W p l e rmX6_owner s m args below meth c H locs 0 0 (MQ below (QI X res.1 res.2) args s 0 0 (xA X)) (F0 m 0 ls []) := by
  obtain ⟨hx, hb, hr, hlk, hml, hown, hts, hK⟩ := id C0
  refine lv_aload_n hx hb dX6_owner_0 rfl (lv_at hl 0 rfl) ?_
  refine lv_iload_n hx hb dX6_owner_1 rfl (lv_at hl 1 rfl) ?_
  refine lv_iconst (v := 0) hx hb dX6_owner_2 (by decide) ?_
  refine lv_bipush (v := 7) hx hb dX6_owner_3 (by decide) ?_
  refine kS_i (As := [.int x1, .int 0, .int 7]) (rest := [.ref a]) ⟨hx, hb, hml, hown, hts⟩ (kX6_within l X h x1 0 7) (wX6_within hts q4_96 ⟨Nat.le_of_ble_eq_true rfl, Nat.le_of_ble_eq_true rfl⟩) hK hW hS rfl hl.1 rfl (Nat.le_of_ble_eq_true rfl) dX6_owner_5 ⟨Nat.zero_le _, Nat.zero_le _⟩ (fun H locs hW hS => ?_)
  refine lv_if_eq (tgt := 15) hx hb dX6_owner_8 (by decide) (fun c1 => ?_) (fun c1 => ?_)
  · have hres := (if_pos c1).symm.trans hres
    have hs := And.left hs c1
    refine lv_iconst (v := 1) hx hb dX6_owner_15 (by decide) ?_
    exact xX6_owner_c16 hO C0 x1 1 h _ _ _ _ (lv_sub hl [0, 1] rfl) hW hS hs hres
  · have hres := (if_neg c1).symm.trans hres
    have hs := And.right hs c1
    refine lv_iconst (v := 0) hx hb dX6_owner_11 (by decide) ?_
    refine lv_goto (tgt := 16) hx hb dX6_owner_12 (by decide) ?_
    exact xX6_owner_c16 hO C0 x1 0 h _ _ _ _ (lv_sub hl [0, 1] rfl) hW hS hs hres
def fX6_owner (a : Nat) (x1 : Int32) (h : HH) : Int32 × HH := fX6_owner_c0 a x1 h
def sX6_owner (a : Nat) (x1 : Int32) (h : HH) : Prop := sX6_owner_c0 a x1 h
set_option maxRecDepth 100000 in
set_option maxHeartbeats 4000000 in
theorem kX6_owner (l : Launch) (X : Cx) (h : HH) (a : Nat) (x1 : Int32) (hO : IsMo X a) (hs : sX6_owner a x1 h) : Met l yX6_owner vX6_owner rmX6_owner (va_Pc [.ref a, .int x1] (fun U => WS X h U)) (QI X (fX6_owner a x1 h).1 (fX6_owner a x1 h).2) 0 0 (xA X) := by
  refine Met.ofW (cc := cX6_owner) (maxL := 2) (ret := some .int) (by decide) rfl ?_
  intro p e s m args below meth c s₁ B hml hv
  obtain ⟨rfl, hW, hK⟩ := hv
  have hl := lv_entry ([.ref a, .int x1]) (n := 2) (Nat.le_of_ble_eq_true rfl)
  rw [lg_entry_eq]
  generalize (lg_sl ([.ref a, .int x1]) ++ List.replicate (2 - (lg_sl ([.ref a, .int x1])).length) Slot.unset).toArray = ls at hl ⊢
  have hl : lv_has ls 2 [(0, .ref a), (1, .int x1)] := hl
  exact xX6_owner_c0 hO ⟨B.exec, B.bytes, B.returns, B.notSynchronized, hml, findClass_of_methodNamed B.named, fun w hw => atoms_spec (ws := vX6_owner) B.pre w (List.mem_cons_of_mem _ hw), hK⟩ x1 h _ _ ls _ (lv_sub hl [0, 1] rfl) hW va_S.rf hs rfl
-- VillageBoardModel.tellSpace(II)I
abbrev rmX6_tellSpace : Room := ({ frames := 1, cells := 0, slots := 0, locals := 21 } : Room)
abbrev vX6_tellSpace : List Cond := Cond.code yX6_tellSpace cX6_tellSpace 3 (some .int) :: lwG
theorem wX6_tellSpace {R : Room} {s : State} {args : Array Value} {own : String} {idx : Nat} (hg : ∀ w ∈ lwG, w.before args s = true) (hl : Cond.methodLink own idx yX6_tellSpace ∈ lwG) (hR : rmX6_tellSpace.frames + 1 ≤ R.frames ∧ 8 + (3 + 11) + rmX6_tellSpace.locals ≤ R.locals) : CallW R s args own RX6 idx yX6_tellSpace cX6_tellSpace 3 (some .int) vX6_tellSpace rmX6_tellSpace 0 0 2 := cwV 2 hg (gV hl q5_47 q0_53 q1_7 q5_48) rfl rfl rfl (by decide +kernel) hR
def fX6_tellSpace_c0 (a : Nat) (x1 : Int32) (x2 : Int32) (h : HH) : Int32 := if x2 = 0 then (h (a + 1) ((fX6_spaceAt x1 0).toNatClampNeg)) else (if x2 = 1 then (h (a + 1) ((fX6_spaceAt x1 1).toNatClampNeg)) else (if x2 = 2 then (fX6_placesOf x1) else (h (a + 1) ((fX6_spaceAt x1 2).toNatClampNeg))))
def sX6_tellSpace_c0 (a : Nat) (x1 : Int32) (x2 : Int32) (h : HH) : Prop := (x2 = 0 → (vp_in (fX6_spaceAt x1 0) 206)) ∧ (¬ (x2 = 0) → ((x2 = 1 → (vp_in (fX6_spaceAt x1 1) 206)) ∧ (¬ (x2 = 1) → ((x2 = 2 → True) ∧ (¬ (x2 = 2) → (vp_in (fX6_spaceAt x1 2) 206))))))
set_option maxRecDepth 100000 in
set_option maxHeartbeats 4000000 in
theorem xX6_tellSpace_c0 {p : Program} {l : Launch} {e : Env} {s : State} {m : MethodId} {args : Array Value} {below : List Frame} {meth : Method} {c : Code} {X : Cx} {a : Nat} (hO : IsMo X a) (C0 : CT p s m args meth c X cX6_tellSpace 3 (some .int) RX6) (x1 : Int32) (x2 : Int32) (h : HH) (H : Heap) (locs : List Loc) (ls : Array Slot) (res : Int32) (hl : lv_has ls 3 [(0, .ref a), (1, .int x1), (2, .int x2)]) (hW : WH X h H) (hS : va_S (xA X) s.heap H locs) (hs : sX6_tellSpace_c0 a x1 x2 h) (hres : fX6_tellSpace_c0 a x1 x2 h = res) : W p l e rmX6_tellSpace s m args below meth c H locs 0 0 (MQ below (QI X res h) args s 0 0 (xA X)) (F0 m 0 ls []) := by
  obtain ⟨hx, hb, hr, hlk, hml, hown, hts, hK⟩ := id C0
  refine lv_iload_n hx hb dX6_tellSpace_0 rfl (lv_at hl 2 rfl) ?_
  by_cases c1 : x2 = 0
  · have hres := (if_pos c1).symm.trans hres
    have hs := And.left hs c1
    refine ksw_in (tgt := 28) hx hb 0 c1 dX6_tellSpace_1 (by decide) (by decide) rfl (by decide) ?_
    refine lv_aload_n hx hb dX6_tellSpace_28 rfl (lv_at hl 0 rfl) ?_
    refine g6_0 hx hb hts hown hK hW hO.1 (hts _ q4_49) dX6_tellSpace_29 ?_
    refine lv_iload_n hx hb dX6_tellSpace_32 rfl (lv_at hl 1 rfl) ?_
    refine lv_iconst (v := 0) hx hb dX6_tellSpace_33 (by decide) ?_
    refine kS_i (As := [.int x1, .int 0]) (rest := [.ref (a + 1)]) ⟨hx, hb, hml, hown, hts⟩ (kX6_spaceAt l X h x1 0) (wX6_spaceAt hts q4_34 ⟨Nat.le_of_ble_eq_true rfl, Nat.le_of_ble_eq_true rfl⟩) hK hW hS rfl hl.1 rfl (Nat.le_of_ble_eq_true rfl) dX6_tellSpace_34 ⟨Nat.zero_le _, Nat.zero_le _⟩ (fun H locs hW hS => ?_)
    have hi2 := hs
    refine kb_iald hx hb hK hW hO.2.1 (k := (fX6_spaceAt x1 0).toNatClampNeg) rfl hi2 dX6_tellSpace_37 ?_
    subst hres
    exact kr_i hx hb hr hlk hK hW hS dX6_tellSpace_38
  · have hres := (if_neg c1).symm.trans hres
    have hs := And.right hs c1
    by_cases c3 : x2 = 1
    · have hres := (if_pos c3).symm.trans hres
      have hs := And.left hs c3
      refine ksw_in (tgt := 39) hx hb 1 c3 dX6_tellSpace_1 (by decide) (by decide) rfl (by decide) ?_
      refine lv_aload_n hx hb dX6_tellSpace_39 rfl (lv_at hl 0 rfl) ?_
      refine g6_0 hx hb hts hown hK hW hO.1 (hts _ q4_49) dX6_tellSpace_40 ?_
      refine lv_iload_n hx hb dX6_tellSpace_43 rfl (lv_at hl 1 rfl) ?_
      refine lv_iconst (v := 1) hx hb dX6_tellSpace_44 (by decide) ?_
      refine kS_i (As := [.int x1, .int 1]) (rest := [.ref (a + 1)]) ⟨hx, hb, hml, hown, hts⟩ (kX6_spaceAt l X h x1 1) (wX6_spaceAt hts q4_34 ⟨Nat.le_of_ble_eq_true rfl, Nat.le_of_ble_eq_true rfl⟩) hK hW hS rfl hl.1 rfl (Nat.le_of_ble_eq_true rfl) dX6_tellSpace_45 ⟨Nat.zero_le _, Nat.zero_le _⟩ (fun H locs hW hS => ?_)
      have hi4 := hs
      refine kb_iald hx hb hK hW hO.2.1 (k := (fX6_spaceAt x1 1).toNatClampNeg) rfl hi4 dX6_tellSpace_48 ?_
      subst hres
      exact kr_i hx hb hr hlk hK hW hS dX6_tellSpace_49
    · have hres := (if_neg c3).symm.trans hres
      have hs := And.right hs c3
      by_cases c5 : x2 = 2
      · have hres := (if_pos c5).symm.trans hres
        have hs := And.left hs c5
        refine ksw_in (tgt := 50) hx hb 2 c5 dX6_tellSpace_1 (by decide) (by decide) rfl (by decide) ?_
        refine lv_iload_n hx hb dX6_tellSpace_50 rfl (lv_at hl 1 rfl) ?_
        refine kS_i (As := [.int x1]) (rest := []) ⟨hx, hb, hml, hown, hts⟩ (kX6_placesOf l X h x1) (wX6_placesOf hts q4_118 ⟨Nat.le_of_ble_eq_true rfl, Nat.le_of_ble_eq_true rfl⟩) hK hW hS rfl hl.1 rfl (Nat.le_of_ble_eq_true rfl) dX6_tellSpace_51 ⟨Nat.zero_le _, Nat.zero_le _⟩ (fun H locs hW hS => ?_)
        subst hres
        exact kr_i hx hb hr hlk hK hW hS dX6_tellSpace_54
      · have hres := (if_neg c5).symm.trans hres
        have hs := And.right hs c5
        refine lv_tableOut (tgt := 55) hx hb dX6_tellSpace_1 (by have := lv_neT (a := 0) c1 (by decide); have := lv_neT (a := 1) c3 (by decide); have := lv_neT (a := 2) c5 (by decide); omega) (by decide) ?_
        refine lv_aload_n hx hb dX6_tellSpace_55 rfl (lv_at hl 0 rfl) ?_
        refine g6_0 hx hb hts hown hK hW hO.1 (hts _ q4_49) dX6_tellSpace_56 ?_
        refine lv_iload_n hx hb dX6_tellSpace_59 rfl (lv_at hl 1 rfl) ?_
        refine lv_iconst (v := 2) hx hb dX6_tellSpace_60 (by decide) ?_
        refine kS_i (As := [.int x1, .int 2]) (rest := [.ref (a + 1)]) ⟨hx, hb, hml, hown, hts⟩ (kX6_spaceAt l X h x1 2) (wX6_spaceAt hts q4_34 ⟨Nat.le_of_ble_eq_true rfl, Nat.le_of_ble_eq_true rfl⟩) hK hW hS rfl hl.1 rfl (Nat.le_of_ble_eq_true rfl) dX6_tellSpace_61 ⟨Nat.zero_le _, Nat.zero_le _⟩ (fun H locs hW hS => ?_)
        have hi6 := hs
        refine kb_iald hx hb hK hW hO.2.1 (k := (fX6_spaceAt x1 2).toNatClampNeg) rfl hi6 dX6_tellSpace_64 ?_
        subst hres
        exact kr_i hx hb hr hlk hK hW hS dX6_tellSpace_65
def fX6_tellSpace (a : Nat) (x1 : Int32) (x2 : Int32) (h : HH) : Int32 := fX6_tellSpace_c0 a x1 x2 h
def sX6_tellSpace (a : Nat) (x1 : Int32) (x2 : Int32) (h : HH) : Prop := sX6_tellSpace_c0 a x1 x2 h
set_option maxRecDepth 100000 in
set_option maxHeartbeats 4000000 in
theorem kX6_tellSpace (l : Launch) (X : Cx) (h : HH) (a : Nat) (x1 : Int32) (x2 : Int32) (hO : IsMo X a) (hs : sX6_tellSpace a x1 x2 h) : Met l yX6_tellSpace vX6_tellSpace rmX6_tellSpace (va_Pc [.ref a, .int x1, .int x2] (fun U => WS X h U)) (QI X (fX6_tellSpace a x1 x2 h) h) 0 0 (xA X) := by
  refine Met.ofW (cc := cX6_tellSpace) (maxL := 3) (ret := some .int) (by decide) rfl ?_
  intro p e s m args below meth c s₁ B hml hv
  obtain ⟨rfl, hW, hK⟩ := hv
  have hl := lv_entry ([.ref a, .int x1, .int x2]) (n := 3) (Nat.le_of_ble_eq_true rfl)
  rw [lg_entry_eq]
  generalize (lg_sl ([.ref a, .int x1, .int x2]) ++ List.replicate (3 - (lg_sl ([.ref a, .int x1, .int x2])).length) Slot.unset).toArray = ls at hl ⊢
  have hl : lv_has ls 3 [(0, .ref a), (1, .int x1), (2, .int x2)] := hl
  exact xX6_tellSpace_c0 hO ⟨B.exec, B.bytes, B.returns, B.notSynchronized, hml, findClass_of_methodNamed B.named, fun w hw => atoms_spec (ws := vX6_tellSpace) B.pre w (List.mem_cons_of_mem _ hw), hK⟩ x1 x2 h _ _ ls _ (lv_sub hl [0, 1, 2] rfl) hW va_S.rf hs rfl
-- VillageBoardModel.space(II)I
abbrev rmX6_space : Room := ({ frames := 2, cells := 0, slots := 0, locals := 43 } : Room)
abbrev vX6_space : List Cond := Cond.code yX6_space cX6_space 3 (some .int) :: lwG
theorem wX6_space {R : Room} {s : State} {args : Array Value} {own : String} {idx : Nat} (hg : ∀ w ∈ lwG, w.before args s = true) (hl : Cond.methodLink own idx yX6_space ∈ lwG) (hR : rmX6_space.frames + 1 ≤ R.frames ∧ 8 + (3 + 11) + rmX6_space.locals ≤ R.locals) : CallW R s args own RX6 idx yX6_space cX6_space 3 (some .int) vX6_space rmX6_space 0 0 2 := cwV 2 hg (gV hl q5_42 q5_43 q1_7 q5_44) rfl rfl rfl (by decide +kernel) hR
def fX6_space_c29 (a : Nat) (x1 : Int32) (x2 : Int32) (xs0 : Int32) (h : HH) : Int32 × HH := if xs0 = 0 then ((fX6_tellSpace a x1 x2 h, h)) else ((0, h))
def sX6_space_c29 (a : Nat) (x1 : Int32) (x2 : Int32) (xs0 : Int32) (h : HH) : Prop := (xs0 = 0 → (sX6_tellSpace a x1 x2 h)) ∧ (¬ (xs0 = 0) → True)
set_option maxRecDepth 100000 in
set_option maxHeartbeats 4000000 in
theorem xX6_space_c29 {p : Program} {l : Launch} {e : Env} {s : State} {m : MethodId} {args : Array Value} {below : List Frame} {meth : Method} {c : Code} {X : Cx} {a : Nat} (hO : IsMo X a) (C0 : CT p s m args meth c X cX6_space 3 (some .int) RX6) (x1 : Int32) (x2 : Int32) (xs0 : Int32) (h : HH) (H : Heap) (locs : List Loc) (ls : Array Slot) (res : Int32 × HH) (hl : lv_has ls 3 [(0, .ref a), (1, .int x1), (2, .int x2)]) (hW : WH X h H) (hS : va_S (xA X) s.heap H locs) (hs : sX6_space_c29 a x1 x2 xs0 h) (hres : fX6_space_c29 a x1 x2 xs0 h = res) : W p l e rmX6_space s m args below meth c H locs 0 0 (MQ below (QI X res.1 res.2) args s 0 0 (xA X)) (F0 m 29 ls [.int xs0]) := by
  obtain ⟨hx, hb, hr, hlk, hml, hown, hts, hK⟩ := id C0
  refine lv_if_eq (tgt := 36) hx hb dX6_space_29 (by decide) (fun c3 => ?_) (fun c3 => ?_)
  · have hres := (if_pos c3).symm.trans hres
    have hs := And.left hs c3
    refine lv_aload_n hx hb dX6_space_36 rfl (lv_at hl 0 rfl) ?_
    refine lv_iload_n hx hb dX6_space_37 rfl (lv_at hl 1 rfl) ?_
    refine lv_iload_n hx hb dX6_space_38 rfl (lv_at hl 2 rfl) ?_
    have hc4 := hs
    refine kV_i (As := [.int x1, .int x2]) (rest := []) ⟨hx, hb, hml, hown, hts⟩ (kX6_tellSpace l X h a x1 x2 hO hc4) (wX6_tellSpace hts q5_45 ⟨Nat.le_of_ble_eq_true rfl, Nat.le_of_ble_eq_true rfl⟩) hK hW hS (va_recv hK.1 (hW.one hO.1) (ci := 6) (q0 := 0) rfl rfl) rfl hl.1 rfl (Nat.le_of_ble_eq_true rfl) dX6_space_39 ⟨Nat.zero_le _, Nat.zero_le _⟩ (fun H locs hW hS => ?_)
    subst hres
    exact kr_i hx hb hr hlk hK hW hS dX6_space_42
  · have hres := (if_neg c3).symm.trans hres
    have hs := And.right hs c3
    refine lv_iconst (v := 0) hx hb dX6_space_32 (by decide) ?_
    refine lv_goto (tgt := 42) hx hb dX6_space_33 (by decide) ?_
    subst hres
    exact kr_i hx hb hr hlk hK hW hS dX6_space_42
def fX6_space_c26 (a : Nat) (x1 : Int32) (x2 : Int32) (xs0 : Int32) (h : HH) : Int32 × HH := fX6_space_c29 a x1 x2 (bI (fX6_refused a xs0 h).1) ((fX6_refused a xs0 h).2)
def sX6_space_c26 (a : Nat) (x1 : Int32) (x2 : Int32) (xs0 : Int32) (h : HH) : Prop := sX6_space_c29 a x1 x2 (bI (fX6_refused a xs0 h).1) ((fX6_refused a xs0 h).2)
set_option maxRecDepth 100000 in
set_option maxHeartbeats 4000000 in
theorem xX6_space_c26 {p : Program} {l : Launch} {e : Env} {s : State} {m : MethodId} {args : Array Value} {below : List Frame} {meth : Method} {c : Code} {X : Cx} {a : Nat} (hO : IsMo X a) (C0 : CT p s m args meth c X cX6_space 3 (some .int) RX6) (x1 : Int32) (x2 : Int32) (xs0 : Int32) (h : HH) (H : Heap) (locs : List Loc) (ls : Array Slot) (res : Int32 × HH) (hl : lv_has ls 3 [(0, .ref a), (1, .int x1), (2, .int x2)]) (hW : WH X h H) (hS : va_S (xA X) s.heap H locs) (hs : sX6_space_c26 a x1 x2 xs0 h) (hres : fX6_space_c26 a x1 x2 xs0 h = res) : W p l e rmX6_space s m args below meth c H locs 0 0 (MQ below (QI X res.1 res.2) args s 0 0 (xA X)) (F0 m 26 ls [.int xs0, .ref a]) := by
  obtain ⟨hx, hb, hr, hlk, hml, hown, hts, hK⟩ := id C0
  refine kV_i (As := [.int xs0]) (rest := []) ⟨hx, hb, hml, hown, hts⟩ (kX6_refused l X h a xs0 hO) (wX6_refused hts q4_88 ⟨Nat.le_of_ble_eq_true rfl, Nat.le_of_ble_eq_true rfl⟩) hK hW hS (va_recv hK.1 (hW.one hO.1) (ci := 6) (q0 := 0) rfl rfl) rfl hl.1 rfl (Nat.le_of_ble_eq_true rfl) dX6_space_26 ⟨Nat.zero_le _, Nat.zero_le _⟩ (fun H locs hW hS => ?_)
  exact xX6_space_c29 hO C0 x1 x2 (bI (fX6_refused a xs0 h).1) ((fX6_refused a xs0 h).2) _ _ _ _ (lv_sub hl [0, 1, 2] rfl) hW hS hs hres
def fX6_space_c0 (a : Nat) (x1 : Int32) (x2 : Int32) (h : HH) : Int32 × HH := if (bI (fX6_isSpace x1)) = 0 then (fX6_space_c26 a x1 x2 1 h) else (if (bI (fX6_within x2 0 3)) = 0 then (fX6_space_c26 a x1 x2 2 h) else (fX6_space_c26 a x1 x2 0 h))
def sX6_space_c0 (a : Nat) (x1 : Int32) (x2 : Int32) (h : HH) : Prop := ((bI (fX6_isSpace x1)) = 0 → (sX6_space_c26 a x1 x2 1 h)) ∧ (¬ ((bI (fX6_isSpace x1)) = 0) → (((bI (fX6_within x2 0 3)) = 0 → (sX6_space_c26 a x1 x2 2 h)) ∧ (¬ ((bI (fX6_within x2 0 3)) = 0) → (sX6_space_c26 a x1 x2 0 h))))
set_option maxRecDepth 100000 in
set_option maxHeartbeats 4000000 in
theorem xX6_space_c0 {p : Program} {l : Launch} {e : Env} {s : State} {m : MethodId} {args : Array Value} {below : List Frame} {meth : Method} {c : Code} {X : Cx} {a : Nat} (hO : IsMo X a) (C0 : CT p s m args meth c X cX6_space 3 (some .int) RX6) (x1 : Int32) (x2 : Int32) (h : HH) (H : Heap) (locs : List Loc) (ls : Array Slot) (res : Int32 × HH) (hl : lv_has ls 3 [(0, .ref a), (1, .int x1), (2, .int x2)]) (hW : WH X h H) (hS : va_S (xA X) s.heap H locs) (hs : sX6_space_c0 a x1 x2 h) (hres : fX6_space_c0 a x1 x2 h = res) : W p l e rmX6_space s m args below meth c H locs 0 0 (MQ below (QI X res.1 res.2) args s 0 0 (xA X)) (F0 m 0 ls []) := by
  obtain ⟨hx, hb, hr, hlk, hml, hown, hts, hK⟩ := id C0
  refine lv_aload_n hx hb dX6_space_0 rfl (lv_at hl 0 rfl) ?_
  refine lv_iload_n hx hb dX6_space_1 rfl (lv_at hl 1 rfl) ?_
  refine kS_i (As := [.int x1]) (rest := [.ref a]) ⟨hx, hb, hml, hown, hts⟩ (kX6_isSpace l X h x1) (wX6_isSpace hts q4_107 ⟨Nat.le_of_ble_eq_true rfl, Nat.le_of_ble_eq_true rfl⟩) hK hW hS rfl hl.1 rfl (Nat.le_of_ble_eq_true rfl) dX6_space_2 ⟨Nat.zero_le _, Nat.zero_le _⟩ (fun H locs hW hS => ?_)
  refine lv_if_ne (tgt := 12) hx hb dX6_space_5 (by decide) (fun c1 => ?_) (fun c1 => ?_)
  · have hres := (if_neg c1).symm.trans hres
    have hs := And.right hs c1
    refine lv_iload_n hx hb dX6_space_12 rfl (lv_at hl 2 rfl) ?_
    refine lv_iconst (v := 0) hx hb dX6_space_13 (by decide) ?_
    refine lv_iconst (v := 3) hx hb dX6_space_14 (by decide) ?_
    refine kS_i (As := [.int x2, .int 0, .int 3]) (rest := [.ref a]) ⟨hx, hb, hml, hown, hts⟩ (kX6_within l X h x2 0 3) (wX6_within hts q4_96 ⟨Nat.le_of_ble_eq_true rfl, Nat.le_of_ble_eq_true rfl⟩) hK hW hS rfl hl.1 rfl (Nat.le_of_ble_eq_true rfl) dX6_space_15 ⟨Nat.zero_le _, Nat.zero_le _⟩ (fun H locs hW hS => ?_)
    refine lv_if_eq (tgt := 25) hx hb dX6_space_18 (by decide) (fun c2 => ?_) (fun c2 => ?_)
    · have hres := (if_pos c2).symm.trans hres
      have hs := And.left hs c2
      refine lv_iconst (v := 2) hx hb dX6_space_25 (by decide) ?_
      exact xX6_space_c26 hO C0 x1 x2 2 h _ _ _ _ (lv_sub hl [0, 1, 2] rfl) hW hS hs hres
    · have hres := (if_neg c2).symm.trans hres
      have hs := And.right hs c2
      refine lv_iconst (v := 0) hx hb dX6_space_21 (by decide) ?_
      refine lv_goto (tgt := 26) hx hb dX6_space_22 (by decide) ?_
      exact xX6_space_c26 hO C0 x1 x2 0 h _ _ _ _ (lv_sub hl [0, 1, 2] rfl) hW hS hs hres
  · have hres := (if_pos c1).symm.trans hres
    have hs := And.left hs c1
    refine lv_iconst (v := 1) hx hb dX6_space_8 (by decide) ?_
    refine lv_goto (tgt := 26) hx hb dX6_space_9 (by decide) ?_
    exact xX6_space_c26 hO C0 x1 x2 1 h _ _ _ _ (lv_sub hl [0, 1, 2] rfl) hW hS hs hres
def fX6_space (a : Nat) (x1 : Int32) (x2 : Int32) (h : HH) : Int32 × HH := fX6_space_c0 a x1 x2 h
def sX6_space (a : Nat) (x1 : Int32) (x2 : Int32) (h : HH) : Prop := sX6_space_c0 a x1 x2 h
set_option maxRecDepth 100000 in
set_option maxHeartbeats 4000000 in
theorem kX6_space (l : Launch) (X : Cx) (h : HH) (a : Nat) (x1 : Int32) (x2 : Int32) (hO : IsMo X a) (hs : sX6_space a x1 x2 h) : Met l yX6_space vX6_space rmX6_space (va_Pc [.ref a, .int x1, .int x2] (fun U => WS X h U)) (QI X (fX6_space a x1 x2 h).1 (fX6_space a x1 x2 h).2) 0 0 (xA X) := by
  refine Met.ofW (cc := cX6_space) (maxL := 3) (ret := some .int) (by decide) rfl ?_
  intro p e s m args below meth c s₁ B hml hv
  obtain ⟨rfl, hW, hK⟩ := hv
  have hl := lv_entry ([.ref a, .int x1, .int x2]) (n := 3) (Nat.le_of_ble_eq_true rfl)
  rw [lg_entry_eq]
  generalize (lg_sl ([.ref a, .int x1, .int x2]) ++ List.replicate (3 - (lg_sl ([.ref a, .int x1, .int x2])).length) Slot.unset).toArray = ls at hl ⊢
  have hl : lv_has ls 3 [(0, .ref a), (1, .int x1), (2, .int x2)] := hl
  exact xX6_space_c0 hO ⟨B.exec, B.bytes, B.returns, B.notSynchronized, hml, findClass_of_methodNamed B.named, fun w hw => atoms_spec (ws := vX6_space) B.pre w (List.mem_cons_of_mem _ hw), hK⟩ x1 x2 h _ _ ls _ (lv_sub hl [0, 1, 2] rfl) hW va_S.rf hs rfl
-- VillageBoardModel.cost(III)I
abbrev rmX6_cost : Room := ({ frames := 4, cells := 0, slots := 0, locals := 90 } : Room)
abbrev vX6_cost : List Cond := Cond.code yX6_cost cX6_cost 5 (some .int) :: lwG
theorem wX6_cost {R : Room} {s : State} {args : Array Value} {own : String} {idx : Nat} (hg : ∀ w ∈ lwG, w.before args s = true) (hl : Cond.methodLink own idx yX6_cost ∈ lwG) (hR : rmX6_cost.frames + 1 ≤ R.frames ∧ 8 + (5 + 11) + rmX6_cost.locals ≤ R.locals) : CallW R s args own RX6 idx yX6_cost cX6_cost 5 (some .int) vX6_cost rmX6_cost 0 0 3 := cwV 3 hg (gV hl q5_50 q5_51 q1_7 q5_52) rfl rfl rfl (by decide +kernel) hR
def fX6_cost_c52 (a : Nat) (x1 : Int32) (x2 : Int32) (x3 : Int32) (xs0 : Int32) (h : HH) : Int32 × HH := if xs0 = 0 then ((fX6_costOf a x1 x2 x3 h, h)) else ((0, h))
def sX6_cost_c52 (a : Nat) (x1 : Int32) (x2 : Int32) (x3 : Int32) (xs0 : Int32) (h : HH) : Prop := (xs0 = 0 → (sX6_costOf a x1 x2 x3 h)) ∧ (¬ (xs0 = 0) → True)
set_option maxRecDepth 100000 in
set_option maxHeartbeats 4000000 in
theorem xX6_cost_c52 {p : Program} {l : Launch} {e : Env} {s : State} {m : MethodId} {args : Array Value} {below : List Frame} {meth : Method} {c : Code} {X : Cx} {a : Nat} (hO : IsMo X a) (C0 : CT p s m args meth c X cX6_cost 5 (some .int) RX6) (x1 : Int32) (x2 : Int32) (x3 : Int32) (xs0 : Int32) (h : HH) (H : Heap) (locs : List Loc) (ls : Array Slot) (res : Int32 × HH) (hl : lv_has ls 5 [(0, .ref a), (1, .int x1), (2, .int x2), (3, .int x3)]) (hW : WH X h H) (hS : va_S (xA X) s.heap H locs) (hs : sX6_cost_c52 a x1 x2 x3 xs0 h) (hres : fX6_cost_c52 a x1 x2 x3 xs0 h = res) : W p l e rmX6_cost s m args below meth c H locs 0 0 (MQ below (QI X res.1 res.2) args s 0 0 (xA X)) (F0 m 52 ls [.int xs0]) := by
  obtain ⟨hx, hb, hr, hlk, hml, hown, hts, hK⟩ := id C0
  refine lv_if_eq (tgt := 59) hx hb dX6_cost_52 (by decide) (fun c4 => ?_) (fun c4 => ?_)
  · have hres := (if_pos c4).symm.trans hres
    have hs := And.left hs c4
    refine lv_aload_n hx hb dX6_cost_59 rfl (lv_at hl 0 rfl) ?_
    refine lv_iload_n hx hb dX6_cost_60 rfl (lv_at hl 1 rfl) ?_
    refine lv_iload_n hx hb dX6_cost_61 rfl (lv_at hl 2 rfl) ?_
    refine lv_iload_n hx hb dX6_cost_62 rfl (lv_at hl 3 rfl) ?_
    have hc5 := hs
    refine kV_i (As := [.int x1, .int x2, .int x3]) (rest := []) ⟨hx, hb, hml, hown, hts⟩ (kX6_costOf l X h a x1 x2 x3 hO hc5) (wX6_costOf hts q4_132 ⟨Nat.le_of_ble_eq_true rfl, Nat.le_of_ble_eq_true rfl⟩) hK hW hS (va_recv hK.1 (hW.one hO.1) (ci := 6) (q0 := 0) rfl rfl) rfl hl.1 rfl (Nat.le_of_ble_eq_true rfl) dX6_cost_63 ⟨Nat.zero_le _, Nat.zero_le _⟩ (fun H locs hW hS => ?_)
    subst hres
    exact kr_i hx hb hr hlk hK hW hS dX6_cost_66
  · have hres := (if_neg c4).symm.trans hres
    have hs := And.right hs c4
    refine lv_iconst (v := 0) hx hb dX6_cost_55 (by decide) ?_
    refine lv_goto (tgt := 66) hx hb dX6_cost_56 (by decide) ?_
    subst hres
    exact kr_i hx hb hr hlk hK hW hS dX6_cost_66
def fX6_cost_c49 (a : Nat) (x1 : Int32) (x2 : Int32) (x3 : Int32) (xs0 : Int32) (h : HH) : Int32 × HH := fX6_cost_c52 a x1 x2 x3 (bI (fX6_refused a xs0 h).1) ((fX6_refused a xs0 h).2)
def sX6_cost_c49 (a : Nat) (x1 : Int32) (x2 : Int32) (x3 : Int32) (xs0 : Int32) (h : HH) : Prop := sX6_cost_c52 a x1 x2 x3 (bI (fX6_refused a xs0 h).1) ((fX6_refused a xs0 h).2)
set_option maxRecDepth 100000 in
set_option maxHeartbeats 4000000 in
theorem xX6_cost_c49 {p : Program} {l : Launch} {e : Env} {s : State} {m : MethodId} {args : Array Value} {below : List Frame} {meth : Method} {c : Code} {X : Cx} {a : Nat} (hO : IsMo X a) (C0 : CT p s m args meth c X cX6_cost 5 (some .int) RX6) (x1 : Int32) (x2 : Int32) (x3 : Int32) (xs0 : Int32) (h : HH) (H : Heap) (locs : List Loc) (ls : Array Slot) (res : Int32 × HH) (hl : lv_has ls 5 [(0, .ref a), (1, .int x1), (2, .int x2), (3, .int x3)]) (hW : WH X h H) (hS : va_S (xA X) s.heap H locs) (hs : sX6_cost_c49 a x1 x2 x3 xs0 h) (hres : fX6_cost_c49 a x1 x2 x3 xs0 h = res) : W p l e rmX6_cost s m args below meth c H locs 0 0 (MQ below (QI X res.1 res.2) args s 0 0 (xA X)) (F0 m 49 ls [.int xs0, .ref a]) := by
  obtain ⟨hx, hb, hr, hlk, hml, hown, hts, hK⟩ := id C0
  refine kV_i (As := [.int xs0]) (rest := []) ⟨hx, hb, hml, hown, hts⟩ (kX6_refused l X h a xs0 hO) (wX6_refused hts q4_88 ⟨Nat.le_of_ble_eq_true rfl, Nat.le_of_ble_eq_true rfl⟩) hK hW hS (va_recv hK.1 (hW.one hO.1) (ci := 6) (q0 := 0) rfl rfl) rfl hl.1 rfl (Nat.le_of_ble_eq_true rfl) dX6_cost_49 ⟨Nat.zero_le _, Nat.zero_le _⟩ (fun H locs hW hS => ?_)
  exact xX6_cost_c52 hO C0 x1 x2 x3 (bI (fX6_refused a xs0 h).1) ((fX6_refused a xs0 h).2) _ _ _ _ (lv_sub hl [0, 1, 2, 3] rfl) hW hS hs hres
def fX6_cost_c24 (a : Nat) (x1 : Int32) (x2 : Int32) (x3 : Int32) (xs0 : Int32) (h : HH) : Int32 × HH := if (bI (fX6_isPlayer a x1 h)) = 0 then (fX6_cost_c49 a x1 x2 x3 1 h) else (if xs0 = 0 then (fX6_cost_c49 a x1 x2 x3 2 h) else (fX6_cost_c49 a x1 x2 x3 0 h))
def sX6_cost_c24 (a : Nat) (x1 : Int32) (x2 : Int32) (x3 : Int32) (xs0 : Int32) (h : HH) : Prop := ((bI (fX6_isPlayer a x1 h)) = 0 → (sX6_cost_c49 a x1 x2 x3 1 h)) ∧ (¬ ((bI (fX6_isPlayer a x1 h)) = 0) → ((xs0 = 0 → (sX6_cost_c49 a x1 x2 x3 2 h)) ∧ (¬ (xs0 = 0) → (sX6_cost_c49 a x1 x2 x3 0 h))))
set_option maxRecDepth 100000 in
set_option maxHeartbeats 4000000 in
theorem xX6_cost_c24 {p : Program} {l : Launch} {e : Env} {s : State} {m : MethodId} {args : Array Value} {below : List Frame} {meth : Method} {c : Code} {X : Cx} {a : Nat} (hO : IsMo X a) (C0 : CT p s m args meth c X cX6_cost 5 (some .int) RX6) (x1 : Int32) (x2 : Int32) (x3 : Int32) (xs0 : Int32) (h : HH) (H : Heap) (locs : List Loc) (ls : Array Slot) (res : Int32 × HH) (hl : lv_has ls 5 [(0, .ref a), (1, .int x1), (2, .int x2), (3, .int x3)]) (hW : WH X h H) (hS : va_S (xA X) s.heap H locs) (hs : sX6_cost_c24 a x1 x2 x3 xs0 h) (hres : fX6_cost_c24 a x1 x2 x3 xs0 h = res) : W p l e rmX6_cost s m args below meth c H locs 0 0 (MQ below (QI X res.1 res.2) args s 0 0 (xA X)) (F0 m 24 ls [.int xs0]) := by
  obtain ⟨hx, hb, hr, hlk, hml, hown, hts, hK⟩ := id C0
  refine lv_istore (lv' := [(4, .int xs0), (0, .ref a), (1, .int x1), (2, .int x2), (3, .int x3)]) hx hb dX6_cost_24 hl (by decide) rfl (fun ls hl => ?_)
  refine lv_aload_n hx hb dX6_cost_26 rfl (lv_at hl 1 rfl) ?_
  refine lv_aload_n hx hb dX6_cost_27 rfl (lv_at hl 1 rfl) ?_
  refine lv_iload_n hx hb dX6_cost_28 rfl (lv_at hl 2 rfl) ?_
  refine kV_i (As := [.int x1]) (rest := [.ref a]) ⟨hx, hb, hml, hown, hts⟩ (kX6_isPlayer l X h a x1 hO) (wX6_isPlayer hts q5_29 ⟨Nat.le_of_ble_eq_true rfl, Nat.le_of_ble_eq_true rfl⟩) hK hW hS (va_recv hK.1 (hW.one hO.1) (ci := 6) (q0 := 0) rfl rfl) rfl hl.1 rfl (Nat.le_of_ble_eq_true rfl) dX6_cost_29 ⟨Nat.zero_le _, Nat.zero_le _⟩ (fun H locs hW hS => ?_)
  refine lv_if_ne (tgt := 39) hx hb dX6_cost_32 (by decide) (fun c2 => ?_) (fun c2 => ?_)
  · have hres := (if_neg c2).symm.trans hres
    have hs := And.right hs c2
    refine lv_iload hx hb dX6_cost_39 (lv_at hl 0 rfl) ?_
    refine lv_if_eq (tgt := 48) hx hb dX6_cost_41 (by decide) (fun c3 => ?_) (fun c3 => ?_)
    · have hres := (if_pos c3).symm.trans hres
      have hs := And.left hs c3
      refine lv_iconst (v := 2) hx hb dX6_cost_48 (by decide) ?_
      exact xX6_cost_c49 hO C0 x1 x2 x3 2 h _ _ _ _ (lv_sub hl [1, 2, 3, 4] rfl) hW hS hs hres
    · have hres := (if_neg c3).symm.trans hres
      have hs := And.right hs c3
      refine lv_iconst (v := 0) hx hb dX6_cost_44 (by decide) ?_
      refine lv_goto (tgt := 49) hx hb dX6_cost_45 (by decide) ?_
      exact xX6_cost_c49 hO C0 x1 x2 x3 0 h _ _ _ _ (lv_sub hl [1, 2, 3, 4] rfl) hW hS hs hres
  · have hres := (if_pos c2).symm.trans hres
    have hs := And.left hs c2
    refine lv_iconst (v := 1) hx hb dX6_cost_35 (by decide) ?_
    refine lv_goto (tgt := 49) hx hb dX6_cost_36 (by decide) ?_
    exact xX6_cost_c49 hO C0 x1 x2 x3 1 h _ _ _ _ (lv_sub hl [1, 2, 3, 4] rfl) hW hS hs hres
def fX6_cost_c23 (a : Nat) (x1 : Int32) (x2 : Int32) (x3 : Int32) (h : HH) : Int32 × HH := fX6_cost_c24 a x1 x2 x3 0 h
def sX6_cost_c23 (a : Nat) (x1 : Int32) (x2 : Int32) (x3 : Int32) (h : HH) : Prop := sX6_cost_c24 a x1 x2 x3 0 h
set_option maxRecDepth 100000 in
set_option maxHeartbeats 4000000 in
theorem xX6_cost_c23 {p : Program} {l : Launch} {e : Env} {s : State} {m : MethodId} {args : Array Value} {below : List Frame} {meth : Method} {c : Code} {X : Cx} {a : Nat} (hO : IsMo X a) (C0 : CT p s m args meth c X cX6_cost 5 (some .int) RX6) (x1 : Int32) (x2 : Int32) (x3 : Int32) (h : HH) (H : Heap) (locs : List Loc) (ls : Array Slot) (res : Int32 × HH) (hl : lv_has ls 5 [(0, .ref a), (1, .int x1), (2, .int x2), (3, .int x3)]) (hW : WH X h H) (hS : va_S (xA X) s.heap H locs) (hs : sX6_cost_c23 a x1 x2 x3 h) (hres : fX6_cost_c23 a x1 x2 x3 h = res) : W p l e rmX6_cost s m args below meth c H locs 0 0 (MQ below (QI X res.1 res.2) args s 0 0 (xA X)) (F0 m 23 ls []) := by
  obtain ⟨hx, hb, hr, hlk, hml, hown, hts, hK⟩ := id C0
  refine lv_iconst (v := 0) hx hb dX6_cost_23 (by decide) ?_
  exact xX6_cost_c24 hO C0 x1 x2 x3 0 h _ _ _ _ (lv_sub hl [0, 1, 2, 3] rfl) hW hS hs hres
def fX6_cost_c0 (a : Nat) (x1 : Int32) (x2 : Int32) (x3 : Int32) (h : HH) : Int32 × HH := if (bI (fX6_within x2 (-1) 7)) = 0 then (fX6_cost_c23 a x1 x2 x3 h) else (if (bI (fX6_within x3 0 1)) = 0 then (fX6_cost_c23 a x1 x2 x3 h) else (fX6_cost_c24 a x1 x2 x3 1 h))
def sX6_cost_c0 (a : Nat) (x1 : Int32) (x2 : Int32) (x3 : Int32) (h : HH) : Prop := ((bI (fX6_within x2 (-1) 7)) = 0 → (sX6_cost_c23 a x1 x2 x3 h)) ∧ (¬ ((bI (fX6_within x2 (-1) 7)) = 0) → (((bI (fX6_within x3 0 1)) = 0 → (sX6_cost_c23 a x1 x2 x3 h)) ∧ (¬ ((bI (fX6_within x3 0 1)) = 0) → (sX6_cost_c24 a x1 x2 x3 1 h))))
set_option maxRecDepth 100000 in
set_option maxHeartbeats 4000000 in
theorem xX6_cost_c0 {p : Program} {l : Launch} {e : Env} {s : State} {m : MethodId} {args : Array Value} {below : List Frame} {meth : Method} {c : Code} {X : Cx} {a : Nat} (hO : IsMo X a) (C0 : CT p s m args meth c X cX6_cost 5 (some .int) RX6) (x1 : Int32) (x2 : Int32) (x3 : Int32) (h : HH) (H : Heap) (locs : List Loc) (ls : Array Slot) (res : Int32 × HH) (hl : lv_has ls 5 [(0, .ref a), (1, .int x1), (2, .int x2), (3, .int x3)]) (hW : WH X h H) (hS : va_S (xA X) s.heap H locs) (hs : sX6_cost_c0 a x1 x2 x3 h) (hres : fX6_cost_c0 a x1 x2 x3 h = res) : W p l e rmX6_cost s m args below meth c H locs 0 0 (MQ below (QI X res.1 res.2) args s 0 0 (xA X)) (F0 m 0 ls []) := by
  obtain ⟨hx, hb, hr, hlk, hml, hown, hts, hK⟩ := id C0
  refine lv_iload_n hx hb dX6_cost_0 rfl (lv_at hl 2 rfl) ?_
  refine lv_iconst (v := (-1)) hx hb dX6_cost_1 (by decide) ?_
  refine lv_bipush (v := 7) hx hb dX6_cost_2 (by decide) ?_
  refine kS_i (As := [.int x2, .int (-1), .int 7]) (rest := []) ⟨hx, hb, hml, hown, hts⟩ (kX6_within l X h x2 (-1) 7) (wX6_within hts q4_96 ⟨Nat.le_of_ble_eq_true rfl, Nat.le_of_ble_eq_true rfl⟩) hK hW hS rfl hl.1 rfl (Nat.le_of_ble_eq_true rfl) dX6_cost_4 ⟨Nat.zero_le _, Nat.zero_le _⟩ (fun H locs hW hS => ?_)
  refine lv_if_eq (tgt := 23) hx hb dX6_cost_7 (by decide) (fun c1 => ?_) (fun c1 => ?_)
  · have hres := (if_pos c1).symm.trans hres
    have hs := And.left hs c1
    exact xX6_cost_c23 hO C0 x1 x2 x3 h _ _ _ _ (lv_sub hl [0, 1, 2, 3] rfl) hW hS hs hres
  · have hres := (if_neg c1).symm.trans hres
    have hs := And.right hs c1
    refine lv_iload_n hx hb dX6_cost_10 rfl (lv_at hl 3 rfl) ?_
    refine lv_iconst (v := 0) hx hb dX6_cost_11 (by decide) ?_
    refine lv_iconst (v := 1) hx hb dX6_cost_12 (by decide) ?_
    refine kS_i (As := [.int x3, .int 0, .int 1]) (rest := []) ⟨hx, hb, hml, hown, hts⟩ (kX6_within l X h x3 0 1) (wX6_within hts q4_96 ⟨Nat.le_of_ble_eq_true rfl, Nat.le_of_ble_eq_true rfl⟩) hK hW hS rfl hl.1 rfl (Nat.le_of_ble_eq_true rfl) dX6_cost_13 ⟨Nat.zero_le _, Nat.zero_le _⟩ (fun H locs hW hS => ?_)
    refine lv_if_eq (tgt := 23) hx hb dX6_cost_16 (by decide) (fun c6 => ?_) (fun c6 => ?_)
    · have hres := (if_pos c6).symm.trans hres
      have hs := And.left hs c6
      exact xX6_cost_c23 hO C0 x1 x2 x3 h _ _ _ _ (lv_sub hl [0, 1, 2, 3] rfl) hW hS hs hres
    · have hres := (if_neg c6).symm.trans hres
      have hs := And.right hs c6
      refine lv_iconst (v := 1) hx hb dX6_cost_19 (by decide) ?_
      refine lv_goto (tgt := 24) hx hb dX6_cost_20 (by decide) ?_
      exact xX6_cost_c24 hO C0 x1 x2 x3 1 h _ _ _ _ (lv_sub hl [0, 1, 2, 3] rfl) hW hS hs hres
def fX6_cost (a : Nat) (x1 : Int32) (x2 : Int32) (x3 : Int32) (h : HH) : Int32 × HH := fX6_cost_c0 a x1 x2 x3 h
def sX6_cost (a : Nat) (x1 : Int32) (x2 : Int32) (x3 : Int32) (h : HH) : Prop := sX6_cost_c0 a x1 x2 x3 h
set_option maxRecDepth 100000 in
set_option maxHeartbeats 4000000 in
theorem kX6_cost (l : Launch) (X : Cx) (h : HH) (a : Nat) (x1 : Int32) (x2 : Int32) (x3 : Int32) (hO : IsMo X a) (hs : sX6_cost a x1 x2 x3 h) : Met l yX6_cost vX6_cost rmX6_cost (va_Pc [.ref a, .int x1, .int x2, .int x3] (fun U => WS X h U)) (QI X (fX6_cost a x1 x2 x3 h).1 (fX6_cost a x1 x2 x3 h).2) 0 0 (xA X) := by
  refine Met.ofW (cc := cX6_cost) (maxL := 5) (ret := some .int) (by decide) rfl ?_
  intro p e s m args below meth c s₁ B hml hv
  obtain ⟨rfl, hW, hK⟩ := hv
  have hl := lv_entry ([.ref a, .int x1, .int x2, .int x3]) (n := 5) (Nat.le_of_ble_eq_true rfl)
  rw [lg_entry_eq]
  generalize (lg_sl ([.ref a, .int x1, .int x2, .int x3]) ++ List.replicate (5 - (lg_sl ([.ref a, .int x1, .int x2, .int x3])).length) Slot.unset).toArray = ls at hl ⊢
  have hl : lv_has ls 5 [(0, .ref a), (1, .int x1), (2, .int x2), (3, .int x3)] := hl
  exact xX6_cost_c0 hO ⟨B.exec, B.bytes, B.returns, B.notSynchronized, hml, findClass_of_methodNamed B.named, fun w hw => atoms_spec (ws := vX6_cost) B.pre w (List.mem_cons_of_mem _ hw), hK⟩ x1 x2 x3 h _ _ ls _ (lv_sub hl [0, 1, 2, 3] rfl) hW va_S.rf hs rfl
-- VillageBoardModel.need(I)I
abbrev rmX6_need : Room := ({ frames := 3, cells := 0, slots := 0, locals := 64 } : Room)
abbrev vX6_need : List Cond := Cond.code yX6_need cX6_need 2 (some .int) :: lwG
theorem wX6_need {R : Room} {s : State} {args : Array Value} {own : String} {idx : Nat} (hg : ∀ w ∈ lwG, w.before args s = true) (hl : Cond.methodLink own idx yX6_need ∈ lwG) (hR : rmX6_need.frames + 1 ≤ R.frames ∧ 8 + (2 + 11) + rmX6_need.locals ≤ R.locals) : CallW R s args own RX6 idx yX6_need cX6_need 2 (some .int) vX6_need rmX6_need 0 0 1 := cwV 1 hg (gV hl q5_54 q5_55 q1_7 q5_56) rfl rfl rfl (by decide +kernel) hR
def fX6_need_c17 (a : Nat) (x1 : Int32) (xs0 : Int32) (h : HH) : Int32 × HH := if xs0 = 0 then ((fX6_needOf a x1 h, h)) else ((0, h))
def sX6_need_c17 (a : Nat) (x1 : Int32) (xs0 : Int32) (h : HH) : Prop := (xs0 = 0 → (sX6_needOf a x1 h)) ∧ (¬ (xs0 = 0) → True)
set_option maxRecDepth 100000 in
set_option maxHeartbeats 4000000 in
theorem xX6_need_c17 {p : Program} {l : Launch} {e : Env} {s : State} {m : MethodId} {args : Array Value} {below : List Frame} {meth : Method} {c : Code} {X : Cx} {a : Nat} (hO : IsMo X a) (C0 : CT p s m args meth c X cX6_need 2 (some .int) RX6) (x1 : Int32) (xs0 : Int32) (h : HH) (H : Heap) (locs : List Loc) (ls : Array Slot) (res : Int32 × HH) (hl : lv_has ls 2 [(0, .ref a), (1, .int x1)]) (hW : WH X h H) (hS : va_S (xA X) s.heap H locs) (hs : sX6_need_c17 a x1 xs0 h) (hres : fX6_need_c17 a x1 xs0 h = res) : W p l e rmX6_need s m args below meth c H locs 0 0 (MQ below (QI X res.1 res.2) args s 0 0 (xA X)) (F0 m 17 ls [.int xs0]) := by
  obtain ⟨hx, hb, hr, hlk, hml, hown, hts, hK⟩ := id C0
  refine lv_if_eq (tgt := 24) hx hb dX6_need_17 (by decide) (fun c2 => ?_) (fun c2 => ?_)
  · have hres := (if_pos c2).symm.trans hres
    have hs := And.left hs c2
    refine lv_aload_n hx hb dX6_need_24 rfl (lv_at hl 0 rfl) ?_
    refine lv_iload_n hx hb dX6_need_25 rfl (lv_at hl 1 rfl) ?_
    have hc3 := hs
    refine kV_i (As := [.int x1]) (rest := []) ⟨hx, hb, hml, hown, hts⟩ (kX6_needOf l X h a x1 hO hc3) (wX6_needOf hts q4_190 ⟨Nat.le_of_ble_eq_true rfl, Nat.le_of_ble_eq_true rfl⟩) hK hW hS (va_recv hK.1 (hW.one hO.1) (ci := 6) (q0 := 0) rfl rfl) rfl hl.1 rfl (Nat.le_of_ble_eq_true rfl) dX6_need_26 ⟨Nat.zero_le _, Nat.zero_le _⟩ (fun H locs hW hS => ?_)
    subst hres
    exact kr_i hx hb hr hlk hK hW hS dX6_need_29
  · have hres := (if_neg c2).symm.trans hres
    have hs := And.right hs c2
    refine lv_iconst (v := 0) hx hb dX6_need_20 (by decide) ?_
    refine lv_goto (tgt := 29) hx hb dX6_need_21 (by decide) ?_
    subst hres
    exact kr_i hx hb hr hlk hK hW hS dX6_need_29
def fX6_need_c14 (a : Nat) (x1 : Int32) (xs0 : Int32) (h : HH) : Int32 × HH := fX6_need_c17 a x1 (bI (fX6_refused a xs0 h).1) ((fX6_refused a xs0 h).2)
def sX6_need_c14 (a : Nat) (x1 : Int32) (xs0 : Int32) (h : HH) : Prop := sX6_need_c17 a x1 (bI (fX6_refused a xs0 h).1) ((fX6_refused a xs0 h).2)
set_option maxRecDepth 100000 in
set_option maxHeartbeats 4000000 in
theorem xX6_need_c14 {p : Program} {l : Launch} {e : Env} {s : State} {m : MethodId} {args : Array Value} {below : List Frame} {meth : Method} {c : Code} {X : Cx} {a : Nat} (hO : IsMo X a) (C0 : CT p s m args meth c X cX6_need 2 (some .int) RX6) (x1 : Int32) (xs0 : Int32) (h : HH) (H : Heap) (locs : List Loc) (ls : Array Slot) (res : Int32 × HH) (hl : lv_has ls 2 [(0, .ref a), (1, .int x1)]) (hW : WH X h H) (hS : va_S (xA X) s.heap H locs) (hs : sX6_need_c14 a x1 xs0 h) (hres : fX6_need_c14 a x1 xs0 h = res) : W p l e rmX6_need s m args below meth c H locs 0 0 (MQ below (QI X res.1 res.2) args s 0 0 (xA X)) (F0 m 14 ls [.int xs0, .ref a]) := by
  obtain ⟨hx, hb, hr, hlk, hml, hown, hts, hK⟩ := id C0
  refine kV_i (As := [.int xs0]) (rest := []) ⟨hx, hb, hml, hown, hts⟩ (kX6_refused l X h a xs0 hO) (wX6_refused hts q4_88 ⟨Nat.le_of_ble_eq_true rfl, Nat.le_of_ble_eq_true rfl⟩) hK hW hS (va_recv hK.1 (hW.one hO.1) (ci := 6) (q0 := 0) rfl rfl) rfl hl.1 rfl (Nat.le_of_ble_eq_true rfl) dX6_need_14 ⟨Nat.zero_le _, Nat.zero_le _⟩ (fun H locs hW hS => ?_)
  exact xX6_need_c17 hO C0 x1 (bI (fX6_refused a xs0 h).1) ((fX6_refused a xs0 h).2) _ _ _ _ (lv_sub hl [0, 1] rfl) hW hS hs hres
def fX6_need_c0 (a : Nat) (x1 : Int32) (h : HH) : Int32 × HH := if (bI (fX6_isPlayer a x1 h)) = 0 then (fX6_need_c14 a x1 1 h) else (fX6_need_c14 a x1 0 h)
def sX6_need_c0 (a : Nat) (x1 : Int32) (h : HH) : Prop := ((bI (fX6_isPlayer a x1 h)) = 0 → (sX6_need_c14 a x1 1 h)) ∧ (¬ ((bI (fX6_isPlayer a x1 h)) = 0) → (sX6_need_c14 a x1 0 h))
set_option maxRecDepth 100000 in
set_option maxHeartbeats 4000000 in
theorem xX6_need_c0 {p : Program} {l : Launch} {e : Env} {s : State} {m : MethodId} {args : Array Value} {below : List Frame} {meth : Method} {c : Code} {X : Cx} {a : Nat} (hO : IsMo X a) (C0 : CT p s m args meth c X cX6_need 2 (some .int) RX6) (x1 : Int32) (h : HH) (H : Heap) (locs : List Loc) (ls : Array Slot) (res : Int32 × HH) (hl : lv_has ls 2 [(0, .ref a), (1, .int x1)]) (hW : WH X h H) (hS : va_S (xA X) s.heap H locs) (hs : sX6_need_c0 a x1 h) (hres : fX6_need_c0 a x1 h = res) : W p l e rmX6_need s m args below meth c H locs 0 0 (MQ below (QI X res.1 res.2) args s 0 0 (xA X)) (F0 m 0 ls []) := by
  obtain ⟨hx, hb, hr, hlk, hml, hown, hts, hK⟩ := id C0
  refine lv_aload_n hx hb dX6_need_0 rfl (lv_at hl 0 rfl) ?_
  refine lv_aload_n hx hb dX6_need_1 rfl (lv_at hl 0 rfl) ?_
  refine lv_iload_n hx hb dX6_need_2 rfl (lv_at hl 1 rfl) ?_
  refine kV_i (As := [.int x1]) (rest := [.ref a]) ⟨hx, hb, hml, hown, hts⟩ (kX6_isPlayer l X h a x1 hO) (wX6_isPlayer hts q5_29 ⟨Nat.le_of_ble_eq_true rfl, Nat.le_of_ble_eq_true rfl⟩) hK hW hS (va_recv hK.1 (hW.one hO.1) (ci := 6) (q0 := 0) rfl rfl) rfl hl.1 rfl (Nat.le_of_ble_eq_true rfl) dX6_need_3 ⟨Nat.zero_le _, Nat.zero_le _⟩ (fun H locs hW hS => ?_)
  refine lv_if_eq (tgt := 13) hx hb dX6_need_6 (by decide) (fun c1 => ?_) (fun c1 => ?_)
  · have hres := (if_pos c1).symm.trans hres
    have hs := And.left hs c1
    refine lv_iconst (v := 1) hx hb dX6_need_13 (by decide) ?_
    exact xX6_need_c14 hO C0 x1 1 h _ _ _ _ (lv_sub hl [0, 1] rfl) hW hS hs hres
  · have hres := (if_neg c1).symm.trans hres
    have hs := And.right hs c1
    refine lv_iconst (v := 0) hx hb dX6_need_9 (by decide) ?_
    refine lv_goto (tgt := 14) hx hb dX6_need_10 (by decide) ?_
    exact xX6_need_c14 hO C0 x1 0 h _ _ _ _ (lv_sub hl [0, 1] rfl) hW hS hs hres
def fX6_need (a : Nat) (x1 : Int32) (h : HH) : Int32 × HH := fX6_need_c0 a x1 h
def sX6_need (a : Nat) (x1 : Int32) (h : HH) : Prop := sX6_need_c0 a x1 h
set_option maxRecDepth 100000 in
set_option maxHeartbeats 4000000 in
theorem kX6_need (l : Launch) (X : Cx) (h : HH) (a : Nat) (x1 : Int32) (hO : IsMo X a) (hs : sX6_need a x1 h) : Met l yX6_need vX6_need rmX6_need (va_Pc [.ref a, .int x1] (fun U => WS X h U)) (QI X (fX6_need a x1 h).1 (fX6_need a x1 h).2) 0 0 (xA X) := by
  refine Met.ofW (cc := cX6_need) (maxL := 2) (ret := some .int) (by decide) rfl ?_
  intro p e s m args below meth c s₁ B hml hv
  obtain ⟨rfl, hW, hK⟩ := hv
  have hl := lv_entry ([.ref a, .int x1]) (n := 2) (Nat.le_of_ble_eq_true rfl)
  rw [lg_entry_eq]
  generalize (lg_sl ([.ref a, .int x1]) ++ List.replicate (2 - (lg_sl ([.ref a, .int x1])).length) Slot.unset).toArray = ls at hl ⊢
  have hl : lv_has ls 2 [(0, .ref a), (1, .int x1)] := hl
  exact xX6_need_c0 hO ⟨B.exec, B.bytes, B.returns, B.notSynchronized, hml, findClass_of_methodNamed B.named, fun w hw => atoms_spec (ws := vX6_need) B.pre w (List.mem_cons_of_mem _ hw), hK⟩ x1 h _ _ ls _ (lv_sub hl [0, 1] rfl) hW va_S.rf hs rfl
-- VillageBoardModel.missing(I)I
abbrev rmX6_missing : Room := ({ frames := 6, cells := 0, slots := 0, locals := 131 } : Room)
abbrev vX6_missing : List Cond := Cond.code yX6_missing cX6_missing 2 (some .int) :: lwG
theorem wX6_missing {R : Room} {s : State} {args : Array Value} {own : String} {idx : Nat} (hg : ∀ w ∈ lwG, w.before args s = true) (hl : Cond.methodLink own idx yX6_missing ∈ lwG) (hR : rmX6_missing.frames + 1 ≤ R.frames ∧ 8 + (2 + 11) + rmX6_missing.locals ≤ R.locals) : CallW R s args own RX6 idx yX6_missing cX6_missing 2 (some .int) vX6_missing rmX6_missing 0 0 1 := cwV 1 hg (gV hl q5_58 q5_59 q1_7 q5_60) rfl rfl rfl (by decide +kernel) hR
def fX6_missing_c17 (a : Nat) (x1 : Int32) (xs0 : Int32) (h : HH) : Int32 × HH := if xs0 = 0 then ((fX6_missingOf a x1 h, h)) else ((0, h))
def sX6_missing_c17 (a : Nat) (x1 : Int32) (xs0 : Int32) (h : HH) : Prop := (xs0 = 0 → (sX6_missingOf a x1 h)) ∧ (¬ (xs0 = 0) → True)
set_option maxRecDepth 100000 in
set_option maxHeartbeats 4000000 in
theorem xX6_missing_c17 {p : Program} {l : Launch} {e : Env} {s : State} {m : MethodId} {args : Array Value} {below : List Frame} {meth : Method} {c : Code} {X : Cx} {a : Nat} (hO : IsMo X a) (C0 : CT p s m args meth c X cX6_missing 2 (some .int) RX6) (x1 : Int32) (xs0 : Int32) (h : HH) (H : Heap) (locs : List Loc) (ls : Array Slot) (res : Int32 × HH) (hl : lv_has ls 2 [(0, .ref a), (1, .int x1)]) (hW : WH X h H) (hS : va_S (xA X) s.heap H locs) (hs : sX6_missing_c17 a x1 xs0 h) (hres : fX6_missing_c17 a x1 xs0 h = res) : W p l e rmX6_missing s m args below meth c H locs 0 0 (MQ below (QI X res.1 res.2) args s 0 0 (xA X)) (F0 m 17 ls [.int xs0]) := by
  obtain ⟨hx, hb, hr, hlk, hml, hown, hts, hK⟩ := id C0
  refine lv_if_eq (tgt := 24) hx hb dX6_missing_17 (by decide) (fun c2 => ?_) (fun c2 => ?_)
  · have hres := (if_pos c2).symm.trans hres
    have hs := And.left hs c2
    refine lv_aload_n hx hb dX6_missing_24 rfl (lv_at hl 0 rfl) ?_
    refine lv_iload_n hx hb dX6_missing_25 rfl (lv_at hl 1 rfl) ?_
    have hc3 := hs
    refine kV_i (As := [.int x1]) (rest := []) ⟨hx, hb, hml, hown, hts⟩ (kX6_missingOf l X h a x1 hO hc3) (wX6_missingOf hts q4_202 ⟨Nat.le_of_ble_eq_true rfl, Nat.le_of_ble_eq_true rfl⟩) hK hW hS (va_recv hK.1 (hW.one hO.1) (ci := 6) (q0 := 0) rfl rfl) rfl hl.1 rfl (Nat.le_of_ble_eq_true rfl) dX6_missing_26 ⟨Nat.zero_le _, Nat.zero_le _⟩ (fun H locs hW hS => ?_)
    subst hres
    exact kr_i hx hb hr hlk hK hW hS dX6_missing_29
  · have hres := (if_neg c2).symm.trans hres
    have hs := And.right hs c2
    refine lv_iconst (v := 0) hx hb dX6_missing_20 (by decide) ?_
    refine lv_goto (tgt := 29) hx hb dX6_missing_21 (by decide) ?_
    subst hres
    exact kr_i hx hb hr hlk hK hW hS dX6_missing_29
def fX6_missing_c14 (a : Nat) (x1 : Int32) (xs0 : Int32) (h : HH) : Int32 × HH := fX6_missing_c17 a x1 (bI (fX6_refused a xs0 h).1) ((fX6_refused a xs0 h).2)
def sX6_missing_c14 (a : Nat) (x1 : Int32) (xs0 : Int32) (h : HH) : Prop := sX6_missing_c17 a x1 (bI (fX6_refused a xs0 h).1) ((fX6_refused a xs0 h).2)
set_option maxRecDepth 100000 in
set_option maxHeartbeats 4000000 in
theorem xX6_missing_c14 {p : Program} {l : Launch} {e : Env} {s : State} {m : MethodId} {args : Array Value} {below : List Frame} {meth : Method} {c : Code} {X : Cx} {a : Nat} (hO : IsMo X a) (C0 : CT p s m args meth c X cX6_missing 2 (some .int) RX6) (x1 : Int32) (xs0 : Int32) (h : HH) (H : Heap) (locs : List Loc) (ls : Array Slot) (res : Int32 × HH) (hl : lv_has ls 2 [(0, .ref a), (1, .int x1)]) (hW : WH X h H) (hS : va_S (xA X) s.heap H locs) (hs : sX6_missing_c14 a x1 xs0 h) (hres : fX6_missing_c14 a x1 xs0 h = res) : W p l e rmX6_missing s m args below meth c H locs 0 0 (MQ below (QI X res.1 res.2) args s 0 0 (xA X)) (F0 m 14 ls [.int xs0, .ref a]) := by
  obtain ⟨hx, hb, hr, hlk, hml, hown, hts, hK⟩ := id C0
  refine kV_i (As := [.int xs0]) (rest := []) ⟨hx, hb, hml, hown, hts⟩ (kX6_refused l X h a xs0 hO) (wX6_refused hts q4_88 ⟨Nat.le_of_ble_eq_true rfl, Nat.le_of_ble_eq_true rfl⟩) hK hW hS (va_recv hK.1 (hW.one hO.1) (ci := 6) (q0 := 0) rfl rfl) rfl hl.1 rfl (Nat.le_of_ble_eq_true rfl) dX6_missing_14 ⟨Nat.zero_le _, Nat.zero_le _⟩ (fun H locs hW hS => ?_)
  exact xX6_missing_c17 hO C0 x1 (bI (fX6_refused a xs0 h).1) ((fX6_refused a xs0 h).2) _ _ _ _ (lv_sub hl [0, 1] rfl) hW hS hs hres
def fX6_missing_c0 (a : Nat) (x1 : Int32) (h : HH) : Int32 × HH := if (bI (fX6_isPlayer a x1 h)) = 0 then (fX6_missing_c14 a x1 1 h) else (fX6_missing_c14 a x1 0 h)
def sX6_missing_c0 (a : Nat) (x1 : Int32) (h : HH) : Prop := ((bI (fX6_isPlayer a x1 h)) = 0 → (sX6_missing_c14 a x1 1 h)) ∧ (¬ ((bI (fX6_isPlayer a x1 h)) = 0) → (sX6_missing_c14 a x1 0 h))
set_option maxRecDepth 100000 in
set_option maxHeartbeats 4000000 in
theorem xX6_missing_c0 {p : Program} {l : Launch} {e : Env} {s : State} {m : MethodId} {args : Array Value} {below : List Frame} {meth : Method} {c : Code} {X : Cx} {a : Nat} (hO : IsMo X a) (C0 : CT p s m args meth c X cX6_missing 2 (some .int) RX6) (x1 : Int32) (h : HH) (H : Heap) (locs : List Loc) (ls : Array Slot) (res : Int32 × HH) (hl : lv_has ls 2 [(0, .ref a), (1, .int x1)]) (hW : WH X h H) (hS : va_S (xA X) s.heap H locs) (hs : sX6_missing_c0 a x1 h) (hres : fX6_missing_c0 a x1 h = res) : W p l e rmX6_missing s m args below meth c H locs 0 0 (MQ below (QI X res.1 res.2) args s 0 0 (xA X)) (F0 m 0 ls []) := by
  obtain ⟨hx, hb, hr, hlk, hml, hown, hts, hK⟩ := id C0
  refine lv_aload_n hx hb dX6_missing_0 rfl (lv_at hl 0 rfl) ?_
  refine lv_aload_n hx hb dX6_missing_1 rfl (lv_at hl 0 rfl) ?_
  refine lv_iload_n hx hb dX6_missing_2 rfl (lv_at hl 1 rfl) ?_
  refine kV_i (As := [.int x1]) (rest := [.ref a]) ⟨hx, hb, hml, hown, hts⟩ (kX6_isPlayer l X h a x1 hO) (wX6_isPlayer hts q5_29 ⟨Nat.le_of_ble_eq_true rfl, Nat.le_of_ble_eq_true rfl⟩) hK hW hS (va_recv hK.1 (hW.one hO.1) (ci := 6) (q0 := 0) rfl rfl) rfl hl.1 rfl (Nat.le_of_ble_eq_true rfl) dX6_missing_3 ⟨Nat.zero_le _, Nat.zero_le _⟩ (fun H locs hW hS => ?_)
  refine lv_if_eq (tgt := 13) hx hb dX6_missing_6 (by decide) (fun c1 => ?_) (fun c1 => ?_)
  · have hres := (if_pos c1).symm.trans hres
    have hs := And.left hs c1
    refine lv_iconst (v := 1) hx hb dX6_missing_13 (by decide) ?_
    exact xX6_missing_c14 hO C0 x1 1 h _ _ _ _ (lv_sub hl [0, 1] rfl) hW hS hs hres
  · have hres := (if_neg c1).symm.trans hres
    have hs := And.right hs c1
    refine lv_iconst (v := 0) hx hb dX6_missing_9 (by decide) ?_
    refine lv_goto (tgt := 14) hx hb dX6_missing_10 (by decide) ?_
    exact xX6_missing_c14 hO C0 x1 0 h _ _ _ _ (lv_sub hl [0, 1] rfl) hW hS hs hres
def fX6_missing (a : Nat) (x1 : Int32) (h : HH) : Int32 × HH := fX6_missing_c0 a x1 h
def sX6_missing (a : Nat) (x1 : Int32) (h : HH) : Prop := sX6_missing_c0 a x1 h
set_option maxRecDepth 100000 in
set_option maxHeartbeats 4000000 in
theorem kX6_missing (l : Launch) (X : Cx) (h : HH) (a : Nat) (x1 : Int32) (hO : IsMo X a) (hs : sX6_missing a x1 h) : Met l yX6_missing vX6_missing rmX6_missing (va_Pc [.ref a, .int x1] (fun U => WS X h U)) (QI X (fX6_missing a x1 h).1 (fX6_missing a x1 h).2) 0 0 (xA X) := by
  refine Met.ofW (cc := cX6_missing) (maxL := 2) (ret := some .int) (by decide) rfl ?_
  intro p e s m args below meth c s₁ B hml hv
  obtain ⟨rfl, hW, hK⟩ := hv
  have hl := lv_entry ([.ref a, .int x1]) (n := 2) (Nat.le_of_ble_eq_true rfl)
  rw [lg_entry_eq]
  generalize (lg_sl ([.ref a, .int x1]) ++ List.replicate (2 - (lg_sl ([.ref a, .int x1])).length) Slot.unset).toArray = ls at hl ⊢
  have hl : lv_has ls 2 [(0, .ref a), (1, .int x1)] := hl
  exact xX6_missing_c0 hO ⟨B.exec, B.bytes, B.returns, B.notSynchronized, hml, findClass_of_methodNamed B.named, fun w hw => atoms_spec (ws := vX6_missing) B.pre w (List.mem_cons_of_mem _ hw), hK⟩ x1 h _ _ ls _ (lv_sub hl [0, 1] rfl) hW va_S.rf hs rfl
-- VillageBoardModel.score(II)I
abbrev rmX6_score : Room := ({ frames := 5, cells := 0, slots := 0, locals := 110 } : Room)
abbrev vX6_score : List Cond := Cond.code yX6_score cX6_score 3 (some .int) :: lwG
theorem wX6_score {R : Room} {s : State} {args : Array Value} {own : String} {idx : Nat} (hg : ∀ w ∈ lwG, w.before args s = true) (hl : Cond.methodLink own idx yX6_score ∈ lwG) (hR : rmX6_score.frames + 1 ≤ R.frames ∧ 8 + (3 + 11) + rmX6_score.locals ≤ R.locals) : CallW R s args own RX6 idx yX6_score cX6_score 3 (some .int) vX6_score rmX6_score 0 0 2 := cwV 2 hg (gV hl q5_62 q5_63 q1_7 q5_64) rfl rfl rfl (by decide +kernel) hR
def fX6_score_c31 (a : Nat) (x1 : Int32) (x2 : Int32) (xs0 : Int32) (h : HH) : Int32 × HH := if xs0 = 0 then (if 6 ≤ x2 then ((fX6_allOf a x1 h, h)) else ((fX6_scoreOf a x1 x2 h, h))) else ((0, h))
def sX6_score_c31 (a : Nat) (x1 : Int32) (x2 : Int32) (xs0 : Int32) (h : HH) : Prop := (xs0 = 0 → ((6 ≤ x2 → (sX6_allOf a x1 h)) ∧ (¬ (6 ≤ x2) → (sX6_scoreOf a x1 x2 h)))) ∧ (¬ (xs0 = 0) → True)
set_option maxRecDepth 100000 in
set_option maxHeartbeats 4000000 in
theorem xX6_score_c31 {p : Program} {l : Launch} {e : Env} {s : State} {m : MethodId} {args : Array Value} {below : List Frame} {meth : Method} {c : Code} {X : Cx} {a : Nat} (hO : IsMo X a) (C0 : CT p s m args meth c X cX6_score 3 (some .int) RX6) (x1 : Int32) (x2 : Int32) (xs0 : Int32) (h : HH) (H : Heap) (locs : List Loc) (ls : Array Slot) (res : Int32 × HH) (hl : lv_has ls 3 [(0, .ref a), (1, .int x1), (2, .int x2)]) (hW : WH X h H) (hS : va_S (xA X) s.heap H locs) (hs : sX6_score_c31 a x1 x2 xs0 h) (hres : fX6_score_c31 a x1 x2 xs0 h = res) : W p l e rmX6_score s m args below meth c H locs 0 0 (MQ below (QI X res.1 res.2) args s 0 0 (xA X)) (F0 m 31 ls [.int xs0]) := by
  obtain ⟨hx, hb, hr, hlk, hml, hown, hts, hK⟩ := id C0
  refine lv_if_eq (tgt := 38) hx hb dX6_score_31 (by decide) (fun c3 => ?_) (fun c3 => ?_)
  · have hres := (if_pos c3).symm.trans hres
    have hs := And.left hs c3
    refine lv_iload_n hx hb dX6_score_38 rfl (lv_at hl 2 rfl) ?_
    refine lv_bipush (v := 6) hx hb dX6_score_39 (by decide) ?_
    refine lv_icmp_ge (tgt := 53) hx hb dX6_score_41 (by decide) (fun c4 => ?_) (fun c4 => ?_)
    · have hres := (if_pos c4).symm.trans hres
      have hs := And.left hs c4
      refine lv_aload_n hx hb dX6_score_53 rfl (lv_at hl 0 rfl) ?_
      refine lv_iload_n hx hb dX6_score_54 rfl (lv_at hl 1 rfl) ?_
      have hc5 := hs
      refine kV_i (As := [.int x1]) (rest := []) ⟨hx, hb, hml, hown, hts⟩ (kX6_allOf l X h a x1 hO hc5) (wX6_allOf hts q4_238 ⟨Nat.le_of_ble_eq_true rfl, Nat.le_of_ble_eq_true rfl⟩) hK hW hS (va_recv hK.1 (hW.one hO.1) (ci := 6) (q0 := 0) rfl rfl) rfl hl.1 rfl (Nat.le_of_ble_eq_true rfl) dX6_score_55 ⟨Nat.zero_le _, Nat.zero_le _⟩ (fun H locs hW hS => ?_)
      subst hres
      exact kr_i hx hb hr hlk hK hW hS dX6_score_58
    · have hres := (if_neg c4).symm.trans hres
      have hs := And.right hs c4
      refine lv_aload_n hx hb dX6_score_44 rfl (lv_at hl 0 rfl) ?_
      refine lv_iload_n hx hb dX6_score_45 rfl (lv_at hl 1 rfl) ?_
      refine lv_iload_n hx hb dX6_score_46 rfl (lv_at hl 2 rfl) ?_
      have hc6 := hs
      refine kV_i (As := [.int x1, .int x2]) (rest := []) ⟨hx, hb, hml, hown, hts⟩ (kX6_scoreOf l X h a x1 x2 hO hc6) (wX6_scoreOf hts q5_2 ⟨Nat.le_of_ble_eq_true rfl, Nat.le_of_ble_eq_true rfl⟩) hK hW hS (va_recv hK.1 (hW.one hO.1) (ci := 6) (q0 := 0) rfl rfl) rfl hl.1 rfl (Nat.le_of_ble_eq_true rfl) dX6_score_47 ⟨Nat.zero_le _, Nat.zero_le _⟩ (fun H locs hW hS => ?_)
      refine lv_goto (tgt := 58) hx hb dX6_score_50 (by decide) ?_
      subst hres
      exact kr_i hx hb hr hlk hK hW hS dX6_score_58
  · have hres := (if_neg c3).symm.trans hres
    have hs := And.right hs c3
    refine lv_iconst (v := 0) hx hb dX6_score_34 (by decide) ?_
    refine lv_goto (tgt := 58) hx hb dX6_score_35 (by decide) ?_
    subst hres
    exact kr_i hx hb hr hlk hK hW hS dX6_score_58
def fX6_score_c28 (a : Nat) (x1 : Int32) (x2 : Int32) (xs0 : Int32) (h : HH) : Int32 × HH := fX6_score_c31 a x1 x2 (bI (fX6_refused a xs0 h).1) ((fX6_refused a xs0 h).2)
def sX6_score_c28 (a : Nat) (x1 : Int32) (x2 : Int32) (xs0 : Int32) (h : HH) : Prop := sX6_score_c31 a x1 x2 (bI (fX6_refused a xs0 h).1) ((fX6_refused a xs0 h).2)
set_option maxRecDepth 100000 in
set_option maxHeartbeats 4000000 in
theorem xX6_score_c28 {p : Program} {l : Launch} {e : Env} {s : State} {m : MethodId} {args : Array Value} {below : List Frame} {meth : Method} {c : Code} {X : Cx} {a : Nat} (hO : IsMo X a) (C0 : CT p s m args meth c X cX6_score 3 (some .int) RX6) (x1 : Int32) (x2 : Int32) (xs0 : Int32) (h : HH) (H : Heap) (locs : List Loc) (ls : Array Slot) (res : Int32 × HH) (hl : lv_has ls 3 [(0, .ref a), (1, .int x1), (2, .int x2)]) (hW : WH X h H) (hS : va_S (xA X) s.heap H locs) (hs : sX6_score_c28 a x1 x2 xs0 h) (hres : fX6_score_c28 a x1 x2 xs0 h = res) : W p l e rmX6_score s m args below meth c H locs 0 0 (MQ below (QI X res.1 res.2) args s 0 0 (xA X)) (F0 m 28 ls [.int xs0, .ref a]) := by
  obtain ⟨hx, hb, hr, hlk, hml, hown, hts, hK⟩ := id C0
  refine kV_i (As := [.int xs0]) (rest := []) ⟨hx, hb, hml, hown, hts⟩ (kX6_refused l X h a xs0 hO) (wX6_refused hts q4_88 ⟨Nat.le_of_ble_eq_true rfl, Nat.le_of_ble_eq_true rfl⟩) hK hW hS (va_recv hK.1 (hW.one hO.1) (ci := 6) (q0 := 0) rfl rfl) rfl hl.1 rfl (Nat.le_of_ble_eq_true rfl) dX6_score_28 ⟨Nat.zero_le _, Nat.zero_le _⟩ (fun H locs hW hS => ?_)
  exact xX6_score_c31 hO C0 x1 x2 (bI (fX6_refused a xs0 h).1) ((fX6_refused a xs0 h).2) _ _ _ _ (lv_sub hl [0, 1, 2] rfl) hW hS hs hres
def fX6_score_c0 (a : Nat) (x1 : Int32) (x2 : Int32) (h : HH) : Int32 × HH := if (bI (fX6_isPlayer a x1 h)) = 0 then (fX6_score_c28 a x1 x2 1 h) else (if (bI (fX6_within x2 0 6)) = 0 then (fX6_score_c28 a x1 x2 2 h) else (fX6_score_c28 a x1 x2 0 h))
def sX6_score_c0 (a : Nat) (x1 : Int32) (x2 : Int32) (h : HH) : Prop := ((bI (fX6_isPlayer a x1 h)) = 0 → (sX6_score_c28 a x1 x2 1 h)) ∧ (¬ ((bI (fX6_isPlayer a x1 h)) = 0) → (((bI (fX6_within x2 0 6)) = 0 → (sX6_score_c28 a x1 x2 2 h)) ∧ (¬ ((bI (fX6_within x2 0 6)) = 0) → (sX6_score_c28 a x1 x2 0 h))))
set_option maxRecDepth 100000 in
set_option maxHeartbeats 4000000 in
theorem xX6_score_c0 {p : Program} {l : Launch} {e : Env} {s : State} {m : MethodId} {args : Array Value} {below : List Frame} {meth : Method} {c : Code} {X : Cx} {a : Nat} (hO : IsMo X a) (C0 : CT p s m args meth c X cX6_score 3 (some .int) RX6) (x1 : Int32) (x2 : Int32) (h : HH) (H : Heap) (locs : List Loc) (ls : Array Slot) (res : Int32 × HH) (hl : lv_has ls 3 [(0, .ref a), (1, .int x1), (2, .int x2)]) (hW : WH X h H) (hS : va_S (xA X) s.heap H locs) (hs : sX6_score_c0 a x1 x2 h) (hres : fX6_score_c0 a x1 x2 h = res) : W p l e rmX6_score s m args below meth c H locs 0 0 (MQ below (QI X res.1 res.2) args s 0 0 (xA X)) (F0 m 0 ls []) := by
  obtain ⟨hx, hb, hr, hlk, hml, hown, hts, hK⟩ := id C0
  refine lv_aload_n hx hb dX6_score_0 rfl (lv_at hl 0 rfl) ?_
  refine lv_aload_n hx hb dX6_score_1 rfl (lv_at hl 0 rfl) ?_
  refine lv_iload_n hx hb dX6_score_2 rfl (lv_at hl 1 rfl) ?_
  refine kV_i (As := [.int x1]) (rest := [.ref a]) ⟨hx, hb, hml, hown, hts⟩ (kX6_isPlayer l X h a x1 hO) (wX6_isPlayer hts q5_29 ⟨Nat.le_of_ble_eq_true rfl, Nat.le_of_ble_eq_true rfl⟩) hK hW hS (va_recv hK.1 (hW.one hO.1) (ci := 6) (q0 := 0) rfl rfl) rfl hl.1 rfl (Nat.le_of_ble_eq_true rfl) dX6_score_3 ⟨Nat.zero_le _, Nat.zero_le _⟩ (fun H locs hW hS => ?_)
  refine lv_if_ne (tgt := 13) hx hb dX6_score_6 (by decide) (fun c1 => ?_) (fun c1 => ?_)
  · have hres := (if_neg c1).symm.trans hres
    have hs := And.right hs c1
    refine lv_iload_n hx hb dX6_score_13 rfl (lv_at hl 2 rfl) ?_
    refine lv_iconst (v := 0) hx hb dX6_score_14 (by decide) ?_
    refine lv_bipush (v := 6) hx hb dX6_score_15 (by decide) ?_
    refine kS_i (As := [.int x2, .int 0, .int 6]) (rest := [.ref a]) ⟨hx, hb, hml, hown, hts⟩ (kX6_within l X h x2 0 6) (wX6_within hts q4_96 ⟨Nat.le_of_ble_eq_true rfl, Nat.le_of_ble_eq_true rfl⟩) hK hW hS rfl hl.1 rfl (Nat.le_of_ble_eq_true rfl) dX6_score_17 ⟨Nat.zero_le _, Nat.zero_le _⟩ (fun H locs hW hS => ?_)
    refine lv_if_eq (tgt := 27) hx hb dX6_score_20 (by decide) (fun c2 => ?_) (fun c2 => ?_)
    · have hres := (if_pos c2).symm.trans hres
      have hs := And.left hs c2
      refine lv_iconst (v := 2) hx hb dX6_score_27 (by decide) ?_
      exact xX6_score_c28 hO C0 x1 x2 2 h _ _ _ _ (lv_sub hl [0, 1, 2] rfl) hW hS hs hres
    · have hres := (if_neg c2).symm.trans hres
      have hs := And.right hs c2
      refine lv_iconst (v := 0) hx hb dX6_score_23 (by decide) ?_
      refine lv_goto (tgt := 28) hx hb dX6_score_24 (by decide) ?_
      exact xX6_score_c28 hO C0 x1 x2 0 h _ _ _ _ (lv_sub hl [0, 1, 2] rfl) hW hS hs hres
  · have hres := (if_pos c1).symm.trans hres
    have hs := And.left hs c1
    refine lv_iconst (v := 1) hx hb dX6_score_9 (by decide) ?_
    refine lv_goto (tgt := 28) hx hb dX6_score_10 (by decide) ?_
    exact xX6_score_c28 hO C0 x1 x2 1 h _ _ _ _ (lv_sub hl [0, 1, 2] rfl) hW hS hs hres
def fX6_score (a : Nat) (x1 : Int32) (x2 : Int32) (h : HH) : Int32 × HH := fX6_score_c0 a x1 x2 h
def sX6_score (a : Nat) (x1 : Int32) (x2 : Int32) (h : HH) : Prop := sX6_score_c0 a x1 x2 h
set_option maxRecDepth 100000 in
set_option maxHeartbeats 4000000 in
theorem kX6_score (l : Launch) (X : Cx) (h : HH) (a : Nat) (x1 : Int32) (x2 : Int32) (hO : IsMo X a) (hs : sX6_score a x1 x2 h) : Met l yX6_score vX6_score rmX6_score (va_Pc [.ref a, .int x1, .int x2] (fun U => WS X h U)) (QI X (fX6_score a x1 x2 h).1 (fX6_score a x1 x2 h).2) 0 0 (xA X) := by
  refine Met.ofW (cc := cX6_score) (maxL := 3) (ret := some .int) (by decide) rfl ?_
  intro p e s m args below meth c s₁ B hml hv
  obtain ⟨rfl, hW, hK⟩ := hv
  have hl := lv_entry ([.ref a, .int x1, .int x2]) (n := 3) (Nat.le_of_ble_eq_true rfl)
  rw [lg_entry_eq]
  generalize (lg_sl ([.ref a, .int x1, .int x2]) ++ List.replicate (3 - (lg_sl ([.ref a, .int x1, .int x2])).length) Slot.unset).toArray = ls at hl ⊢
  have hl : lv_has ls 3 [(0, .ref a), (1, .int x1), (2, .int x2)] := hl
  exact xX6_score_c0 hO ⟨B.exec, B.bytes, B.returns, B.notSynchronized, hml, findClass_of_methodNamed B.named, fun w hw => atoms_spec (ws := vX6_score) B.pre w (List.mem_cons_of_mem _ hw), hK⟩ x1 x2 h _ _ ls _ (lv_sub hl [0, 1, 2] rfl) hW va_S.rf hs rfl
-- VillageBoardModel.rankOf(I)I
abbrev rmX6_rankOf : Room := ({ frames := 5, cells := 0, slots := 0, locals := 110 } : Room)
abbrev vX6_rankOf : List Cond := Cond.code yX6_rankOf cX6_rankOf 5 (some .int) :: lwG
theorem wX6_rankOf {R : Room} {s : State} {args : Array Value} {own : String} {idx : Nat} (hg : ∀ w ∈ lwG, w.before args s = true) (hl : Cond.methodLink own idx yX6_rankOf ∈ lwG) (hR : rmX6_rankOf.frames + 1 ≤ R.frames ∧ 8 + (5 + 11) + rmX6_rankOf.locals ≤ R.locals) : CallW R s args own RX6 idx yX6_rankOf cX6_rankOf 5 (some .int) vX6_rankOf rmX6_rankOf 0 0 1 := cwV 1 hg (gV hl q5_71 q0_54 q1_7 q5_72) rfl rfl rfl (by decide +kernel) hR
def fX6_rankOf_c58 (a : Nat) (k4 : Int32 → Int32 → Int32 → HH → Int32) (x1 : Int32) (x3 : Int32) (xs0 : Int32) (xs1 : Int32) (h : HH) : Int32 := k4 x1 (xs1 + xs0) (x3 + 1) h
def sX6_rankOf_c58 (a : Nat) (K4 : Int32 → Int32 → Int32 → HH → Prop) (x1 : Int32) (x3 : Int32) (xs0 : Int32) (xs1 : Int32) (h : HH) : Prop := K4 x1 (xs1 + xs0) (x3 + 1) h
set_option maxRecDepth 100000 in
set_option maxHeartbeats 4000000 in
theorem xX6_rankOf_c58 {p : Program} {l : Launch} {e : Env} {s : State} {m : MethodId} {args : Array Value} {below : List Frame} {meth : Method} {c : Code} {X : Cx} {a : Nat} (hO : IsMo X a) (C0 : CT p s m args meth c X cX6_rankOf 5 (some .int) RX6) {k4 : Int32 → Int32 → Int32 → HH → Int32} {K4 : Int32 → Int32 → Int32 → HH → Prop} (hk4 : ∀ (x1 : Int32) (x2 : Int32) (x3 : Int32) (h : HH) (H : Heap) (locs : List Loc) (ls : Array Slot) (res : Int32) (hl : lv_has ls 5 [(0, .ref a), (1, .int x1), (2, .int x2), (3, .int x3)]) (hW : WH X h H) (hS : va_S (xA X) s.heap H locs) (_ : K4 x1 x2 x3 h) (hres : k4 x1 x2 x3 h = res), W p l e rmX6_rankOf s m args below meth c H locs 0 0 (MQ below (QI X res h) args s 0 0 (xA X)) (F0 m 4 ls [])) (x1 : Int32) (x3 : Int32) (xs0 : Int32) (xs1 : Int32) (h : HH) (H : Heap) (locs : List Loc) (ls : Array Slot) (res : Int32) (hl : lv_has ls 5 [(0, .ref a), (1, .int x1), (3, .int x3)]) (hW : WH X h H) (hS : va_S (xA X) s.heap H locs) (hs : sX6_rankOf_c58 a K4 x1 x3 xs0 xs1 h) (hres : fX6_rankOf_c58 a k4 x1 x3 xs0 xs1 h = res) : W p l e rmX6_rankOf s m args below meth c H locs 0 0 (MQ below (QI X res h) args s 0 0 (xA X)) (F0 m 58 ls [.int xs0, .int xs1]) := by
  obtain ⟨hx, hb, hr, hlk, hml, hown, hts, hK⟩ := id C0
  refine lv_iadd hx hb dX6_rankOf_58 ?_
  refine lv_istore_n (lv' := [(2, .int (xs1 + xs0)), (0, .ref a), (1, .int x1), (3, .int x3)]) hx hb dX6_rankOf_59 rfl hl (by decide) rfl (fun ls hl => ?_)
  refine lv_iinc (v := x3 + 1) (lv' := [(3, .int (x3 + 1)), (2, .int (xs1 + xs0)), (0, .ref a), (1, .int x1)]) hx hb dX6_rankOf_60 hl (k := 3) rfl rfl (by decide) rfl (fun ls hl => ?_)
  refine lv_goto (tgt := 4) hx hb dX6_rankOf_63 (by decide) ?_
  exact hk4 x1 (xs1 + xs0) (x3 + 1) h _ _ _ _ (lv_sub hl [2, 3, 1, 0] rfl) hW hS hs hres
def fX6_rankOf_c53 (a : Nat) (k4 : Int32 → Int32 → Int32 → HH → Int32) (x1 : Int32) (x3 : Int32) (xs0 : Int32) (h : HH) : Int32 := fX6_rankOf_c58 a k4 x1 x3 1 xs0 h
def sX6_rankOf_c53 (a : Nat) (K4 : Int32 → Int32 → Int32 → HH → Prop) (x1 : Int32) (x3 : Int32) (xs0 : Int32) (h : HH) : Prop := sX6_rankOf_c58 a K4 x1 x3 1 xs0 h
set_option maxRecDepth 100000 in
set_option maxHeartbeats 4000000 in
theorem xX6_rankOf_c53 {p : Program} {l : Launch} {e : Env} {s : State} {m : MethodId} {args : Array Value} {below : List Frame} {meth : Method} {c : Code} {X : Cx} {a : Nat} (hO : IsMo X a) (C0 : CT p s m args meth c X cX6_rankOf 5 (some .int) RX6) {k4 : Int32 → Int32 → Int32 → HH → Int32} {K4 : Int32 → Int32 → Int32 → HH → Prop} (hk4 : ∀ (x1 : Int32) (x2 : Int32) (x3 : Int32) (h : HH) (H : Heap) (locs : List Loc) (ls : Array Slot) (res : Int32) (hl : lv_has ls 5 [(0, .ref a), (1, .int x1), (2, .int x2), (3, .int x3)]) (hW : WH X h H) (hS : va_S (xA X) s.heap H locs) (_ : K4 x1 x2 x3 h) (hres : k4 x1 x2 x3 h = res), W p l e rmX6_rankOf s m args below meth c H locs 0 0 (MQ below (QI X res h) args s 0 0 (xA X)) (F0 m 4 ls [])) (x1 : Int32) (x3 : Int32) (xs0 : Int32) (h : HH) (H : Heap) (locs : List Loc) (ls : Array Slot) (res : Int32) (hl : lv_has ls 5 [(0, .ref a), (1, .int x1), (3, .int x3)]) (hW : WH X h H) (hS : va_S (xA X) s.heap H locs) (hs : sX6_rankOf_c53 a K4 x1 x3 xs0 h) (hres : fX6_rankOf_c53 a k4 x1 x3 xs0 h = res) : W p l e rmX6_rankOf s m args below meth c H locs 0 0 (MQ below (QI X res h) args s 0 0 (xA X)) (F0 m 53 ls [.int xs0]) := by
  obtain ⟨hx, hb, hr, hlk, hml, hown, hts, hK⟩ := id C0
  refine lv_iconst (v := 1) hx hb dX6_rankOf_53 (by decide) ?_
  refine lv_goto (tgt := 58) hx hb dX6_rankOf_54 (by decide) ?_
  exact xX6_rankOf_c58 hO C0 hk4 x1 x3 1 xs0 h _ _ _ _ (lv_sub hl [0, 1, 2] rfl) hW hS hs hres
def fX6_rankOf_c57 (a : Nat) (k4 : Int32 → Int32 → Int32 → HH → Int32) (x1 : Int32) (x3 : Int32) (xs0 : Int32) (h : HH) : Int32 := fX6_rankOf_c58 a k4 x1 x3 0 xs0 h
def sX6_rankOf_c57 (a : Nat) (K4 : Int32 → Int32 → Int32 → HH → Prop) (x1 : Int32) (x3 : Int32) (xs0 : Int32) (h : HH) : Prop := sX6_rankOf_c58 a K4 x1 x3 0 xs0 h
set_option maxRecDepth 100000 in
set_option maxHeartbeats 4000000 in
theorem xX6_rankOf_c57 {p : Program} {l : Launch} {e : Env} {s : State} {m : MethodId} {args : Array Value} {below : List Frame} {meth : Method} {c : Code} {X : Cx} {a : Nat} (hO : IsMo X a) (C0 : CT p s m args meth c X cX6_rankOf 5 (some .int) RX6) {k4 : Int32 → Int32 → Int32 → HH → Int32} {K4 : Int32 → Int32 → Int32 → HH → Prop} (hk4 : ∀ (x1 : Int32) (x2 : Int32) (x3 : Int32) (h : HH) (H : Heap) (locs : List Loc) (ls : Array Slot) (res : Int32) (hl : lv_has ls 5 [(0, .ref a), (1, .int x1), (2, .int x2), (3, .int x3)]) (hW : WH X h H) (hS : va_S (xA X) s.heap H locs) (_ : K4 x1 x2 x3 h) (hres : k4 x1 x2 x3 h = res), W p l e rmX6_rankOf s m args below meth c H locs 0 0 (MQ below (QI X res h) args s 0 0 (xA X)) (F0 m 4 ls [])) (x1 : Int32) (x3 : Int32) (xs0 : Int32) (h : HH) (H : Heap) (locs : List Loc) (ls : Array Slot) (res : Int32) (hl : lv_has ls 5 [(0, .ref a), (1, .int x1), (3, .int x3)]) (hW : WH X h H) (hS : va_S (xA X) s.heap H locs) (hs : sX6_rankOf_c57 a K4 x1 x3 xs0 h) (hres : fX6_rankOf_c57 a k4 x1 x3 xs0 h = res) : W p l e rmX6_rankOf s m args below meth c H locs 0 0 (MQ below (QI X res h) args s 0 0 (xA X)) (F0 m 57 ls [.int xs0]) := by
  obtain ⟨hx, hb, hr, hlk, hml, hown, hts, hK⟩ := id C0
  refine lv_iconst (v := 0) hx hb dX6_rankOf_57 (by decide) ?_
  exact xX6_rankOf_c58 hO C0 hk4 x1 x3 0 xs0 h _ _ _ _ (lv_sub hl [0, 1, 2] rfl) hW hS hs hres
def fX6_rankOf_c4 (a : Nat) : Nat → Int32 → Int32 → Int32 → HH → Int32
  | 0, x1, x2, x3, h => 0
  | n + 1, x1, x2, x3, h => if (h (a + 1) 0) ≤ x3 then x2 else (if 0 < ((fX6_allOf a x3 h) - (fX6_allOf a x1 h)) then (fX6_rankOf_c53 a (fX6_rankOf_c4 a n) x1 x3 x2 h) else (if ((fX6_allOf a x3 h) - (fX6_allOf a x1 h)) = 0 then (if (fX6_get a x3 4 h) ≤ (fX6_get a x1 4 h) then (fX6_rankOf_c57 a (fX6_rankOf_c4 a n) x1 x3 x2 h) else (fX6_rankOf_c53 a (fX6_rankOf_c4 a n) x1 x3 x2 h)) else (fX6_rankOf_c57 a (fX6_rankOf_c4 a n) x1 x3 x2 h)))
def sX6_rankOf_c4 (a : Nat) : Nat → Int32 → Int32 → Int32 → HH → Prop
  | 0, _, _, _, _ => False
  | n + 1, x1, x2, x3, h => ((h (a + 1) 0) ≤ x3 → True) ∧ (¬ ((h (a + 1) 0) ≤ x3) → ((sX6_allOf a x3 h) ∧ ((sX6_allOf a x1 h) ∧ ((0 < ((fX6_allOf a x3 h) - (fX6_allOf a x1 h)) → (sX6_rankOf_c53 a (sX6_rankOf_c4 a n) x1 x3 x2 h)) ∧ (¬ (0 < ((fX6_allOf a x3 h) - (fX6_allOf a x1 h))) → ((((fX6_allOf a x3 h) - (fX6_allOf a x1 h)) = 0 → ((sX6_get a x3 4 h) ∧ ((sX6_get a x1 4 h) ∧ (((fX6_get a x3 4 h) ≤ (fX6_get a x1 4 h) → (sX6_rankOf_c57 a (sX6_rankOf_c4 a n) x1 x3 x2 h)) ∧ (¬ ((fX6_get a x3 4 h) ≤ (fX6_get a x1 4 h)) → (sX6_rankOf_c53 a (sX6_rankOf_c4 a n) x1 x3 x2 h)))))) ∧ (¬ (((fX6_allOf a x3 h) - (fX6_allOf a x1 h)) = 0) → (sX6_rankOf_c57 a (sX6_rankOf_c4 a n) x1 x3 x2 h))))))))
set_option maxRecDepth 100000 in
set_option maxHeartbeats 4000000 in
theorem xX6_rankOf_c4 {p : Program} {l : Launch} {e : Env} {s : State} {m : MethodId} {args : Array Value} {below : List Frame} {meth : Method} {c : Code} {X : Cx} {a : Nat} (hO : IsMo X a) (C0 : CT p s m args meth c X cX6_rankOf 5 (some .int) RX6) : ∀ (n : Nat) (x1 : Int32) (x2 : Int32) (x3 : Int32) (h : HH) (H : Heap) (locs : List Loc) (ls : Array Slot) (res : Int32) (hl : lv_has ls 5 [(0, .ref a), (1, .int x1), (2, .int x2), (3, .int x3)]) (hW : WH X h H) (hS : va_S (xA X) s.heap H locs) (hs : sX6_rankOf_c4 a n x1 x2 x3 h) (hres : fX6_rankOf_c4 a n x1 x2 x3 h = res), W p l e rmX6_rankOf s m args below meth c H locs 0 0 (MQ below (QI X res h) args s 0 0 (xA X)) (F0 m 4 ls []) := by
  obtain ⟨hx, hb, hr, hlk, hml, hown, hts, hK⟩ := id C0
  intro n
  induction n with
  | zero =>
    intro _ _ _ _ _ _ _ _ _ _ _ hs _
    exact hs.elim
  | succ n ih =>
    intro x1 x2 x3 h H locs ls res hl hW hS hs hres
    refine lv_iload_n hx hb dX6_rankOf_4 rfl (lv_at hl 3 rfl) ?_
    refine lv_aload_n hx hb dX6_rankOf_5 rfl (lv_at hl 0 rfl) ?_
    refine g6_0 hx hb hts hown hK hW hO.1 (hts _ q4_49) dX6_rankOf_6 ?_
    refine lv_iconst (v := 0) hx hb dX6_rankOf_9 (by decide) ?_
    refine kb_iald hx hb hK hW hO.2.1 (k := 0) (by decide) (vpd (by decide)) dX6_rankOf_10 ?_
    refine lv_icmp_ge (tgt := 66) hx hb dX6_rankOf_11 (by decide) (fun c1 => ?_) (fun c1 => ?_)
    · have hres := (if_pos c1).symm.trans hres
      have hs := And.left hs c1
      refine lv_iload_n hx hb dX6_rankOf_66 rfl (lv_at hl 2 rfl) ?_
      subst hres
      exact kr_i hx hb hr hlk hK hW hS dX6_rankOf_67
    · have hres := (if_neg c1).symm.trans hres
      have hs := And.right hs c1
      refine lv_aload_n hx hb dX6_rankOf_14 rfl (lv_at hl 0 rfl) ?_
      refine lv_iload_n hx hb dX6_rankOf_15 rfl (lv_at hl 3 rfl) ?_
      obtain ⟨hc2, hs⟩ := hs
      refine kV_i (As := [.int x3]) (rest := []) ⟨hx, hb, hml, hown, hts⟩ (kX6_allOf l X h a x3 hO hc2) (wX6_allOf hts q4_238 ⟨Nat.le_of_ble_eq_true rfl, Nat.le_of_ble_eq_true rfl⟩) hK hW hS (va_recv hK.1 (hW.one hO.1) (ci := 6) (q0 := 0) rfl rfl) rfl hl.1 rfl (Nat.le_of_ble_eq_true rfl) dX6_rankOf_16 ⟨Nat.zero_le _, Nat.zero_le _⟩ (fun H locs hW hS => ?_)
      refine lv_aload_n hx hb dX6_rankOf_19 rfl (lv_at hl 0 rfl) ?_
      refine lv_iload_n hx hb dX6_rankOf_20 rfl (lv_at hl 1 rfl) ?_
      obtain ⟨hc3, hs⟩ := hs
      refine kV_i (As := [.int x1]) (rest := [.int (fX6_allOf a x3 h)]) ⟨hx, hb, hml, hown, hts⟩ (kX6_allOf l X h a x1 hO hc3) (wX6_allOf hts q4_238 ⟨Nat.le_of_ble_eq_true rfl, Nat.le_of_ble_eq_true rfl⟩) hK hW hS (va_recv hK.1 (hW.one hO.1) (ci := 6) (q0 := 0) rfl rfl) rfl hl.1 rfl (Nat.le_of_ble_eq_true rfl) dX6_rankOf_21 ⟨Nat.zero_le _, Nat.zero_le _⟩ (fun H locs hW hS => ?_)
      refine lv_isub hx hb dX6_rankOf_24 ?_
      refine lv_istore (lv' := [(4, .int ((fX6_allOf a x3 h) - (fX6_allOf a x1 h))), (0, .ref a), (1, .int x1), (2, .int x2), (3, .int x3)]) hx hb dX6_rankOf_25 hl (by decide) rfl (fun ls hl => ?_)
      refine lv_iload_n hx hb dX6_rankOf_27 rfl (lv_at hl 3 rfl) ?_
      refine lv_iload hx hb dX6_rankOf_28 (lv_at hl 0 rfl) ?_
      refine lv_if_gt (tgt := 53) hx hb dX6_rankOf_30 (by decide) (fun c4 => ?_) (fun c4 => ?_)
      · have hres := (if_pos c4).symm.trans hres
        have hs := And.left hs c4
        exact xX6_rankOf_c53 hO C0 ih x1 x3 x2 h _ _ _ _ (lv_sub hl [1, 2, 4] rfl) hW hS hs hres
      · have hres := (if_neg c4).symm.trans hres
        have hs := And.right hs c4
        refine lv_iload hx hb dX6_rankOf_33 (lv_at hl 0 rfl) ?_
        refine lv_if_ne (tgt := 57) hx hb dX6_rankOf_35 (by decide) (fun c5 => ?_) (fun c5 => ?_)
        · have hres := (if_neg c5).symm.trans hres
          have hs := And.right hs c5
          exact xX6_rankOf_c57 hO C0 ih x1 x3 x2 h _ _ _ _ (lv_sub hl [1, 2, 4] rfl) hW hS hs hres
        · have hres := (if_pos c5).symm.trans hres
          have hs := And.left hs c5
          refine lv_aload_n hx hb dX6_rankOf_38 rfl (lv_at hl 1 rfl) ?_
          refine lv_iload_n hx hb dX6_rankOf_39 rfl (lv_at hl 4 rfl) ?_
          refine lv_iconst (v := 4) hx hb dX6_rankOf_40 (by decide) ?_
          obtain ⟨hc6, hs⟩ := hs
          refine kV_i (As := [.int x3, .int 4]) (rest := [.int x2]) ⟨hx, hb, hml, hown, hts⟩ (kX6_get l X h a x3 4 hO hc6) (wX6_get hts q4_41 ⟨Nat.le_of_ble_eq_true rfl, Nat.le_of_ble_eq_true rfl⟩) hK hW hS (va_recv hK.1 (hW.one hO.1) (ci := 6) (q0 := 0) rfl rfl) rfl hl.1 rfl (Nat.le_of_ble_eq_true rfl) dX6_rankOf_41 ⟨Nat.zero_le _, Nat.zero_le _⟩ (fun H locs hW hS => ?_)
          refine lv_aload_n hx hb dX6_rankOf_44 rfl (lv_at hl 1 rfl) ?_
          refine lv_iload_n hx hb dX6_rankOf_45 rfl (lv_at hl 2 rfl) ?_
          refine lv_iconst (v := 4) hx hb dX6_rankOf_46 (by decide) ?_
          obtain ⟨hc7, hs⟩ := hs
          refine kV_i (As := [.int x1, .int 4]) (rest := [.int (fX6_get a x3 4 h), .int x2]) ⟨hx, hb, hml, hown, hts⟩ (kX6_get l X h a x1 4 hO hc7) (wX6_get hts q4_41 ⟨Nat.le_of_ble_eq_true rfl, Nat.le_of_ble_eq_true rfl⟩) hK hW hS (va_recv hK.1 (hW.one hO.1) (ci := 6) (q0 := 0) rfl rfl) rfl hl.1 rfl (Nat.le_of_ble_eq_true rfl) dX6_rankOf_47 ⟨Nat.zero_le _, Nat.zero_le _⟩ (fun H locs hW hS => ?_)
          refine lv_icmp_le (tgt := 57) hx hb dX6_rankOf_50 (by decide) (fun c8 => ?_) (fun c8 => ?_)
          · have hres := (if_pos c8).symm.trans hres
            have hs := And.left hs c8
            exact xX6_rankOf_c57 hO C0 ih x1 x3 x2 h _ _ _ _ (lv_sub hl [1, 2, 4] rfl) hW hS hs hres
          · have hres := (if_neg c8).symm.trans hres
            have hs := And.right hs c8
            exact xX6_rankOf_c53 hO C0 ih x1 x3 x2 h _ _ _ _ (lv_sub hl [1, 2, 4] rfl) hW hS hs hres
def fX6_rankOf_c0 (a : Nat) (x1 : Int32) (h : HH) : Int32 := fX6_rankOf_c4 a 5 x1 1 0 h
def sX6_rankOf_c0 (a : Nat) (x1 : Int32) (h : HH) : Prop := sX6_rankOf_c4 a 5 x1 1 0 h
set_option maxRecDepth 100000 in
set_option maxHeartbeats 4000000 in
theorem xX6_rankOf_c0 {p : Program} {l : Launch} {e : Env} {s : State} {m : MethodId} {args : Array Value} {below : List Frame} {meth : Method} {c : Code} {X : Cx} {a : Nat} (hO : IsMo X a) (C0 : CT p s m args meth c X cX6_rankOf 5 (some .int) RX6) (x1 : Int32) (h : HH) (H : Heap) (locs : List Loc) (ls : Array Slot) (res : Int32) (hl : lv_has ls 5 [(0, .ref a), (1, .int x1)]) (hW : WH X h H) (hS : va_S (xA X) s.heap H locs) (hs : sX6_rankOf_c0 a x1 h) (hres : fX6_rankOf_c0 a x1 h = res) : W p l e rmX6_rankOf s m args below meth c H locs 0 0 (MQ below (QI X res h) args s 0 0 (xA X)) (F0 m 0 ls []) := by
  obtain ⟨hx, hb, hr, hlk, hml, hown, hts, hK⟩ := id C0
  refine lv_iconst (v := 1) hx hb dX6_rankOf_0 (by decide) ?_
  refine lv_istore_n (lv' := [(2, .int 1), (0, .ref a), (1, .int x1)]) hx hb dX6_rankOf_1 rfl hl (by decide) rfl (fun ls hl => ?_)
  refine lv_iconst (v := 0) hx hb dX6_rankOf_2 (by decide) ?_
  refine lv_istore_n (lv' := [(3, .int 0), (2, .int 1), (0, .ref a), (1, .int x1)]) hx hb dX6_rankOf_3 rfl hl (by decide) rfl (fun ls hl => ?_)
  exact xX6_rankOf_c4 hO C0 5 x1 1 0 h _ _ _ _ (lv_sub hl [2, 3, 1, 0] rfl) hW hS hs hres
def fX6_rankOf (a : Nat) (x1 : Int32) (h : HH) : Int32 := fX6_rankOf_c0 a x1 h
def sX6_rankOf (a : Nat) (x1 : Int32) (h : HH) : Prop := sX6_rankOf_c0 a x1 h
set_option maxRecDepth 100000 in
set_option maxHeartbeats 4000000 in
theorem kX6_rankOf (l : Launch) (X : Cx) (h : HH) (a : Nat) (x1 : Int32) (hO : IsMo X a) (hs : sX6_rankOf a x1 h) : Met l yX6_rankOf vX6_rankOf rmX6_rankOf (va_Pc [.ref a, .int x1] (fun U => WS X h U)) (QI X (fX6_rankOf a x1 h) h) 0 0 (xA X) := by
  refine Met.ofW (cc := cX6_rankOf) (maxL := 5) (ret := some .int) (by decide) rfl ?_
  intro p e s m args below meth c s₁ B hml hv
  obtain ⟨rfl, hW, hK⟩ := hv
  have hl := lv_entry ([.ref a, .int x1]) (n := 5) (Nat.le_of_ble_eq_true rfl)
  rw [lg_entry_eq]
  generalize (lg_sl ([.ref a, .int x1]) ++ List.replicate (5 - (lg_sl ([.ref a, .int x1])).length) Slot.unset).toArray = ls at hl ⊢
  have hl : lv_has ls 5 [(0, .ref a), (1, .int x1)] := hl
  exact xX6_rankOf_c0 hO ⟨B.exec, B.bytes, B.returns, B.notSynchronized, hml, findClass_of_methodNamed B.named, fun w hw => atoms_spec (ws := vX6_rankOf) B.pre w (List.mem_cons_of_mem _ hw), hK⟩ x1 h _ _ ls _ (lv_sub hl [0, 1] rfl) hW va_S.rf hs rfl
-- VillageBoardModel.rank(I)I
abbrev rmX6_rank : Room := ({ frames := 6, cells := 0, slots := 0, locals := 134 } : Room)
abbrev vX6_rank : List Cond := Cond.code yX6_rank cX6_rank 2 (some .int) :: lwG
theorem wX6_rank {R : Room} {s : State} {args : Array Value} {own : String} {idx : Nat} (hg : ∀ w ∈ lwG, w.before args s = true) (hl : Cond.methodLink own idx yX6_rank ∈ lwG) (hR : rmX6_rank.frames + 1 ≤ R.frames ∧ 8 + (2 + 11) + rmX6_rank.locals ≤ R.locals) : CallW R s args own RX6 idx yX6_rank cX6_rank 2 (some .int) vX6_rank rmX6_rank 0 0 1 := cwV 1 hg (gV hl q5_66 q5_67 q1_7 q5_68) rfl rfl rfl (by decide +kernel) hR
def fX6_rank_c17 (a : Nat) (x1 : Int32) (xs0 : Int32) (h : HH) : Int32 × HH := if xs0 = 0 then ((fX6_rankOf a x1 h, h)) else ((0, h))
def sX6_rank_c17 (a : Nat) (x1 : Int32) (xs0 : Int32) (h : HH) : Prop := (xs0 = 0 → (sX6_rankOf a x1 h)) ∧ (¬ (xs0 = 0) → True)
set_option maxRecDepth 100000 in
set_option maxHeartbeats 4000000 in
theorem xX6_rank_c17 {p : Program} {l : Launch} {e : Env} {s : State} {m : MethodId} {args : Array Value} {below : List Frame} {meth : Method} {c : Code} {X : Cx} {a : Nat} (hO : IsMo X a) (C0 : CT p s m args meth c X cX6_rank 2 (some .int) RX6) (x1 : Int32) (xs0 : Int32) (h : HH) (H : Heap) (locs : List Loc) (ls : Array Slot) (res : Int32 × HH) (hl : lv_has ls 2 [(0, .ref a), (1, .int x1)]) (hW : WH X h H) (hS : va_S (xA X) s.heap H locs) (hs : sX6_rank_c17 a x1 xs0 h) (hres : fX6_rank_c17 a x1 xs0 h = res) : W p l e rmX6_rank s m args below meth c H locs 0 0 (MQ below (QI X res.1 res.2) args s 0 0 (xA X)) (F0 m 17 ls [.int xs0]) := by
  obtain ⟨hx, hb, hr, hlk, hml, hown, hts, hK⟩ := id C0
  refine lv_if_eq (tgt := 24) hx hb dX6_rank_17 (by decide) (fun c2 => ?_) (fun c2 => ?_)
  · have hres := (if_pos c2).symm.trans hres
    have hs := And.left hs c2
    refine lv_aload_n hx hb dX6_rank_24 rfl (lv_at hl 0 rfl) ?_
    refine lv_iload_n hx hb dX6_rank_25 rfl (lv_at hl 1 rfl) ?_
    have hc3 := hs
    refine kV_i (As := [.int x1]) (rest := []) ⟨hx, hb, hml, hown, hts⟩ (kX6_rankOf l X h a x1 hO hc3) (wX6_rankOf hts q5_69 ⟨Nat.le_of_ble_eq_true rfl, Nat.le_of_ble_eq_true rfl⟩) hK hW hS (va_recv hK.1 (hW.one hO.1) (ci := 6) (q0 := 0) rfl rfl) rfl hl.1 rfl (Nat.le_of_ble_eq_true rfl) dX6_rank_26 ⟨Nat.zero_le _, Nat.zero_le _⟩ (fun H locs hW hS => ?_)
    subst hres
    exact kr_i hx hb hr hlk hK hW hS dX6_rank_29
  · have hres := (if_neg c2).symm.trans hres
    have hs := And.right hs c2
    refine lv_iconst (v := 0) hx hb dX6_rank_20 (by decide) ?_
    refine lv_goto (tgt := 29) hx hb dX6_rank_21 (by decide) ?_
    subst hres
    exact kr_i hx hb hr hlk hK hW hS dX6_rank_29
def fX6_rank_c14 (a : Nat) (x1 : Int32) (xs0 : Int32) (h : HH) : Int32 × HH := fX6_rank_c17 a x1 (bI (fX6_refused a xs0 h).1) ((fX6_refused a xs0 h).2)
def sX6_rank_c14 (a : Nat) (x1 : Int32) (xs0 : Int32) (h : HH) : Prop := sX6_rank_c17 a x1 (bI (fX6_refused a xs0 h).1) ((fX6_refused a xs0 h).2)
set_option maxRecDepth 100000 in
set_option maxHeartbeats 4000000 in
theorem xX6_rank_c14 {p : Program} {l : Launch} {e : Env} {s : State} {m : MethodId} {args : Array Value} {below : List Frame} {meth : Method} {c : Code} {X : Cx} {a : Nat} (hO : IsMo X a) (C0 : CT p s m args meth c X cX6_rank 2 (some .int) RX6) (x1 : Int32) (xs0 : Int32) (h : HH) (H : Heap) (locs : List Loc) (ls : Array Slot) (res : Int32 × HH) (hl : lv_has ls 2 [(0, .ref a), (1, .int x1)]) (hW : WH X h H) (hS : va_S (xA X) s.heap H locs) (hs : sX6_rank_c14 a x1 xs0 h) (hres : fX6_rank_c14 a x1 xs0 h = res) : W p l e rmX6_rank s m args below meth c H locs 0 0 (MQ below (QI X res.1 res.2) args s 0 0 (xA X)) (F0 m 14 ls [.int xs0, .ref a]) := by
  obtain ⟨hx, hb, hr, hlk, hml, hown, hts, hK⟩ := id C0
  refine kV_i (As := [.int xs0]) (rest := []) ⟨hx, hb, hml, hown, hts⟩ (kX6_refused l X h a xs0 hO) (wX6_refused hts q4_88 ⟨Nat.le_of_ble_eq_true rfl, Nat.le_of_ble_eq_true rfl⟩) hK hW hS (va_recv hK.1 (hW.one hO.1) (ci := 6) (q0 := 0) rfl rfl) rfl hl.1 rfl (Nat.le_of_ble_eq_true rfl) dX6_rank_14 ⟨Nat.zero_le _, Nat.zero_le _⟩ (fun H locs hW hS => ?_)
  exact xX6_rank_c17 hO C0 x1 (bI (fX6_refused a xs0 h).1) ((fX6_refused a xs0 h).2) _ _ _ _ (lv_sub hl [0, 1] rfl) hW hS hs hres
def fX6_rank_c0 (a : Nat) (x1 : Int32) (h : HH) : Int32 × HH := if (bI (fX6_isPlayer a x1 h)) = 0 then (fX6_rank_c14 a x1 1 h) else (fX6_rank_c14 a x1 0 h)
def sX6_rank_c0 (a : Nat) (x1 : Int32) (h : HH) : Prop := ((bI (fX6_isPlayer a x1 h)) = 0 → (sX6_rank_c14 a x1 1 h)) ∧ (¬ ((bI (fX6_isPlayer a x1 h)) = 0) → (sX6_rank_c14 a x1 0 h))
set_option maxRecDepth 100000 in
set_option maxHeartbeats 4000000 in
theorem xX6_rank_c0 {p : Program} {l : Launch} {e : Env} {s : State} {m : MethodId} {args : Array Value} {below : List Frame} {meth : Method} {c : Code} {X : Cx} {a : Nat} (hO : IsMo X a) (C0 : CT p s m args meth c X cX6_rank 2 (some .int) RX6) (x1 : Int32) (h : HH) (H : Heap) (locs : List Loc) (ls : Array Slot) (res : Int32 × HH) (hl : lv_has ls 2 [(0, .ref a), (1, .int x1)]) (hW : WH X h H) (hS : va_S (xA X) s.heap H locs) (hs : sX6_rank_c0 a x1 h) (hres : fX6_rank_c0 a x1 h = res) : W p l e rmX6_rank s m args below meth c H locs 0 0 (MQ below (QI X res.1 res.2) args s 0 0 (xA X)) (F0 m 0 ls []) := by
  obtain ⟨hx, hb, hr, hlk, hml, hown, hts, hK⟩ := id C0
  refine lv_aload_n hx hb dX6_rank_0 rfl (lv_at hl 0 rfl) ?_
  refine lv_aload_n hx hb dX6_rank_1 rfl (lv_at hl 0 rfl) ?_
  refine lv_iload_n hx hb dX6_rank_2 rfl (lv_at hl 1 rfl) ?_
  refine kV_i (As := [.int x1]) (rest := [.ref a]) ⟨hx, hb, hml, hown, hts⟩ (kX6_isPlayer l X h a x1 hO) (wX6_isPlayer hts q5_29 ⟨Nat.le_of_ble_eq_true rfl, Nat.le_of_ble_eq_true rfl⟩) hK hW hS (va_recv hK.1 (hW.one hO.1) (ci := 6) (q0 := 0) rfl rfl) rfl hl.1 rfl (Nat.le_of_ble_eq_true rfl) dX6_rank_3 ⟨Nat.zero_le _, Nat.zero_le _⟩ (fun H locs hW hS => ?_)
  refine lv_if_eq (tgt := 13) hx hb dX6_rank_6 (by decide) (fun c1 => ?_) (fun c1 => ?_)
  · have hres := (if_pos c1).symm.trans hres
    have hs := And.left hs c1
    refine lv_iconst (v := 1) hx hb dX6_rank_13 (by decide) ?_
    exact xX6_rank_c14 hO C0 x1 1 h _ _ _ _ (lv_sub hl [0, 1] rfl) hW hS hs hres
  · have hres := (if_neg c1).symm.trans hres
    have hs := And.right hs c1
    refine lv_iconst (v := 0) hx hb dX6_rank_9 (by decide) ?_
    refine lv_goto (tgt := 14) hx hb dX6_rank_10 (by decide) ?_
    exact xX6_rank_c14 hO C0 x1 0 h _ _ _ _ (lv_sub hl [0, 1] rfl) hW hS hs hres
def fX6_rank (a : Nat) (x1 : Int32) (h : HH) : Int32 × HH := fX6_rank_c0 a x1 h
def sX6_rank (a : Nat) (x1 : Int32) (h : HH) : Prop := sX6_rank_c0 a x1 h
set_option maxRecDepth 100000 in
set_option maxHeartbeats 4000000 in
theorem kX6_rank (l : Launch) (X : Cx) (h : HH) (a : Nat) (x1 : Int32) (hO : IsMo X a) (hs : sX6_rank a x1 h) : Met l yX6_rank vX6_rank rmX6_rank (va_Pc [.ref a, .int x1] (fun U => WS X h U)) (QI X (fX6_rank a x1 h).1 (fX6_rank a x1 h).2) 0 0 (xA X) := by
  refine Met.ofW (cc := cX6_rank) (maxL := 2) (ret := some .int) (by decide) rfl ?_
  intro p e s m args below meth c s₁ B hml hv
  obtain ⟨rfl, hW, hK⟩ := hv
  have hl := lv_entry ([.ref a, .int x1]) (n := 2) (Nat.le_of_ble_eq_true rfl)
  rw [lg_entry_eq]
  generalize (lg_sl ([.ref a, .int x1]) ++ List.replicate (2 - (lg_sl ([.ref a, .int x1])).length) Slot.unset).toArray = ls at hl ⊢
  have hl : lv_has ls 2 [(0, .ref a), (1, .int x1)] := hl
  exact xX6_rank_c0 hO ⟨B.exec, B.bytes, B.returns, B.notSynchronized, hml, findClass_of_methodNamed B.named, fun w hw => atoms_spec (ws := vX6_rank) B.pre w (List.mem_cons_of_mem _ hw), hK⟩ x1 h _ _ ls _ (lv_sub hl [0, 1] rfl) hW va_S.rf hs rfl
-- VillageBoardModel.possibles()I
abbrev rmX6_possibles : Room := ({ frames := 8, cells := 0, slots := 0, locals := 179 } : Room)
abbrev vX6_possibles : List Cond := Cond.code yX6_possibles cX6_possibles 3 (some .int) :: lwG
theorem wX6_possibles {R : Room} {s : State} {args : Array Value} {own : String} {idx : Nat} (hg : ∀ w ∈ lwG, w.before args s = true) (hl : Cond.methodLink own idx yX6_possibles ∈ lwG) (hR : rmX6_possibles.frames + 1 ≤ R.frames ∧ 8 + (3 + 11) + rmX6_possibles.locals ≤ R.locals) : CallW R s args own RX6 idx yX6_possibles cX6_possibles 3 (some .int) vX6_possibles rmX6_possibles 0 0 0 := cwV 0 hg (gV hl q5_79 q0_55 q1_7 q5_80) rfl rfl rfl (by decide +kernel) hR
def fX6_possibles_c8 (a : Nat) : Nat → Int32 → Int32 → HH → Int32
  | 0, x1, x2, h => 0
  | n + 1, x1, x2, h => if x2 = (-1) then x1 else ((fX6_possibles_c8 a n) (x1 + 1) (fX6_nextCode a x2 h) h)
def sX6_possibles_c8 (a : Nat) : Nat → Int32 → Int32 → HH → Prop
  | 0, _, _, _ => False
  | n + 1, x1, x2, h => (x2 = (-1) → True) ∧ (¬ (x2 = (-1)) → ((sX6_nextCode a x2 h) ∧ ((sX6_possibles_c8 a n) (x1 + 1) (fX6_nextCode a x2 h) h)))
set_option maxRecDepth 100000 in
set_option maxHeartbeats 4000000 in
theorem xX6_possibles_c8 {p : Program} {l : Launch} {e : Env} {s : State} {m : MethodId} {args : Array Value} {below : List Frame} {meth : Method} {c : Code} {X : Cx} {a : Nat} (hO : IsMo X a) (C0 : CT p s m args meth c X cX6_possibles 3 (some .int) RX6) : ∀ (n : Nat) (x1 : Int32) (x2 : Int32) (h : HH) (H : Heap) (locs : List Loc) (ls : Array Slot) (res : Int32) (hl : lv_has ls 3 [(0, .ref a), (1, .int x1), (2, .int x2)]) (hW : WH X h H) (hS : va_S (xA X) s.heap H locs) (hs : sX6_possibles_c8 a n x1 x2 h) (hres : fX6_possibles_c8 a n x1 x2 h = res), W p l e rmX6_possibles s m args below meth c H locs 0 0 (MQ below (QI X res h) args s 0 0 (xA X)) (F0 m 8 ls []) := by
  obtain ⟨hx, hb, hr, hlk, hml, hown, hts, hK⟩ := id C0
  intro n
  induction n with
  | zero =>
    intro _ _ _ _ _ _ _ _ _ _ hs _
    exact hs.elim
  | succ n ih =>
    intro x1 x2 h H locs ls res hl hW hS hs hres
    refine lv_iload_n hx hb dX6_possibles_8 rfl (lv_at hl 2 rfl) ?_
    refine lv_iconst (v := (-1)) hx hb dX6_possibles_9 (by decide) ?_
    refine lv_icmp_eq (tgt := 25) hx hb dX6_possibles_10 (by decide) (fun c2 => ?_) (fun c2 => ?_)
    · have hres := (if_pos c2).symm.trans hres
      have hs := And.left hs c2
      refine lv_iload_n hx hb dX6_possibles_25 rfl (lv_at hl 1 rfl) ?_
      subst hres
      exact kr_i hx hb hr hlk hK hW hS dX6_possibles_26
    · have hres := (if_neg c2).symm.trans hres
      have hs := And.right hs c2
      refine lv_iinc (v := x1 + 1) (lv' := [(1, .int (x1 + 1)), (0, .ref a), (2, .int x2)]) hx hb dX6_possibles_13 hl (k := 1) rfl rfl (by decide) rfl (fun ls hl => ?_)
      refine lv_aload_n hx hb dX6_possibles_16 rfl (lv_at hl 1 rfl) ?_
      refine lv_iload_n hx hb dX6_possibles_17 rfl (lv_at hl 2 rfl) ?_
      obtain ⟨hc3, hs⟩ := hs
      refine kV_i (As := [.int x2]) (rest := []) ⟨hx, hb, hml, hown, hts⟩ (kX6_nextCode l X h a x2 hO hc3) (wX6_nextCode hts q4_210 ⟨Nat.le_of_ble_eq_true rfl, Nat.le_of_ble_eq_true rfl⟩) hK hW hS (va_recv hK.1 (hW.one hO.1) (ci := 6) (q0 := 0) rfl rfl) rfl hl.1 rfl (Nat.le_of_ble_eq_true rfl) dX6_possibles_18 ⟨Nat.zero_le _, Nat.zero_le _⟩ (fun H locs hW hS => ?_)
      refine lv_istore_n (lv' := [(2, .int (fX6_nextCode a x2 h)), (1, .int (x1 + 1)), (0, .ref a)]) hx hb dX6_possibles_21 rfl hl (by decide) rfl (fun ls hl => ?_)
      refine lv_goto (tgt := 8) hx hb dX6_possibles_22 (by decide) ?_
      exact ih (x1 + 1) (fX6_nextCode a x2 h) h _ _ _ _ (lv_sub hl [2, 1, 0] rfl) hW hS hs hres
def fX6_possibles_c0 (a : Nat) (h : HH) : Int32 := fX6_possibles_c8 a 302 0 (fX6_nextCode a (-1) h) h
def sX6_possibles_c0 (a : Nat) (h : HH) : Prop := (sX6_nextCode a (-1) h) ∧ (sX6_possibles_c8 a 302 0 (fX6_nextCode a (-1) h) h)
set_option maxRecDepth 100000 in
set_option maxHeartbeats 4000000 in
theorem xX6_possibles_c0 {p : Program} {l : Launch} {e : Env} {s : State} {m : MethodId} {args : Array Value} {below : List Frame} {meth : Method} {c : Code} {X : Cx} {a : Nat} (hO : IsMo X a) (C0 : CT p s m args meth c X cX6_possibles 3 (some .int) RX6) (h : HH) (H : Heap) (locs : List Loc) (ls : Array Slot) (res : Int32) (hl : lv_has ls 3 [(0, .ref a)]) (hW : WH X h H) (hS : va_S (xA X) s.heap H locs) (hs : sX6_possibles_c0 a h) (hres : fX6_possibles_c0 a h = res) : W p l e rmX6_possibles s m args below meth c H locs 0 0 (MQ below (QI X res h) args s 0 0 (xA X)) (F0 m 0 ls []) := by
  obtain ⟨hx, hb, hr, hlk, hml, hown, hts, hK⟩ := id C0
  refine lv_iconst (v := 0) hx hb dX6_possibles_0 (by decide) ?_
  refine lv_istore_n (lv' := [(1, .int 0), (0, .ref a)]) hx hb dX6_possibles_1 rfl hl (by decide) rfl (fun ls hl => ?_)
  refine lv_aload_n hx hb dX6_possibles_2 rfl (lv_at hl 1 rfl) ?_
  refine lv_iconst (v := (-1)) hx hb dX6_possibles_3 (by decide) ?_
  obtain ⟨hc1, hs⟩ := hs
  refine kV_i (As := [.int (-1)]) (rest := []) ⟨hx, hb, hml, hown, hts⟩ (kX6_nextCode l X h a (-1) hO hc1) (wX6_nextCode hts q4_210 ⟨Nat.le_of_ble_eq_true rfl, Nat.le_of_ble_eq_true rfl⟩) hK hW hS (va_recv hK.1 (hW.one hO.1) (ci := 6) (q0 := 0) rfl rfl) rfl hl.1 rfl (Nat.le_of_ble_eq_true rfl) dX6_possibles_4 ⟨Nat.zero_le _, Nat.zero_le _⟩ (fun H locs hW hS => ?_)
  refine lv_istore_n (lv' := [(2, .int (fX6_nextCode a (-1) h)), (1, .int 0), (0, .ref a)]) hx hb dX6_possibles_7 rfl hl (by decide) rfl (fun ls hl => ?_)
  exact xX6_possibles_c8 hO C0 302 0 (fX6_nextCode a (-1) h) h _ _ _ _ (lv_sub hl [2, 1, 0] rfl) hW hS hs hres
def fX6_possibles (a : Nat) (h : HH) : Int32 := fX6_possibles_c0 a h
def sX6_possibles (a : Nat) (h : HH) : Prop := sX6_possibles_c0 a h
set_option maxRecDepth 100000 in
set_option maxHeartbeats 4000000 in
theorem kX6_possibles (l : Launch) (X : Cx) (h : HH) (a : Nat) (hO : IsMo X a) (hs : sX6_possibles a h) : Met l yX6_possibles vX6_possibles rmX6_possibles (va_Pc [.ref a] (fun U => WS X h U)) (QI X (fX6_possibles a h) h) 0 0 (xA X) := by
  refine Met.ofW (cc := cX6_possibles) (maxL := 3) (ret := some .int) (by decide) rfl ?_
  intro p e s m args below meth c s₁ B hml hv
  obtain ⟨rfl, hW, hK⟩ := hv
  have hl := lv_entry ([.ref a]) (n := 3) (Nat.le_of_ble_eq_true rfl)
  rw [lg_entry_eq]
  generalize (lg_sl ([.ref a]) ++ List.replicate (3 - (lg_sl ([.ref a])).length) Slot.unset).toArray = ls at hl ⊢
  have hl : lv_has ls 3 [(0, .ref a)] := hl
  exact xX6_possibles_c0 hO ⟨B.exec, B.bytes, B.returns, B.notSynchronized, hml, findClass_of_methodNamed B.named, fun w hw => atoms_spec (ws := vX6_possibles) B.pre w (List.mem_cons_of_mem _ hw), hK⟩ h _ _ ls _ (lv_sub hl [0] rfl) hW va_S.rf hs rfl
-- VillageBoardModel.possible()I
abbrev rmX6_possible : Room := ({ frames := 9, cells := 0, slots := 0, locals := 201 } : Room)
abbrev vX6_possible : List Cond := Cond.code yX6_possible cX6_possible 1 (some .int) :: lwG
theorem wX6_possible {R : Room} {s : State} {args : Array Value} {own : String} {idx : Nat} (hg : ∀ w ∈ lwG, w.before args s = true) (hl : Cond.methodLink own idx yX6_possible ∈ lwG) (hR : rmX6_possible.frames + 1 ≤ R.frames ∧ 8 + (1 + 11) + rmX6_possible.locals ≤ R.locals) : CallW R s args own RX6 idx yX6_possible cX6_possible 1 (some .int) vX6_possible rmX6_possible 0 0 0 := cwV 0 hg (gV hl q5_74 q5_75 q1_7 q5_76) rfl rfl rfl (by decide +kernel) hR
def fX6_possible_c6 (a : Nat) (h : HH) : Int32 × HH := (fX6_possibles a h, h)
def sX6_possible_c6 (a : Nat) (h : HH) : Prop := sX6_possibles a h
set_option maxRecDepth 100000 in
set_option maxHeartbeats 4000000 in
theorem xX6_possible_c6 {p : Program} {l : Launch} {e : Env} {s : State} {m : MethodId} {args : Array Value} {below : List Frame} {meth : Method} {c : Code} {X : Cx} {a : Nat} (hO : IsMo X a) (C0 : CT p s m args meth c X cX6_possible 1 (some .int) RX6) (h : HH) (H : Heap) (locs : List Loc) (ls : Array Slot) (res : Int32 × HH) (hl : lv_has ls 1 []) (hW : WH X h H) (hS : va_S (xA X) s.heap H locs) (hs : sX6_possible_c6 a h) (hres : fX6_possible_c6 a h = res) : W p l e rmX6_possible s m args below meth c H locs 0 0 (MQ below (QI X res.1 res.2) args s 0 0 (xA X)) (F0 m 6 ls [.ref a]) := by
  obtain ⟨hx, hb, hr, hlk, hml, hown, hts, hK⟩ := id C0
  have hc1 := hs
  refine kV_i (As := []) (rest := []) ⟨hx, hb, hml, hown, hts⟩ (kX6_possibles l X h a hO hc1) (wX6_possibles hts q5_77 ⟨Nat.le_of_ble_eq_true rfl, Nat.le_of_ble_eq_true rfl⟩) hK hW hS (va_recv hK.1 (hW.one hO.1) (ci := 6) (q0 := 0) rfl rfl) rfl hl.1 rfl (Nat.le_of_ble_eq_true rfl) dX6_possible_6 ⟨Nat.zero_le _, Nat.zero_le _⟩ (fun H locs hW hS => ?_)
  subst hres
  exact kr_i hx hb hr hlk hK hW hS dX6_possible_9
def fX6_possible_c0 (a : Nat) (h : HH) : Int32 × HH := fX6_possible_c6 a (hset h a 4 0)
def sX6_possible_c0 (a : Nat) (h : HH) : Prop := sX6_possible_c6 a (hset h a 4 0)
set_option maxRecDepth 100000 in
set_option maxHeartbeats 4000000 in
theorem xX6_possible_c0 {p : Program} {l : Launch} {e : Env} {s : State} {m : MethodId} {args : Array Value} {below : List Frame} {meth : Method} {c : Code} {X : Cx} {a : Nat} (hO : IsMo X a) (C0 : CT p s m args meth c X cX6_possible 1 (some .int) RX6) (h : HH) (H : Heap) (locs : List Loc) (ls : Array Slot) (res : Int32 × HH) (hl : lv_has ls 1 [(0, .ref a)]) (hW : WH X h H) (hS : va_S (xA X) s.heap H locs) (hs : sX6_possible_c0 a h) (hres : fX6_possible_c0 a h = res) : W p l e rmX6_possible s m args below meth c H locs 0 0 (MQ below (QI X res.1 res.2) args s 0 0 (xA X)) (F0 m 0 ls []) := by
  obtain ⟨hx, hb, hr, hlk, hml, hown, hts, hK⟩ := id C0
  refine lv_aload_n hx hb dX6_possible_0 rfl (lv_at hl 0 rfl) ?_
  refine lv_iconst (v := 0) hx hb dX6_possible_1 (by decide) ?_
  refine p6_4 hx hb hts hown hK hW hS hO.1 (hts _ q4_53) dX6_possible_2 (fun H locs hW hS => ?_)
  refine lv_aload_n hx hb dX6_possible_5 rfl (lv_at hl 0 rfl) ?_
  exact xX6_possible_c6 hO C0 (hset h a 4 0) _ _ _ _ (lv_sub hl [] rfl) hW hS hs hres
def fX6_possible (a : Nat) (h : HH) : Int32 × HH := fX6_possible_c0 a h
def sX6_possible (a : Nat) (h : HH) : Prop := sX6_possible_c0 a h
set_option maxRecDepth 100000 in
set_option maxHeartbeats 4000000 in
theorem kX6_possible (l : Launch) (X : Cx) (h : HH) (a : Nat) (hO : IsMo X a) (hs : sX6_possible a h) : Met l yX6_possible vX6_possible rmX6_possible (va_Pc [.ref a] (fun U => WS X h U)) (QI X (fX6_possible a h).1 (fX6_possible a h).2) 0 0 (xA X) := by
  refine Met.ofW (cc := cX6_possible) (maxL := 1) (ret := some .int) (by decide) rfl ?_
  intro p e s m args below meth c s₁ B hml hv
  obtain ⟨rfl, hW, hK⟩ := hv
  have hl := lv_entry ([.ref a]) (n := 1) (Nat.le_of_ble_eq_true rfl)
  rw [lg_entry_eq]
  generalize (lg_sl ([.ref a]) ++ List.replicate (1 - (lg_sl ([.ref a])).length) Slot.unset).toArray = ls at hl ⊢
  have hl : lv_has ls 1 [(0, .ref a)] := hl
  exact xX6_possible_c0 hO ⟨B.exec, B.bytes, B.returns, B.notSynchronized, hml, findClass_of_methodNamed B.named, fun w hw => atoms_spec (ws := vX6_possible) B.pre w (List.mem_cons_of_mem _ hw), hK⟩ h _ _ ls _ (lv_sub hl [0] rfl) hW va_S.rf hs rfl
-- VillageBoardModel.option(I)I
abbrev rmX6_option : Room := ({ frames := 9, cells := 0, slots := 0, locals := 201 } : Room)
abbrev vX6_option : List Cond := Cond.code yX6_option cX6_option 4 (some .int) :: lwG
theorem wX6_option {R : Room} {s : State} {args : Array Value} {own : String} {idx : Nat} (hg : ∀ w ∈ lwG, w.before args s = true) (hl : Cond.methodLink own idx yX6_option ∈ lwG) (hR : rmX6_option.frames + 1 ≤ R.frames ∧ 8 + (4 + 11) + rmX6_option.locals ≤ R.locals) : CallW R s args own RX6 idx yX6_option cX6_option 4 (some .int) vX6_option rmX6_option 0 0 1 := cwV 1 hg (gV hl q5_82 q5_83 q1_7 q5_84) rfl rfl rfl (by decide +kernel) hR
def fX6_option_c36 (a : Nat) : Nat → Int32 → Int32 → HH → Int32 × HH
  | 0, x2, x3, h => (0, h)
  | n + 1, x2, x3, h => if x3 ≤ 0 then ((fX6_told x2, h)) else ((fX6_option_c36 a n) (fX6_nextCode a x2 h) (x3 + (-1)) h)
def sX6_option_c36 (a : Nat) : Nat → Int32 → Int32 → HH → Prop
  | 0, _, _, _ => False
  | n + 1, x2, x3, h => (x3 ≤ 0 → True) ∧ (¬ (x3 ≤ 0) → ((sX6_nextCode a x2 h) ∧ ((sX6_option_c36 a n) (fX6_nextCode a x2 h) (x3 + (-1)) h)))
set_option maxRecDepth 100000 in
set_option maxHeartbeats 4000000 in
theorem xX6_option_c36 {p : Program} {l : Launch} {e : Env} {s : State} {m : MethodId} {args : Array Value} {below : List Frame} {meth : Method} {c : Code} {X : Cx} {a : Nat} (hO : IsMo X a) (C0 : CT p s m args meth c X cX6_option 4 (some .int) RX6) : ∀ (n : Nat) (x2 : Int32) (x3 : Int32) (h : HH) (H : Heap) (locs : List Loc) (ls : Array Slot) (res : Int32 × HH) (hl : lv_has ls 4 [(0, .ref a), (2, .int x2), (3, .int x3)]) (hW : WH X h H) (hS : va_S (xA X) s.heap H locs) (hs : sX6_option_c36 a n x2 x3 h) (hres : fX6_option_c36 a n x2 x3 h = res), W p l e rmX6_option s m args below meth c H locs 0 0 (MQ below (QI X res.1 res.2) args s 0 0 (xA X)) (F0 m 36 ls []) := by
  obtain ⟨hx, hb, hr, hlk, hml, hown, hts, hK⟩ := id C0
  intro n
  induction n with
  | zero =>
    intro _ _ _ _ _ _ _ _ _ _ hs _
    exact hs.elim
  | succ n ih =>
    intro x2 x3 h H locs ls res hl hW hS hs hres
    refine lv_iload_n hx hb dX6_option_36 rfl (lv_at hl 2 rfl) ?_
    refine lv_if_le (tgt := 52) hx hb dX6_option_37 (by decide) (fun c5 => ?_) (fun c5 => ?_)
    · have hres := (if_pos c5).symm.trans hres
      have hs := And.left hs c5
      refine lv_iload_n hx hb dX6_option_52 rfl (lv_at hl 1 rfl) ?_
      refine kS_i (As := [.int x2]) (rest := []) ⟨hx, hb, hml, hown, hts⟩ (kX6_told l X h x2) (wX6_told hts q5_85 ⟨Nat.le_of_ble_eq_true rfl, Nat.le_of_ble_eq_true rfl⟩) hK hW hS rfl hl.1 rfl (Nat.le_of_ble_eq_true rfl) dX6_option_53 ⟨Nat.zero_le _, Nat.zero_le _⟩ (fun H locs hW hS => ?_)
      subst hres
      exact kr_i hx hb hr hlk hK hW hS dX6_option_56
    · have hres := (if_neg c5).symm.trans hres
      have hs := And.right hs c5
      refine lv_aload_n hx hb dX6_option_40 rfl (lv_at hl 0 rfl) ?_
      refine lv_iload_n hx hb dX6_option_41 rfl (lv_at hl 1 rfl) ?_
      obtain ⟨hc6, hs⟩ := hs
      refine kV_i (As := [.int x2]) (rest := []) ⟨hx, hb, hml, hown, hts⟩ (kX6_nextCode l X h a x2 hO hc6) (wX6_nextCode hts q4_210 ⟨Nat.le_of_ble_eq_true rfl, Nat.le_of_ble_eq_true rfl⟩) hK hW hS (va_recv hK.1 (hW.one hO.1) (ci := 6) (q0 := 0) rfl rfl) rfl hl.1 rfl (Nat.le_of_ble_eq_true rfl) dX6_option_42 ⟨Nat.zero_le _, Nat.zero_le _⟩ (fun H locs hW hS => ?_)
      refine lv_istore_n (lv' := [(2, .int (fX6_nextCode a x2 h)), (0, .ref a), (3, .int x3)]) hx hb dX6_option_45 rfl hl (by decide) rfl (fun ls hl => ?_)
      refine lv_iinc (v := x3 + (-1)) (lv' := [(3, .int (x3 + (-1))), (2, .int (fX6_nextCode a x2 h)), (0, .ref a)]) hx hb dX6_option_46 hl (k := 2) rfl rfl (by decide) rfl (fun ls hl => ?_)
      refine lv_goto (tgt := 36) hx hb dX6_option_49 (by decide) ?_
      exact ih (fX6_nextCode a x2 h) (x3 + (-1)) h _ _ _ _ (lv_sub hl [2, 1, 0] rfl) hW hS hs hres
def fX6_option_c23 (a : Nat) (x1 : Int32) (xs0 : Int32) (h : HH) : Int32 × HH := if xs0 = 0 then (fX6_option_c36 a 302 (fX6_nextCode a (-1) h) x1 h) else ((0, h))
def sX6_option_c23 (a : Nat) (x1 : Int32) (xs0 : Int32) (h : HH) : Prop := (xs0 = 0 → ((sX6_nextCode a (-1) h) ∧ (sX6_option_c36 a 302 (fX6_nextCode a (-1) h) x1 h))) ∧ (¬ (xs0 = 0) → True)
set_option maxRecDepth 100000 in
set_option maxHeartbeats 4000000 in
theorem xX6_option_c23 {p : Program} {l : Launch} {e : Env} {s : State} {m : MethodId} {args : Array Value} {below : List Frame} {meth : Method} {c : Code} {X : Cx} {a : Nat} (hO : IsMo X a) (C0 : CT p s m args meth c X cX6_option 4 (some .int) RX6) (x1 : Int32) (xs0 : Int32) (h : HH) (H : Heap) (locs : List Loc) (ls : Array Slot) (res : Int32 × HH) (hl : lv_has ls 4 [(0, .ref a), (1, .int x1)]) (hW : WH X h H) (hS : va_S (xA X) s.heap H locs) (hs : sX6_option_c23 a x1 xs0 h) (hres : fX6_option_c23 a x1 xs0 h = res) : W p l e rmX6_option s m args below meth c H locs 0 0 (MQ below (QI X res.1 res.2) args s 0 0 (xA X)) (F0 m 23 ls [.int xs0]) := by
  obtain ⟨hx, hb, hr, hlk, hml, hown, hts, hK⟩ := id C0
  refine lv_if_eq (tgt := 28) hx hb dX6_option_23 (by decide) (fun c3 => ?_) (fun c3 => ?_)
  · have hres := (if_pos c3).symm.trans hres
    have hs := And.left hs c3
    refine lv_aload_n hx hb dX6_option_28 rfl (lv_at hl 0 rfl) ?_
    refine lv_iconst (v := (-1)) hx hb dX6_option_29 (by decide) ?_
    obtain ⟨hc4, hs⟩ := hs
    refine kV_i (As := [.int (-1)]) (rest := []) ⟨hx, hb, hml, hown, hts⟩ (kX6_nextCode l X h a (-1) hO hc4) (wX6_nextCode hts q4_210 ⟨Nat.le_of_ble_eq_true rfl, Nat.le_of_ble_eq_true rfl⟩) hK hW hS (va_recv hK.1 (hW.one hO.1) (ci := 6) (q0 := 0) rfl rfl) rfl hl.1 rfl (Nat.le_of_ble_eq_true rfl) dX6_option_30 ⟨Nat.zero_le _, Nat.zero_le _⟩ (fun H locs hW hS => ?_)
    refine lv_istore_n (lv' := [(2, .int (fX6_nextCode a (-1) h)), (0, .ref a), (1, .int x1)]) hx hb dX6_option_33 rfl hl (by decide) rfl (fun ls hl => ?_)
    refine lv_iload_n hx hb dX6_option_34 rfl (lv_at hl 2 rfl) ?_
    refine lv_istore_n (lv' := [(3, .int x1), (2, .int (fX6_nextCode a (-1) h)), (0, .ref a), (1, .int x1)]) hx hb dX6_option_35 rfl hl (by decide) rfl (fun ls hl => ?_)
    exact xX6_option_c36 hO C0 302 (fX6_nextCode a (-1) h) x1 h _ _ _ _ (lv_sub hl [2, 1, 0] rfl) hW hS hs hres
  · have hres := (if_neg c3).symm.trans hres
    have hs := And.right hs c3
    refine lv_iconst (v := 0) hx hb dX6_option_26 (by decide) ?_
    subst hres
    exact kr_i hx hb hr hlk hK hW hS dX6_option_27
def fX6_option_c20 (a : Nat) (x1 : Int32) (xs0 : Int32) (h : HH) : Int32 × HH := fX6_option_c23 a x1 (bI (fX6_refused a xs0 h).1) ((fX6_refused a xs0 h).2)
def sX6_option_c20 (a : Nat) (x1 : Int32) (xs0 : Int32) (h : HH) : Prop := sX6_option_c23 a x1 (bI (fX6_refused a xs0 h).1) ((fX6_refused a xs0 h).2)
set_option maxRecDepth 100000 in
set_option maxHeartbeats 4000000 in
theorem xX6_option_c20 {p : Program} {l : Launch} {e : Env} {s : State} {m : MethodId} {args : Array Value} {below : List Frame} {meth : Method} {c : Code} {X : Cx} {a : Nat} (hO : IsMo X a) (C0 : CT p s m args meth c X cX6_option 4 (some .int) RX6) (x1 : Int32) (xs0 : Int32) (h : HH) (H : Heap) (locs : List Loc) (ls : Array Slot) (res : Int32 × HH) (hl : lv_has ls 4 [(0, .ref a), (1, .int x1)]) (hW : WH X h H) (hS : va_S (xA X) s.heap H locs) (hs : sX6_option_c20 a x1 xs0 h) (hres : fX6_option_c20 a x1 xs0 h = res) : W p l e rmX6_option s m args below meth c H locs 0 0 (MQ below (QI X res.1 res.2) args s 0 0 (xA X)) (F0 m 20 ls [.int xs0, .ref a]) := by
  obtain ⟨hx, hb, hr, hlk, hml, hown, hts, hK⟩ := id C0
  refine kV_i (As := [.int xs0]) (rest := []) ⟨hx, hb, hml, hown, hts⟩ (kX6_refused l X h a xs0 hO) (wX6_refused hts q4_88 ⟨Nat.le_of_ble_eq_true rfl, Nat.le_of_ble_eq_true rfl⟩) hK hW hS (va_recv hK.1 (hW.one hO.1) (ci := 6) (q0 := 0) rfl rfl) rfl hl.1 rfl (Nat.le_of_ble_eq_true rfl) dX6_option_20 ⟨Nat.zero_le _, Nat.zero_le _⟩ (fun H locs hW hS => ?_)
  exact xX6_option_c23 hO C0 x1 (bI (fX6_refused a xs0 h).1) ((fX6_refused a xs0 h).2) _ _ _ _ (lv_sub hl [0, 1] rfl) hW hS hs hres
def fX6_option_c0 (a : Nat) (x1 : Int32) (h : HH) : Int32 × HH := if (bI (fX6_within x1 0 ((fX6_possibles a h) - 1))) = 0 then (fX6_option_c20 a x1 1 h) else (fX6_option_c20 a x1 0 h)
def sX6_option_c0 (a : Nat) (x1 : Int32) (h : HH) : Prop := (sX6_possibles a h) ∧ (((bI (fX6_within x1 0 ((fX6_possibles a h) - 1))) = 0 → (sX6_option_c20 a x1 1 h)) ∧ (¬ ((bI (fX6_within x1 0 ((fX6_possibles a h) - 1))) = 0) → (sX6_option_c20 a x1 0 h)))
set_option maxRecDepth 100000 in
set_option maxHeartbeats 4000000 in
theorem xX6_option_c0 {p : Program} {l : Launch} {e : Env} {s : State} {m : MethodId} {args : Array Value} {below : List Frame} {meth : Method} {c : Code} {X : Cx} {a : Nat} (hO : IsMo X a) (C0 : CT p s m args meth c X cX6_option 4 (some .int) RX6) (x1 : Int32) (h : HH) (H : Heap) (locs : List Loc) (ls : Array Slot) (res : Int32 × HH) (hl : lv_has ls 4 [(0, .ref a), (1, .int x1)]) (hW : WH X h H) (hS : va_S (xA X) s.heap H locs) (hs : sX6_option_c0 a x1 h) (hres : fX6_option_c0 a x1 h = res) : W p l e rmX6_option s m args below meth c H locs 0 0 (MQ below (QI X res.1 res.2) args s 0 0 (xA X)) (F0 m 0 ls []) := by
  obtain ⟨hx, hb, hr, hlk, hml, hown, hts, hK⟩ := id C0
  refine lv_aload_n hx hb dX6_option_0 rfl (lv_at hl 0 rfl) ?_
  refine lv_iload_n hx hb dX6_option_1 rfl (lv_at hl 1 rfl) ?_
  refine lv_iconst (v := 0) hx hb dX6_option_2 (by decide) ?_
  refine lv_aload_n hx hb dX6_option_3 rfl (lv_at hl 0 rfl) ?_
  obtain ⟨hc1, hs⟩ := hs
  refine kV_i (As := []) (rest := [.int 0, .int x1, .ref a]) ⟨hx, hb, hml, hown, hts⟩ (kX6_possibles l X h a hO hc1) (wX6_possibles hts q5_77 ⟨Nat.le_of_ble_eq_true rfl, Nat.le_of_ble_eq_true rfl⟩) hK hW hS (va_recv hK.1 (hW.one hO.1) (ci := 6) (q0 := 0) rfl rfl) rfl hl.1 rfl (Nat.le_of_ble_eq_true rfl) dX6_option_4 ⟨Nat.zero_le _, Nat.zero_le _⟩ (fun H locs hW hS => ?_)
  refine lv_iconst (v := 1) hx hb dX6_option_7 (by decide) ?_
  refine lv_isub hx hb dX6_option_8 ?_
  refine kS_i (As := [.int x1, .int 0, .int ((fX6_possibles a h) - 1)]) (rest := [.ref a]) ⟨hx, hb, hml, hown, hts⟩ (kX6_within l X h x1 0 ((fX6_possibles a h) - 1)) (wX6_within hts q4_96 ⟨Nat.le_of_ble_eq_true rfl, Nat.le_of_ble_eq_true rfl⟩) hK hW hS rfl hl.1 rfl (Nat.le_of_ble_eq_true rfl) dX6_option_9 ⟨Nat.zero_le _, Nat.zero_le _⟩ (fun H locs hW hS => ?_)
  refine lv_if_eq (tgt := 19) hx hb dX6_option_12 (by decide) (fun c2 => ?_) (fun c2 => ?_)
  · have hres := (if_pos c2).symm.trans hres
    have hs := And.left hs c2
    refine lv_iconst (v := 1) hx hb dX6_option_19 (by decide) ?_
    exact xX6_option_c20 hO C0 x1 1 h _ _ _ _ (lv_sub hl [0, 1] rfl) hW hS hs hres
  · have hres := (if_neg c2).symm.trans hres
    have hs := And.right hs c2
    refine lv_iconst (v := 0) hx hb dX6_option_15 (by decide) ?_
    refine lv_goto (tgt := 20) hx hb dX6_option_16 (by decide) ?_
    exact xX6_option_c20 hO C0 x1 0 h _ _ _ _ (lv_sub hl [0, 1] rfl) hW hS hs hres
def fX6_option (a : Nat) (x1 : Int32) (h : HH) : Int32 × HH := fX6_option_c0 a x1 h
def sX6_option (a : Nat) (x1 : Int32) (h : HH) : Prop := sX6_option_c0 a x1 h
set_option maxRecDepth 100000 in
set_option maxHeartbeats 4000000 in
theorem kX6_option (l : Launch) (X : Cx) (h : HH) (a : Nat) (x1 : Int32) (hO : IsMo X a) (hs : sX6_option a x1 h) : Met l yX6_option vX6_option rmX6_option (va_Pc [.ref a, .int x1] (fun U => WS X h U)) (QI X (fX6_option a x1 h).1 (fX6_option a x1 h).2) 0 0 (xA X) := by
  refine Met.ofW (cc := cX6_option) (maxL := 4) (ret := some .int) (by decide) rfl ?_
  intro p e s m args below meth c s₁ B hml hv
  obtain ⟨rfl, hW, hK⟩ := hv
  have hl := lv_entry ([.ref a, .int x1]) (n := 4) (Nat.le_of_ble_eq_true rfl)
  rw [lg_entry_eq]
  generalize (lg_sl ([.ref a, .int x1]) ++ List.replicate (4 - (lg_sl ([.ref a, .int x1])).length) Slot.unset).toArray = ls at hl ⊢
  have hl : lv_has ls 4 [(0, .ref a), (1, .int x1)] := hl
  exact xX6_option_c0 hO ⟨B.exec, B.bytes, B.returns, B.notSynchronized, hml, findClass_of_methodNamed B.named, fun w hw => atoms_spec (ws := vX6_option) B.pre w (List.mem_cons_of_mem _ hw), hK⟩ x1 h _ _ ls _ (lv_sub hl [0, 1] rfl) hW va_S.rf hs rfl
-- VillageBoardModel.bestScoreOf(I)I
abbrev rmX6_bestScoreOf : Room := ({ frames := 9, cells := 0, slots := 0, locals := 206 } : Room)
abbrev vX6_bestScoreOf : List Cond := Cond.code yX6_bestScoreOf cX6_bestScoreOf 2 (some .int) :: lwG
theorem wX6_bestScoreOf {R : Room} {s : State} {args : Array Value} {own : String} {idx : Nat} (hg : ∀ w ∈ lwG, w.before args s = true) (hl : Cond.methodLink own idx yX6_bestScoreOf ∈ lwG) (hR : rmX6_bestScoreOf.frames + 1 ≤ R.frames ∧ 8 + (2 + 11) + rmX6_bestScoreOf.locals ≤ R.locals) : CallW R s args own RX6 idx yX6_bestScoreOf cX6_bestScoreOf 2 (some .int) vX6_bestScoreOf rmX6_bestScoreOf 0 0 1 := cwV 1 hg (gV hl q5_94 q0_56 q1_7 q5_95) rfl rfl rfl (by decide +kernel) hR
def fX6_bestScoreOf_c6 (a : Nat) (h : HH) : Int32 × HH := if (h a 7) = 0 then (((-1), h)) else ((h a 8, h))
set_option maxRecDepth 100000 in
set_option maxHeartbeats 4000000 in
theorem xX6_bestScoreOf_c6 {p : Program} {l : Launch} {e : Env} {s : State} {m : MethodId} {args : Array Value} {below : List Frame} {meth : Method} {c : Code} {X : Cx} {a : Nat} (hO : IsMo X a) (C0 : CT p s m args meth c X cX6_bestScoreOf 2 (some .int) RX6) (h : HH) (H : Heap) (locs : List Loc) (ls : Array Slot) (res : Int32 × HH) (hl : lv_has ls 2 [(0, .ref a)]) (hW : WH X h H) (hS : va_S (xA X) s.heap H locs) (hres : fX6_bestScoreOf_c6 a h = res) : W p l e rmX6_bestScoreOf s m args below meth c H locs 0 0 (MQ below (QI X res.1 res.2) args s 0 0 (xA X)) (F0 m 6 ls [.ref a]) := by
  obtain ⟨hx, hb, hr, hlk, hml, hown, hts, hK⟩ := id C0
  refine g6_7 hx hb hts hown hK hW hO.1 (hts _ q4_56) dX6_bestScoreOf_6 ?_
  refine lv_if_ne (tgt := 16) hx hb dX6_bestScoreOf_9 (by decide) (fun c2 => ?_) (fun c2 => ?_)
  · have hres := (if_neg c2).symm.trans hres
    refine lv_aload_n hx hb dX6_bestScoreOf_16 rfl (lv_at hl 0 rfl) ?_
    refine g6_8 hx hb hts hown hK hW hO.1 (hts _ q4_57) dX6_bestScoreOf_17 ?_
    subst hres
    exact kr_i hx hb hr hlk hK hW hS dX6_bestScoreOf_20
  · have hres := (if_pos c2).symm.trans hres
    refine lv_iconst (v := (-1)) hx hb dX6_bestScoreOf_12 (by decide) ?_
    refine lv_goto (tgt := 20) hx hb dX6_bestScoreOf_13 (by decide) ?_
    subst hres
    exact kr_i hx hb hr hlk hK hW hS dX6_bestScoreOf_20
def fX6_bestScoreOf_c0 (a : Nat) (x1 : Int32) (h : HH) : Int32 × HH := fX6_bestScoreOf_c6 a (fX6_searches a x1 h)
def sX6_bestScoreOf_c0 (a : Nat) (x1 : Int32) (h : HH) : Prop := sX6_searches a x1 h
set_option maxRecDepth 100000 in
set_option maxHeartbeats 4000000 in
theorem xX6_bestScoreOf_c0 {p : Program} {l : Launch} {e : Env} {s : State} {m : MethodId} {args : Array Value} {below : List Frame} {meth : Method} {c : Code} {X : Cx} {a : Nat} (hO : IsMo X a) (C0 : CT p s m args meth c X cX6_bestScoreOf 2 (some .int) RX6) (x1 : Int32) (h : HH) (H : Heap) (locs : List Loc) (ls : Array Slot) (res : Int32 × HH) (hl : lv_has ls 2 [(0, .ref a), (1, .int x1)]) (hW : WH X h H) (hS : va_S (xA X) s.heap H locs) (hs : sX6_bestScoreOf_c0 a x1 h) (hres : fX6_bestScoreOf_c0 a x1 h = res) : W p l e rmX6_bestScoreOf s m args below meth c H locs 0 0 (MQ below (QI X res.1 res.2) args s 0 0 (xA X)) (F0 m 0 ls []) := by
  obtain ⟨hx, hb, hr, hlk, hml, hown, hts, hK⟩ := id C0
  refine lv_aload_n hx hb dX6_bestScoreOf_0 rfl (lv_at hl 0 rfl) ?_
  refine lv_iload_n hx hb dX6_bestScoreOf_1 rfl (lv_at hl 1 rfl) ?_
  have hc1 := hs
  refine kV_v (As := [.int x1]) (rest := []) ⟨hx, hb, hml, hown, hts⟩ (kX6_searches l X h a x1 hO hc1) (wX6_searches hts q4_222 ⟨Nat.le_of_ble_eq_true rfl, Nat.le_of_ble_eq_true rfl⟩) hK hW hS (va_recv hK.1 (hW.one hO.1) (ci := 6) (q0 := 0) rfl rfl) rfl hl.1 rfl (Nat.le_of_ble_eq_true rfl) dX6_bestScoreOf_2 ⟨Nat.zero_le _, Nat.zero_le _⟩ (fun H locs hW hS => ?_)
  refine lv_aload_n hx hb dX6_bestScoreOf_5 rfl (lv_at hl 0 rfl) ?_
  exact xX6_bestScoreOf_c6 hO C0 (fX6_searches a x1 h) _ _ _ _ (lv_sub hl [0] rfl) hW hS hres
def fX6_bestScoreOf (a : Nat) (x1 : Int32) (h : HH) : Int32 × HH := fX6_bestScoreOf_c0 a x1 h
def sX6_bestScoreOf (a : Nat) (x1 : Int32) (h : HH) : Prop := sX6_bestScoreOf_c0 a x1 h
set_option maxRecDepth 100000 in
set_option maxHeartbeats 4000000 in
theorem kX6_bestScoreOf (l : Launch) (X : Cx) (h : HH) (a : Nat) (x1 : Int32) (hO : IsMo X a) (hs : sX6_bestScoreOf a x1 h) : Met l yX6_bestScoreOf vX6_bestScoreOf rmX6_bestScoreOf (va_Pc [.ref a, .int x1] (fun U => WS X h U)) (QI X (fX6_bestScoreOf a x1 h).1 (fX6_bestScoreOf a x1 h).2) 0 0 (xA X) := by
  refine Met.ofW (cc := cX6_bestScoreOf) (maxL := 2) (ret := some .int) (by decide) rfl ?_
  intro p e s m args below meth c s₁ B hml hv
  obtain ⟨rfl, hW, hK⟩ := hv
  have hl := lv_entry ([.ref a, .int x1]) (n := 2) (Nat.le_of_ble_eq_true rfl)
  rw [lg_entry_eq]
  generalize (lg_sl ([.ref a, .int x1]) ++ List.replicate (2 - (lg_sl ([.ref a, .int x1])).length) Slot.unset).toArray = ls at hl ⊢
  have hl : lv_has ls 2 [(0, .ref a), (1, .int x1)] := hl
  exact xX6_bestScoreOf_c0 hO ⟨B.exec, B.bytes, B.returns, B.notSynchronized, hml, findClass_of_methodNamed B.named, fun w hw => atoms_spec (ws := vX6_bestScoreOf) B.pre w (List.mem_cons_of_mem _ hw), hK⟩ x1 h _ _ ls _ (lv_sub hl [0, 1] rfl) hW va_S.rf hs rfl
-- VillageBoardModel.bestScore(I)I
abbrev rmX6_bestScore : Room := ({ frames := 10, cells := 0, slots := 0, locals := 227 } : Room)
abbrev vX6_bestScore : List Cond := Cond.code yX6_bestScore cX6_bestScore 2 (some .int) :: lwG
theorem wX6_bestScore {R : Room} {s : State} {args : Array Value} {own : String} {idx : Nat} (hg : ∀ w ∈ lwG, w.before args s = true) (hl : Cond.methodLink own idx yX6_bestScore ∈ lwG) (hR : rmX6_bestScore.frames + 1 ≤ R.frames ∧ 8 + (2 + 11) + rmX6_bestScore.locals ≤ R.locals) : CallW R s args own RX6 idx yX6_bestScore cX6_bestScore 2 (some .int) vX6_bestScore rmX6_bestScore 0 0 1 := cwV 1 hg (gV hl q5_89 q5_90 q1_7 q5_91) rfl rfl rfl (by decide +kernel) hR
def fX6_bestScore_c30 (a : Nat) (xs0 : Int32) (h : HH) : Int32 × HH := (xs0, h)
set_option maxRecDepth 100000 in
set_option maxHeartbeats 4000000 in
theorem xX6_bestScore_c30 {p : Program} {l : Launch} {e : Env} {s : State} {m : MethodId} {args : Array Value} {below : List Frame} {meth : Method} {c : Code} {X : Cx} {a : Nat} (hO : IsMo X a) (C0 : CT p s m args meth c X cX6_bestScore 2 (some .int) RX6) (xs0 : Int32) (h : HH) (H : Heap) (locs : List Loc) (ls : Array Slot) (res : Int32 × HH) (hl : lv_has ls 2 []) (hW : WH X h H) (hS : va_S (xA X) s.heap H locs) (hres : fX6_bestScore_c30 a xs0 h = res) : W p l e rmX6_bestScore s m args below meth c H locs 0 0 (MQ below (QI X res.1 res.2) args s 0 0 (xA X)) (F0 m 30 ls [.int xs0]) := by
  obtain ⟨hx, hb, hr, hlk, hml, hown, hts, hK⟩ := id C0
  subst hres
  exact kr_i hx hb hr hlk hK hW hS dX6_bestScore_30
def fX6_bestScore_c18 (a : Nat) (x1 : Int32) (xs0 : Int32) (h : HH) : Int32 × HH := if xs0 = 0 then (fX6_bestScore_c30 a ((fX6_bestScoreOf a x1 h).1) ((fX6_bestScoreOf a x1 h).2)) else ((0, h))
def sX6_bestScore_c18 (a : Nat) (x1 : Int32) (xs0 : Int32) (h : HH) : Prop := (xs0 = 0 → (sX6_bestScoreOf a x1 h)) ∧ (¬ (xs0 = 0) → True)
set_option maxRecDepth 100000 in
set_option maxHeartbeats 4000000 in
theorem xX6_bestScore_c18 {p : Program} {l : Launch} {e : Env} {s : State} {m : MethodId} {args : Array Value} {below : List Frame} {meth : Method} {c : Code} {X : Cx} {a : Nat} (hO : IsMo X a) (C0 : CT p s m args meth c X cX6_bestScore 2 (some .int) RX6) (x1 : Int32) (xs0 : Int32) (h : HH) (H : Heap) (locs : List Loc) (ls : Array Slot) (res : Int32 × HH) (hl : lv_has ls 2 [(0, .ref a), (1, .int x1)]) (hW : WH X h H) (hS : va_S (xA X) s.heap H locs) (hs : sX6_bestScore_c18 a x1 xs0 h) (hres : fX6_bestScore_c18 a x1 xs0 h = res) : W p l e rmX6_bestScore s m args below meth c H locs 0 0 (MQ below (QI X res.1 res.2) args s 0 0 (xA X)) (F0 m 18 ls [.int xs0]) := by
  obtain ⟨hx, hb, hr, hlk, hml, hown, hts, hK⟩ := id C0
  refine lv_if_eq (tgt := 25) hx hb dX6_bestScore_18 (by decide) (fun c2 => ?_) (fun c2 => ?_)
  · have hres := (if_pos c2).symm.trans hres
    have hs := And.left hs c2
    refine lv_aload_n hx hb dX6_bestScore_25 rfl (lv_at hl 0 rfl) ?_
    refine lv_iload_n hx hb dX6_bestScore_26 rfl (lv_at hl 1 rfl) ?_
    have hc3 := hs
    refine kV_i (As := [.int x1]) (rest := []) ⟨hx, hb, hml, hown, hts⟩ (kX6_bestScoreOf l X h a x1 hO hc3) (wX6_bestScoreOf hts q5_92 ⟨Nat.le_of_ble_eq_true rfl, Nat.le_of_ble_eq_true rfl⟩) hK hW hS (va_recv hK.1 (hW.one hO.1) (ci := 6) (q0 := 0) rfl rfl) rfl hl.1 rfl (Nat.le_of_ble_eq_true rfl) dX6_bestScore_27 ⟨Nat.zero_le _, Nat.zero_le _⟩ (fun H locs hW hS => ?_)
    exact xX6_bestScore_c30 hO C0 ((fX6_bestScoreOf a x1 h).1) ((fX6_bestScoreOf a x1 h).2) _ _ _ _ (lv_sub hl [] rfl) hW hS hres
  · have hres := (if_neg c2).symm.trans hres
    have hs := And.right hs c2
    refine lv_iconst (v := 0) hx hb dX6_bestScore_21 (by decide) ?_
    refine lv_goto (tgt := 30) hx hb dX6_bestScore_22 (by decide) ?_
    subst hres
    exact kr_i hx hb hr hlk hK hW hS dX6_bestScore_30
def fX6_bestScore_c15 (a : Nat) (x1 : Int32) (xs0 : Int32) (h : HH) : Int32 × HH := fX6_bestScore_c18 a x1 (bI (fX6_refused a xs0 h).1) ((fX6_refused a xs0 h).2)
def sX6_bestScore_c15 (a : Nat) (x1 : Int32) (xs0 : Int32) (h : HH) : Prop := sX6_bestScore_c18 a x1 (bI (fX6_refused a xs0 h).1) ((fX6_refused a xs0 h).2)
set_option maxRecDepth 100000 in
set_option maxHeartbeats 4000000 in
theorem xX6_bestScore_c15 {p : Program} {l : Launch} {e : Env} {s : State} {m : MethodId} {args : Array Value} {below : List Frame} {meth : Method} {c : Code} {X : Cx} {a : Nat} (hO : IsMo X a) (C0 : CT p s m args meth c X cX6_bestScore 2 (some .int) RX6) (x1 : Int32) (xs0 : Int32) (h : HH) (H : Heap) (locs : List Loc) (ls : Array Slot) (res : Int32 × HH) (hl : lv_has ls 2 [(0, .ref a), (1, .int x1)]) (hW : WH X h H) (hS : va_S (xA X) s.heap H locs) (hs : sX6_bestScore_c15 a x1 xs0 h) (hres : fX6_bestScore_c15 a x1 xs0 h = res) : W p l e rmX6_bestScore s m args below meth c H locs 0 0 (MQ below (QI X res.1 res.2) args s 0 0 (xA X)) (F0 m 15 ls [.int xs0, .ref a]) := by
  obtain ⟨hx, hb, hr, hlk, hml, hown, hts, hK⟩ := id C0
  refine kV_i (As := [.int xs0]) (rest := []) ⟨hx, hb, hml, hown, hts⟩ (kX6_refused l X h a xs0 hO) (wX6_refused hts q4_88 ⟨Nat.le_of_ble_eq_true rfl, Nat.le_of_ble_eq_true rfl⟩) hK hW hS (va_recv hK.1 (hW.one hO.1) (ci := 6) (q0 := 0) rfl rfl) rfl hl.1 rfl (Nat.le_of_ble_eq_true rfl) dX6_bestScore_15 ⟨Nat.zero_le _, Nat.zero_le _⟩ (fun H locs hW hS => ?_)
  exact xX6_bestScore_c18 hO C0 x1 (bI (fX6_refused a xs0 h).1) ((fX6_refused a xs0 h).2) _ _ _ _ (lv_sub hl [0, 1] rfl) hW hS hs hres
def fX6_bestScore_c0 (a : Nat) (x1 : Int32) (h : HH) : Int32 × HH := if (bI (fX6_within x1 1 3)) = 0 then (fX6_bestScore_c15 a x1 1 h) else (fX6_bestScore_c15 a x1 0 h)
def sX6_bestScore_c0 (a : Nat) (x1 : Int32) (h : HH) : Prop := ((bI (fX6_within x1 1 3)) = 0 → (sX6_bestScore_c15 a x1 1 h)) ∧ (¬ ((bI (fX6_within x1 1 3)) = 0) → (sX6_bestScore_c15 a x1 0 h))
set_option maxRecDepth 100000 in
set_option maxHeartbeats 4000000 in
theorem xX6_bestScore_c0 {p : Program} {l : Launch} {e : Env} {s : State} {m : MethodId} {args : Array Value} {below : List Frame} {meth : Method} {c : Code} {X : Cx} {a : Nat} (hO : IsMo X a) (C0 : CT p s m args meth c X cX6_bestScore 2 (some .int) RX6) (x1 : Int32) (h : HH) (H : Heap) (locs : List Loc) (ls : Array Slot) (res : Int32 × HH) (hl : lv_has ls 2 [(0, .ref a), (1, .int x1)]) (hW : WH X h H) (hS : va_S (xA X) s.heap H locs) (hs : sX6_bestScore_c0 a x1 h) (hres : fX6_bestScore_c0 a x1 h = res) : W p l e rmX6_bestScore s m args below meth c H locs 0 0 (MQ below (QI X res.1 res.2) args s 0 0 (xA X)) (F0 m 0 ls []) := by
  obtain ⟨hx, hb, hr, hlk, hml, hown, hts, hK⟩ := id C0
  refine lv_aload_n hx hb dX6_bestScore_0 rfl (lv_at hl 0 rfl) ?_
  refine lv_iload_n hx hb dX6_bestScore_1 rfl (lv_at hl 1 rfl) ?_
  refine lv_iconst (v := 1) hx hb dX6_bestScore_2 (by decide) ?_
  refine lv_iconst (v := 3) hx hb dX6_bestScore_3 (by decide) ?_
  refine kS_i (As := [.int x1, .int 1, .int 3]) (rest := [.ref a]) ⟨hx, hb, hml, hown, hts⟩ (kX6_within l X h x1 1 3) (wX6_within hts q4_96 ⟨Nat.le_of_ble_eq_true rfl, Nat.le_of_ble_eq_true rfl⟩) hK hW hS rfl hl.1 rfl (Nat.le_of_ble_eq_true rfl) dX6_bestScore_4 ⟨Nat.zero_le _, Nat.zero_le _⟩ (fun H locs hW hS => ?_)
  refine lv_if_eq (tgt := 14) hx hb dX6_bestScore_7 (by decide) (fun c1 => ?_) (fun c1 => ?_)
  · have hres := (if_pos c1).symm.trans hres
    have hs := And.left hs c1
    refine lv_iconst (v := 1) hx hb dX6_bestScore_14 (by decide) ?_
    exact xX6_bestScore_c15 hO C0 x1 1 h _ _ _ _ (lv_sub hl [0, 1] rfl) hW hS hs hres
  · have hres := (if_neg c1).symm.trans hres
    have hs := And.right hs c1
    refine lv_iconst (v := 0) hx hb dX6_bestScore_10 (by decide) ?_
    refine lv_goto (tgt := 15) hx hb dX6_bestScore_11 (by decide) ?_
    exact xX6_bestScore_c15 hO C0 x1 0 h _ _ _ _ (lv_sub hl [0, 1] rfl) hW hS hs hres
def fX6_bestScore (a : Nat) (x1 : Int32) (h : HH) : Int32 × HH := fX6_bestScore_c0 a x1 h
def sX6_bestScore (a : Nat) (x1 : Int32) (h : HH) : Prop := sX6_bestScore_c0 a x1 h
set_option maxRecDepth 100000 in
set_option maxHeartbeats 4000000 in
theorem kX6_bestScore (l : Launch) (X : Cx) (h : HH) (a : Nat) (x1 : Int32) (hO : IsMo X a) (hs : sX6_bestScore a x1 h) : Met l yX6_bestScore vX6_bestScore rmX6_bestScore (va_Pc [.ref a, .int x1] (fun U => WS X h U)) (QI X (fX6_bestScore a x1 h).1 (fX6_bestScore a x1 h).2) 0 0 (xA X) := by
  refine Met.ofW (cc := cX6_bestScore) (maxL := 2) (ret := some .int) (by decide) rfl ?_
  intro p e s m args below meth c s₁ B hml hv
  obtain ⟨rfl, hW, hK⟩ := hv
  have hl := lv_entry ([.ref a, .int x1]) (n := 2) (Nat.le_of_ble_eq_true rfl)
  rw [lg_entry_eq]
  generalize (lg_sl ([.ref a, .int x1]) ++ List.replicate (2 - (lg_sl ([.ref a, .int x1])).length) Slot.unset).toArray = ls at hl ⊢
  have hl : lv_has ls 2 [(0, .ref a), (1, .int x1)] := hl
  exact xX6_bestScore_c0 hO ⟨B.exec, B.bytes, B.returns, B.notSynchronized, hml, findClass_of_methodNamed B.named, fun w hw => atoms_spec (ws := vX6_bestScore) B.pre w (List.mem_cons_of_mem _ hw), hK⟩ x1 h _ _ ls _ (lv_sub hl [0, 1] rfl) hW va_S.rf hs rfl
-- VillageBoardModel.bestCodeOf(II)I
abbrev rmX6_bestCodeOf : Room := ({ frames := 9, cells := 0, slots := 0, locals := 206 } : Room)
abbrev vX6_bestCodeOf : List Cond := Cond.code yX6_bestCodeOf cX6_bestCodeOf 3 (some .int) :: lwG
theorem wX6_bestCodeOf {R : Room} {s : State} {args : Array Value} {own : String} {idx : Nat} (hg : ∀ w ∈ lwG, w.before args s = true) (hl : Cond.methodLink own idx yX6_bestCodeOf ∈ lwG) (hR : rmX6_bestCodeOf.frames + 1 ≤ R.frames ∧ 8 + (3 + 11) + rmX6_bestCodeOf.locals ≤ R.locals) : CallW R s args own RX6 idx yX6_bestCodeOf cX6_bestCodeOf 3 (some .int) vX6_bestCodeOf rmX6_bestCodeOf 0 0 2 := cwV 2 hg (gV hl q5_102 q0_57 q1_7 q5_103) rfl rfl rfl (by decide +kernel) hR
def fX6_bestCodeOf_c7 (a : Nat) (x2 : Int32) (xs1 : Int32) (h : HH) : Int32 × HH := if (h a 7) ≤ xs1 then (((-1), h)) else ((fX6_told (h (a + 5) x2.toNatClampNeg), h))
def sX6_bestCodeOf_c7 (a : Nat) (x2 : Int32) (xs1 : Int32) (h : HH) : Prop := ((h a 7) ≤ xs1 → True) ∧ (¬ ((h a 7) ≤ xs1) → (vp_in x2 4))
set_option maxRecDepth 100000 in
set_option maxHeartbeats 4000000 in
theorem xX6_bestCodeOf_c7 {p : Program} {l : Launch} {e : Env} {s : State} {m : MethodId} {args : Array Value} {below : List Frame} {meth : Method} {c : Code} {X : Cx} {a : Nat} (hO : IsMo X a) (C0 : CT p s m args meth c X cX6_bestCodeOf 3 (some .int) RX6) (x2 : Int32) (xs1 : Int32) (h : HH) (H : Heap) (locs : List Loc) (ls : Array Slot) (res : Int32 × HH) (hl : lv_has ls 3 [(0, .ref a), (2, .int x2)]) (hW : WH X h H) (hS : va_S (xA X) s.heap H locs) (hs : sX6_bestCodeOf_c7 a x2 xs1 h) (hres : fX6_bestCodeOf_c7 a x2 xs1 h = res) : W p l e rmX6_bestCodeOf s m args below meth c H locs 0 0 (MQ below (QI X res.1 res.2) args s 0 0 (xA X)) (F0 m 7 ls [.ref a, .int xs1]) := by
  obtain ⟨hx, hb, hr, hlk, hml, hown, hts, hK⟩ := id C0
  refine g6_7 hx hb hts hown hK hW hO.1 (hts _ q4_56) dX6_bestCodeOf_7 ?_
  refine lv_icmp_ge (tgt := 25) hx hb dX6_bestCodeOf_10 (by decide) (fun c2 => ?_) (fun c2 => ?_)
  · have hres := (if_pos c2).symm.trans hres
    have hs := And.left hs c2
    refine lv_iconst (v := (-1)) hx hb dX6_bestCodeOf_25 (by decide) ?_
    subst hres
    exact kr_i hx hb hr hlk hK hW hS dX6_bestCodeOf_26
  · have hres := (if_neg c2).symm.trans hres
    have hs := And.right hs c2
    refine lv_aload_n hx hb dX6_bestCodeOf_13 rfl (lv_at hl 0 rfl) ?_
    refine g6_6 hx hb hts hown hK hW hO.1 (hts _ q4_55) dX6_bestCodeOf_14 ?_
    refine lv_iload_n hx hb dX6_bestCodeOf_17 rfl (lv_at hl 1 rfl) ?_
    have hi3 := hs
    refine kb_iald hx hb hK hW hO.2.2.2.2.2 (k := x2.toNatClampNeg) rfl hi3 dX6_bestCodeOf_18 ?_
    refine kS_i (As := [.int (h (a + 5) x2.toNatClampNeg)]) (rest := []) ⟨hx, hb, hml, hown, hts⟩ (kX6_told l X h (h (a + 5) x2.toNatClampNeg)) (wX6_told hts q5_85 ⟨Nat.le_of_ble_eq_true rfl, Nat.le_of_ble_eq_true rfl⟩) hK hW hS rfl hl.1 rfl (Nat.le_of_ble_eq_true rfl) dX6_bestCodeOf_19 ⟨Nat.zero_le _, Nat.zero_le _⟩ (fun H locs hW hS => ?_)
    refine lv_goto (tgt := 26) hx hb dX6_bestCodeOf_22 (by decide) ?_
    subst hres
    exact kr_i hx hb hr hlk hK hW hS dX6_bestCodeOf_26
def fX6_bestCodeOf_c0 (a : Nat) (x1 : Int32) (x2 : Int32) (h : HH) : Int32 × HH := fX6_bestCodeOf_c7 a x2 x2 (fX6_searches a x1 h)
def sX6_bestCodeOf_c0 (a : Nat) (x1 : Int32) (x2 : Int32) (h : HH) : Prop := (sX6_searches a x1 h) ∧ (sX6_bestCodeOf_c7 a x2 x2 (fX6_searches a x1 h))
set_option maxRecDepth 100000 in
set_option maxHeartbeats 4000000 in
theorem xX6_bestCodeOf_c0 {p : Program} {l : Launch} {e : Env} {s : State} {m : MethodId} {args : Array Value} {below : List Frame} {meth : Method} {c : Code} {X : Cx} {a : Nat} (hO : IsMo X a) (C0 : CT p s m args meth c X cX6_bestCodeOf 3 (some .int) RX6) (x1 : Int32) (x2 : Int32) (h : HH) (H : Heap) (locs : List Loc) (ls : Array Slot) (res : Int32 × HH) (hl : lv_has ls 3 [(0, .ref a), (1, .int x1), (2, .int x2)]) (hW : WH X h H) (hS : va_S (xA X) s.heap H locs) (hs : sX6_bestCodeOf_c0 a x1 x2 h) (hres : fX6_bestCodeOf_c0 a x1 x2 h = res) : W p l e rmX6_bestCodeOf s m args below meth c H locs 0 0 (MQ below (QI X res.1 res.2) args s 0 0 (xA X)) (F0 m 0 ls []) := by
  obtain ⟨hx, hb, hr, hlk, hml, hown, hts, hK⟩ := id C0
  refine lv_aload_n hx hb dX6_bestCodeOf_0 rfl (lv_at hl 0 rfl) ?_
  refine lv_iload_n hx hb dX6_bestCodeOf_1 rfl (lv_at hl 1 rfl) ?_
  obtain ⟨hc1, hs⟩ := hs
  refine kV_v (As := [.int x1]) (rest := []) ⟨hx, hb, hml, hown, hts⟩ (kX6_searches l X h a x1 hO hc1) (wX6_searches hts q4_222 ⟨Nat.le_of_ble_eq_true rfl, Nat.le_of_ble_eq_true rfl⟩) hK hW hS (va_recv hK.1 (hW.one hO.1) (ci := 6) (q0 := 0) rfl rfl) rfl hl.1 rfl (Nat.le_of_ble_eq_true rfl) dX6_bestCodeOf_2 ⟨Nat.zero_le _, Nat.zero_le _⟩ (fun H locs hW hS => ?_)
  refine lv_iload_n hx hb dX6_bestCodeOf_5 rfl (lv_at hl 2 rfl) ?_
  refine lv_aload_n hx hb dX6_bestCodeOf_6 rfl (lv_at hl 0 rfl) ?_
  exact xX6_bestCodeOf_c7 hO C0 x2 x2 (fX6_searches a x1 h) _ _ _ _ (lv_sub hl [0, 2] rfl) hW hS hs hres
def fX6_bestCodeOf (a : Nat) (x1 : Int32) (x2 : Int32) (h : HH) : Int32 × HH := fX6_bestCodeOf_c0 a x1 x2 h
def sX6_bestCodeOf (a : Nat) (x1 : Int32) (x2 : Int32) (h : HH) : Prop := sX6_bestCodeOf_c0 a x1 x2 h
set_option maxRecDepth 100000 in
set_option maxHeartbeats 4000000 in
theorem kX6_bestCodeOf (l : Launch) (X : Cx) (h : HH) (a : Nat) (x1 : Int32) (x2 : Int32) (hO : IsMo X a) (hs : sX6_bestCodeOf a x1 x2 h) : Met l yX6_bestCodeOf vX6_bestCodeOf rmX6_bestCodeOf (va_Pc [.ref a, .int x1, .int x2] (fun U => WS X h U)) (QI X (fX6_bestCodeOf a x1 x2 h).1 (fX6_bestCodeOf a x1 x2 h).2) 0 0 (xA X) := by
  refine Met.ofW (cc := cX6_bestCodeOf) (maxL := 3) (ret := some .int) (by decide) rfl ?_
  intro p e s m args below meth c s₁ B hml hv
  obtain ⟨rfl, hW, hK⟩ := hv
  have hl := lv_entry ([.ref a, .int x1, .int x2]) (n := 3) (Nat.le_of_ble_eq_true rfl)
  rw [lg_entry_eq]
  generalize (lg_sl ([.ref a, .int x1, .int x2]) ++ List.replicate (3 - (lg_sl ([.ref a, .int x1, .int x2])).length) Slot.unset).toArray = ls at hl ⊢
  have hl : lv_has ls 3 [(0, .ref a), (1, .int x1), (2, .int x2)] := hl
  exact xX6_bestCodeOf_c0 hO ⟨B.exec, B.bytes, B.returns, B.notSynchronized, hml, findClass_of_methodNamed B.named, fun w hw => atoms_spec (ws := vX6_bestCodeOf) B.pre w (List.mem_cons_of_mem _ hw), hK⟩ x1 x2 h _ _ ls _ (lv_sub hl [0, 1, 2] rfl) hW va_S.rf hs rfl
-- VillageBoardModel.bestPlacement(II)I
abbrev rmX6_bestPlacement : Room := ({ frames := 10, cells := 0, slots := 0, locals := 228 } : Room)
abbrev vX6_bestPlacement : List Cond := Cond.code yX6_bestPlacement cX6_bestPlacement 3 (some .int) :: lwG
theorem wX6_bestPlacement {R : Room} {s : State} {args : Array Value} {own : String} {idx : Nat} (hg : ∀ w ∈ lwG, w.before args s = true) (hl : Cond.methodLink own idx yX6_bestPlacement ∈ lwG) (hR : rmX6_bestPlacement.frames + 1 ≤ R.frames ∧ 8 + (3 + 11) + rmX6_bestPlacement.locals ≤ R.locals) : CallW R s args own RX6 idx yX6_bestPlacement cX6_bestPlacement 3 (some .int) vX6_bestPlacement rmX6_bestPlacement 0 0 2 := cwV 2 hg (gV hl q5_97 q5_98 q1_7 q5_99) rfl rfl rfl (by decide +kernel) hR
def fX6_bestPlacement_c42 (a : Nat) (xs0 : Int32) (h : HH) : Int32 × HH := (xs0, h)
set_option maxRecDepth 100000 in
set_option maxHeartbeats 4000000 in
theorem xX6_bestPlacement_c42 {p : Program} {l : Launch} {e : Env} {s : State} {m : MethodId} {args : Array Value} {below : List Frame} {meth : Method} {c : Code} {X : Cx} {a : Nat} (hO : IsMo X a) (C0 : CT p s m args meth c X cX6_bestPlacement 3 (some .int) RX6) (xs0 : Int32) (h : HH) (H : Heap) (locs : List Loc) (ls : Array Slot) (res : Int32 × HH) (hl : lv_has ls 3 []) (hW : WH X h H) (hS : va_S (xA X) s.heap H locs) (hres : fX6_bestPlacement_c42 a xs0 h = res) : W p l e rmX6_bestPlacement s m args below meth c H locs 0 0 (MQ below (QI X res.1 res.2) args s 0 0 (xA X)) (F0 m 42 ls [.int xs0]) := by
  obtain ⟨hx, hb, hr, hlk, hml, hown, hts, hK⟩ := id C0
  subst hres
  exact kr_i hx hb hr hlk hK hW hS dX6_bestPlacement_42
def fX6_bestPlacement_c29 (a : Nat) (x1 : Int32) (x2 : Int32) (xs0 : Int32) (h : HH) : Int32 × HH := if xs0 = 0 then (fX6_bestPlacement_c42 a ((fX6_bestCodeOf a x1 x2 h).1) ((fX6_bestCodeOf a x1 x2 h).2)) else ((0, h))
def sX6_bestPlacement_c29 (a : Nat) (x1 : Int32) (x2 : Int32) (xs0 : Int32) (h : HH) : Prop := (xs0 = 0 → (sX6_bestCodeOf a x1 x2 h)) ∧ (¬ (xs0 = 0) → True)
set_option maxRecDepth 100000 in
set_option maxHeartbeats 4000000 in
theorem xX6_bestPlacement_c29 {p : Program} {l : Launch} {e : Env} {s : State} {m : MethodId} {args : Array Value} {below : List Frame} {meth : Method} {c : Code} {X : Cx} {a : Nat} (hO : IsMo X a) (C0 : CT p s m args meth c X cX6_bestPlacement 3 (some .int) RX6) (x1 : Int32) (x2 : Int32) (xs0 : Int32) (h : HH) (H : Heap) (locs : List Loc) (ls : Array Slot) (res : Int32 × HH) (hl : lv_has ls 3 [(0, .ref a), (1, .int x1), (2, .int x2)]) (hW : WH X h H) (hS : va_S (xA X) s.heap H locs) (hs : sX6_bestPlacement_c29 a x1 x2 xs0 h) (hres : fX6_bestPlacement_c29 a x1 x2 xs0 h = res) : W p l e rmX6_bestPlacement s m args below meth c H locs 0 0 (MQ below (QI X res.1 res.2) args s 0 0 (xA X)) (F0 m 29 ls [.int xs0]) := by
  obtain ⟨hx, hb, hr, hlk, hml, hown, hts, hK⟩ := id C0
  refine lv_if_eq (tgt := 36) hx hb dX6_bestPlacement_29 (by decide) (fun c2 => ?_) (fun c2 => ?_)
  · have hres := (if_pos c2).symm.trans hres
    have hs := And.left hs c2
    refine lv_aload_n hx hb dX6_bestPlacement_36 rfl (lv_at hl 0 rfl) ?_
    refine lv_iload_n hx hb dX6_bestPlacement_37 rfl (lv_at hl 1 rfl) ?_
    refine lv_iload_n hx hb dX6_bestPlacement_38 rfl (lv_at hl 2 rfl) ?_
    have hc3 := hs
    refine kV_i (As := [.int x1, .int x2]) (rest := []) ⟨hx, hb, hml, hown, hts⟩ (kX6_bestCodeOf l X h a x1 x2 hO hc3) (wX6_bestCodeOf hts q5_100 ⟨Nat.le_of_ble_eq_true rfl, Nat.le_of_ble_eq_true rfl⟩) hK hW hS (va_recv hK.1 (hW.one hO.1) (ci := 6) (q0 := 0) rfl rfl) rfl hl.1 rfl (Nat.le_of_ble_eq_true rfl) dX6_bestPlacement_39 ⟨Nat.zero_le _, Nat.zero_le _⟩ (fun H locs hW hS => ?_)
    exact xX6_bestPlacement_c42 hO C0 ((fX6_bestCodeOf a x1 x2 h).1) ((fX6_bestCodeOf a x1 x2 h).2) _ _ _ _ (lv_sub hl [] rfl) hW hS hres
  · have hres := (if_neg c2).symm.trans hres
    have hs := And.right hs c2
    refine lv_iconst (v := 0) hx hb dX6_bestPlacement_32 (by decide) ?_
    refine lv_goto (tgt := 42) hx hb dX6_bestPlacement_33 (by decide) ?_
    subst hres
    exact kr_i hx hb hr hlk hK hW hS dX6_bestPlacement_42
def fX6_bestPlacement_c26 (a : Nat) (x1 : Int32) (x2 : Int32) (xs0 : Int32) (h : HH) : Int32 × HH := fX6_bestPlacement_c29 a x1 x2 (bI (fX6_refused a xs0 h).1) ((fX6_refused a xs0 h).2)
def sX6_bestPlacement_c26 (a : Nat) (x1 : Int32) (x2 : Int32) (xs0 : Int32) (h : HH) : Prop := sX6_bestPlacement_c29 a x1 x2 (bI (fX6_refused a xs0 h).1) ((fX6_refused a xs0 h).2)
set_option maxRecDepth 100000 in
set_option maxHeartbeats 4000000 in
theorem xX6_bestPlacement_c26 {p : Program} {l : Launch} {e : Env} {s : State} {m : MethodId} {args : Array Value} {below : List Frame} {meth : Method} {c : Code} {X : Cx} {a : Nat} (hO : IsMo X a) (C0 : CT p s m args meth c X cX6_bestPlacement 3 (some .int) RX6) (x1 : Int32) (x2 : Int32) (xs0 : Int32) (h : HH) (H : Heap) (locs : List Loc) (ls : Array Slot) (res : Int32 × HH) (hl : lv_has ls 3 [(0, .ref a), (1, .int x1), (2, .int x2)]) (hW : WH X h H) (hS : va_S (xA X) s.heap H locs) (hs : sX6_bestPlacement_c26 a x1 x2 xs0 h) (hres : fX6_bestPlacement_c26 a x1 x2 xs0 h = res) : W p l e rmX6_bestPlacement s m args below meth c H locs 0 0 (MQ below (QI X res.1 res.2) args s 0 0 (xA X)) (F0 m 26 ls [.int xs0, .ref a]) := by
  obtain ⟨hx, hb, hr, hlk, hml, hown, hts, hK⟩ := id C0
  refine kV_i (As := [.int xs0]) (rest := []) ⟨hx, hb, hml, hown, hts⟩ (kX6_refused l X h a xs0 hO) (wX6_refused hts q4_88 ⟨Nat.le_of_ble_eq_true rfl, Nat.le_of_ble_eq_true rfl⟩) hK hW hS (va_recv hK.1 (hW.one hO.1) (ci := 6) (q0 := 0) rfl rfl) rfl hl.1 rfl (Nat.le_of_ble_eq_true rfl) dX6_bestPlacement_26 ⟨Nat.zero_le _, Nat.zero_le _⟩ (fun H locs hW hS => ?_)
  exact xX6_bestPlacement_c29 hO C0 x1 x2 (bI (fX6_refused a xs0 h).1) ((fX6_refused a xs0 h).2) _ _ _ _ (lv_sub hl [0, 1, 2] rfl) hW hS hs hres
def fX6_bestPlacement_c25 (a : Nat) (x1 : Int32) (x2 : Int32) (h : HH) : Int32 × HH := fX6_bestPlacement_c26 a x1 x2 1 h
def sX6_bestPlacement_c25 (a : Nat) (x1 : Int32) (x2 : Int32) (h : HH) : Prop := sX6_bestPlacement_c26 a x1 x2 1 h
set_option maxRecDepth 100000 in
set_option maxHeartbeats 4000000 in
theorem xX6_bestPlacement_c25 {p : Program} {l : Launch} {e : Env} {s : State} {m : MethodId} {args : Array Value} {below : List Frame} {meth : Method} {c : Code} {X : Cx} {a : Nat} (hO : IsMo X a) (C0 : CT p s m args meth c X cX6_bestPlacement 3 (some .int) RX6) (x1 : Int32) (x2 : Int32) (h : HH) (H : Heap) (locs : List Loc) (ls : Array Slot) (res : Int32 × HH) (hl : lv_has ls 3 [(0, .ref a), (1, .int x1), (2, .int x2)]) (hW : WH X h H) (hS : va_S (xA X) s.heap H locs) (hs : sX6_bestPlacement_c25 a x1 x2 h) (hres : fX6_bestPlacement_c25 a x1 x2 h = res) : W p l e rmX6_bestPlacement s m args below meth c H locs 0 0 (MQ below (QI X res.1 res.2) args s 0 0 (xA X)) (F0 m 25 ls [.ref a]) := by
  obtain ⟨hx, hb, hr, hlk, hml, hown, hts, hK⟩ := id C0
  refine lv_iconst (v := 1) hx hb dX6_bestPlacement_25 (by decide) ?_
  exact xX6_bestPlacement_c26 hO C0 x1 x2 1 h _ _ _ _ (lv_sub hl [0, 1, 2] rfl) hW hS hs hres
def fX6_bestPlacement_c0 (a : Nat) (x1 : Int32) (x2 : Int32) (h : HH) : Int32 × HH := if (bI (fX6_within x1 1 3)) = 0 then (fX6_bestPlacement_c25 a x1 x2 h) else (if (bI (fX6_within x2 0 (x1 - 1))) = 0 then (fX6_bestPlacement_c25 a x1 x2 h) else (fX6_bestPlacement_c26 a x1 x2 0 h))
def sX6_bestPlacement_c0 (a : Nat) (x1 : Int32) (x2 : Int32) (h : HH) : Prop := ((bI (fX6_within x1 1 3)) = 0 → (sX6_bestPlacement_c25 a x1 x2 h)) ∧ (¬ ((bI (fX6_within x1 1 3)) = 0) → (((bI (fX6_within x2 0 (x1 - 1))) = 0 → (sX6_bestPlacement_c25 a x1 x2 h)) ∧ (¬ ((bI (fX6_within x2 0 (x1 - 1))) = 0) → (sX6_bestPlacement_c26 a x1 x2 0 h))))
set_option maxRecDepth 100000 in
set_option maxHeartbeats 4000000 in
theorem xX6_bestPlacement_c0 {p : Program} {l : Launch} {e : Env} {s : State} {m : MethodId} {args : Array Value} {below : List Frame} {meth : Method} {c : Code} {X : Cx} {a : Nat} (hO : IsMo X a) (C0 : CT p s m args meth c X cX6_bestPlacement 3 (some .int) RX6) (x1 : Int32) (x2 : Int32) (h : HH) (H : Heap) (locs : List Loc) (ls : Array Slot) (res : Int32 × HH) (hl : lv_has ls 3 [(0, .ref a), (1, .int x1), (2, .int x2)]) (hW : WH X h H) (hS : va_S (xA X) s.heap H locs) (hs : sX6_bestPlacement_c0 a x1 x2 h) (hres : fX6_bestPlacement_c0 a x1 x2 h = res) : W p l e rmX6_bestPlacement s m args below meth c H locs 0 0 (MQ below (QI X res.1 res.2) args s 0 0 (xA X)) (F0 m 0 ls []) := by
  obtain ⟨hx, hb, hr, hlk, hml, hown, hts, hK⟩ := id C0
  refine lv_aload_n hx hb dX6_bestPlacement_0 rfl (lv_at hl 0 rfl) ?_
  refine lv_iload_n hx hb dX6_bestPlacement_1 rfl (lv_at hl 1 rfl) ?_
  refine lv_iconst (v := 1) hx hb dX6_bestPlacement_2 (by decide) ?_
  refine lv_iconst (v := 3) hx hb dX6_bestPlacement_3 (by decide) ?_
  refine kS_i (As := [.int x1, .int 1, .int 3]) (rest := [.ref a]) ⟨hx, hb, hml, hown, hts⟩ (kX6_within l X h x1 1 3) (wX6_within hts q4_96 ⟨Nat.le_of_ble_eq_true rfl, Nat.le_of_ble_eq_true rfl⟩) hK hW hS rfl hl.1 rfl (Nat.le_of_ble_eq_true rfl) dX6_bestPlacement_4 ⟨Nat.zero_le _, Nat.zero_le _⟩ (fun H locs hW hS => ?_)
  refine lv_if_eq (tgt := 25) hx hb dX6_bestPlacement_7 (by decide) (fun c1 => ?_) (fun c1 => ?_)
  · have hres := (if_pos c1).symm.trans hres
    have hs := And.left hs c1
    exact xX6_bestPlacement_c25 hO C0 x1 x2 h _ _ _ _ (lv_sub hl [0, 1, 2] rfl) hW hS hs hres
  · have hres := (if_neg c1).symm.trans hres
    have hs := And.right hs c1
    refine lv_iload_n hx hb dX6_bestPlacement_10 rfl (lv_at hl 2 rfl) ?_
    refine lv_iconst (v := 0) hx hb dX6_bestPlacement_11 (by decide) ?_
    refine lv_iload_n hx hb dX6_bestPlacement_12 rfl (lv_at hl 1 rfl) ?_
    refine lv_iconst (v := 1) hx hb dX6_bestPlacement_13 (by decide) ?_
    refine lv_isub hx hb dX6_bestPlacement_14 ?_
    refine kS_i (As := [.int x2, .int 0, .int (x1 - 1)]) (rest := [.ref a]) ⟨hx, hb, hml, hown, hts⟩ (kX6_within l X h x2 0 (x1 - 1)) (wX6_within hts q4_96 ⟨Nat.le_of_ble_eq_true rfl, Nat.le_of_ble_eq_true rfl⟩) hK hW hS rfl hl.1 rfl (Nat.le_of_ble_eq_true rfl) dX6_bestPlacement_15 ⟨Nat.zero_le _, Nat.zero_le _⟩ (fun H locs hW hS => ?_)
    refine lv_if_eq (tgt := 25) hx hb dX6_bestPlacement_18 (by decide) (fun c4 => ?_) (fun c4 => ?_)
    · have hres := (if_pos c4).symm.trans hres
      have hs := And.left hs c4
      exact xX6_bestPlacement_c25 hO C0 x1 x2 h _ _ _ _ (lv_sub hl [0, 1, 2] rfl) hW hS hs hres
    · have hres := (if_neg c4).symm.trans hres
      have hs := And.right hs c4
      refine lv_iconst (v := 0) hx hb dX6_bestPlacement_21 (by decide) ?_
      refine lv_goto (tgt := 26) hx hb dX6_bestPlacement_22 (by decide) ?_
      exact xX6_bestPlacement_c26 hO C0 x1 x2 0 h _ _ _ _ (lv_sub hl [0, 1, 2] rfl) hW hS hs hres
def fX6_bestPlacement (a : Nat) (x1 : Int32) (x2 : Int32) (h : HH) : Int32 × HH := fX6_bestPlacement_c0 a x1 x2 h
def sX6_bestPlacement (a : Nat) (x1 : Int32) (x2 : Int32) (h : HH) : Prop := sX6_bestPlacement_c0 a x1 x2 h
set_option maxRecDepth 100000 in
set_option maxHeartbeats 4000000 in
theorem kX6_bestPlacement (l : Launch) (X : Cx) (h : HH) (a : Nat) (x1 : Int32) (x2 : Int32) (hO : IsMo X a) (hs : sX6_bestPlacement a x1 x2 h) : Met l yX6_bestPlacement vX6_bestPlacement rmX6_bestPlacement (va_Pc [.ref a, .int x1, .int x2] (fun U => WS X h U)) (QI X (fX6_bestPlacement a x1 x2 h).1 (fX6_bestPlacement a x1 x2 h).2) 0 0 (xA X) := by
  refine Met.ofW (cc := cX6_bestPlacement) (maxL := 3) (ret := some .int) (by decide) rfl ?_
  intro p e s m args below meth c s₁ B hml hv
  obtain ⟨rfl, hW, hK⟩ := hv
  have hl := lv_entry ([.ref a, .int x1, .int x2]) (n := 3) (Nat.le_of_ble_eq_true rfl)
  rw [lg_entry_eq]
  generalize (lg_sl ([.ref a, .int x1, .int x2]) ++ List.replicate (3 - (lg_sl ([.ref a, .int x1, .int x2])).length) Slot.unset).toArray = ls at hl ⊢
  have hl : lv_has ls 3 [(0, .ref a), (1, .int x1), (2, .int x2)] := hl
  exact xX6_bestPlacement_c0 hO ⟨B.exec, B.bytes, B.returns, B.notSynchronized, hml, findClass_of_methodNamed B.named, fun w hw => atoms_spec (ws := vX6_bestPlacement) B.pre w (List.mem_cons_of_mem _ hw), hK⟩ x1 x2 h _ _ ls _ (lv_sub hl [0, 1, 2] rfl) hW va_S.rf hs rfl
-- VillageBoardModel.moves()I
abbrev rmX6_moves : Room := ({ frames := 0, cells := 0, slots := 0, locals := 0 } : Room)
abbrev vX6_moves : List Cond := Cond.code yX6_moves cX6_moves 1 (some .int) :: lwG
theorem wX6_moves {R : Room} {s : State} {args : Array Value} {own : String} {idx : Nat} (hg : ∀ w ∈ lwG, w.before args s = true) (hl : Cond.methodLink own idx yX6_moves ∈ lwG) (hR : rmX6_moves.frames + 1 ≤ R.frames ∧ 8 + (1 + 11) + rmX6_moves.locals ≤ R.locals) : CallW R s args own RX6 idx yX6_moves cX6_moves 1 (some .int) vX6_moves rmX6_moves 0 0 0 := cwV 0 hg (gV hl q5_105 q5_106 q1_7 q5_107) rfl rfl rfl (by decide +kernel) hR
def fX6_moves_c11 (a : Nat) (xs0 : Int32) (h : HH) : Int32 × HH := (h (a + 1) xs0.toNatClampNeg, h)
def sX6_moves_c11 (a : Nat) (xs0 : Int32) (h : HH) : Prop := vp_in xs0 206
set_option maxRecDepth 100000 in
set_option maxHeartbeats 4000000 in
theorem xX6_moves_c11 {p : Program} {l : Launch} {e : Env} {s : State} {m : MethodId} {args : Array Value} {below : List Frame} {meth : Method} {c : Code} {X : Cx} {a : Nat} (hO : IsMo X a) (C0 : CT p s m args meth c X cX6_moves 1 (some .int) RX6) (xs0 : Int32) (h : HH) (H : Heap) (locs : List Loc) (ls : Array Slot) (res : Int32 × HH) (hl : lv_has ls 1 []) (hW : WH X h H) (hS : va_S (xA X) s.heap H locs) (hs : sX6_moves_c11 a xs0 h) (hres : fX6_moves_c11 a xs0 h = res) : W p l e rmX6_moves s m args below meth c H locs 0 0 (MQ below (QI X res.1 res.2) args s 0 0 (xA X)) (F0 m 11 ls [.int xs0, .ref (a + 1)]) := by
  obtain ⟨hx, hb, hr, hlk, hml, hown, hts, hK⟩ := id C0
  have hi1 := hs
  refine kb_iald hx hb hK hW hO.2.1 (k := xs0.toNatClampNeg) rfl hi1 dX6_moves_11 ?_
  subst hres
  exact kr_i hx hb hr hlk hK hW hS dX6_moves_12
def fX6_moves_c0 (a : Nat) (h : HH) : Int32 × HH := fX6_moves_c11 a 85 (hset h a 4 0)
def sX6_moves_c0 (a : Nat) (h : HH) : Prop := sX6_moves_c11 a 85 (hset h a 4 0)
set_option maxRecDepth 100000 in
set_option maxHeartbeats 4000000 in
theorem xX6_moves_c0 {p : Program} {l : Launch} {e : Env} {s : State} {m : MethodId} {args : Array Value} {below : List Frame} {meth : Method} {c : Code} {X : Cx} {a : Nat} (hO : IsMo X a) (C0 : CT p s m args meth c X cX6_moves 1 (some .int) RX6) (h : HH) (H : Heap) (locs : List Loc) (ls : Array Slot) (res : Int32 × HH) (hl : lv_has ls 1 [(0, .ref a)]) (hW : WH X h H) (hS : va_S (xA X) s.heap H locs) (hs : sX6_moves_c0 a h) (hres : fX6_moves_c0 a h = res) : W p l e rmX6_moves s m args below meth c H locs 0 0 (MQ below (QI X res.1 res.2) args s 0 0 (xA X)) (F0 m 0 ls []) := by
  obtain ⟨hx, hb, hr, hlk, hml, hown, hts, hK⟩ := id C0
  refine lv_aload_n hx hb dX6_moves_0 rfl (lv_at hl 0 rfl) ?_
  refine lv_iconst (v := 0) hx hb dX6_moves_1 (by decide) ?_
  refine p6_4 hx hb hts hown hK hW hS hO.1 (hts _ q4_53) dX6_moves_2 (fun H locs hW hS => ?_)
  refine lv_aload_n hx hb dX6_moves_5 rfl (lv_at hl 0 rfl) ?_
  refine g6_0 hx hb hts hown hK hW hO.1 (hts _ q4_49) dX6_moves_6 ?_
  refine lv_bipush (v := 85) hx hb dX6_moves_9 (by decide) ?_
  exact xX6_moves_c11 hO C0 85 (hset h a 4 0) _ _ _ _ (lv_sub hl [] rfl) hW hS hs hres
def fX6_moves (a : Nat) (h : HH) : Int32 × HH := fX6_moves_c0 a h
def sX6_moves (a : Nat) (h : HH) : Prop := sX6_moves_c0 a h
set_option maxRecDepth 100000 in
set_option maxHeartbeats 4000000 in
theorem kX6_moves (l : Launch) (X : Cx) (h : HH) (a : Nat) (hO : IsMo X a) (hs : sX6_moves a h) : Met l yX6_moves vX6_moves rmX6_moves (va_Pc [.ref a] (fun U => WS X h U)) (QI X (fX6_moves a h).1 (fX6_moves a h).2) 0 0 (xA X) := by
  refine Met.ofW (cc := cX6_moves) (maxL := 1) (ret := some .int) (by decide) rfl ?_
  intro p e s m args below meth c s₁ B hml hv
  obtain ⟨rfl, hW, hK⟩ := hv
  have hl := lv_entry ([.ref a]) (n := 1) (Nat.le_of_ble_eq_true rfl)
  rw [lg_entry_eq]
  generalize (lg_sl ([.ref a]) ++ List.replicate (1 - (lg_sl ([.ref a])).length) Slot.unset).toArray = ls at hl ⊢
  have hl : lv_has ls 1 [(0, .ref a)] := hl
  exact xX6_moves_c0 hO ⟨B.exec, B.bytes, B.returns, B.notSynchronized, hml, findClass_of_methodNamed B.named, fun w hw => atoms_spec (ws := vX6_moves) B.pre w (List.mem_cons_of_mem _ hw), hK⟩ h _ _ ls _ (lv_sub hl [0] rfl) hW va_S.rf hs rfl
-- VillageBoardModel.move(II)I
abbrev rmX6_move : Room := ({ frames := 1, cells := 0, slots := 0, locals := 22 } : Room)
abbrev vX6_move : List Cond := Cond.code yX6_move cX6_move 3 (some .int) :: lwG
theorem wX6_move {R : Room} {s : State} {args : Array Value} {own : String} {idx : Nat} (hg : ∀ w ∈ lwG, w.before args s = true) (hl : Cond.methodLink own idx yX6_move ∈ lwG) (hR : rmX6_move.frames + 1 ≤ R.frames ∧ 8 + (3 + 11) + rmX6_move.locals ≤ R.locals) : CallW R s args own RX6 idx yX6_move cX6_move 3 (some .int) vX6_move rmX6_move 0 0 2 := cwV 2 hg (gV hl q5_109 q5_110 q1_7 q5_111) rfl rfl rfl (by decide +kernel) hR
def fX6_move_c39 (a : Nat) (x1 : Int32) (x2 : Int32) (xs0 : Int32) (h : HH) : Int32 × HH := if xs0 = 0 then ((h (a + 1) (((86 + (4 * x1)) + x2).toNatClampNeg), h)) else ((0, h))
def sX6_move_c39 (a : Nat) (x1 : Int32) (x2 : Int32) (xs0 : Int32) (h : HH) : Prop := (xs0 = 0 → (vp_in ((86 + (4 * x1)) + x2) 206)) ∧ (¬ (xs0 = 0) → True)
set_option maxRecDepth 100000 in
set_option maxHeartbeats 4000000 in
theorem xX6_move_c39 {p : Program} {l : Launch} {e : Env} {s : State} {m : MethodId} {args : Array Value} {below : List Frame} {meth : Method} {c : Code} {X : Cx} {a : Nat} (hO : IsMo X a) (C0 : CT p s m args meth c X cX6_move 3 (some .int) RX6) (x1 : Int32) (x2 : Int32) (xs0 : Int32) (h : HH) (H : Heap) (locs : List Loc) (ls : Array Slot) (res : Int32 × HH) (hl : lv_has ls 3 [(0, .ref a), (1, .int x1), (2, .int x2)]) (hW : WH X h H) (hS : va_S (xA X) s.heap H locs) (hs : sX6_move_c39 a x1 x2 xs0 h) (hres : fX6_move_c39 a x1 x2 xs0 h = res) : W p l e rmX6_move s m args below meth c H locs 0 0 (MQ below (QI X res.1 res.2) args s 0 0 (xA X)) (F0 m 39 ls [.int xs0]) := by
  obtain ⟨hx, hb, hr, hlk, hml, hown, hts, hK⟩ := id C0
  refine lv_if_eq (tgt := 46) hx hb dX6_move_39 (by decide) (fun c3 => ?_) (fun c3 => ?_)
  · have hres := (if_pos c3).symm.trans hres
    have hs := And.left hs c3
    refine lv_aload_n hx hb dX6_move_46 rfl (lv_at hl 0 rfl) ?_
    refine g6_0 hx hb hts hown hK hW hO.1 (hts _ q4_49) dX6_move_47 ?_
    refine lv_bipush (v := 86) hx hb dX6_move_50 (by decide) ?_
    refine lv_iconst (v := 4) hx hb dX6_move_52 (by decide) ?_
    refine lv_iload_n hx hb dX6_move_53 rfl (lv_at hl 1 rfl) ?_
    refine lv_imul hx hb dX6_move_54 ?_
    refine lv_iadd hx hb dX6_move_55 ?_
    refine lv_iload_n hx hb dX6_move_56 rfl (lv_at hl 2 rfl) ?_
    refine lv_iadd hx hb dX6_move_57 ?_
    have hi4 := hs
    refine kb_iald hx hb hK hW hO.2.1 (k := ((86 + (4 * x1)) + x2).toNatClampNeg) rfl hi4 dX6_move_58 ?_
    subst hres
    exact kr_i hx hb hr hlk hK hW hS dX6_move_59
  · have hres := (if_neg c3).symm.trans hres
    have hs := And.right hs c3
    refine lv_iconst (v := 0) hx hb dX6_move_42 (by decide) ?_
    refine lv_goto (tgt := 59) hx hb dX6_move_43 (by decide) ?_
    subst hres
    exact kr_i hx hb hr hlk hK hW hS dX6_move_59
def fX6_move_c36 (a : Nat) (x1 : Int32) (x2 : Int32) (xs0 : Int32) (h : HH) : Int32 × HH := fX6_move_c39 a x1 x2 (bI (fX6_refused a xs0 h).1) ((fX6_refused a xs0 h).2)
def sX6_move_c36 (a : Nat) (x1 : Int32) (x2 : Int32) (xs0 : Int32) (h : HH) : Prop := sX6_move_c39 a x1 x2 (bI (fX6_refused a xs0 h).1) ((fX6_refused a xs0 h).2)
set_option maxRecDepth 100000 in
set_option maxHeartbeats 4000000 in
theorem xX6_move_c36 {p : Program} {l : Launch} {e : Env} {s : State} {m : MethodId} {args : Array Value} {below : List Frame} {meth : Method} {c : Code} {X : Cx} {a : Nat} (hO : IsMo X a) (C0 : CT p s m args meth c X cX6_move 3 (some .int) RX6) (x1 : Int32) (x2 : Int32) (xs0 : Int32) (h : HH) (H : Heap) (locs : List Loc) (ls : Array Slot) (res : Int32 × HH) (hl : lv_has ls 3 [(0, .ref a), (1, .int x1), (2, .int x2)]) (hW : WH X h H) (hS : va_S (xA X) s.heap H locs) (hs : sX6_move_c36 a x1 x2 xs0 h) (hres : fX6_move_c36 a x1 x2 xs0 h = res) : W p l e rmX6_move s m args below meth c H locs 0 0 (MQ below (QI X res.1 res.2) args s 0 0 (xA X)) (F0 m 36 ls [.int xs0, .ref a]) := by
  obtain ⟨hx, hb, hr, hlk, hml, hown, hts, hK⟩ := id C0
  refine kV_i (As := [.int xs0]) (rest := []) ⟨hx, hb, hml, hown, hts⟩ (kX6_refused l X h a xs0 hO) (wX6_refused hts q4_88 ⟨Nat.le_of_ble_eq_true rfl, Nat.le_of_ble_eq_true rfl⟩) hK hW hS (va_recv hK.1 (hW.one hO.1) (ci := 6) (q0 := 0) rfl rfl) rfl hl.1 rfl (Nat.le_of_ble_eq_true rfl) dX6_move_36 ⟨Nat.zero_le _, Nat.zero_le _⟩ (fun H locs hW hS => ?_)
  exact xX6_move_c39 hO C0 x1 x2 (bI (fX6_refused a xs0 h).1) ((fX6_refused a xs0 h).2) _ _ _ _ (lv_sub hl [0, 1, 2] rfl) hW hS hs hres
def fX6_move_c0 (a : Nat) (x1 : Int32) (x2 : Int32) (h : HH) : Int32 × HH := if (bI (fX6_within x1 0 ((h (a + 1) 85) - 1))) = 0 then (fX6_move_c36 a x1 x2 1 h) else (if (bI (fX6_within x2 0 3)) = 0 then (fX6_move_c36 a x1 x2 2 h) else (fX6_move_c36 a x1 x2 0 h))
def sX6_move_c0 (a : Nat) (x1 : Int32) (x2 : Int32) (h : HH) : Prop := ((bI (fX6_within x1 0 ((h (a + 1) 85) - 1))) = 0 → (sX6_move_c36 a x1 x2 1 h)) ∧ (¬ ((bI (fX6_within x1 0 ((h (a + 1) 85) - 1))) = 0) → (((bI (fX6_within x2 0 3)) = 0 → (sX6_move_c36 a x1 x2 2 h)) ∧ (¬ ((bI (fX6_within x2 0 3)) = 0) → (sX6_move_c36 a x1 x2 0 h))))
set_option maxRecDepth 100000 in
set_option maxHeartbeats 4000000 in
theorem xX6_move_c0 {p : Program} {l : Launch} {e : Env} {s : State} {m : MethodId} {args : Array Value} {below : List Frame} {meth : Method} {c : Code} {X : Cx} {a : Nat} (hO : IsMo X a) (C0 : CT p s m args meth c X cX6_move 3 (some .int) RX6) (x1 : Int32) (x2 : Int32) (h : HH) (H : Heap) (locs : List Loc) (ls : Array Slot) (res : Int32 × HH) (hl : lv_has ls 3 [(0, .ref a), (1, .int x1), (2, .int x2)]) (hW : WH X h H) (hS : va_S (xA X) s.heap H locs) (hs : sX6_move_c0 a x1 x2 h) (hres : fX6_move_c0 a x1 x2 h = res) : W p l e rmX6_move s m args below meth c H locs 0 0 (MQ below (QI X res.1 res.2) args s 0 0 (xA X)) (F0 m 0 ls []) := by
  obtain ⟨hx, hb, hr, hlk, hml, hown, hts, hK⟩ := id C0
  refine lv_aload_n hx hb dX6_move_0 rfl (lv_at hl 0 rfl) ?_
  refine lv_iload_n hx hb dX6_move_1 rfl (lv_at hl 1 rfl) ?_
  refine lv_iconst (v := 0) hx hb dX6_move_2 (by decide) ?_
  refine lv_aload_n hx hb dX6_move_3 rfl (lv_at hl 0 rfl) ?_
  refine g6_0 hx hb hts hown hK hW hO.1 (hts _ q4_49) dX6_move_4 ?_
  refine lv_bipush (v := 85) hx hb dX6_move_7 (by decide) ?_
  refine kb_iald hx hb hK hW hO.2.1 (k := 85) (by decide) (vpd (by decide)) dX6_move_9 ?_
  refine lv_iconst (v := 1) hx hb dX6_move_10 (by decide) ?_
  refine lv_isub hx hb dX6_move_11 ?_
  refine kS_i (As := [.int x1, .int 0, .int ((h (a + 1) 85) - 1)]) (rest := [.ref a]) ⟨hx, hb, hml, hown, hts⟩ (kX6_within l X h x1 0 ((h (a + 1) 85) - 1)) (wX6_within hts q4_96 ⟨Nat.le_of_ble_eq_true rfl, Nat.le_of_ble_eq_true rfl⟩) hK hW hS rfl hl.1 rfl (Nat.le_of_ble_eq_true rfl) dX6_move_12 ⟨Nat.zero_le _, Nat.zero_le _⟩ (fun H locs hW hS => ?_)
  refine lv_if_ne (tgt := 22) hx hb dX6_move_15 (by decide) (fun c1 => ?_) (fun c1 => ?_)
  · have hres := (if_neg c1).symm.trans hres
    have hs := And.right hs c1
    refine lv_iload_n hx hb dX6_move_22 rfl (lv_at hl 2 rfl) ?_
    refine lv_iconst (v := 0) hx hb dX6_move_23 (by decide) ?_
    refine lv_iconst (v := 3) hx hb dX6_move_24 (by decide) ?_
    refine kS_i (As := [.int x2, .int 0, .int 3]) (rest := [.ref a]) ⟨hx, hb, hml, hown, hts⟩ (kX6_within l X h x2 0 3) (wX6_within hts q4_96 ⟨Nat.le_of_ble_eq_true rfl, Nat.le_of_ble_eq_true rfl⟩) hK hW hS rfl hl.1 rfl (Nat.le_of_ble_eq_true rfl) dX6_move_25 ⟨Nat.zero_le _, Nat.zero_le _⟩ (fun H locs hW hS => ?_)
    refine lv_if_eq (tgt := 35) hx hb dX6_move_28 (by decide) (fun c2 => ?_) (fun c2 => ?_)
    · have hres := (if_pos c2).symm.trans hres
      have hs := And.left hs c2
      refine lv_iconst (v := 2) hx hb dX6_move_35 (by decide) ?_
      exact xX6_move_c36 hO C0 x1 x2 2 h _ _ _ _ (lv_sub hl [0, 1, 2] rfl) hW hS hs hres
    · have hres := (if_neg c2).symm.trans hres
      have hs := And.right hs c2
      refine lv_iconst (v := 0) hx hb dX6_move_31 (by decide) ?_
      refine lv_goto (tgt := 36) hx hb dX6_move_32 (by decide) ?_
      exact xX6_move_c36 hO C0 x1 x2 0 h _ _ _ _ (lv_sub hl [0, 1, 2] rfl) hW hS hs hres
  · have hres := (if_pos c1).symm.trans hres
    have hs := And.left hs c1
    refine lv_iconst (v := 1) hx hb dX6_move_18 (by decide) ?_
    refine lv_goto (tgt := 36) hx hb dX6_move_19 (by decide) ?_
    exact xX6_move_c36 hO C0 x1 x2 1 h _ _ _ _ (lv_sub hl [0, 1, 2] rfl) hW hS hs hres
def fX6_move (a : Nat) (x1 : Int32) (x2 : Int32) (h : HH) : Int32 × HH := fX6_move_c0 a x1 x2 h
def sX6_move (a : Nat) (x1 : Int32) (x2 : Int32) (h : HH) : Prop := sX6_move_c0 a x1 x2 h
set_option maxRecDepth 100000 in
set_option maxHeartbeats 4000000 in
theorem kX6_move (l : Launch) (X : Cx) (h : HH) (a : Nat) (x1 : Int32) (x2 : Int32) (hO : IsMo X a) (hs : sX6_move a x1 x2 h) : Met l yX6_move vX6_move rmX6_move (va_Pc [.ref a, .int x1, .int x2] (fun U => WS X h U)) (QI X (fX6_move a x1 x2 h).1 (fX6_move a x1 x2 h).2) 0 0 (xA X) := by
  refine Met.ofW (cc := cX6_move) (maxL := 3) (ret := some .int) (by decide) rfl ?_
  intro p e s m args below meth c s₁ B hml hv
  obtain ⟨rfl, hW, hK⟩ := hv
  have hl := lv_entry ([.ref a, .int x1, .int x2]) (n := 3) (Nat.le_of_ble_eq_true rfl)
  rw [lg_entry_eq]
  generalize (lg_sl ([.ref a, .int x1, .int x2]) ++ List.replicate (3 - (lg_sl ([.ref a, .int x1, .int x2])).length) Slot.unset).toArray = ls at hl ⊢
  have hl : lv_has ls 3 [(0, .ref a), (1, .int x1), (2, .int x2)] := hl
  exact xX6_move_c0 hO ⟨B.exec, B.bytes, B.returns, B.notSynchronized, hml, findClass_of_methodNamed B.named, fun w hw => atoms_spec (ws := vX6_move) B.pre w (List.mem_cons_of_mem _ hw), hK⟩ x1 x2 h _ _ ls _ (lv_sub hl [0, 1, 2] rfl) hW va_S.rf hs rfl
-- VillageBoardModel.mix(I)V
abbrev rmX6_mix : Room := ({ frames := 0, cells := 0, slots := 0, locals := 0 } : Room)
abbrev vX6_mix : List Cond := Cond.code yX6_mix cX6_mix 2 none :: lwG
theorem wX6_mix {R : Room} {s : State} {args : Array Value} {own : String} {idx : Nat} (hg : ∀ w ∈ lwG, w.before args s = true) (hl : Cond.methodLink own idx yX6_mix ∈ lwG) (hR : rmX6_mix.frames + 1 ≤ R.frames ∧ 8 + (2 + 11) + rmX6_mix.locals ≤ R.locals) : CallW R s args own RX6 idx yX6_mix cX6_mix 2 none vX6_mix rmX6_mix 0 0 1 := cwV 1 hg (gV hl q5_119 q0_58 q1_7 q5_120) rfl rfl rfl (by decide +kernel) hR
def fX6_mix_c0 (a : Nat) (x1 : Int32) (h : HH) : HH := hsetL h a 9 10 ((31 * (LJ (h a 9) (h a 10))) + x1.toInt64)
set_option maxRecDepth 100000 in
set_option maxHeartbeats 4000000 in
theorem xX6_mix_c0 {p : Program} {l : Launch} {e : Env} {s : State} {m : MethodId} {args : Array Value} {below : List Frame} {meth : Method} {c : Code} {X : Cx} {a : Nat} (hO : IsMo X a) (C0 : CT p s m args meth c X cX6_mix 2 none RX6) (x1 : Int32) (h : HH) (H : Heap) (locs : List Loc) (ls : Array Slot) (res : HH) (hl : lv_has ls 2 [(0, .ref a), (1, .int x1)]) (hW : WH X h H) (hS : va_S (xA X) s.heap H locs) (hres : fX6_mix_c0 a x1 h = res) : W p l e rmX6_mix s m args below meth c H locs 0 0 (MQ below (QV X res) args s 0 0 (xA X)) (F0 m 0 ls []) := by
  obtain ⟨hx, hb, hr, hlk, hml, hown, hts, hK⟩ := id C0
  refine lv_aload_n hx hb dX6_mix_0 rfl (lv_at hl 0 rfl) ?_
  refine lv_ldc2 hx hb hown (hts _ q5_121) dX6_mix_1 ?_
  refine lv_aload_n hx hb dX6_mix_4 rfl (lv_at hl 0 rfl) ?_
  refine g6_9 hx hb hts hown hK hW hO.1 (hts _ q4_58) dX6_mix_5 ?_
  refine lv_lmul hx hb dX6_mix_8 ?_
  refine lv_iload_n hx hb dX6_mix_9 rfl (lv_at hl 1 rfl) ?_
  refine lv_i2l hx hb dX6_mix_10 rfl ?_
  refine lv_ladd hx hb dX6_mix_11 ?_
  refine p6_9 hx hb hts hown hK hW hS hO.1 (hts _ q4_58) dX6_mix_12 (fun H locs hW hS => ?_)
  subst hres
  exact kr_v hx hb hr hlk hK hW hS dX6_mix_15
def fX6_mix (a : Nat) (x1 : Int32) (h : HH) : HH := fX6_mix_c0 a x1 h
set_option maxRecDepth 100000 in
set_option maxHeartbeats 4000000 in
theorem kX6_mix (l : Launch) (X : Cx) (h : HH) (a : Nat) (x1 : Int32) (hO : IsMo X a) : Met l yX6_mix vX6_mix rmX6_mix (va_Pc [.ref a, .int x1] (fun U => WS X h U)) (QV X (fX6_mix a x1 h)) 0 0 (xA X) := by
  refine Met.ofW (cc := cX6_mix) (maxL := 2) (ret := none) (by decide) rfl ?_
  intro p e s m args below meth c s₁ B hml hv
  obtain ⟨rfl, hW, hK⟩ := hv
  have hl := lv_entry ([.ref a, .int x1]) (n := 2) (Nat.le_of_ble_eq_true rfl)
  rw [lg_entry_eq]
  generalize (lg_sl ([.ref a, .int x1]) ++ List.replicate (2 - (lg_sl ([.ref a, .int x1])).length) Slot.unset).toArray = ls at hl ⊢
  have hl : lv_has ls 2 [(0, .ref a), (1, .int x1)] := hl
  exact xX6_mix_c0 hO ⟨B.exec, B.bytes, B.returns, B.notSynchronized, hml, findClass_of_methodNamed B.named, fun w hw => atoms_spec (ws := vX6_mix) B.pre w (List.mem_cons_of_mem _ hw), hK⟩ x1 h _ _ ls _ (lv_sub hl [0, 1] rfl) hW va_S.rf rfl
-- VillageBoardModel.mixPlayer(I)V
abbrev rmX6_mixPlayer : Room := ({ frames := 6, cells := 0, slots := 0, locals := 134 } : Room)
abbrev vX6_mixPlayer : List Cond := Cond.code yX6_mixPlayer cX6_mixPlayer 3 none :: lwG
theorem wX6_mixPlayer {R : Room} {s : State} {args : Array Value} {own : String} {idx : Nat} (hg : ∀ w ∈ lwG, w.before args s = true) (hl : Cond.methodLink own idx yX6_mixPlayer ∈ lwG) (hR : rmX6_mixPlayer.frames + 1 ≤ R.frames ∧ 8 + (3 + 11) + rmX6_mixPlayer.locals ≤ R.locals) : CallW R s args own RX6 idx yX6_mixPlayer cX6_mixPlayer 3 none vX6_mixPlayer rmX6_mixPlayer 0 0 1 := cwV 1 hg (gV hl q5_124 q0_59 q1_7 q5_125) rfl rfl rfl (by decide +kernel) hR
def fX6_mixPlayer_c78 (a : Nat) (xs0 : Int32) (h : HH) : HH := fX6_mix a (fX6_rankOf a xs0 h) h
def sX6_mixPlayer_c78 (a : Nat) (xs0 : Int32) (h : HH) : Prop := sX6_rankOf a xs0 h
set_option maxRecDepth 100000 in
set_option maxHeartbeats 4000000 in
theorem xX6_mixPlayer_c78 {p : Program} {l : Launch} {e : Env} {s : State} {m : MethodId} {args : Array Value} {below : List Frame} {meth : Method} {c : Code} {X : Cx} {a : Nat} (hO : IsMo X a) (C0 : CT p s m args meth c X cX6_mixPlayer 3 none RX6) (xs0 : Int32) (h : HH) (H : Heap) (locs : List Loc) (ls : Array Slot) (res : HH) (hl : lv_has ls 3 []) (hW : WH X h H) (hS : va_S (xA X) s.heap H locs) (hs : sX6_mixPlayer_c78 a xs0 h) (hres : fX6_mixPlayer_c78 a xs0 h = res) : W p l e rmX6_mixPlayer s m args below meth c H locs 0 0 (MQ below (QV X res) args s 0 0 (xA X)) (F0 m 78 ls [.int xs0, .ref a, .ref a]) := by
  obtain ⟨hx, hb, hr, hlk, hml, hown, hts, hK⟩ := id C0
  have hc6 := hs
  refine kV_i (As := [.int xs0]) (rest := [.ref a]) ⟨hx, hb, hml, hown, hts⟩ (kX6_rankOf l X h a xs0 hO hc6) (wX6_rankOf hts q5_69 ⟨Nat.le_of_ble_eq_true rfl, Nat.le_of_ble_eq_true rfl⟩) hK hW hS (va_recv hK.1 (hW.one hO.1) (ci := 6) (q0 := 0) rfl rfl) rfl hl.1 rfl (Nat.le_of_ble_eq_true rfl) dX6_mixPlayer_78 ⟨Nat.zero_le _, Nat.zero_le _⟩ (fun H locs hW hS => ?_)
  refine kV_v (As := [.int (fX6_rankOf a xs0 h)]) (rest := []) ⟨hx, hb, hml, hown, hts⟩ (kX6_mix l X h a (fX6_rankOf a xs0 h) hO) (wX6_mix hts q5_117 ⟨Nat.le_of_ble_eq_true rfl, Nat.le_of_ble_eq_true rfl⟩) hK hW hS (va_recv hK.1 (hW.one hO.1) (ci := 6) (q0 := 0) rfl rfl) rfl hl.1 rfl (Nat.le_of_ble_eq_true rfl) dX6_mixPlayer_81 ⟨Nat.zero_le _, Nat.zero_le _⟩ (fun H locs hW hS => ?_)
  subst hres
  exact kr_v hx hb hr hlk hK hW hS dX6_mixPlayer_84
def fX6_mixPlayer_c44 (a : Nat) : Nat → Int32 → Int32 → HH → HH
  | 0, x1, x2, h => h
  | n + 1, x1, x2, h => if 6 ≤ x2 then (fX6_mixPlayer_c78 a x1 (fX6_mix a (fX6_allOf a x1 h) h)) else ((fX6_mixPlayer_c44 a n) x1 (x2 + 1) (fX6_mix a (fX6_scoreOf a x1 x2 h) h))
def sX6_mixPlayer_c44 (a : Nat) : Nat → Int32 → Int32 → HH → Prop
  | 0, _, _, _ => False
  | n + 1, x1, x2, h => (6 ≤ x2 → ((sX6_allOf a x1 h) ∧ (sX6_mixPlayer_c78 a x1 (fX6_mix a (fX6_allOf a x1 h) h)))) ∧ (¬ (6 ≤ x2) → ((sX6_scoreOf a x1 x2 h) ∧ ((sX6_mixPlayer_c44 a n) x1 (x2 + 1) (fX6_mix a (fX6_scoreOf a x1 x2 h) h))))
set_option maxRecDepth 100000 in
set_option maxHeartbeats 4000000 in
theorem xX6_mixPlayer_c44 {p : Program} {l : Launch} {e : Env} {s : State} {m : MethodId} {args : Array Value} {below : List Frame} {meth : Method} {c : Code} {X : Cx} {a : Nat} (hO : IsMo X a) (C0 : CT p s m args meth c X cX6_mixPlayer 3 none RX6) : ∀ (n : Nat) (x1 : Int32) (x2 : Int32) (h : HH) (H : Heap) (locs : List Loc) (ls : Array Slot) (res : HH) (hl : lv_has ls 3 [(0, .ref a), (1, .int x1), (2, .int x2)]) (hW : WH X h H) (hS : va_S (xA X) s.heap H locs) (hs : sX6_mixPlayer_c44 a n x1 x2 h) (hres : fX6_mixPlayer_c44 a n x1 x2 h = res), W p l e rmX6_mixPlayer s m args below meth c H locs 0 0 (MQ below (QV X res) args s 0 0 (xA X)) (F0 m 44 ls []) := by
  obtain ⟨hx, hb, hr, hlk, hml, hown, hts, hK⟩ := id C0
  intro n
  induction n with
  | zero =>
    intro _ _ _ _ _ _ _ _ _ _ hs _
    exact hs.elim
  | succ n ih =>
    intro x1 x2 h H locs ls res hl hW hS hs hres
    refine lv_iload_n hx hb dX6_mixPlayer_44 rfl (lv_at hl 2 rfl) ?_
    refine lv_bipush (v := 6) hx hb dX6_mixPlayer_45 (by decide) ?_
    refine lv_icmp_ge (tgt := 66) hx hb dX6_mixPlayer_47 (by decide) (fun c4 => ?_) (fun c4 => ?_)
    · have hres := (if_pos c4).symm.trans hres
      have hs := And.left hs c4
      refine lv_aload_n hx hb dX6_mixPlayer_66 rfl (lv_at hl 0 rfl) ?_
      refine lv_aload_n hx hb dX6_mixPlayer_67 rfl (lv_at hl 0 rfl) ?_
      refine lv_iload_n hx hb dX6_mixPlayer_68 rfl (lv_at hl 1 rfl) ?_
      obtain ⟨hc5, hs⟩ := hs
      refine kV_i (As := [.int x1]) (rest := [.ref a]) ⟨hx, hb, hml, hown, hts⟩ (kX6_allOf l X h a x1 hO hc5) (wX6_allOf hts q4_238 ⟨Nat.le_of_ble_eq_true rfl, Nat.le_of_ble_eq_true rfl⟩) hK hW hS (va_recv hK.1 (hW.one hO.1) (ci := 6) (q0 := 0) rfl rfl) rfl hl.1 rfl (Nat.le_of_ble_eq_true rfl) dX6_mixPlayer_69 ⟨Nat.zero_le _, Nat.zero_le _⟩ (fun H locs hW hS => ?_)
      refine kV_v (As := [.int (fX6_allOf a x1 h)]) (rest := []) ⟨hx, hb, hml, hown, hts⟩ (kX6_mix l X h a (fX6_allOf a x1 h) hO) (wX6_mix hts q5_117 ⟨Nat.le_of_ble_eq_true rfl, Nat.le_of_ble_eq_true rfl⟩) hK hW hS (va_recv hK.1 (hW.one hO.1) (ci := 6) (q0 := 0) rfl rfl) rfl hl.1 rfl (Nat.le_of_ble_eq_true rfl) dX6_mixPlayer_72 ⟨Nat.zero_le _, Nat.zero_le _⟩ (fun H locs hW hS => ?_)
      refine lv_aload_n hx hb dX6_mixPlayer_75 rfl (lv_at hl 0 rfl) ?_
      refine lv_aload_n hx hb dX6_mixPlayer_76 rfl (lv_at hl 0 rfl) ?_
      refine lv_iload_n hx hb dX6_mixPlayer_77 rfl (lv_at hl 1 rfl) ?_
      exact xX6_mixPlayer_c78 hO C0 x1 (fX6_mix a (fX6_allOf a x1 h) h) _ _ _ _ (lv_sub hl [] rfl) hW hS hs hres
    · have hres := (if_neg c4).symm.trans hres
      have hs := And.right hs c4
      refine lv_aload_n hx hb dX6_mixPlayer_50 rfl (lv_at hl 0 rfl) ?_
      refine lv_aload_n hx hb dX6_mixPlayer_51 rfl (lv_at hl 0 rfl) ?_
      refine lv_iload_n hx hb dX6_mixPlayer_52 rfl (lv_at hl 1 rfl) ?_
      refine lv_iload_n hx hb dX6_mixPlayer_53 rfl (lv_at hl 2 rfl) ?_
      obtain ⟨hc7, hs⟩ := hs
      refine kV_i (As := [.int x1, .int x2]) (rest := [.ref a]) ⟨hx, hb, hml, hown, hts⟩ (kX6_scoreOf l X h a x1 x2 hO hc7) (wX6_scoreOf hts q5_2 ⟨Nat.le_of_ble_eq_true rfl, Nat.le_of_ble_eq_true rfl⟩) hK hW hS (va_recv hK.1 (hW.one hO.1) (ci := 6) (q0 := 0) rfl rfl) rfl hl.1 rfl (Nat.le_of_ble_eq_true rfl) dX6_mixPlayer_54 ⟨Nat.zero_le _, Nat.zero_le _⟩ (fun H locs hW hS => ?_)
      refine kV_v (As := [.int (fX6_scoreOf a x1 x2 h)]) (rest := []) ⟨hx, hb, hml, hown, hts⟩ (kX6_mix l X h a (fX6_scoreOf a x1 x2 h) hO) (wX6_mix hts q5_117 ⟨Nat.le_of_ble_eq_true rfl, Nat.le_of_ble_eq_true rfl⟩) hK hW hS (va_recv hK.1 (hW.one hO.1) (ci := 6) (q0 := 0) rfl rfl) rfl hl.1 rfl (Nat.le_of_ble_eq_true rfl) dX6_mixPlayer_57 ⟨Nat.zero_le _, Nat.zero_le _⟩ (fun H locs hW hS => ?_)
      refine lv_iinc (v := x2 + 1) (lv' := [(2, .int (x2 + 1)), (0, .ref a), (1, .int x1)]) hx hb dX6_mixPlayer_60 hl (k := 2) rfl rfl (by decide) rfl (fun ls hl => ?_)
      refine lv_goto (tgt := 44) hx hb dX6_mixPlayer_63 (by decide) ?_
      exact ih x1 (x2 + 1) (fX6_mix a (fX6_scoreOf a x1 x2 h) h) _ _ _ _ (lv_sub hl [1, 2, 0] rfl) hW hS hs hres
def fX6_mixPlayer_c36 (a : Nat) (x1 : Int32) (xs0 : Int32) (h : HH) : HH := fX6_mixPlayer_c44 a 7 x1 0 (fX6_mix a (fX6_missingOf a xs0 h) h)
def sX6_mixPlayer_c36 (a : Nat) (x1 : Int32) (xs0 : Int32) (h : HH) : Prop := (sX6_missingOf a xs0 h) ∧ (sX6_mixPlayer_c44 a 7 x1 0 (fX6_mix a (fX6_missingOf a xs0 h) h))
set_option maxRecDepth 100000 in
set_option maxHeartbeats 4000000 in
theorem xX6_mixPlayer_c36 {p : Program} {l : Launch} {e : Env} {s : State} {m : MethodId} {args : Array Value} {below : List Frame} {meth : Method} {c : Code} {X : Cx} {a : Nat} (hO : IsMo X a) (C0 : CT p s m args meth c X cX6_mixPlayer 3 none RX6) (x1 : Int32) (xs0 : Int32) (h : HH) (H : Heap) (locs : List Loc) (ls : Array Slot) (res : HH) (hl : lv_has ls 3 [(0, .ref a), (1, .int x1)]) (hW : WH X h H) (hS : va_S (xA X) s.heap H locs) (hs : sX6_mixPlayer_c36 a x1 xs0 h) (hres : fX6_mixPlayer_c36 a x1 xs0 h = res) : W p l e rmX6_mixPlayer s m args below meth c H locs 0 0 (MQ below (QV X res) args s 0 0 (xA X)) (F0 m 36 ls [.int xs0, .ref a, .ref a]) := by
  obtain ⟨hx, hb, hr, hlk, hml, hown, hts, hK⟩ := id C0
  obtain ⟨hc3, hs⟩ := hs
  refine kV_i (As := [.int xs0]) (rest := [.ref a]) ⟨hx, hb, hml, hown, hts⟩ (kX6_missingOf l X h a xs0 hO hc3) (wX6_missingOf hts q4_202 ⟨Nat.le_of_ble_eq_true rfl, Nat.le_of_ble_eq_true rfl⟩) hK hW hS (va_recv hK.1 (hW.one hO.1) (ci := 6) (q0 := 0) rfl rfl) rfl hl.1 rfl (Nat.le_of_ble_eq_true rfl) dX6_mixPlayer_36 ⟨Nat.zero_le _, Nat.zero_le _⟩ (fun H locs hW hS => ?_)
  refine kV_v (As := [.int (fX6_missingOf a xs0 h)]) (rest := []) ⟨hx, hb, hml, hown, hts⟩ (kX6_mix l X h a (fX6_missingOf a xs0 h) hO) (wX6_mix hts q5_117 ⟨Nat.le_of_ble_eq_true rfl, Nat.le_of_ble_eq_true rfl⟩) hK hW hS (va_recv hK.1 (hW.one hO.1) (ci := 6) (q0 := 0) rfl rfl) rfl hl.1 rfl (Nat.le_of_ble_eq_true rfl) dX6_mixPlayer_39 ⟨Nat.zero_le _, Nat.zero_le _⟩ (fun H locs hW hS => ?_)
  refine lv_iconst (v := 0) hx hb dX6_mixPlayer_42 (by decide) ?_
  refine lv_istore_n (lv' := [(2, .int 0), (0, .ref a), (1, .int x1)]) hx hb dX6_mixPlayer_43 rfl hl (by decide) rfl (fun ls hl => ?_)
  exact xX6_mixPlayer_c44 hO C0 7 x1 0 (fX6_mix a (fX6_missingOf a xs0 h) h) _ _ _ _ (lv_sub hl [1, 2, 0] rfl) hW hS hs hres
def fX6_mixPlayer_c2 (a : Nat) : Nat → Int32 → Int32 → HH → HH
  | 0, x1, x2, h => h
  | n + 1, x1, x2, h => if 11 ≤ x2 then (fX6_mixPlayer_c36 a x1 x1 (fX6_mix a (fX6_needOf a x1 h) h)) else ((fX6_mixPlayer_c2 a n) x1 (x2 + 1) (fX6_mix a (fX6_get a x1 x2 h) h))
def sX6_mixPlayer_c2 (a : Nat) : Nat → Int32 → Int32 → HH → Prop
  | 0, _, _, _ => False
  | n + 1, x1, x2, h => (11 ≤ x2 → ((sX6_needOf a x1 h) ∧ (sX6_mixPlayer_c36 a x1 x1 (fX6_mix a (fX6_needOf a x1 h) h)))) ∧ (¬ (11 ≤ x2) → ((sX6_get a x1 x2 h) ∧ ((sX6_mixPlayer_c2 a n) x1 (x2 + 1) (fX6_mix a (fX6_get a x1 x2 h) h))))
set_option maxRecDepth 100000 in
set_option maxHeartbeats 4000000 in
theorem xX6_mixPlayer_c2 {p : Program} {l : Launch} {e : Env} {s : State} {m : MethodId} {args : Array Value} {below : List Frame} {meth : Method} {c : Code} {X : Cx} {a : Nat} (hO : IsMo X a) (C0 : CT p s m args meth c X cX6_mixPlayer 3 none RX6) : ∀ (n : Nat) (x1 : Int32) (x2 : Int32) (h : HH) (H : Heap) (locs : List Loc) (ls : Array Slot) (res : HH) (hl : lv_has ls 3 [(0, .ref a), (1, .int x1), (2, .int x2)]) (hW : WH X h H) (hS : va_S (xA X) s.heap H locs) (hs : sX6_mixPlayer_c2 a n x1 x2 h) (hres : fX6_mixPlayer_c2 a n x1 x2 h = res), W p l e rmX6_mixPlayer s m args below meth c H locs 0 0 (MQ below (QV X res) args s 0 0 (xA X)) (F0 m 2 ls []) := by
  obtain ⟨hx, hb, hr, hlk, hml, hown, hts, hK⟩ := id C0
  intro n
  induction n with
  | zero =>
    intro _ _ _ _ _ _ _ _ _ _ hs _
    exact hs.elim
  | succ n ih =>
    intro x1 x2 h H locs ls res hl hW hS hs hres
    refine lv_iload_n hx hb dX6_mixPlayer_2 rfl (lv_at hl 2 rfl) ?_
    refine lv_bipush (v := 11) hx hb dX6_mixPlayer_3 (by decide) ?_
    refine lv_icmp_ge (tgt := 24) hx hb dX6_mixPlayer_5 (by decide) (fun c1 => ?_) (fun c1 => ?_)
    · have hres := (if_pos c1).symm.trans hres
      have hs := And.left hs c1
      refine lv_aload_n hx hb dX6_mixPlayer_24 rfl (lv_at hl 0 rfl) ?_
      refine lv_aload_n hx hb dX6_mixPlayer_25 rfl (lv_at hl 0 rfl) ?_
      refine lv_iload_n hx hb dX6_mixPlayer_26 rfl (lv_at hl 1 rfl) ?_
      obtain ⟨hc2, hs⟩ := hs
      refine kV_i (As := [.int x1]) (rest := [.ref a]) ⟨hx, hb, hml, hown, hts⟩ (kX6_needOf l X h a x1 hO hc2) (wX6_needOf hts q4_190 ⟨Nat.le_of_ble_eq_true rfl, Nat.le_of_ble_eq_true rfl⟩) hK hW hS (va_recv hK.1 (hW.one hO.1) (ci := 6) (q0 := 0) rfl rfl) rfl hl.1 rfl (Nat.le_of_ble_eq_true rfl) dX6_mixPlayer_27 ⟨Nat.zero_le _, Nat.zero_le _⟩ (fun H locs hW hS => ?_)
      refine kV_v (As := [.int (fX6_needOf a x1 h)]) (rest := []) ⟨hx, hb, hml, hown, hts⟩ (kX6_mix l X h a (fX6_needOf a x1 h) hO) (wX6_mix hts q5_117 ⟨Nat.le_of_ble_eq_true rfl, Nat.le_of_ble_eq_true rfl⟩) hK hW hS (va_recv hK.1 (hW.one hO.1) (ci := 6) (q0 := 0) rfl rfl) rfl hl.1 rfl (Nat.le_of_ble_eq_true rfl) dX6_mixPlayer_30 ⟨Nat.zero_le _, Nat.zero_le _⟩ (fun H locs hW hS => ?_)
      refine lv_aload_n hx hb dX6_mixPlayer_33 rfl (lv_at hl 0 rfl) ?_
      refine lv_aload_n hx hb dX6_mixPlayer_34 rfl (lv_at hl 0 rfl) ?_
      refine lv_iload_n hx hb dX6_mixPlayer_35 rfl (lv_at hl 1 rfl) ?_
      exact xX6_mixPlayer_c36 hO C0 x1 x1 (fX6_mix a (fX6_needOf a x1 h) h) _ _ _ _ (lv_sub hl [0, 1] rfl) hW hS hs hres
    · have hres := (if_neg c1).symm.trans hres
      have hs := And.right hs c1
      refine lv_aload_n hx hb dX6_mixPlayer_8 rfl (lv_at hl 0 rfl) ?_
      refine lv_aload_n hx hb dX6_mixPlayer_9 rfl (lv_at hl 0 rfl) ?_
      refine lv_iload_n hx hb dX6_mixPlayer_10 rfl (lv_at hl 1 rfl) ?_
      refine lv_iload_n hx hb dX6_mixPlayer_11 rfl (lv_at hl 2 rfl) ?_
      obtain ⟨hc8, hs⟩ := hs
      refine kV_i (As := [.int x1, .int x2]) (rest := [.ref a]) ⟨hx, hb, hml, hown, hts⟩ (kX6_get l X h a x1 x2 hO hc8) (wX6_get hts q4_41 ⟨Nat.le_of_ble_eq_true rfl, Nat.le_of_ble_eq_true rfl⟩) hK hW hS (va_recv hK.1 (hW.one hO.1) (ci := 6) (q0 := 0) rfl rfl) rfl hl.1 rfl (Nat.le_of_ble_eq_true rfl) dX6_mixPlayer_12 ⟨Nat.zero_le _, Nat.zero_le _⟩ (fun H locs hW hS => ?_)
      refine kV_v (As := [.int (fX6_get a x1 x2 h)]) (rest := []) ⟨hx, hb, hml, hown, hts⟩ (kX6_mix l X h a (fX6_get a x1 x2 h) hO) (wX6_mix hts q5_117 ⟨Nat.le_of_ble_eq_true rfl, Nat.le_of_ble_eq_true rfl⟩) hK hW hS (va_recv hK.1 (hW.one hO.1) (ci := 6) (q0 := 0) rfl rfl) rfl hl.1 rfl (Nat.le_of_ble_eq_true rfl) dX6_mixPlayer_15 ⟨Nat.zero_le _, Nat.zero_le _⟩ (fun H locs hW hS => ?_)
      refine lv_iinc (v := x2 + 1) (lv' := [(2, .int (x2 + 1)), (0, .ref a), (1, .int x1)]) hx hb dX6_mixPlayer_18 hl (k := 2) rfl rfl (by decide) rfl (fun ls hl => ?_)
      refine lv_goto (tgt := 2) hx hb dX6_mixPlayer_21 (by decide) ?_
      exact ih x1 (x2 + 1) (fX6_mix a (fX6_get a x1 x2 h) h) _ _ _ _ (lv_sub hl [1, 2, 0] rfl) hW hS hs hres
def fX6_mixPlayer_c0 (a : Nat) (x1 : Int32) (h : HH) : HH := fX6_mixPlayer_c2 a 12 x1 0 h
def sX6_mixPlayer_c0 (a : Nat) (x1 : Int32) (h : HH) : Prop := sX6_mixPlayer_c2 a 12 x1 0 h
set_option maxRecDepth 100000 in
set_option maxHeartbeats 4000000 in
theorem xX6_mixPlayer_c0 {p : Program} {l : Launch} {e : Env} {s : State} {m : MethodId} {args : Array Value} {below : List Frame} {meth : Method} {c : Code} {X : Cx} {a : Nat} (hO : IsMo X a) (C0 : CT p s m args meth c X cX6_mixPlayer 3 none RX6) (x1 : Int32) (h : HH) (H : Heap) (locs : List Loc) (ls : Array Slot) (res : HH) (hl : lv_has ls 3 [(0, .ref a), (1, .int x1)]) (hW : WH X h H) (hS : va_S (xA X) s.heap H locs) (hs : sX6_mixPlayer_c0 a x1 h) (hres : fX6_mixPlayer_c0 a x1 h = res) : W p l e rmX6_mixPlayer s m args below meth c H locs 0 0 (MQ below (QV X res) args s 0 0 (xA X)) (F0 m 0 ls []) := by
  obtain ⟨hx, hb, hr, hlk, hml, hown, hts, hK⟩ := id C0
  refine lv_iconst (v := 0) hx hb dX6_mixPlayer_0 (by decide) ?_
  refine lv_istore_n (lv' := [(2, .int 0), (0, .ref a), (1, .int x1)]) hx hb dX6_mixPlayer_1 rfl hl (by decide) rfl (fun ls hl => ?_)
  exact xX6_mixPlayer_c2 hO C0 12 x1 0 h _ _ _ _ (lv_sub hl [1, 2, 0] rfl) hW hS hs hres
def fX6_mixPlayer (a : Nat) (x1 : Int32) (h : HH) : HH := fX6_mixPlayer_c0 a x1 h
def sX6_mixPlayer (a : Nat) (x1 : Int32) (h : HH) : Prop := sX6_mixPlayer_c0 a x1 h
set_option maxRecDepth 100000 in
set_option maxHeartbeats 4000000 in
theorem kX6_mixPlayer (l : Launch) (X : Cx) (h : HH) (a : Nat) (x1 : Int32) (hO : IsMo X a) (hs : sX6_mixPlayer a x1 h) : Met l yX6_mixPlayer vX6_mixPlayer rmX6_mixPlayer (va_Pc [.ref a, .int x1] (fun U => WS X h U)) (QV X (fX6_mixPlayer a x1 h)) 0 0 (xA X) := by
  refine Met.ofW (cc := cX6_mixPlayer) (maxL := 3) (ret := none) (by decide) rfl ?_
  intro p e s m args below meth c s₁ B hml hv
  obtain ⟨rfl, hW, hK⟩ := hv
  have hl := lv_entry ([.ref a, .int x1]) (n := 3) (Nat.le_of_ble_eq_true rfl)
  rw [lg_entry_eq]
  generalize (lg_sl ([.ref a, .int x1]) ++ List.replicate (3 - (lg_sl ([.ref a, .int x1])).length) Slot.unset).toArray = ls at hl ⊢
  have hl : lv_has ls 3 [(0, .ref a), (1, .int x1)] := hl
  exact xX6_mixPlayer_c0 hO ⟨B.exec, B.bytes, B.returns, B.notSynchronized, hml, findClass_of_methodNamed B.named, fun w hw => atoms_spec (ws := vX6_mixPlayer) B.pre w (List.mem_cons_of_mem _ hw), hK⟩ x1 h _ _ ls _ (lv_sub hl [0, 1] rfl) hW va_S.rf hs rfl
-- VillageBoardModel.digest()J
abbrev rmX6_digest : Room := ({ frames := 10, cells := 0, slots := 0, locals := 228 } : Room)
abbrev vX6_digest : List Cond := Cond.code yX6_digest cX6_digest 2 (some .long) :: lwG
theorem wX6_digest {R : Room} {s : State} {args : Array Value} {own : String} {idx : Nat} (hg : ∀ w ∈ lwG, w.before args s = true) (hl : Cond.methodLink own idx yX6_digest ∈ lwG) (hR : rmX6_digest.frames + 1 ≤ R.frames ∧ 8 + (2 + 11) + rmX6_digest.locals ≤ R.locals) : CallW R s args own RX6 idx yX6_digest cX6_digest 2 (some .long) vX6_digest rmX6_digest 0 0 0 := cwV 0 hg (gV hl q5_113 q5_114 q1_7 q5_115) rfl rfl rfl (by decide +kernel) hR
def fX6_digest_c161 (a : Nat) : Nat → Int32 → HH → Int64 × HH
  | 0, x1, h => (0, h)
  | n + 1, x1, h => if (4 * (h (a + 1) 85)) ≤ x1 then ((LJ (h a 9) (h a 10), h)) else ((fX6_digest_c161 a n) (x1 + 1) (fX6_mix a (h (a + 1) ((86 + x1).toNatClampNeg)) h))
def sX6_digest_c161 (a : Nat) : Nat → Int32 → HH → Prop
  | 0, _, _ => False
  | n + 1, x1, h => ((4 * (h (a + 1) 85)) ≤ x1 → True) ∧ (¬ ((4 * (h (a + 1) 85)) ≤ x1) → ((vp_in (86 + x1) 206) ∧ ((sX6_digest_c161 a n) (x1 + 1) (fX6_mix a (h (a + 1) ((86 + x1).toNatClampNeg)) h))))
set_option maxRecDepth 100000 in
set_option maxHeartbeats 4000000 in
theorem xX6_digest_c161 {p : Program} {l : Launch} {e : Env} {s : State} {m : MethodId} {args : Array Value} {below : List Frame} {meth : Method} {c : Code} {X : Cx} {a : Nat} (hO : IsMo X a) (C0 : CT p s m args meth c X cX6_digest 2 (some .long) RX6) : ∀ (n : Nat) (x1 : Int32) (h : HH) (H : Heap) (locs : List Loc) (ls : Array Slot) (res : Int64 × HH) (hl : lv_has ls 2 [(0, .ref a), (1, .int x1)]) (hW : WH X h H) (hS : va_S (xA X) s.heap H locs) (hs : sX6_digest_c161 a n x1 h) (hres : fX6_digest_c161 a n x1 h = res), W p l e rmX6_digest s m args below meth c H locs 0 0 (MQ below (QJ X res.1 res.2) args s 0 0 (xA X)) (F0 m 161 ls []) := by
  obtain ⟨hx, hb, hr, hlk, hml, hown, hts, hK⟩ := id C0
  intro n
  induction n with
  | zero =>
    intro _ _ _ _ _ _ _ _ _ hs _
    exact hs.elim
  | succ n ih =>
    intro x1 h H locs ls res hl hW hS hs hres
    refine lv_iload_n hx hb dX6_digest_161 rfl (lv_at hl 1 rfl) ?_
    refine lv_iconst (v := 4) hx hb dX6_digest_162 (by decide) ?_
    refine lv_aload_n hx hb dX6_digest_163 rfl (lv_at hl 0 rfl) ?_
    refine g6_0 hx hb hts hown hK hW hO.1 (hts _ q4_49) dX6_digest_164 ?_
    refine lv_bipush (v := 85) hx hb dX6_digest_167 (by decide) ?_
    refine kb_iald hx hb hK hW hO.2.1 (k := 85) (by decide) (vpd (by decide)) dX6_digest_169 ?_
    refine lv_imul hx hb dX6_digest_170 ?_
    refine lv_icmp_ge (tgt := 193) hx hb dX6_digest_171 (by decide) (fun c12 => ?_) (fun c12 => ?_)
    · have hres := (if_pos c12).symm.trans hres
      have hs := And.left hs c12
      refine lv_aload_n hx hb dX6_digest_193 rfl (lv_at hl 0 rfl) ?_
      refine g6_9 hx hb hts hown hK hW hO.1 (hts _ q4_58) dX6_digest_194 ?_
      subst hres
      exact kr_l hx hb hr hlk hK hW hS dX6_digest_197
    · have hres := (if_neg c12).symm.trans hres
      have hs := And.right hs c12
      refine lv_aload_n hx hb dX6_digest_174 rfl (lv_at hl 0 rfl) ?_
      refine lv_aload_n hx hb dX6_digest_175 rfl (lv_at hl 0 rfl) ?_
      refine g6_0 hx hb hts hown hK hW hO.1 (hts _ q4_49) dX6_digest_176 ?_
      refine lv_bipush (v := 86) hx hb dX6_digest_179 (by decide) ?_
      refine lv_iload_n hx hb dX6_digest_181 rfl (lv_at hl 1 rfl) ?_
      refine lv_iadd hx hb dX6_digest_182 ?_
      obtain ⟨hi13, hs⟩ := hs
      refine kb_iald hx hb hK hW hO.2.1 (k := (86 + x1).toNatClampNeg) rfl hi13 dX6_digest_183 ?_
      refine kV_v (As := [.int (h (a + 1) ((86 + x1).toNatClampNeg))]) (rest := []) ⟨hx, hb, hml, hown, hts⟩ (kX6_mix l X h a (h (a + 1) ((86 + x1).toNatClampNeg)) hO) (wX6_mix hts q5_117 ⟨Nat.le_of_ble_eq_true rfl, Nat.le_of_ble_eq_true rfl⟩) hK hW hS (va_recv hK.1 (hW.one hO.1) (ci := 6) (q0 := 0) rfl rfl) rfl hl.1 rfl (Nat.le_of_ble_eq_true rfl) dX6_digest_184 ⟨Nat.zero_le _, Nat.zero_le _⟩ (fun H locs hW hS => ?_)
      refine lv_iinc (v := x1 + 1) (lv' := [(1, .int (x1 + 1)), (0, .ref a)]) hx hb dX6_digest_187 hl (k := 1) rfl rfl (by decide) rfl (fun ls hl => ?_)
      refine lv_goto (tgt := 161) hx hb dX6_digest_190 (by decide) ?_
      exact ih (x1 + 1) (fX6_mix a (h (a + 1) ((86 + x1).toNatClampNeg)) h) _ _ _ _ (lv_sub hl [1, 0] rfl) hW hS hs hres
def fX6_digest_c155 (a : Nat) (xs0 : Int32) (h : HH) : Int64 × HH := fX6_digest_c161 a 121 0 (fX6_mix a (h (a + 1) xs0.toNatClampNeg) h)
def sX6_digest_c155 (a : Nat) (xs0 : Int32) (h : HH) : Prop := (vp_in xs0 206) ∧ (sX6_digest_c161 a 121 0 (fX6_mix a (h (a + 1) xs0.toNatClampNeg) h))
set_option maxRecDepth 100000 in
set_option maxHeartbeats 4000000 in
theorem xX6_digest_c155 {p : Program} {l : Launch} {e : Env} {s : State} {m : MethodId} {args : Array Value} {below : List Frame} {meth : Method} {c : Code} {X : Cx} {a : Nat} (hO : IsMo X a) (C0 : CT p s m args meth c X cX6_digest 2 (some .long) RX6) (xs0 : Int32) (h : HH) (H : Heap) (locs : List Loc) (ls : Array Slot) (res : Int64 × HH) (hl : lv_has ls 2 [(0, .ref a)]) (hW : WH X h H) (hS : va_S (xA X) s.heap H locs) (hs : sX6_digest_c155 a xs0 h) (hres : fX6_digest_c155 a xs0 h = res) : W p l e rmX6_digest s m args below meth c H locs 0 0 (MQ below (QJ X res.1 res.2) args s 0 0 (xA X)) (F0 m 155 ls [.int xs0, .ref (a + 1), .ref a]) := by
  obtain ⟨hx, hb, hr, hlk, hml, hown, hts, hK⟩ := id C0
  obtain ⟨hi11, hs⟩ := hs
  refine kb_iald hx hb hK hW hO.2.1 (k := xs0.toNatClampNeg) rfl hi11 dX6_digest_155 ?_
  refine kV_v (As := [.int (h (a + 1) xs0.toNatClampNeg)]) (rest := []) ⟨hx, hb, hml, hown, hts⟩ (kX6_mix l X h a (h (a + 1) xs0.toNatClampNeg) hO) (wX6_mix hts q5_117 ⟨Nat.le_of_ble_eq_true rfl, Nat.le_of_ble_eq_true rfl⟩) hK hW hS (va_recv hK.1 (hW.one hO.1) (ci := 6) (q0 := 0) rfl rfl) rfl hl.1 rfl (Nat.le_of_ble_eq_true rfl) dX6_digest_156 ⟨Nat.zero_le _, Nat.zero_le _⟩ (fun H locs hW hS => ?_)
  refine lv_iconst (v := 0) hx hb dX6_digest_159 (by decide) ?_
  refine lv_istore_n (lv' := [(1, .int 0), (0, .ref a)]) hx hb dX6_digest_160 rfl hl (by decide) rfl (fun ls hl => ?_)
  exact xX6_digest_c161 hO C0 121 0 (fX6_mix a (h (a + 1) xs0.toNatClampNeg) h) _ _ _ _ (lv_sub hl [1, 0] rfl) hW hS hs hres
def fX6_digest_c145 (a : Nat) (xs0 : Int32) (h : HH) : Int64 × HH := fX6_digest_c155 a 85 (fX6_mix a xs0 h)
def sX6_digest_c145 (a : Nat) (xs0 : Int32) (h : HH) : Prop := sX6_digest_c155 a 85 (fX6_mix a xs0 h)
set_option maxRecDepth 100000 in
set_option maxHeartbeats 4000000 in
theorem xX6_digest_c145 {p : Program} {l : Launch} {e : Env} {s : State} {m : MethodId} {args : Array Value} {below : List Frame} {meth : Method} {c : Code} {X : Cx} {a : Nat} (hO : IsMo X a) (C0 : CT p s m args meth c X cX6_digest 2 (some .long) RX6) (xs0 : Int32) (h : HH) (H : Heap) (locs : List Loc) (ls : Array Slot) (res : Int64 × HH) (hl : lv_has ls 2 [(0, .ref a)]) (hW : WH X h H) (hS : va_S (xA X) s.heap H locs) (hs : sX6_digest_c145 a xs0 h) (hres : fX6_digest_c145 a xs0 h = res) : W p l e rmX6_digest s m args below meth c H locs 0 0 (MQ below (QJ X res.1 res.2) args s 0 0 (xA X)) (F0 m 145 ls [.int xs0, .ref a]) := by
  obtain ⟨hx, hb, hr, hlk, hml, hown, hts, hK⟩ := id C0
  refine kV_v (As := [.int xs0]) (rest := []) ⟨hx, hb, hml, hown, hts⟩ (kX6_mix l X h a xs0 hO) (wX6_mix hts q5_117 ⟨Nat.le_of_ble_eq_true rfl, Nat.le_of_ble_eq_true rfl⟩) hK hW hS (va_recv hK.1 (hW.one hO.1) (ci := 6) (q0 := 0) rfl rfl) rfl hl.1 rfl (Nat.le_of_ble_eq_true rfl) dX6_digest_145 ⟨Nat.zero_le _, Nat.zero_le _⟩ (fun H locs hW hS => ?_)
  refine lv_aload_n hx hb dX6_digest_148 rfl (lv_at hl 0 rfl) ?_
  refine lv_aload_n hx hb dX6_digest_149 rfl (lv_at hl 0 rfl) ?_
  refine g6_0 hx hb hts hown hK hW hO.1 (hts _ q4_49) dX6_digest_150 ?_
  refine lv_bipush (v := 85) hx hb dX6_digest_153 (by decide) ?_
  exact xX6_digest_c155 hO C0 85 (fX6_mix a xs0 h) _ _ _ _ (lv_sub hl [0] rfl) hW hS hs hres
def fX6_digest_c142 (a : Nat) (xs0 : Int32) (xs1 : Int32) (h : HH) : Int64 × HH := fX6_digest_c145 a ((fX6_bestCodeOf a xs1 xs0 h).1) ((fX6_bestCodeOf a xs1 xs0 h).2)
def sX6_digest_c142 (a : Nat) (xs0 : Int32) (xs1 : Int32) (h : HH) : Prop := (sX6_bestCodeOf a xs1 xs0 h) ∧ (sX6_digest_c145 a ((fX6_bestCodeOf a xs1 xs0 h).1) ((fX6_bestCodeOf a xs1 xs0 h).2))
set_option maxRecDepth 100000 in
set_option maxHeartbeats 4000000 in
theorem xX6_digest_c142 {p : Program} {l : Launch} {e : Env} {s : State} {m : MethodId} {args : Array Value} {below : List Frame} {meth : Method} {c : Code} {X : Cx} {a : Nat} (hO : IsMo X a) (C0 : CT p s m args meth c X cX6_digest 2 (some .long) RX6) (xs0 : Int32) (xs1 : Int32) (h : HH) (H : Heap) (locs : List Loc) (ls : Array Slot) (res : Int64 × HH) (hl : lv_has ls 2 [(0, .ref a)]) (hW : WH X h H) (hS : va_S (xA X) s.heap H locs) (hs : sX6_digest_c142 a xs0 xs1 h) (hres : fX6_digest_c142 a xs0 xs1 h = res) : W p l e rmX6_digest s m args below meth c H locs 0 0 (MQ below (QJ X res.1 res.2) args s 0 0 (xA X)) (F0 m 142 ls [.int xs0, .int xs1, .ref a, .ref a]) := by
  obtain ⟨hx, hb, hr, hlk, hml, hown, hts, hK⟩ := id C0
  obtain ⟨hc10, hs⟩ := hs
  refine kV_i (As := [.int xs1, .int xs0]) (rest := [.ref a]) ⟨hx, hb, hml, hown, hts⟩ (kX6_bestCodeOf l X h a xs1 xs0 hO hc10) (wX6_bestCodeOf hts q5_100 ⟨Nat.le_of_ble_eq_true rfl, Nat.le_of_ble_eq_true rfl⟩) hK hW hS (va_recv hK.1 (hW.one hO.1) (ci := 6) (q0 := 0) rfl rfl) rfl hl.1 rfl (Nat.le_of_ble_eq_true rfl) dX6_digest_142 ⟨Nat.zero_le _, Nat.zero_le _⟩ (fun H locs hW hS => ?_)
  exact xX6_digest_c145 hO C0 ((fX6_bestCodeOf a xs1 xs0 h).1) ((fX6_bestCodeOf a xs1 xs0 h).2) _ _ _ _ (lv_sub hl [0] rfl) hW hS hs hres
def fX6_digest_c135 (a : Nat) (xs0 : Int32) (h : HH) : Int64 × HH := fX6_digest_c142 a 0 1 (fX6_mix a xs0 h)
def sX6_digest_c135 (a : Nat) (xs0 : Int32) (h : HH) : Prop := sX6_digest_c142 a 0 1 (fX6_mix a xs0 h)
set_option maxRecDepth 100000 in
set_option maxHeartbeats 4000000 in
theorem xX6_digest_c135 {p : Program} {l : Launch} {e : Env} {s : State} {m : MethodId} {args : Array Value} {below : List Frame} {meth : Method} {c : Code} {X : Cx} {a : Nat} (hO : IsMo X a) (C0 : CT p s m args meth c X cX6_digest 2 (some .long) RX6) (xs0 : Int32) (h : HH) (H : Heap) (locs : List Loc) (ls : Array Slot) (res : Int64 × HH) (hl : lv_has ls 2 [(0, .ref a)]) (hW : WH X h H) (hS : va_S (xA X) s.heap H locs) (hs : sX6_digest_c135 a xs0 h) (hres : fX6_digest_c135 a xs0 h = res) : W p l e rmX6_digest s m args below meth c H locs 0 0 (MQ below (QJ X res.1 res.2) args s 0 0 (xA X)) (F0 m 135 ls [.int xs0, .ref a]) := by
  obtain ⟨hx, hb, hr, hlk, hml, hown, hts, hK⟩ := id C0
  refine kV_v (As := [.int xs0]) (rest := []) ⟨hx, hb, hml, hown, hts⟩ (kX6_mix l X h a xs0 hO) (wX6_mix hts q5_117 ⟨Nat.le_of_ble_eq_true rfl, Nat.le_of_ble_eq_true rfl⟩) hK hW hS (va_recv hK.1 (hW.one hO.1) (ci := 6) (q0 := 0) rfl rfl) rfl hl.1 rfl (Nat.le_of_ble_eq_true rfl) dX6_digest_135 ⟨Nat.zero_le _, Nat.zero_le _⟩ (fun H locs hW hS => ?_)
  refine lv_aload_n hx hb dX6_digest_138 rfl (lv_at hl 0 rfl) ?_
  refine lv_aload_n hx hb dX6_digest_139 rfl (lv_at hl 0 rfl) ?_
  refine lv_iconst (v := 1) hx hb dX6_digest_140 (by decide) ?_
  refine lv_iconst (v := 0) hx hb dX6_digest_141 (by decide) ?_
  exact xX6_digest_c142 hO C0 0 1 (fX6_mix a xs0 h) _ _ _ _ (lv_sub hl [0] rfl) hW hS hs hres
def fX6_digest_c132 (a : Nat) (xs0 : Int32) (h : HH) : Int64 × HH := fX6_digest_c135 a ((fX6_bestScoreOf a xs0 h).1) ((fX6_bestScoreOf a xs0 h).2)
def sX6_digest_c132 (a : Nat) (xs0 : Int32) (h : HH) : Prop := (sX6_bestScoreOf a xs0 h) ∧ (sX6_digest_c135 a ((fX6_bestScoreOf a xs0 h).1) ((fX6_bestScoreOf a xs0 h).2))
set_option maxRecDepth 100000 in
set_option maxHeartbeats 4000000 in
theorem xX6_digest_c132 {p : Program} {l : Launch} {e : Env} {s : State} {m : MethodId} {args : Array Value} {below : List Frame} {meth : Method} {c : Code} {X : Cx} {a : Nat} (hO : IsMo X a) (C0 : CT p s m args meth c X cX6_digest 2 (some .long) RX6) (xs0 : Int32) (h : HH) (H : Heap) (locs : List Loc) (ls : Array Slot) (res : Int64 × HH) (hl : lv_has ls 2 [(0, .ref a)]) (hW : WH X h H) (hS : va_S (xA X) s.heap H locs) (hs : sX6_digest_c132 a xs0 h) (hres : fX6_digest_c132 a xs0 h = res) : W p l e rmX6_digest s m args below meth c H locs 0 0 (MQ below (QJ X res.1 res.2) args s 0 0 (xA X)) (F0 m 132 ls [.int xs0, .ref a, .ref a]) := by
  obtain ⟨hx, hb, hr, hlk, hml, hown, hts, hK⟩ := id C0
  obtain ⟨hc9, hs⟩ := hs
  refine kV_i (As := [.int xs0]) (rest := [.ref a]) ⟨hx, hb, hml, hown, hts⟩ (kX6_bestScoreOf l X h a xs0 hO hc9) (wX6_bestScoreOf hts q5_92 ⟨Nat.le_of_ble_eq_true rfl, Nat.le_of_ble_eq_true rfl⟩) hK hW hS (va_recv hK.1 (hW.one hO.1) (ci := 6) (q0 := 0) rfl rfl) rfl hl.1 rfl (Nat.le_of_ble_eq_true rfl) dX6_digest_132 ⟨Nat.zero_le _, Nat.zero_le _⟩ (fun H locs hW hS => ?_)
  exact xX6_digest_c135 hO C0 ((fX6_bestScoreOf a xs0 h).1) ((fX6_bestScoreOf a xs0 h).2) _ _ _ _ (lv_sub hl [0] rfl) hW hS hs hres
def fX6_digest_c95 (a : Nat) : Nat → Int32 → HH → Int64 × HH
  | 0, x1, h => (0, h)
  | n + 1, x1, h => if 48 ≤ x1 then (fX6_digest_c132 a 1 (fX6_mix a (fX6_possibles a h) h)) else ((fX6_digest_c95 a n) (x1 + 1) (fX6_mix a (fX6_tellSpace a (x1 / 4) (jrem x1 4) h) h))
def sX6_digest_c95 (a : Nat) : Nat → Int32 → HH → Prop
  | 0, _, _ => False
  | n + 1, x1, h => (48 ≤ x1 → ((sX6_possibles a h) ∧ (sX6_digest_c132 a 1 (fX6_mix a (fX6_possibles a h) h)))) ∧ (¬ (48 ≤ x1) → ((sX6_tellSpace a (x1 / 4) (jrem x1 4) h) ∧ ((sX6_digest_c95 a n) (x1 + 1) (fX6_mix a (fX6_tellSpace a (x1 / 4) (jrem x1 4) h) h))))
set_option maxRecDepth 100000 in
set_option maxHeartbeats 4000000 in
theorem xX6_digest_c95 {p : Program} {l : Launch} {e : Env} {s : State} {m : MethodId} {args : Array Value} {below : List Frame} {meth : Method} {c : Code} {X : Cx} {a : Nat} (hO : IsMo X a) (C0 : CT p s m args meth c X cX6_digest 2 (some .long) RX6) : ∀ (n : Nat) (x1 : Int32) (h : HH) (H : Heap) (locs : List Loc) (ls : Array Slot) (res : Int64 × HH) (hl : lv_has ls 2 [(0, .ref a), (1, .int x1)]) (hW : WH X h H) (hS : va_S (xA X) s.heap H locs) (hs : sX6_digest_c95 a n x1 h) (hres : fX6_digest_c95 a n x1 h = res), W p l e rmX6_digest s m args below meth c H locs 0 0 (MQ below (QJ X res.1 res.2) args s 0 0 (xA X)) (F0 m 95 ls []) := by
  obtain ⟨hx, hb, hr, hlk, hml, hown, hts, hK⟩ := id C0
  intro n
  induction n with
  | zero =>
    intro _ _ _ _ _ _ _ _ _ hs _
    exact hs.elim
  | succ n ih =>
    intro x1 h H locs ls res hl hW hS hs hres
    refine lv_iload_n hx hb dX6_digest_95 rfl (lv_at hl 1 rfl) ?_
    refine lv_bipush (v := 48) hx hb dX6_digest_96 (by decide) ?_
    refine lv_icmp_ge (tgt := 121) hx hb dX6_digest_98 (by decide) (fun c7 => ?_) (fun c7 => ?_)
    · have hres := (if_pos c7).symm.trans hres
      have hs := And.left hs c7
      refine lv_aload_n hx hb dX6_digest_121 rfl (lv_at hl 0 rfl) ?_
      refine lv_aload_n hx hb dX6_digest_122 rfl (lv_at hl 0 rfl) ?_
      obtain ⟨hc8, hs⟩ := hs
      refine kV_i (As := []) (rest := [.ref a]) ⟨hx, hb, hml, hown, hts⟩ (kX6_possibles l X h a hO hc8) (wX6_possibles hts q5_77 ⟨Nat.le_of_ble_eq_true rfl, Nat.le_of_ble_eq_true rfl⟩) hK hW hS (va_recv hK.1 (hW.one hO.1) (ci := 6) (q0 := 0) rfl rfl) rfl hl.1 rfl (Nat.le_of_ble_eq_true rfl) dX6_digest_123 ⟨Nat.zero_le _, Nat.zero_le _⟩ (fun H locs hW hS => ?_)
      refine kV_v (As := [.int (fX6_possibles a h)]) (rest := []) ⟨hx, hb, hml, hown, hts⟩ (kX6_mix l X h a (fX6_possibles a h) hO) (wX6_mix hts q5_117 ⟨Nat.le_of_ble_eq_true rfl, Nat.le_of_ble_eq_true rfl⟩) hK hW hS (va_recv hK.1 (hW.one hO.1) (ci := 6) (q0 := 0) rfl rfl) rfl hl.1 rfl (Nat.le_of_ble_eq_true rfl) dX6_digest_126 ⟨Nat.zero_le _, Nat.zero_le _⟩ (fun H locs hW hS => ?_)
      refine lv_aload_n hx hb dX6_digest_129 rfl (lv_at hl 0 rfl) ?_
      refine lv_aload_n hx hb dX6_digest_130 rfl (lv_at hl 0 rfl) ?_
      refine lv_iconst (v := 1) hx hb dX6_digest_131 (by decide) ?_
      exact xX6_digest_c132 hO C0 1 (fX6_mix a (fX6_possibles a h) h) _ _ _ _ (lv_sub hl [0] rfl) hW hS hs hres
    · have hres := (if_neg c7).symm.trans hres
      have hs := And.right hs c7
      refine lv_aload_n hx hb dX6_digest_101 rfl (lv_at hl 0 rfl) ?_
      refine lv_aload_n hx hb dX6_digest_102 rfl (lv_at hl 0 rfl) ?_
      refine lv_iload_n hx hb dX6_digest_103 rfl (lv_at hl 1 rfl) ?_
      refine lv_iconst (v := 4) hx hb dX6_digest_104 (by decide) ?_
      refine lv_idiv hx hb dX6_digest_105 (by decide) ?_
      refine lv_iload_n hx hb dX6_digest_106 rfl (lv_at hl 1 rfl) ?_
      refine lv_iconst (v := 4) hx hb dX6_digest_107 (by decide) ?_
      refine kb_irem hx hb dX6_digest_108 (by decide) ?_
      obtain ⟨hc14, hs⟩ := hs
      refine kV_i (As := [.int (x1 / 4), .int (jrem x1 4)]) (rest := [.ref a]) ⟨hx, hb, hml, hown, hts⟩ (kX6_tellSpace l X h a (x1 / 4) (jrem x1 4) hO hc14) (wX6_tellSpace hts q5_45 ⟨Nat.le_of_ble_eq_true rfl, Nat.le_of_ble_eq_true rfl⟩) hK hW hS (va_recv hK.1 (hW.one hO.1) (ci := 6) (q0 := 0) rfl rfl) rfl hl.1 rfl (Nat.le_of_ble_eq_true rfl) dX6_digest_109 ⟨Nat.zero_le _, Nat.zero_le _⟩ (fun H locs hW hS => ?_)
      refine kV_v (As := [.int (fX6_tellSpace a (x1 / 4) (jrem x1 4) h)]) (rest := []) ⟨hx, hb, hml, hown, hts⟩ (kX6_mix l X h a (fX6_tellSpace a (x1 / 4) (jrem x1 4) h) hO) (wX6_mix hts q5_117 ⟨Nat.le_of_ble_eq_true rfl, Nat.le_of_ble_eq_true rfl⟩) hK hW hS (va_recv hK.1 (hW.one hO.1) (ci := 6) (q0 := 0) rfl rfl) rfl hl.1 rfl (Nat.le_of_ble_eq_true rfl) dX6_digest_112 ⟨Nat.zero_le _, Nat.zero_le _⟩ (fun H locs hW hS => ?_)
      refine lv_iinc (v := x1 + 1) (lv' := [(1, .int (x1 + 1)), (0, .ref a)]) hx hb dX6_digest_115 hl (k := 1) rfl rfl (by decide) rfl (fun ls hl => ?_)
      refine lv_goto (tgt := 95) hx hb dX6_digest_118 (by decide) ?_
      exact ih (x1 + 1) (fX6_mix a (fX6_tellSpace a (x1 / 4) (jrem x1 4) h) h) _ _ _ _ (lv_sub hl [1, 0] rfl) hW hS hs hres
def fX6_digest_c72 (a : Nat) : Nat → Int32 → HH → Int64 × HH
  | 0, x1, h => (0, h)
  | n + 1, x1, h => if (h (a + 1) 0) ≤ x1 then (fX6_digest_c95 a 49 0 h) else ((fX6_digest_c72 a n) (x1 + 1) (fX6_mixPlayer a x1 h))
def sX6_digest_c72 (a : Nat) : Nat → Int32 → HH → Prop
  | 0, _, _ => False
  | n + 1, x1, h => ((h (a + 1) 0) ≤ x1 → (sX6_digest_c95 a 49 0 h)) ∧ (¬ ((h (a + 1) 0) ≤ x1) → ((sX6_mixPlayer a x1 h) ∧ ((sX6_digest_c72 a n) (x1 + 1) (fX6_mixPlayer a x1 h))))
set_option maxRecDepth 100000 in
set_option maxHeartbeats 4000000 in
theorem xX6_digest_c72 {p : Program} {l : Launch} {e : Env} {s : State} {m : MethodId} {args : Array Value} {below : List Frame} {meth : Method} {c : Code} {X : Cx} {a : Nat} (hO : IsMo X a) (C0 : CT p s m args meth c X cX6_digest 2 (some .long) RX6) : ∀ (n : Nat) (x1 : Int32) (h : HH) (H : Heap) (locs : List Loc) (ls : Array Slot) (res : Int64 × HH) (hl : lv_has ls 2 [(0, .ref a), (1, .int x1)]) (hW : WH X h H) (hS : va_S (xA X) s.heap H locs) (hs : sX6_digest_c72 a n x1 h) (hres : fX6_digest_c72 a n x1 h = res), W p l e rmX6_digest s m args below meth c H locs 0 0 (MQ below (QJ X res.1 res.2) args s 0 0 (xA X)) (F0 m 72 ls []) := by
  obtain ⟨hx, hb, hr, hlk, hml, hown, hts, hK⟩ := id C0
  intro n
  induction n with
  | zero =>
    intro _ _ _ _ _ _ _ _ _ hs _
    exact hs.elim
  | succ n ih =>
    intro x1 h H locs ls res hl hW hS hs hres
    refine lv_iload_n hx hb dX6_digest_72 rfl (lv_at hl 1 rfl) ?_
    refine lv_aload_n hx hb dX6_digest_73 rfl (lv_at hl 0 rfl) ?_
    refine g6_0 hx hb hts hown hK hW hO.1 (hts _ q4_49) dX6_digest_74 ?_
    refine lv_iconst (v := 0) hx hb dX6_digest_77 (by decide) ?_
    refine kb_iald hx hb hK hW hO.2.1 (k := 0) (by decide) (vpd (by decide)) dX6_digest_78 ?_
    refine lv_icmp_ge (tgt := 93) hx hb dX6_digest_79 (by decide) (fun c6 => ?_) (fun c6 => ?_)
    · have hres := (if_pos c6).symm.trans hres
      have hs := And.left hs c6
      refine lv_iconst (v := 0) hx hb dX6_digest_93 (by decide) ?_
      refine lv_istore_n (lv' := [(1, .int 0), (0, .ref a)]) hx hb dX6_digest_94 rfl hl (by decide) rfl (fun ls hl => ?_)
      exact xX6_digest_c95 hO C0 49 0 h _ _ _ _ (lv_sub hl [1, 0] rfl) hW hS hs hres
    · have hres := (if_neg c6).symm.trans hres
      have hs := And.right hs c6
      refine lv_aload_n hx hb dX6_digest_82 rfl (lv_at hl 0 rfl) ?_
      refine lv_iload_n hx hb dX6_digest_83 rfl (lv_at hl 1 rfl) ?_
      obtain ⟨hc15, hs⟩ := hs
      refine kV_v (As := [.int x1]) (rest := []) ⟨hx, hb, hml, hown, hts⟩ (kX6_mixPlayer l X h a x1 hO hc15) (wX6_mixPlayer hts q5_122 ⟨Nat.le_of_ble_eq_true rfl, Nat.le_of_ble_eq_true rfl⟩) hK hW hS (va_recv hK.1 (hW.one hO.1) (ci := 6) (q0 := 0) rfl rfl) rfl hl.1 rfl (Nat.le_of_ble_eq_true rfl) dX6_digest_84 ⟨Nat.zero_le _, Nat.zero_le _⟩ (fun H locs hW hS => ?_)
      refine lv_iinc (v := x1 + 1) (lv' := [(1, .int (x1 + 1)), (0, .ref a)]) hx hb dX6_digest_87 hl (k := 1) rfl rfl (by decide) rfl (fun ls hl => ?_)
      refine lv_goto (tgt := 72) hx hb dX6_digest_90 (by decide) ?_
      exact ih (x1 + 1) (fX6_mixPlayer a x1 h) _ _ _ _ (lv_sub hl [1, 0] rfl) hW hS hs hres
def fX6_digest_c66 (a : Nat) (xs0 : Int32) (h : HH) : Int64 × HH := fX6_digest_c72 a 5 0 (fX6_mix a (h (a + 1) xs0.toNatClampNeg) h)
def sX6_digest_c66 (a : Nat) (xs0 : Int32) (h : HH) : Prop := (vp_in xs0 206) ∧ (sX6_digest_c72 a 5 0 (fX6_mix a (h (a + 1) xs0.toNatClampNeg) h))
set_option maxRecDepth 100000 in
set_option maxHeartbeats 4000000 in
theorem xX6_digest_c66 {p : Program} {l : Launch} {e : Env} {s : State} {m : MethodId} {args : Array Value} {below : List Frame} {meth : Method} {c : Code} {X : Cx} {a : Nat} (hO : IsMo X a) (C0 : CT p s m args meth c X cX6_digest 2 (some .long) RX6) (xs0 : Int32) (h : HH) (H : Heap) (locs : List Loc) (ls : Array Slot) (res : Int64 × HH) (hl : lv_has ls 2 [(0, .ref a)]) (hW : WH X h H) (hS : va_S (xA X) s.heap H locs) (hs : sX6_digest_c66 a xs0 h) (hres : fX6_digest_c66 a xs0 h = res) : W p l e rmX6_digest s m args below meth c H locs 0 0 (MQ below (QJ X res.1 res.2) args s 0 0 (xA X)) (F0 m 66 ls [.int xs0, .ref (a + 1), .ref a]) := by
  obtain ⟨hx, hb, hr, hlk, hml, hown, hts, hK⟩ := id C0
  obtain ⟨hi5, hs⟩ := hs
  refine kb_iald hx hb hK hW hO.2.1 (k := xs0.toNatClampNeg) rfl hi5 dX6_digest_66 ?_
  refine kV_v (As := [.int (h (a + 1) xs0.toNatClampNeg)]) (rest := []) ⟨hx, hb, hml, hown, hts⟩ (kX6_mix l X h a (h (a + 1) xs0.toNatClampNeg) hO) (wX6_mix hts q5_117 ⟨Nat.le_of_ble_eq_true rfl, Nat.le_of_ble_eq_true rfl⟩) hK hW hS (va_recv hK.1 (hW.one hO.1) (ci := 6) (q0 := 0) rfl rfl) rfl hl.1 rfl (Nat.le_of_ble_eq_true rfl) dX6_digest_67 ⟨Nat.zero_le _, Nat.zero_le _⟩ (fun H locs hW hS => ?_)
  refine lv_iconst (v := 0) hx hb dX6_digest_70 (by decide) ?_
  refine lv_istore_n (lv' := [(1, .int 0), (0, .ref a)]) hx hb dX6_digest_71 rfl hl (by decide) rfl (fun ls hl => ?_)
  exact xX6_digest_c72 hO C0 5 0 (fX6_mix a (h (a + 1) xs0.toNatClampNeg) h) _ _ _ _ (lv_sub hl [1, 0] rfl) hW hS hs hres
def fX6_digest_c56 (a : Nat) (xs0 : Int32) (h : HH) : Int64 × HH := fX6_digest_c66 a 4 (fX6_mix a (h (a + 1) xs0.toNatClampNeg) h)
def sX6_digest_c56 (a : Nat) (xs0 : Int32) (h : HH) : Prop := (vp_in xs0 206) ∧ (sX6_digest_c66 a 4 (fX6_mix a (h (a + 1) xs0.toNatClampNeg) h))
set_option maxRecDepth 100000 in
set_option maxHeartbeats 4000000 in
theorem xX6_digest_c56 {p : Program} {l : Launch} {e : Env} {s : State} {m : MethodId} {args : Array Value} {below : List Frame} {meth : Method} {c : Code} {X : Cx} {a : Nat} (hO : IsMo X a) (C0 : CT p s m args meth c X cX6_digest 2 (some .long) RX6) (xs0 : Int32) (h : HH) (H : Heap) (locs : List Loc) (ls : Array Slot) (res : Int64 × HH) (hl : lv_has ls 2 [(0, .ref a)]) (hW : WH X h H) (hS : va_S (xA X) s.heap H locs) (hs : sX6_digest_c56 a xs0 h) (hres : fX6_digest_c56 a xs0 h = res) : W p l e rmX6_digest s m args below meth c H locs 0 0 (MQ below (QJ X res.1 res.2) args s 0 0 (xA X)) (F0 m 56 ls [.int xs0, .ref (a + 1), .ref a]) := by
  obtain ⟨hx, hb, hr, hlk, hml, hown, hts, hK⟩ := id C0
  obtain ⟨hi4, hs⟩ := hs
  refine kb_iald hx hb hK hW hO.2.1 (k := xs0.toNatClampNeg) rfl hi4 dX6_digest_56 ?_
  refine kV_v (As := [.int (h (a + 1) xs0.toNatClampNeg)]) (rest := []) ⟨hx, hb, hml, hown, hts⟩ (kX6_mix l X h a (h (a + 1) xs0.toNatClampNeg) hO) (wX6_mix hts q5_117 ⟨Nat.le_of_ble_eq_true rfl, Nat.le_of_ble_eq_true rfl⟩) hK hW hS (va_recv hK.1 (hW.one hO.1) (ci := 6) (q0 := 0) rfl rfl) rfl hl.1 rfl (Nat.le_of_ble_eq_true rfl) dX6_digest_57 ⟨Nat.zero_le _, Nat.zero_le _⟩ (fun H locs hW hS => ?_)
  refine lv_aload_n hx hb dX6_digest_60 rfl (lv_at hl 0 rfl) ?_
  refine lv_aload_n hx hb dX6_digest_61 rfl (lv_at hl 0 rfl) ?_
  refine g6_0 hx hb hts hown hK hW hO.1 (hts _ q4_49) dX6_digest_62 ?_
  refine lv_iconst (v := 4) hx hb dX6_digest_65 (by decide) ?_
  exact xX6_digest_c66 hO C0 4 (fX6_mix a (h (a + 1) xs0.toNatClampNeg) h) _ _ _ _ (lv_sub hl [0] rfl) hW hS hs hres
def fX6_digest_c46 (a : Nat) (xs0 : Int32) (h : HH) : Int64 × HH := fX6_digest_c56 a 3 (fX6_mix a (h (a + 1) xs0.toNatClampNeg) h)
def sX6_digest_c46 (a : Nat) (xs0 : Int32) (h : HH) : Prop := (vp_in xs0 206) ∧ (sX6_digest_c56 a 3 (fX6_mix a (h (a + 1) xs0.toNatClampNeg) h))
set_option maxRecDepth 100000 in
set_option maxHeartbeats 4000000 in
theorem xX6_digest_c46 {p : Program} {l : Launch} {e : Env} {s : State} {m : MethodId} {args : Array Value} {below : List Frame} {meth : Method} {c : Code} {X : Cx} {a : Nat} (hO : IsMo X a) (C0 : CT p s m args meth c X cX6_digest 2 (some .long) RX6) (xs0 : Int32) (h : HH) (H : Heap) (locs : List Loc) (ls : Array Slot) (res : Int64 × HH) (hl : lv_has ls 2 [(0, .ref a)]) (hW : WH X h H) (hS : va_S (xA X) s.heap H locs) (hs : sX6_digest_c46 a xs0 h) (hres : fX6_digest_c46 a xs0 h = res) : W p l e rmX6_digest s m args below meth c H locs 0 0 (MQ below (QJ X res.1 res.2) args s 0 0 (xA X)) (F0 m 46 ls [.int xs0, .ref (a + 1), .ref a]) := by
  obtain ⟨hx, hb, hr, hlk, hml, hown, hts, hK⟩ := id C0
  obtain ⟨hi3, hs⟩ := hs
  refine kb_iald hx hb hK hW hO.2.1 (k := xs0.toNatClampNeg) rfl hi3 dX6_digest_46 ?_
  refine kV_v (As := [.int (h (a + 1) xs0.toNatClampNeg)]) (rest := []) ⟨hx, hb, hml, hown, hts⟩ (kX6_mix l X h a (h (a + 1) xs0.toNatClampNeg) hO) (wX6_mix hts q5_117 ⟨Nat.le_of_ble_eq_true rfl, Nat.le_of_ble_eq_true rfl⟩) hK hW hS (va_recv hK.1 (hW.one hO.1) (ci := 6) (q0 := 0) rfl rfl) rfl hl.1 rfl (Nat.le_of_ble_eq_true rfl) dX6_digest_47 ⟨Nat.zero_le _, Nat.zero_le _⟩ (fun H locs hW hS => ?_)
  refine lv_aload_n hx hb dX6_digest_50 rfl (lv_at hl 0 rfl) ?_
  refine lv_aload_n hx hb dX6_digest_51 rfl (lv_at hl 0 rfl) ?_
  refine g6_0 hx hb hts hown hK hW hO.1 (hts _ q4_49) dX6_digest_52 ?_
  refine lv_iconst (v := 3) hx hb dX6_digest_55 (by decide) ?_
  exact xX6_digest_c56 hO C0 3 (fX6_mix a (h (a + 1) xs0.toNatClampNeg) h) _ _ _ _ (lv_sub hl [0] rfl) hW hS hs hres
def fX6_digest_c36 (a : Nat) (xs0 : Int32) (h : HH) : Int64 × HH := fX6_digest_c46 a 1 (fX6_mix a (h (a + 1) xs0.toNatClampNeg) h)
def sX6_digest_c36 (a : Nat) (xs0 : Int32) (h : HH) : Prop := (vp_in xs0 206) ∧ (sX6_digest_c46 a 1 (fX6_mix a (h (a + 1) xs0.toNatClampNeg) h))
set_option maxRecDepth 100000 in
set_option maxHeartbeats 4000000 in
theorem xX6_digest_c36 {p : Program} {l : Launch} {e : Env} {s : State} {m : MethodId} {args : Array Value} {below : List Frame} {meth : Method} {c : Code} {X : Cx} {a : Nat} (hO : IsMo X a) (C0 : CT p s m args meth c X cX6_digest 2 (some .long) RX6) (xs0 : Int32) (h : HH) (H : Heap) (locs : List Loc) (ls : Array Slot) (res : Int64 × HH) (hl : lv_has ls 2 [(0, .ref a)]) (hW : WH X h H) (hS : va_S (xA X) s.heap H locs) (hs : sX6_digest_c36 a xs0 h) (hres : fX6_digest_c36 a xs0 h = res) : W p l e rmX6_digest s m args below meth c H locs 0 0 (MQ below (QJ X res.1 res.2) args s 0 0 (xA X)) (F0 m 36 ls [.int xs0, .ref (a + 1), .ref a]) := by
  obtain ⟨hx, hb, hr, hlk, hml, hown, hts, hK⟩ := id C0
  obtain ⟨hi2, hs⟩ := hs
  refine kb_iald hx hb hK hW hO.2.1 (k := xs0.toNatClampNeg) rfl hi2 dX6_digest_36 ?_
  refine kV_v (As := [.int (h (a + 1) xs0.toNatClampNeg)]) (rest := []) ⟨hx, hb, hml, hown, hts⟩ (kX6_mix l X h a (h (a + 1) xs0.toNatClampNeg) hO) (wX6_mix hts q5_117 ⟨Nat.le_of_ble_eq_true rfl, Nat.le_of_ble_eq_true rfl⟩) hK hW hS (va_recv hK.1 (hW.one hO.1) (ci := 6) (q0 := 0) rfl rfl) rfl hl.1 rfl (Nat.le_of_ble_eq_true rfl) dX6_digest_37 ⟨Nat.zero_le _, Nat.zero_le _⟩ (fun H locs hW hS => ?_)
  refine lv_aload_n hx hb dX6_digest_40 rfl (lv_at hl 0 rfl) ?_
  refine lv_aload_n hx hb dX6_digest_41 rfl (lv_at hl 0 rfl) ?_
  refine g6_0 hx hb hts hown hK hW hO.1 (hts _ q4_49) dX6_digest_42 ?_
  refine lv_iconst (v := 1) hx hb dX6_digest_45 (by decide) ?_
  exact xX6_digest_c46 hO C0 1 (fX6_mix a (h (a + 1) xs0.toNatClampNeg) h) _ _ _ _ (lv_sub hl [0] rfl) hW hS hs hres
def fX6_digest_c26 (a : Nat) (xs0 : Int32) (h : HH) : Int64 × HH := fX6_digest_c36 a 2 (fX6_mix a (h (a + 1) xs0.toNatClampNeg) h)
def sX6_digest_c26 (a : Nat) (xs0 : Int32) (h : HH) : Prop := (vp_in xs0 206) ∧ (sX6_digest_c36 a 2 (fX6_mix a (h (a + 1) xs0.toNatClampNeg) h))
set_option maxRecDepth 100000 in
set_option maxHeartbeats 4000000 in
theorem xX6_digest_c26 {p : Program} {l : Launch} {e : Env} {s : State} {m : MethodId} {args : Array Value} {below : List Frame} {meth : Method} {c : Code} {X : Cx} {a : Nat} (hO : IsMo X a) (C0 : CT p s m args meth c X cX6_digest 2 (some .long) RX6) (xs0 : Int32) (h : HH) (H : Heap) (locs : List Loc) (ls : Array Slot) (res : Int64 × HH) (hl : lv_has ls 2 [(0, .ref a)]) (hW : WH X h H) (hS : va_S (xA X) s.heap H locs) (hs : sX6_digest_c26 a xs0 h) (hres : fX6_digest_c26 a xs0 h = res) : W p l e rmX6_digest s m args below meth c H locs 0 0 (MQ below (QJ X res.1 res.2) args s 0 0 (xA X)) (F0 m 26 ls [.int xs0, .ref (a + 1), .ref a]) := by
  obtain ⟨hx, hb, hr, hlk, hml, hown, hts, hK⟩ := id C0
  obtain ⟨hi1, hs⟩ := hs
  refine kb_iald hx hb hK hW hO.2.1 (k := xs0.toNatClampNeg) rfl hi1 dX6_digest_26 ?_
  refine kV_v (As := [.int (h (a + 1) xs0.toNatClampNeg)]) (rest := []) ⟨hx, hb, hml, hown, hts⟩ (kX6_mix l X h a (h (a + 1) xs0.toNatClampNeg) hO) (wX6_mix hts q5_117 ⟨Nat.le_of_ble_eq_true rfl, Nat.le_of_ble_eq_true rfl⟩) hK hW hS (va_recv hK.1 (hW.one hO.1) (ci := 6) (q0 := 0) rfl rfl) rfl hl.1 rfl (Nat.le_of_ble_eq_true rfl) dX6_digest_27 ⟨Nat.zero_le _, Nat.zero_le _⟩ (fun H locs hW hS => ?_)
  refine lv_aload_n hx hb dX6_digest_30 rfl (lv_at hl 0 rfl) ?_
  refine lv_aload_n hx hb dX6_digest_31 rfl (lv_at hl 0 rfl) ?_
  refine g6_0 hx hb hts hown hK hW hO.1 (hts _ q4_49) dX6_digest_32 ?_
  refine lv_iconst (v := 2) hx hb dX6_digest_35 (by decide) ?_
  exact xX6_digest_c36 hO C0 2 (fX6_mix a (h (a + 1) xs0.toNatClampNeg) h) _ _ _ _ (lv_sub hl [0] rfl) hW hS hs hres
def fX6_digest_c14 (a : Nat) (h : HH) : Int64 × HH := fX6_digest_c26 a 0 (fX6_mix a (h a 3) h)
def sX6_digest_c14 (a : Nat) (h : HH) : Prop := sX6_digest_c26 a 0 (fX6_mix a (h a 3) h)
set_option maxRecDepth 100000 in
set_option maxHeartbeats 4000000 in
theorem xX6_digest_c14 {p : Program} {l : Launch} {e : Env} {s : State} {m : MethodId} {args : Array Value} {below : List Frame} {meth : Method} {c : Code} {X : Cx} {a : Nat} (hO : IsMo X a) (C0 : CT p s m args meth c X cX6_digest 2 (some .long) RX6) (h : HH) (H : Heap) (locs : List Loc) (ls : Array Slot) (res : Int64 × HH) (hl : lv_has ls 2 [(0, .ref a)]) (hW : WH X h H) (hS : va_S (xA X) s.heap H locs) (hs : sX6_digest_c14 a h) (hres : fX6_digest_c14 a h = res) : W p l e rmX6_digest s m args below meth c H locs 0 0 (MQ below (QJ X res.1 res.2) args s 0 0 (xA X)) (F0 m 14 ls [.ref a, .ref a]) := by
  obtain ⟨hx, hb, hr, hlk, hml, hown, hts, hK⟩ := id C0
  refine g6_3 hx hb hts hown hK hW hO.1 (hts _ q4_52) dX6_digest_14 ?_
  refine kV_v (As := [.int (h a 3)]) (rest := []) ⟨hx, hb, hml, hown, hts⟩ (kX6_mix l X h a (h a 3) hO) (wX6_mix hts q5_117 ⟨Nat.le_of_ble_eq_true rfl, Nat.le_of_ble_eq_true rfl⟩) hK hW hS (va_recv hK.1 (hW.one hO.1) (ci := 6) (q0 := 0) rfl rfl) rfl hl.1 rfl (Nat.le_of_ble_eq_true rfl) dX6_digest_17 ⟨Nat.zero_le _, Nat.zero_le _⟩ (fun H locs hW hS => ?_)
  refine lv_aload_n hx hb dX6_digest_20 rfl (lv_at hl 0 rfl) ?_
  refine lv_aload_n hx hb dX6_digest_21 rfl (lv_at hl 0 rfl) ?_
  refine g6_0 hx hb hts hown hK hW hO.1 (hts _ q4_49) dX6_digest_22 ?_
  refine lv_iconst (v := 0) hx hb dX6_digest_25 (by decide) ?_
  exact xX6_digest_c26 hO C0 0 (fX6_mix a (h a 3) h) _ _ _ _ (lv_sub hl [0] rfl) hW hS hs hres
def fX6_digest_c0 (a : Nat) (h : HH) : Int64 × HH := fX6_digest_c14 a (hsetL (hset h a 4 0) a 9 10 18482)
def sX6_digest_c0 (a : Nat) (h : HH) : Prop := sX6_digest_c14 a (hsetL (hset h a 4 0) a 9 10 18482)
set_option maxRecDepth 100000 in
set_option maxHeartbeats 4000000 in
theorem xX6_digest_c0 {p : Program} {l : Launch} {e : Env} {s : State} {m : MethodId} {args : Array Value} {below : List Frame} {meth : Method} {c : Code} {X : Cx} {a : Nat} (hO : IsMo X a) (C0 : CT p s m args meth c X cX6_digest 2 (some .long) RX6) (h : HH) (H : Heap) (locs : List Loc) (ls : Array Slot) (res : Int64 × HH) (hl : lv_has ls 2 [(0, .ref a)]) (hW : WH X h H) (hS : va_S (xA X) s.heap H locs) (hs : sX6_digest_c0 a h) (hres : fX6_digest_c0 a h = res) : W p l e rmX6_digest s m args below meth c H locs 0 0 (MQ below (QJ X res.1 res.2) args s 0 0 (xA X)) (F0 m 0 ls []) := by
  obtain ⟨hx, hb, hr, hlk, hml, hown, hts, hK⟩ := id C0
  refine lv_aload_n hx hb dX6_digest_0 rfl (lv_at hl 0 rfl) ?_
  refine lv_iconst (v := 0) hx hb dX6_digest_1 (by decide) ?_
  refine p6_4 hx hb hts hown hK hW hS hO.1 (hts _ q4_53) dX6_digest_2 (fun H locs hW hS => ?_)
  refine lv_aload_n hx hb dX6_digest_5 rfl (lv_at hl 0 rfl) ?_
  refine lv_ldc2 hx hb hown (hts _ q5_116) dX6_digest_6 ?_
  refine p6_9 hx hb hts hown hK hW hS hO.1 (hts _ q4_58) dX6_digest_9 (fun H locs hW hS => ?_)
  refine lv_aload_n hx hb dX6_digest_12 rfl (lv_at hl 0 rfl) ?_
  refine lv_aload_n hx hb dX6_digest_13 rfl (lv_at hl 0 rfl) ?_
  exact xX6_digest_c14 hO C0 (hsetL (hset h a 4 0) a 9 10 18482) _ _ _ _ (lv_sub hl [0] rfl) hW hS hs hres
def fX6_digest (a : Nat) (h : HH) : Int64 × HH := fX6_digest_c0 a h
def sX6_digest (a : Nat) (h : HH) : Prop := sX6_digest_c0 a h
set_option maxRecDepth 100000 in
set_option maxHeartbeats 4000000 in
theorem kX6_digest (l : Launch) (X : Cx) (h : HH) (a : Nat) (hO : IsMo X a) (hs : sX6_digest a h) : Met l yX6_digest vX6_digest rmX6_digest (va_Pc [.ref a] (fun U => WS X h U)) (QJ X (fX6_digest a h).1 (fX6_digest a h).2) 0 0 (xA X) := by
  refine Met.ofW (cc := cX6_digest) (maxL := 2) (ret := some .long) (by decide) rfl ?_
  intro p e s m args below meth c s₁ B hml hv
  obtain ⟨rfl, hW, hK⟩ := hv
  have hl := lv_entry ([.ref a]) (n := 2) (Nat.le_of_ble_eq_true rfl)
  rw [lg_entry_eq]
  generalize (lg_sl ([.ref a]) ++ List.replicate (2 - (lg_sl ([.ref a])).length) Slot.unset).toArray = ls at hl ⊢
  have hl : lv_has ls 2 [(0, .ref a)] := hl
  exact xX6_digest_c0 hO ⟨B.exec, B.bytes, B.returns, B.notSynchronized, hml, findClass_of_methodNamed B.named, fun w hw => atoms_spec (ws := vX6_digest) B.pre w (List.mem_cons_of_mem _ hw), hK⟩ h _ _ ls _ (lv_sub hl [0] rfl) hW va_S.rf hs rfl
