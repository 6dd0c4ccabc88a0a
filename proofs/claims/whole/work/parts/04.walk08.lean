/-! by program (gen.py): the machine does what the functions say -/
abbrev rm_X7_letter : Room := { frames := 0, cells := 0, slots := 0, locals := 0 }
set_option maxHeartbeats 4000000 in
set_option maxRecDepth 100000 in
theorem wk_X7_letter_23 {p : Program} {l : Launch} {e : Env} {s : State} {m : MethodId} {args : Array Value} {below : List Frame} {meth : Method} {c : Code} {tw : Nat} {tt : Nat → Nat} (C0 : Cx p s m args meth c cX7_letter (some .int) 4 wsX7_letter RX7) (hT0 : tW tw tt (fun _ => False) s s.heap) {q : Int32} (k11 : Int32 → Int32 → Int32 → Option (Int32)) (hk11 : ∀ (x0 : Int32) (x2 : Int32) (x3 : Int32) (ls : Array Slot) (hl : lv_has ls 4 [(0, .int x0), (2, .int x2), (3, .int x3)]) (h : k11 x0 x2 x3 = some q), W p l e rm_X7_letter s m args below meth c s.heap [] 0 0 (MQ below (HQ (some (.int q))) args s 0 0 (fun _ => False)) (F0 m 11 ls [])) (x0 : Int32) (x2 : Int32) (x3 : Int32) (ls : Array Slot) (hl : lv_has ls 4 [(0, .int x0), (2, .int x2), (3, .int x3)]) (h : fn_X7_letter_23 k11 x0 x2 x3 = some q) : W p l e rm_X7_letter s m args below meth c s.heap [] 0 0 (MQ below (HQ (some (.int q))) args s 0 0 (fun _ => False)) (F0 m 23 ls []) := by
  obtain ⟨hx, hb, hr, hml, hown, hts, hlocks⟩ := id C0
  have hS : va_S (fun _ => False) s.heap s.heap [] := va_S.rf
  unfold fn_X7_letter_23 at h
  refine lv_iload_n hx hb dX7_letter_23 rfl (lv_at hl 1 rfl) ?_
  refine lv_iload_n hx hb dX7_letter_24 rfl (lv_at hl 0 rfl) ?_
  refine lv_iload_n hx hb dX7_letter_25 rfl (lv_at hl 2 rfl) ?_
  refine lv_ishr hx hb dX7_letter_26 ?_
  refine lv_iconst (v := 1) hx hb dX7_letter_27 (by decide) ?_
  refine lv_iand hx hb dX7_letter_28 ?_
  refine lv_isub hx hb dX7_letter_29 ?_
  refine lv_istore_n (lv' := [(2, .int (x2 - ((isr x0 x3) &&& 1))), (0, .int x0), (3, .int x3)]) hx hb dX7_letter_30 rfl hl (by decide) rfl (fun ls hl => ?_)
  refine lv_iinc (v := (x3 + 1)) (lv' := [(3, .int (x3 + 1)), (2, .int (x2 - ((isr x0 x3) &&& 1))), (0, .int x0)]) hx hb dX7_letter_31 hl (k := 2) rfl rfl (by decide) rfl (fun ls hl => ?_)
  refine lv_goto (tgt := 11) hx hb dX7_letter_34 (by decide) ?_
  exact hk11 x0 (x2 - ((isr x0 x3) &&& 1)) (x3 + 1) ls (lv_sub hl [2, 1, 0] rfl) h
set_option maxHeartbeats 4000000 in
set_option maxRecDepth 100000 in
theorem wk_X7_letter_11_body {p : Program} {l : Launch} {e : Env} {s : State} {m : MethodId} {args : Array Value} {below : List Frame} {meth : Method} {c : Code} {tw : Nat} {tt : Nat → Nat} (C0 : Cx p s m args meth c cX7_letter (some .int) 4 wsX7_letter RX7) (hT0 : tW tw tt (fun _ => False) s s.heap) {q : Int32} (k11 : Int32 → Int32 → Int32 → Option (Int32)) (hk11 : ∀ (x0 : Int32) (x2 : Int32) (x3 : Int32) (ls : Array Slot) (hl : lv_has ls 4 [(0, .int x0), (2, .int x2), (3, .int x3)]) (h : k11 x0 x2 x3 = some q), W p l e rm_X7_letter s m args below meth c s.heap [] 0 0 (MQ below (HQ (some (.int q))) args s 0 0 (fun _ => False)) (F0 m 11 ls [])) (x0 : Int32) (x2 : Int32) (x3 : Int32) (ls : Array Slot) (hl : lv_has ls 4 [(0, .int x0), (2, .int x2), (3, .int x3)]) (h : fn_X7_letter_11_body k11 x0 x2 x3 = some q) : W p l e rm_X7_letter s m args below meth c s.heap [] 0 0 (MQ below (HQ (some (.int q))) args s 0 0 (fun _ => False)) (F0 m 11 ls []) := by
  obtain ⟨hx, hb, hr, hml, hown, hts, hlocks⟩ := id C0
  have hS : va_S (fun _ => False) s.heap s.heap [] := va_S.rf
  unfold fn_X7_letter_11_body at h
  refine lv_iload_n hx hb dX7_letter_11 rfl (lv_at hl 1 rfl) ?_
  refine lv_if_gt (tgt := 23) hx hb dX7_letter_12 (by decide) (fun c12 => ?_) (fun c12 => ?_)
  · replace h := ite_t h c12
    exact wk_X7_letter_23 C0 hT0 (k11 := k11) (hk11 := hk11) (ls := ls) (hl := (lv_sub hl [0, 1, 2] rfl)) (h := h)
  · replace h := ite_f h c12
    refine lv_iload_n hx hb dX7_letter_15 rfl (lv_at hl 0 rfl) ?_
    refine lv_iload_n hx hb dX7_letter_16 rfl (lv_at hl 2 rfl) ?_
    refine lv_ishr hx hb dX7_letter_17 ?_
    refine lv_iconst (v := 1) hx hb dX7_letter_18 (by decide) ?_
    refine lv_iand hx hb dX7_letter_19 ?_
    refine lv_if_ne (tgt := 37) hx hb dX7_letter_20 (by decide) (fun c20 => ?_) (fun c20 => ?_)
    · replace h := ite_f h c20
      refine lv_bipush (v := 97) hx hb dX7_letter_37 (by decide) ?_
      refine lv_iload_n hx hb dX7_letter_39 rfl (lv_at hl 2 rfl) ?_
      refine lv_iadd hx hb dX7_letter_40 ?_
      obtain rfl := Option.some.inj h
      exact hp_iret hx hb hr hlocks dX7_letter_41
    · replace h := ite_t h c20
      exact wk_X7_letter_23 C0 hT0 (k11 := k11) (hk11 := hk11) (ls := ls) (hl := (lv_sub hl [0, 1, 2] rfl)) (h := h)
set_option maxHeartbeats 4000000 in
set_option maxRecDepth 100000 in
theorem wk_X7_letter_11 {p : Program} {l : Launch} {e : Env} {s : State} {m : MethodId} {args : Array Value} {below : List Frame} {meth : Method} {c : Code} {tw : Nat} {tt : Nat → Nat} (C0 : Cx p s m args meth c cX7_letter (some .int) 4 wsX7_letter RX7) (hT0 : tW tw tt (fun _ => False) s s.heap) {q : Int32} : ∀ (n : Nat) (x0 : Int32) (x2 : Int32) (x3 : Int32) (ls : Array Slot) (hl : lv_has ls 4 [(0, .int x0), (2, .int x2), (3, .int x3)]) (h : fn_X7_letter_11 n x0 x2 x3 = some q), W p l e rm_X7_letter s m args below meth c s.heap [] 0 0 (MQ below (HQ (some (.int q))) args s 0 0 (fun _ => False)) (F0 m 11 ls []) := by
  intro n
  induction n with
  | zero => intro x0 x2 x3 ls hl h; unfold fn_X7_letter_11 at h; cases h
  | succ n ih => intro x0 x2 x3 ls hl h; exact wk_X7_letter_11_body C0 hT0 (k11 := fn_X7_letter_11 n) (hk11 := ih) (hl := hl) (h := h)
set_option maxHeartbeats 4000000 in
set_option maxRecDepth 100000 in
theorem wk_X7_letter {p : Program} {l : Launch} {e : Env} {s : State} {m : MethodId} {args : Array Value} {below : List Frame} {meth : Method} {c : Code} {tw : Nat} {tt : Nat → Nat} (C0 : Cx p s m args meth c cX7_letter (some .int) 4 wsX7_letter RX7) (hT0 : tW tw tt (fun _ => False) s s.heap) {q : Int32} (x0 : Int32) (x1 : Int32) (ls : Array Slot) (hl : lv_has ls 4 [(0, .int x0), (1, .int x1)]) (h : fn_X7_letter x0 x1 = some q) : W p l e rm_X7_letter s m args below meth c s.heap [] 0 0 (MQ below (HQ (some (.int q))) args s 0 0 (fun _ => False)) (F0 m 0 ls []) := by
  obtain ⟨hx, hb, hr, hml, hown, hts, hlocks⟩ := id C0
  have hS : va_S (fun _ => False) s.heap s.heap [] := va_S.rf
  unfold fn_X7_letter at h
  refine lv_iload_n hx hb dX7_letter_0 rfl (lv_at hl 0 rfl) ?_
  refine lv_if_ne (tgt := 7) hx hb dX7_letter_1 (by decide) (fun c1 => ?_) (fun c1 => ?_)
  · replace h := ite_f h c1
    refine lv_iload_n hx hb dX7_letter_7 rfl (lv_at hl 1 rfl) ?_
    refine lv_istore_n (lv' := [(2, .int x1), (0, .int x0), (1, .int x1)]) hx hb dX7_letter_8 rfl hl (by decide) rfl (fun ls hl => ?_)
    refine lv_iconst (v := 0) hx hb dX7_letter_9 (by decide) ?_
    refine lv_istore_n (lv' := [(3, .int 0), (2, .int x1), (0, .int x0), (1, .int x1)]) hx hb dX7_letter_10 rfl hl (by decide) rfl (fun ls hl => ?_)
    exact wk_X7_letter_11 C0 hT0  FU x0 x1 0 ls (lv_sub hl [2, 1, 0] rfl) h
  · replace h := ite_t h c1
    refine lv_bipush (v := 49) hx hb dX7_letter_4 (by decide) ?_
    obtain rfl := Option.some.inj h
    exact hp_iret hx hb hr hlocks dX7_letter_6
theorem ct_X7_letter (l : Launch) (tw : Nat) (tt : Nat → Nat) (x0 : Int32) (x1 : Int32) {q : Int32} (h : fn_X7_letter x0 x1 = some q) : Hp l yX7_letter wsX7_letter rm_X7_letter [.int x0, .int x1] (GP tw tt) (some (.int q)) := by
  refine Hp.of (cc := cX7_letter) (nL := 4) (ret := (some .int)) (own := RX7) (by decide) rfl rfl (Nat.le_of_ble_eq_true rfl) ?_
  intro p e s m below meth c ls C0 hB hl
  exact wk_X7_letter C0 hB (hl := hl) (h := h)
abbrev rm_X7_textAt : Room := { frames := 3, cells := 0, slots := 0, locals := 75 }
theorem lk_X7_textAt_f13 : Cond.fieldLink RX7 13 "BooleanRingModel" "p" "[J" ∈ wsX7_textAt := by decide +kernel
theorem ly_X7_textAt_X7 : ∀ w ∈ wsX70, w ∈ wsX7_textAt := by decide +kernel
set_option maxHeartbeats 4000000 in
set_option maxRecDepth 100000 in
theorem wk_X7_textAt_102 {p : Program} {l : Launch} {e : Env} {s : State} {m : MethodId} {args : Array Value} {below : List Frame} {meth : Method} {c : Code} {D : va_G} {ca : Nat → ClassId} {b : Nat → Nat} {tw : Nat} {tt : Nat → Nat} (C0 : Cx p s m args meth c cX7_textAt (some .int) 7 wsX7_textAt RX7) (hK : va_K D vwCl (tys3 ca) s) (hT0 : tW tw tt (ad_of 6 b) s s.heap) (v : YS) (hP : va_P D vwCl (YW ca b v) s.heap) {q : Int32} (k46 : Int32 → Int64 → Option (Int32)) (hk46 : ∀ (x3 : Int32) (x4 : Int64) (ls : Array Slot) (hl : lv_has ls 7 [(0, .ref (b 0)), (3, .int x3), (4, .long x4)]) (h : k46 x3 x4 = some q), W p l e rm_X7_textAt s m args below meth c s.heap [] 0 0 (MQ below (HQ (some (.int q))) args s 0 0 (fun _ => False)) (F0 m 46 ls [])) (x3 : Int32) (x4 : Int64) (ls : Array Slot) (hl : lv_has ls 7 [(0, .ref (b 0)), (3, .int x3), (4, .long x4)]) (h : fn_X7_textAt_102 v k46 x3 x4 = some q) : W p l e rm_X7_textAt s m args below meth c s.heap [] 0 0 (MQ below (HQ (some (.int q))) args s 0 0 (fun _ => False)) (F0 m 102 ls []) := by
  obtain ⟨hx, hb, hr, hml, hown, hts, hlocks⟩ := id C0
  have hS : va_S (ad_of 6 b) s.heap s.heap [] := va_S.rf
  unfold fn_X7_textAt_102 at h
  refine lv_iinc (v := (x3 + (-1))) (lv' := [(3, .int (x3 + (-1))), (0, .ref (b 0)), (4, .long x4)]) hx hb dX7_textAt_102 hl (k := 1) rfl rfl (by decide) rfl (fun ls hl => ?_)
  refine lv_lload hx hb dX7_textAt_105 (lv_at hl 2 rfl) ?_
  refine lv_lconst (v := 1) hx hb dX7_textAt_107 (by decide) ?_
  refine lv_aload_n hx hb dX7_textAt_108 rfl (lv_at hl 1 rfl) ?_
  refine lv_lload hx hb dX7_textAt_109 (lv_at hl 2 rfl) ?_
  refine lv_iconst (v := 0) hx hb dX7_textAt_111 (by decide) ?_
  obtain ⟨q112, e112, h⟩ := Option.bind_eq_some_iff.mp h
  refine hp_V (As := [.long x4, .int 0]) (rest := [.long 1, .long x4]) (b := (b 0)) ⟨hx, hb, hml, hown, hts⟩ (ct_X7_leads l D ca b tw tt v x4 0 e112) (cwV 2 hts gX7_textAt_X7_leads rfl rfl rfl (by decide +kernel) ⟨Nat.le_of_ble_eq_true rfl, Nat.le_of_ble_eq_true rfl⟩) (va_recv hK hP (ci := 4) (q0 := 0) rfl rfl) GW.mv (GW.from hP hK hT0 hS) rfl hl.1 rfl (Nat.le_of_ble_eq_true rfl) dX7_textAt_112 ⟨Nat.zero_le _, Nat.zero_le _⟩ ?_
  refine W.eq (g2 := F0 m 115 ls [.int q112, .long 1, .long x4]) rfl ?_
  refine lv_lshl (v := (lsh 1 q112)) hx hb dX7_textAt_115 rfl ?_
  refine lv_lxor hx hb dX7_textAt_116 ?_
  refine lv_lstore (lv' := [(4, .long (x4 ^^^ (lsh 1 q112))), (3, .int (x3 + (-1))), (0, .ref (b 0))]) hx hb dX7_textAt_117 hl (by decide) rfl (fun ls hl => ?_)
  refine lv_goto (tgt := 46) hx hb dX7_textAt_119 (by decide) ?_
  exact hk46 (x3 + (-1)) (x4 ^^^ (lsh 1 q112)) ls (lv_sub hl [2, 1, 0] rfl) h
set_option maxHeartbeats 4000000 in
set_option maxRecDepth 100000 in
theorem wk_X7_textAt_46_body {p : Program} {l : Launch} {e : Env} {s : State} {m : MethodId} {args : Array Value} {below : List Frame} {meth : Method} {c : Code} {D : va_G} {ca : Nat → ClassId} {b : Nat → Nat} {tw : Nat} {tt : Nat → Nat} (C0 : Cx p s m args meth c cX7_textAt (some .int) 7 wsX7_textAt RX7) (hK : va_K D vwCl (tys3 ca) s) (hT0 : tW tw tt (ad_of 6 b) s s.heap) (v : YS) (hP : va_P D vwCl (YW ca b v) s.heap) {q : Int32} (k46 : Int32 → Int64 → Option (Int32)) (hk46 : ∀ (x3 : Int32) (x4 : Int64) (ls : Array Slot) (hl : lv_has ls 7 [(0, .ref (b 0)), (3, .int x3), (4, .long x4)]) (h : k46 x3 x4 = some q), W p l e rm_X7_textAt s m args below meth c s.heap [] 0 0 (MQ below (HQ (some (.int q))) args s 0 0 (fun _ => False)) (F0 m 46 ls [])) (x3 : Int32) (x4 : Int64) (ls : Array Slot) (hl : lv_has ls 7 [(0, .ref (b 0)), (3, .int x3), (4, .long x4)]) (h : fn_X7_textAt_46_body v k46 x3 x4 = some q) : W p l e rm_X7_textAt s m args below meth c s.heap [] 0 0 (MQ below (HQ (some (.int q))) args s 0 0 (fun _ => False)) (F0 m 46 ls []) := by
  obtain ⟨hx, hb, hr, hml, hown, hts, hlocks⟩ := id C0
  have hS : va_S (ad_of 6 b) s.heap s.heap [] := va_S.rf
  unfold fn_X7_textAt_46_body at h
  refine lv_lload hx hb dX7_textAt_46 (lv_at hl 2 rfl) ?_
  refine lv_lconst (v := 0) hx hb dX7_textAt_48 (by decide) ?_
  refine wl_eq (tgt := 122) hx hb dX7_textAt_49 dX7_textAt_50 (by decide) (fun c49 => ?_) (fun c49 => ?_)
  · replace h := ite_t h c49
    refine lv_bipush (v := (-4)) hx hb dX7_textAt_122 (by decide) ?_
    obtain rfl := Option.some.inj h
    exact hp_iret hx hb hr hlocks dX7_textAt_124
  · replace h := ite_f h c49
    refine lv_aload_n hx hb dX7_textAt_53 rfl (lv_at hl 0 rfl) ?_
    refine lv_lload hx hb dX7_textAt_54 (lv_at hl 2 rfl) ?_
    refine lv_iconst (v := 0) hx hb dX7_textAt_56 (by decide) ?_
    obtain ⟨q57, e57, h⟩ := Option.bind_eq_some_iff.mp h
    refine hp_V (As := [.long x4, .int 0]) (rest := []) (b := (b 0)) ⟨hx, hb, hml, hown, hts⟩ (ct_X7_leads l D ca b tw tt v x4 0 e57) (cwV 2 hts gX7_textAt_X7_leads rfl rfl rfl (by decide +kernel) ⟨Nat.le_of_ble_eq_true rfl, Nat.le_of_ble_eq_true rfl⟩) (va_recv hK hP (ci := 4) (q0 := 0) rfl rfl) GW.mv (GW.from hP hK hT0 hS) rfl hl.1 rfl (Nat.le_of_ble_eq_true rfl) dX7_textAt_57 ⟨Nat.zero_le _, Nat.zero_le _⟩ ?_
    refine W.eq (g2 := F0 m 60 ls [.int q57]) rfl ?_
    refine lv_istore (lv' := [(6, .int q57), (0, .ref (b 0)), (3, .int x3), (4, .long x4)]) hx hb dX7_textAt_60 hl (by decide) rfl (fun ls hl => ?_)
    refine lv_iload_n hx hb dX7_textAt_62 rfl (lv_at hl 2 rfl) ?_
    refine lv_iload hx hb dX7_textAt_63 (lv_at hl 0 rfl) ?_
    obtain ⟨q65, e65, h⟩ := Option.bind_eq_some_iff.mp h
    refine hp_S (As := [.int q57]) (rest := [.int x3]) ⟨hx, hb, hml, hown, hts⟩ (ct_X7_longOf l tw tt q57 e65) (va_cwS 1 hts gX7_textAt_X7_longOf rfl rfl rfl (by decide +kernel) ⟨Nat.le_of_ble_eq_true rfl, Nat.le_of_ble_eq_true rfl⟩) GP.mv (GP.from hT0 hS) rfl hl.1 rfl (Nat.le_of_ble_eq_true rfl) dX7_textAt_65 ⟨Nat.zero_le _, Nat.zero_le _⟩ ?_
    refine W.eq (g2 := F0 m 68 ls [.int q65, .int x3]) rfl ?_
    refine lv_icmp_ge (tgt := 78) hx hb dX7_textAt_68 (by decide) (fun c68 => ?_) (fun c68 => ?_)
    · replace h := ite_t h c68
      refine lv_iload_n hx hb dX7_textAt_78 rfl (lv_at hl 2 rfl) ?_
      refine lv_iload hx hb dX7_textAt_79 (lv_at hl 0 rfl) ?_
      obtain ⟨q81, e81, h⟩ := Option.bind_eq_some_iff.mp h
      refine hp_S (As := [.int q57]) (rest := [.int x3]) ⟨hx, hb, hml, hown, hts⟩ (ct_X7_longOf l tw tt q57 e81) (va_cwS 1 hts gX7_textAt_X7_longOf rfl rfl rfl (by decide +kernel) ⟨Nat.le_of_ble_eq_true rfl, Nat.le_of_ble_eq_true rfl⟩) GP.mv (GP.from hT0 hS) rfl hl.1 rfl (Nat.le_of_ble_eq_true rfl) dX7_textAt_81 ⟨Nat.zero_le _, Nat.zero_le _⟩ ?_
      refine W.eq (g2 := F0 m 84 ls [.int q81, .int x3]) rfl ?_
      refine lv_isub hx hb dX7_textAt_84 ?_
      refine lv_istore_n (lv' := [(3, .int (x3 - q81)), (6, .int q57), (0, .ref (b 0)), (4, .long x4)]) hx hb dX7_textAt_85 rfl hl (by decide) rfl (fun ls hl => ?_)
      refine lv_iload_n hx hb dX7_textAt_86 rfl (lv_at hl 0 rfl) ?_
      refine lv_if_ne (tgt := 102) hx hb dX7_textAt_87 (by decide) (fun c87 => ?_) (fun c87 => ?_)
      · replace h := ite_f h c87
        exact wk_X7_textAt_102 C0 hK hT0 v hP (k46 := k46) (hk46 := hk46) (ls := ls) (hl := (lv_sub hl [2, 0, 3] rfl)) (h := h)
      · replace h := ite_t h c87
        refine lv_lload hx hb dX7_textAt_90 (lv_at hl 3 rfl) ?_
        obtain ⟨q92, e92, h⟩ := Option.bind_eq_some_iff.mp h
        refine hp_S (As := [.long x4]) (rest := []) ⟨hx, hb, hml, hown, hts⟩ (ct_X7_many l tw tt x4 e92) (va_cwS 1 hts gX7_textAt_X7_many rfl rfl rfl (by decide +kernel) ⟨Nat.le_of_ble_eq_true rfl, Nat.le_of_ble_eq_true rfl⟩) GP.mv (GP.from hT0 hS) rfl hl.1 rfl (Nat.le_of_ble_eq_true rfl) dX7_textAt_92 ⟨Nat.zero_le _, Nat.zero_le _⟩ ?_
        refine W.eq (g2 := F0 m 95 ls [.int q92]) rfl ?_
        refine lv_iconst (v := 1) hx hb dX7_textAt_95 (by decide) ?_
        refine lv_icmp_le (tgt := 102) hx hb dX7_textAt_96 (by decide) (fun c96 => ?_) (fun c96 => ?_)
        · replace h := ite_t h c96
          exact wk_X7_textAt_102 C0 hK hT0 v hP (k46 := k46) (hk46 := hk46) (ls := ls) (hl := (lv_sub hl [2, 0, 3] rfl)) (h := h)
        · replace h := ite_f h c96
          refine lv_bipush (v := 43) hx hb dX7_textAt_99 (by decide) ?_
          obtain rfl := Option.some.inj h
          exact hp_iret hx hb hr hlocks dX7_textAt_101
    · replace h := ite_f h c68
      refine lv_iload hx hb dX7_textAt_71 (lv_at hl 0 rfl) ?_
      refine lv_iload_n hx hb dX7_textAt_73 rfl (lv_at hl 2 rfl) ?_
      obtain ⟨q74, e74, h⟩ := Option.bind_eq_some_iff.mp h
      refine hp_S (As := [.int q57, .int x3]) (rest := []) ⟨hx, hb, hml, hown, hts⟩ (ct_X7_letter l tw tt q57 x3 e74) (va_cwS 2 hts gX7_textAt_X7_letter rfl rfl rfl (by decide +kernel) ⟨Nat.le_of_ble_eq_true rfl, Nat.le_of_ble_eq_true rfl⟩) GP.mv (GP.from hT0 hS) rfl hl.1 rfl (Nat.le_of_ble_eq_true rfl) dX7_textAt_74 ⟨Nat.zero_le _, Nat.zero_le _⟩ ?_
      refine W.eq (g2 := F0 m 77 ls [.int q74]) rfl ?_
      obtain rfl := Option.some.inj h
      exact hp_iret hx hb hr hlocks dX7_textAt_77
set_option maxHeartbeats 4000000 in
set_option maxRecDepth 100000 in
theorem wk_X7_textAt_46 {p : Program} {l : Launch} {e : Env} {s : State} {m : MethodId} {args : Array Value} {below : List Frame} {meth : Method} {c : Code} {D : va_G} {ca : Nat → ClassId} {b : Nat → Nat} {tw : Nat} {tt : Nat → Nat} (C0 : Cx p s m args meth c cX7_textAt (some .int) 7 wsX7_textAt RX7) (hK : va_K D vwCl (tys3 ca) s) (hT0 : tW tw tt (ad_of 6 b) s s.heap) (v : YS) (hP : va_P D vwCl (YW ca b v) s.heap) {q : Int32} : ∀ (n : Nat) (x3 : Int32) (x4 : Int64) (ls : Array Slot) (hl : lv_has ls 7 [(0, .ref (b 0)), (3, .int x3), (4, .long x4)]) (h : fn_X7_textAt_46 v n x3 x4 = some q), W p l e rm_X7_textAt s m args below meth c s.heap [] 0 0 (MQ below (HQ (some (.int q))) args s 0 0 (fun _ => False)) (F0 m 46 ls []) := by
  intro n
  induction n with
  | zero => intro x3 x4 ls hl h; unfold fn_X7_textAt_46 at h; cases h
  | succ n ih => intro x3 x4 ls hl h; exact wk_X7_textAt_46_body C0 hK hT0 v hP (k46 := fn_X7_textAt_46 v n) (hk46 := ih) (hl := hl) (h := h)
set_option maxHeartbeats 4000000 in
set_option maxRecDepth 100000 in
theorem wk_X7_textAt {p : Program} {l : Launch} {e : Env} {s : State} {m : MethodId} {args : Array Value} {below : List Frame} {meth : Method} {c : Code} {D : va_G} {ca : Nat → ClassId} {b : Nat → Nat} {tw : Nat} {tt : Nat → Nat} (C0 : Cx p s m args meth c cX7_textAt (some .int) 7 wsX7_textAt RX7) (hK : va_K D vwCl (tys3 ca) s) (hT0 : tW tw tt (ad_of 6 b) s s.heap) (v : YS) (hP : va_P D vwCl (YW ca b v) s.heap) {q : Int32} (x1 : Int32) (x2 : Int32) (ls : Array Slot) (hl : lv_has ls 7 [(0, .ref (b 0)), (1, .int x1), (2, .int x2)]) (h : fn_X7_textAt v x1 x2 = some q) : W p l e rm_X7_textAt s m args below meth c s.heap [] 0 0 (MQ below (HQ (some (.int q))) args s 0 0 (fun _ => False)) (F0 m 0 ls []) := by
  obtain ⟨hx, hb, hr, hml, hown, hts, hlocks⟩ := id C0
  have hS : va_S (ad_of 6 b) s.heap s.heap [] := va_S.rf
  unfold fn_X7_textAt at h
  refine lv_iload_n hx hb dX7_textAt_0 rfl (lv_at hl 1 rfl) ?_
  obtain ⟨q1, e1, h⟩ := Option.bind_eq_some_iff.mp h
  refine hp_S (As := [.int x1]) (rest := []) ⟨hx, hb, hml, hown, hts⟩ (ct_X7_isRegister l tw tt x1 e1) (va_cwS 1 hts gX7_textAt_X7_isRegister rfl rfl rfl (by decide +kernel) ⟨Nat.le_of_ble_eq_true rfl, Nat.le_of_ble_eq_true rfl⟩) GP.mv (GP.from hT0 hS) rfl hl.1 rfl (Nat.le_of_ble_eq_true rfl) dX7_textAt_1 ⟨Nat.zero_le _, Nat.zero_le _⟩ ?_
  refine W.eq (g2 := F0 m 4 ls [.int q1]) rfl ?_
  refine lv_if_eq (tgt := 11) hx hb dX7_textAt_4 (by decide) (fun c4 => ?_) (fun c4 => ?_)
  · replace h := ite_t h c4
    refine lv_iconst (v := (-1)) hx hb dX7_textAt_11 (by decide) ?_
    obtain rfl := Option.some.inj h
    exact hp_iret hx hb hr hlocks dX7_textAt_12
  · replace h := ite_f h c4
    refine lv_iload_n hx hb dX7_textAt_7 rfl (lv_at hl 2 rfl) ?_
    refine lv_if_ge (tgt := 13) hx hb dX7_textAt_8 (by decide) (fun c8 => ?_) (fun c8 => ?_)
    · replace h := ite_t h c8
      refine lv_aload_n hx hb dX7_textAt_13 rfl (lv_at hl 0 rfl) ?_
      refine va_get (D := D) (ci := 4) (v := .ref (b 1)) (C := RX7) (T := TX7) (N := 9) hx hb hts ly_X7_textAt_X7 hown hK hP 0 rfl rfl 1 (by decide) (hts _ lk_X7_textAt_f13) (fun _ h9 => h9) rfl dX7_textAt_14 ?_
      refine lv_iload_n hx hb dX7_textAt_17 rfl (lv_at hl 1 rfl) ?_
      obtain ⟨q18, e18, h⟩ := Option.bind_eq_some_iff.mp h
      refine rd_lald hx hb hK hP 1 0 e18 rfl rfl dX7_textAt_18 ?_
      refine lv_lconst (v := 0) hx hb dX7_textAt_19 (by decide) ?_
      refine wl_ne (tgt := 36) hx hb dX7_textAt_20 dX7_textAt_21 (by decide) (fun c20 => ?_) (fun c20 => ?_)
      · replace h := ite_f h c20
        refine lv_iload_n hx hb dX7_textAt_36 rfl (lv_at hl 2 rfl) ?_
        refine lv_istore_n (lv' := [(3, .int x2), (0, .ref (b 0)), (1, .int x1), (2, .int x2)]) hx hb dX7_textAt_37 rfl hl (by decide) rfl (fun ls hl => ?_)
        refine lv_aload_n hx hb dX7_textAt_38 rfl (lv_at hl 1 rfl) ?_
        refine va_get (D := D) (ci := 4) (v := .ref (b 1)) (C := RX7) (T := TX7) (N := 9) hx hb hts ly_X7_textAt_X7 hown hK hP 0 rfl rfl 1 (by decide) (hts _ lk_X7_textAt_f13) (fun _ h9 => h9) rfl dX7_textAt_39 ?_
        refine lv_iload_n hx hb dX7_textAt_42 rfl (lv_at hl 2 rfl) ?_
        obtain ⟨q43, e43, h⟩ := Option.bind_eq_some_iff.mp h
        refine rd_lald hx hb hK hP 1 0 e43 rfl rfl dX7_textAt_43 ?_
        refine lv_lstore (lv' := [(4, .long q43), (3, .int x2), (0, .ref (b 0)), (1, .int x1), (2, .int x2)]) hx hb dX7_textAt_44 hl (by decide) rfl (fun ls hl => ?_)
        exact wk_X7_textAt_46 C0 hK hT0 v hP  FU x2 q43 ls (lv_sub hl [2, 1, 0] rfl) h
      · replace h := ite_t h c20
        refine lv_iload_n hx hb dX7_textAt_24 rfl (lv_at hl 2 rfl) ?_
        refine lv_if_ne (tgt := 33) hx hb dX7_textAt_25 (by decide) (fun c25 => ?_) (fun c25 => ?_)
        · replace h := ite_f h c25
          refine lv_bipush (v := (-4)) hx hb dX7_textAt_33 (by decide) ?_
          obtain rfl := Option.some.inj h
          exact hp_iret hx hb hr hlocks dX7_textAt_35
        · replace h := ite_t h c25
          refine lv_bipush (v := 48) hx hb dX7_textAt_28 (by decide) ?_
          refine lv_goto (tgt := 35) hx hb dX7_textAt_30 (by decide) ?_
          obtain rfl := Option.some.inj h
          exact hp_iret hx hb hr hlocks dX7_textAt_35
    · replace h := ite_f h c8
      refine lv_iconst (v := (-1)) hx hb dX7_textAt_11 (by decide) ?_
      obtain rfl := Option.some.inj h
      exact hp_iret hx hb hr hlocks dX7_textAt_12
theorem ct_X7_textAt (l : Launch) (D : va_G) (ca : Nat → ClassId) (b : Nat → Nat) (tw : Nat) (tt : Nat → Nat) (v : YS) (x1 : Int32) (x2 : Int32) {q : Int32} (h : fn_X7_textAt v x1 x2 = some q) : Hp l yX7_textAt wsX7_textAt rm_X7_textAt [.ref (b 0), .int x1, .int x2] (GW D ca tw tt (ad_of 6 b) (YW ca b v)) (some (.int q)) := by
  refine Hp.of (cc := cX7_textAt) (nL := 7) (ret := (some .int)) (own := RX7) (by decide) rfl rfl (Nat.le_of_ble_eq_true rfl) ?_
  intro p e s m below meth c ls C0 hB hl
  exact wk_X7_textAt C0 hB.2.1 hB.2.2 v hB.1 (hl := hl) (h := h)
