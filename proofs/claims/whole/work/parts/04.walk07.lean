/-! by program (gen.py): the machine does what the functions say -/
abbrev rm_X7_barred : Room := { frames := 2, cells := 0, slots := 0, locals := 48 }
theorem lk_X7_barred_f13 : Cond.fieldLink RX7 13 "BooleanRingModel" "p" "[J" ∈ wsX7_barred := by decide +kernel
theorem ly_X7_barred_X7 : ∀ w ∈ wsX70, w ∈ wsX7_barred := by decide +kernel
set_option maxHeartbeats 4000000 in
set_option maxRecDepth 100000 in
theorem wk_X7_barred_38 {p : Program} {l : Launch} {e : Env} {s : State} {m : MethodId} {args : Array Value} {below : List Frame} {meth : Method} {c : Code} {D : va_G} {ca : Nat → ClassId} {b : Nat → Nat} {tw : Nat} {tt : Nat → Nat} (C0 : Cx p s m args meth c cX7_barred (some .long) 5 wsX7_barred RX7) (hK : va_K D vwCl (tys3 ca) s) (hT0 : tW tw tt (ad_of 6 b) s s.heap) (v : YS) (hP : va_P D vwCl (YW ca b v) s.heap) {q : Int64} (k5 : Int32 → Int64 → Int32 → Option (Int64)) (hk5 : ∀ (x1 : Int32) (x2 : Int64) (x4 : Int32) (ls : Array Slot) (hl : lv_has ls 5 [(0, .ref (b 0)), (1, .int x1), (2, .long x2), (4, .int x4)]) (h : k5 x1 x2 x4 = some q), W p l e rm_X7_barred s m args below meth c s.heap [] 0 0 (MQ below (HQ (some (.long q))) args s 0 0 (fun _ => False)) (F0 m 5 ls [])) (x1 : Int32) (x4 : Int32) (y0 : Int64) (y1 : Int64) (ls : Array Slot) (hl : lv_has ls 5 [(0, .ref (b 0)), (1, .int x1), (4, .int x4)]) (h : fn_X7_barred_38 v k5 x1 x4 y0 y1 = some q) : W p l e rm_X7_barred s m args below meth c s.heap [] 0 0 (MQ below (HQ (some (.long q))) args s 0 0 (fun _ => False)) (F0 m 38 ls [.long y0, .long y1]) := by
  obtain ⟨hx, hb, hr, hml, hown, hts, hlocks⟩ := id C0
  have hS : va_S (ad_of 6 b) s.heap s.heap [] := va_S.rf
  unfold fn_X7_barred_38 at h
  refine lv_lor hx hb dX7_barred_38 ?_
  refine lv_lstore_n (lv' := [(2, .long (y1 ||| y0)), (0, .ref (b 0)), (1, .int x1), (4, .int x4)]) hx hb dX7_barred_39 rfl hl (by decide) rfl (fun ls hl => ?_)
  refine lv_iinc (v := (x4 + 1)) (lv' := [(4, .int (x4 + 1)), (2, .long (y1 ||| y0)), (0, .ref (b 0)), (1, .int x1)]) hx hb dX7_barred_40 hl (k := 3) rfl rfl (by decide) rfl (fun ls hl => ?_)
  refine lv_goto (tgt := 5) hx hb dX7_barred_43 (by decide) ?_
  exact hk5 x1 (y1 ||| y0) (x4 + 1) ls (lv_sub hl [2, 3, 1, 0] rfl) h
set_option maxHeartbeats 4000000 in
set_option maxRecDepth 100000 in
theorem wk_X7_barred_5_body {p : Program} {l : Launch} {e : Env} {s : State} {m : MethodId} {args : Array Value} {below : List Frame} {meth : Method} {c : Code} {D : va_G} {ca : Nat → ClassId} {b : Nat → Nat} {tw : Nat} {tt : Nat → Nat} (C0 : Cx p s m args meth c cX7_barred (some .long) 5 wsX7_barred RX7) (hK : va_K D vwCl (tys3 ca) s) (hT0 : tW tw tt (ad_of 6 b) s s.heap) (v : YS) (hP : va_P D vwCl (YW ca b v) s.heap) {q : Int64} (k5 : Int32 → Int64 → Int32 → Option (Int64)) (hk5 : ∀ (x1 : Int32) (x2 : Int64) (x4 : Int32) (ls : Array Slot) (hl : lv_has ls 5 [(0, .ref (b 0)), (1, .int x1), (2, .long x2), (4, .int x4)]) (h : k5 x1 x2 x4 = some q), W p l e rm_X7_barred s m args below meth c s.heap [] 0 0 (MQ below (HQ (some (.long q))) args s 0 0 (fun _ => False)) (F0 m 5 ls [])) (x1 : Int32) (x2 : Int64) (x4 : Int32) (ls : Array Slot) (hl : lv_has ls 5 [(0, .ref (b 0)), (1, .int x1), (2, .long x2), (4, .int x4)]) (h : fn_X7_barred_5_body v k5 x1 x2 x4 = some q) : W p l e rm_X7_barred s m args below meth c s.heap [] 0 0 (MQ below (HQ (some (.long q))) args s 0 0 (fun _ => False)) (F0 m 5 ls []) := by
  obtain ⟨hx, hb, hr, hml, hown, hts, hlocks⟩ := id C0
  have hS : va_S (ad_of 6 b) s.heap s.heap [] := va_S.rf
  unfold fn_X7_barred_5_body at h
  refine lv_iload hx hb dX7_barred_5 (lv_at hl 3 rfl) ?_
  refine lv_bipush (v := 8) hx hb dX7_barred_7 (by decide) ?_
  refine lv_icmp_ge (tgt := 46) hx hb dX7_barred_9 (by decide) (fun c9 => ?_) (fun c9 => ?_)
  · replace h := ite_t h c9
    refine lv_lload_n hx hb dX7_barred_46 rfl (lv_at hl 2 rfl) ?_
    obtain rfl := Option.some.inj h
    exact hp_lret hx hb hr hlocks dX7_barred_47
  · replace h := ite_f h c9
    refine lv_lload_n hx hb dX7_barred_12 rfl (lv_at hl 2 rfl) ?_
    refine lv_iload_n hx hb dX7_barred_13 rfl (lv_at hl 1 rfl) ?_
    refine lv_iload hx hb dX7_barred_14 (lv_at hl 3 rfl) ?_
    refine lv_ishr hx hb dX7_barred_16 ?_
    refine lv_iconst (v := 1) hx hb dX7_barred_17 (by decide) ?_
    refine lv_iand hx hb dX7_barred_18 ?_
    refine lv_iconst (v := 1) hx hb dX7_barred_19 (by decide) ?_
    refine lv_icmp_ne (tgt := 37) hx hb dX7_barred_20 (by decide) (fun c20 => ?_) (fun c20 => ?_)
    · replace h := ite_f h c20
      refine lv_lconst (v := 0) hx hb dX7_barred_37 (by decide) ?_
      exact wk_X7_barred_38 C0 hK hT0 v hP (k5 := k5) (hk5 := hk5) (ls := ls) (hl := (lv_sub hl [0, 1, 3] rfl)) (h := h)
    · replace h := ite_t h c20
      refine lv_aload_n hx hb dX7_barred_23 rfl (lv_at hl 0 rfl) ?_
      refine lv_aload_n hx hb dX7_barred_24 rfl (lv_at hl 0 rfl) ?_
      refine va_get (D := D) (ci := 4) (v := .ref (b 1)) (C := RX7) (T := TX7) (N := 9) hx hb hts ly_X7_barred_X7 hown hK hP 0 rfl rfl 1 (by decide) (hts _ lk_X7_barred_f13) (fun _ h9 => h9) rfl dX7_barred_25 ?_
      refine lv_iload hx hb dX7_barred_28 (lv_at hl 3 rfl) ?_
      obtain ⟨q30, e30, h⟩ := Option.bind_eq_some_iff.mp h
      refine rd_lald hx hb hK hP 1 0 e30 rfl rfl dX7_barred_30 ?_
      obtain ⟨q31, e31, h⟩ := Option.bind_eq_some_iff.mp h
      refine hp_V (As := [.long q30]) (rest := [.long x2]) (b := (b 0)) ⟨hx, hb, hml, hown, hts⟩ (ct_X7_values l D ca b tw tt v q30 e31) (cwV 1 hts gX7_barred_X7_values rfl rfl rfl (by decide +kernel) ⟨Nat.le_of_ble_eq_true rfl, Nat.le_of_ble_eq_true rfl⟩) (va_recv hK hP (ci := 4) (q0 := 0) rfl rfl) GW.mv (GW.from hP hK hT0 hS) rfl hl.1 rfl (Nat.le_of_ble_eq_true rfl) dX7_barred_31 ⟨Nat.zero_le _, Nat.zero_le _⟩ ?_
      refine W.eq (g2 := F0 m 34 ls [.long q31, .long x2]) rfl ?_
      refine lv_goto (tgt := 38) hx hb dX7_barred_34 (by decide) ?_
      exact wk_X7_barred_38 C0 hK hT0 v hP (k5 := k5) (hk5 := hk5) (ls := ls) (hl := (lv_sub hl [0, 1, 3] rfl)) (h := h)
set_option maxHeartbeats 4000000 in
set_option maxRecDepth 100000 in
theorem wk_X7_barred_5 {p : Program} {l : Launch} {e : Env} {s : State} {m : MethodId} {args : Array Value} {below : List Frame} {meth : Method} {c : Code} {D : va_G} {ca : Nat → ClassId} {b : Nat → Nat} {tw : Nat} {tt : Nat → Nat} (C0 : Cx p s m args meth c cX7_barred (some .long) 5 wsX7_barred RX7) (hK : va_K D vwCl (tys3 ca) s) (hT0 : tW tw tt (ad_of 6 b) s s.heap) (v : YS) (hP : va_P D vwCl (YW ca b v) s.heap) {q : Int64} : ∀ (n : Nat) (x1 : Int32) (x2 : Int64) (x4 : Int32) (ls : Array Slot) (hl : lv_has ls 5 [(0, .ref (b 0)), (1, .int x1), (2, .long x2), (4, .int x4)]) (h : fn_X7_barred_5 v n x1 x2 x4 = some q), W p l e rm_X7_barred s m args below meth c s.heap [] 0 0 (MQ below (HQ (some (.long q))) args s 0 0 (fun _ => False)) (F0 m 5 ls []) := by
  intro n
  induction n with
  | zero => intro x1 x2 x4 ls hl h; unfold fn_X7_barred_5 at h; cases h
  | succ n ih => intro x1 x2 x4 ls hl h; exact wk_X7_barred_5_body C0 hK hT0 v hP (k5 := fn_X7_barred_5 v n) (hk5 := ih) (hl := hl) (h := h)
set_option maxHeartbeats 4000000 in
set_option maxRecDepth 100000 in
theorem wk_X7_barred {p : Program} {l : Launch} {e : Env} {s : State} {m : MethodId} {args : Array Value} {below : List Frame} {meth : Method} {c : Code} {D : va_G} {ca : Nat → ClassId} {b : Nat → Nat} {tw : Nat} {tt : Nat → Nat} (C0 : Cx p s m args meth c cX7_barred (some .long) 5 wsX7_barred RX7) (hK : va_K D vwCl (tys3 ca) s) (hT0 : tW tw tt (ad_of 6 b) s s.heap) (v : YS) (hP : va_P D vwCl (YW ca b v) s.heap) {q : Int64} (x1 : Int32) (ls : Array Slot) (hl : lv_has ls 5 [(0, .ref (b 0)), (1, .int x1)]) (h : fn_X7_barred v x1 = some q) : W p l e rm_X7_barred s m args below meth c s.heap [] 0 0 (MQ below (HQ (some (.long q))) args s 0 0 (fun _ => False)) (F0 m 0 ls []) := by
  obtain ⟨hx, hb, hr, hml, hown, hts, hlocks⟩ := id C0
  have hS : va_S (ad_of 6 b) s.heap s.heap [] := va_S.rf
  unfold fn_X7_barred at h
  refine lv_lconst (v := 0) hx hb dX7_barred_0 (by decide) ?_
  refine lv_lstore_n (lv' := [(2, .long 0), (0, .ref (b 0)), (1, .int x1)]) hx hb dX7_barred_1 rfl hl (by decide) rfl (fun ls hl => ?_)
  refine lv_iconst (v := 0) hx hb dX7_barred_2 (by decide) ?_
  refine lv_istore (lv' := [(4, .int 0), (2, .long 0), (0, .ref (b 0)), (1, .int x1)]) hx hb dX7_barred_3 hl (by decide) rfl (fun ls hl => ?_)
  exact wk_X7_barred_5 C0 hK hT0 v hP  FU x1 0 0 ls (lv_sub hl [2, 3, 1, 0] rfl) h
theorem ct_X7_barred (l : Launch) (D : va_G) (ca : Nat → ClassId) (b : Nat → Nat) (tw : Nat) (tt : Nat → Nat) (v : YS) (x1 : Int32) {q : Int64} (h : fn_X7_barred v x1 = some q) : Hp l yX7_barred wsX7_barred rm_X7_barred [.ref (b 0), .int x1] (GW D ca tw tt (ad_of 6 b) (YW ca b v)) (some (.long q)) := by
  refine Hp.of (cc := cX7_barred) (nL := 5) (ret := (some .long)) (own := RX7) (by decide) rfl rfl (Nat.le_of_ble_eq_true rfl) ?_
  intro p e s m below meth c ls C0 hB hl
  exact wk_X7_barred C0 hB.2.1 hB.2.2 v hB.1 (hl := hl) (h := h)
abbrev rm_X7_zeros : Room := { frames := 3, cells := 0, slots := 0, locals := 72 }
theorem lk_X7_zeros_f7 : Cond.fieldLink RX7 7 "BooleanRingModel" "n" "I" ∈ wsX7_zeros := by decide +kernel
theorem ly_X7_zeros_X7 : ∀ w ∈ wsX70, w ∈ wsX7_zeros := by decide +kernel
set_option maxHeartbeats 4000000 in
set_option maxRecDepth 100000 in
theorem wk_X7_zeros {p : Program} {l : Launch} {e : Env} {s : State} {m : MethodId} {args : Array Value} {below : List Frame} {meth : Method} {c : Code} {D : va_G} {ca : Nat → ClassId} {b : Nat → Nat} {tw : Nat} {tt : Nat → Nat} (C0 : Cx p s m args meth c cX7_zeros (some .int) 2 wsX7_zeros RX7) (hK : va_K D vwCl (tys3 ca) s) (hT0 : tW tw tt (ad_of 6 b) s s.heap) (v : YS) (hP : va_P D vwCl (YW ca b v) s.heap) {q : Int32} (x1 : Int32) (ls : Array Slot) (hl : lv_has ls 2 [(0, .ref (b 0)), (1, .int x1)]) (h : fn_X7_zeros v x1 = some q) : W p l e rm_X7_zeros s m args below meth c s.heap [] 0 0 (MQ below (HQ (some (.int q))) args s 0 0 (fun _ => False)) (F0 m 0 ls []) := by
  obtain ⟨hx, hb, hr, hml, hown, hts, hlocks⟩ := id C0
  have hS : va_S (ad_of 6 b) s.heap s.heap [] := va_S.rf
  unfold fn_X7_zeros at h
  refine lv_iload_n hx hb dX7_zeros_0 rfl (lv_at hl 1 rfl) ?_
  obtain ⟨q1, e1, h⟩ := Option.bind_eq_some_iff.mp h
  refine hp_S (As := [.int x1]) (rest := []) ⟨hx, hb, hml, hown, hts⟩ (ct_X7_isSet l tw tt x1 e1) (va_cwS 1 hts gX7_zeros_X7_isSet rfl rfl rfl (by decide +kernel) ⟨Nat.le_of_ble_eq_true rfl, Nat.le_of_ble_eq_true rfl⟩) GP.mv (GP.from hT0 hS) rfl hl.1 rfl (Nat.le_of_ble_eq_true rfl) dX7_zeros_1 ⟨Nat.zero_le _, Nat.zero_le _⟩ ?_
  refine W.eq (g2 := F0 m 4 ls [.int q1]) rfl ?_
  refine lv_if_eq (tgt := 25) hx hb dX7_zeros_4 (by decide) (fun c4 => ?_) (fun c4 => ?_)
  · replace h := ite_t h c4
    refine lv_iconst (v := (-1)) hx hb dX7_zeros_25 (by decide) ?_
    obtain rfl := Option.some.inj h
    exact hp_iret hx hb hr hlocks dX7_zeros_26
  · replace h := ite_f h c4
    refine lv_iconst (v := 1) hx hb dX7_zeros_7 (by decide) ?_
    refine lv_aload_n hx hb dX7_zeros_8 rfl (lv_at hl 0 rfl) ?_
    refine va_get (D := D) (ci := 4) (v := .int (y_n v)) (C := RX7) (T := TX7) (N := 9) hx hb hts ly_X7_zeros_X7 hown hK hP 0 rfl rfl 0 (by decide) (hts _ lk_X7_zeros_f7) (fun _ h9 => h9) rfl dX7_zeros_9 ?_
    refine lv_ishl hx hb dX7_zeros_12 ?_
    refine lv_aload_n hx hb dX7_zeros_13 rfl (lv_at hl 0 rfl) ?_
    refine lv_iload_n hx hb dX7_zeros_14 rfl (lv_at hl 1 rfl) ?_
    obtain ⟨q15, e15, h⟩ := Option.bind_eq_some_iff.mp h
    refine hp_V (As := [.int x1]) (rest := [.int (ish 1 (y_n v))]) (b := (b 0)) ⟨hx, hb, hml, hown, hts⟩ (ct_X7_barred l D ca b tw tt v x1 e15) (cwV 1 hts gX7_zeros_X7_barred rfl rfl rfl (by decide +kernel) ⟨Nat.le_of_ble_eq_true rfl, Nat.le_of_ble_eq_true rfl⟩) (va_recv hK hP (ci := 4) (q0 := 0) rfl rfl) GW.mv (GW.from hP hK hT0 hS) rfl hl.1 rfl (Nat.le_of_ble_eq_true rfl) dX7_zeros_15 ⟨Nat.zero_le _, Nat.zero_le _⟩ ?_
    refine W.eq (g2 := F0 m 18 ls [.long q15, .int (ish 1 (y_n v))]) rfl ?_
    obtain ⟨q18, e18, h⟩ := Option.bind_eq_some_iff.mp h
    refine hp_S (As := [.long q15]) (rest := [.int (ish 1 (y_n v))]) ⟨hx, hb, hml, hown, hts⟩ (ct_X7_many l tw tt q15 e18) (va_cwS 1 hts gX7_zeros_X7_many rfl rfl rfl (by decide +kernel) ⟨Nat.le_of_ble_eq_true rfl, Nat.le_of_ble_eq_true rfl⟩) GP.mv (GP.from hT0 hS) rfl hl.1 rfl (Nat.le_of_ble_eq_true rfl) dX7_zeros_18 ⟨Nat.zero_le _, Nat.zero_le _⟩ ?_
    refine W.eq (g2 := F0 m 21 ls [.int q18, .int (ish 1 (y_n v))]) rfl ?_
    refine lv_isub hx hb dX7_zeros_21 ?_
    refine lv_goto (tgt := 26) hx hb dX7_zeros_22 (by decide) ?_
    obtain rfl := Option.some.inj h
    exact hp_iret hx hb hr hlocks dX7_zeros_26
theorem ct_X7_zeros (l : Launch) (D : va_G) (ca : Nat → ClassId) (b : Nat → Nat) (tw : Nat) (tt : Nat → Nat) (v : YS) (x1 : Int32) {q : Int32} (h : fn_X7_zeros v x1 = some q) : Hp l yX7_zeros wsX7_zeros rm_X7_zeros [.ref (b 0), .int x1] (GW D ca tw tt (ad_of 6 b) (YW ca b v)) (some (.int q)) := by
  refine Hp.of (cc := cX7_zeros) (nL := 2) (ret := (some .int)) (own := RX7) (by decide) rfl rfl (Nat.le_of_ble_eq_true rfl) ?_
  intro p e s m below meth c ls C0 hB hl
  exact wk_X7_zeros C0 hB.2.1 hB.2.2 v hB.1 (hl := hl) (h := h)
abbrev rm_X7_zeroAt : Room := { frames := 3, cells := 0, slots := 0, locals := 72 }
theorem lk_X7_zeroAt_f7 : Cond.fieldLink RX7 7 "BooleanRingModel" "n" "I" ∈ wsX7_zeroAt := by decide +kernel
theorem ly_X7_zeroAt_X7 : ∀ w ∈ wsX70, w ∈ wsX7_zeroAt := by decide +kernel
set_option maxHeartbeats 4000000 in
set_option maxRecDepth 100000 in
theorem wk_X7_zeroAt_25_body {p : Program} {l : Launch} {e : Env} {s : State} {m : MethodId} {args : Array Value} {below : List Frame} {meth : Method} {c : Code} {D : va_G} {ca : Nat → ClassId} {b : Nat → Nat} {tw : Nat} {tt : Nat → Nat} (C0 : Cx p s m args meth c cX7_zeroAt (some .int) 7 wsX7_zeroAt RX7) (hK : va_K D vwCl (tys3 ca) s) (hT0 : tW tw tt (ad_of 6 b) s s.heap) (v : YS) (hP : va_P D vwCl (YW ca b v) s.heap) {q : Int32} (k25 : Int64 → Int32 → Int32 → Option (Int32)) (hk25 : ∀ (x3 : Int64) (x5 : Int32) (x6 : Int32) (ls : Array Slot) (hl : lv_has ls 7 [(0, .ref (b 0)), (3, .long x3), (5, .int x5), (6, .int x6)]) (h : k25 x3 x5 x6 = some q), W p l e rm_X7_zeroAt s m args below meth c s.heap [] 0 0 (MQ below (HQ (some (.int q))) args s 0 0 (fun _ => False)) (F0 m 25 ls [])) (x3 : Int64) (x5 : Int32) (x6 : Int32) (ls : Array Slot) (hl : lv_has ls 7 [(0, .ref (b 0)), (3, .long x3), (5, .int x5), (6, .int x6)]) (h : fn_X7_zeroAt_25_body v k25 x3 x5 x6 = some q) : W p l e rm_X7_zeroAt s m args below meth c s.heap [] 0 0 (MQ below (HQ (some (.int q))) args s 0 0 (fun _ => False)) (F0 m 25 ls []) := by
  obtain ⟨hx, hb, hr, hml, hown, hts, hlocks⟩ := id C0
  have hS : va_S (ad_of 6 b) s.heap s.heap [] := va_S.rf
  unfold fn_X7_zeroAt_25_body at h
  refine lv_iload hx hb dX7_zeroAt_25 (lv_at hl 3 rfl) ?_
  refine lv_iconst (v := 1) hx hb dX7_zeroAt_27 (by decide) ?_
  refine lv_aload_n hx hb dX7_zeroAt_28 rfl (lv_at hl 0 rfl) ?_
  refine va_get (D := D) (ci := 4) (v := .int (y_n v)) (C := RX7) (T := TX7) (N := 9) hx hb hts ly_X7_zeroAt_X7 hown hK hP 0 rfl rfl 0 (by decide) (hts _ lk_X7_zeroAt_f7) (fun _ h9 => h9) rfl dX7_zeroAt_29 ?_
  refine lv_ishl hx hb dX7_zeroAt_32 ?_
  refine lv_icmp_ge (tgt := 62) hx hb dX7_zeroAt_33 (by decide) (fun c33 => ?_) (fun c33 => ?_)
  · replace h := ite_t h c33
    refine lv_bipush (v := (-4)) hx hb dX7_zeroAt_62 (by decide) ?_
    obtain rfl := Option.some.inj h
    exact hp_iret hx hb hr hlocks dX7_zeroAt_64
  · replace h := ite_f h c33
    refine lv_lload_n hx hb dX7_zeroAt_36 rfl (lv_at hl 1 rfl) ?_
    refine lv_iload hx hb dX7_zeroAt_37 (lv_at hl 3 rfl) ?_
    obtain ⟨q39, e39, h⟩ := Option.bind_eq_some_iff.mp h
    refine hp_S (As := [.long x3, .int x6]) (rest := []) ⟨hx, hb, hml, hown, hts⟩ (ct_X7_has1 l tw tt x3 x6 e39) (va_cwS 2 hts gX7_zeroAt_X7_has1 rfl rfl rfl (by decide +kernel) ⟨Nat.le_of_ble_eq_true rfl, Nat.le_of_ble_eq_true rfl⟩) GP.mv (GP.from hT0 hS) rfl hl.1 rfl (Nat.le_of_ble_eq_true rfl) dX7_zeroAt_39 ⟨Nat.zero_le _, Nat.zero_le _⟩ ?_
    refine W.eq (g2 := F0 m 42 ls [.int q39]) rfl ?_
    refine lv_if_ne (tgt := 56) hx hb dX7_zeroAt_42 (by decide) (fun c42 => ?_) (fun c42 => ?_)
    · replace h := ite_f h c42
      refine lv_iinc (v := (x6 + 1)) (lv' := [(6, .int (x6 + 1)), (0, .ref (b 0)), (3, .long x3), (5, .int x5)]) hx hb dX7_zeroAt_56 hl (k := 3) rfl rfl (by decide) rfl (fun ls hl => ?_)
      refine lv_goto (tgt := 25) hx hb dX7_zeroAt_59 (by decide) ?_
      exact hk25 x3 x5 (x6 + 1) ls (lv_sub hl [1, 2, 3, 0] rfl) h
    · replace h := ite_t h c42
      refine lv_iload hx hb dX7_zeroAt_45 (lv_at hl 2 rfl) ?_
      refine lv_if_ne (tgt := 53) hx hb dX7_zeroAt_47 (by decide) (fun c47 => ?_) (fun c47 => ?_)
      · replace h := ite_f h c47
        refine lv_iinc (v := (x5 + (-1))) (lv' := [(5, .int (x5 + (-1))), (0, .ref (b 0)), (3, .long x3), (6, .int x6)]) hx hb dX7_zeroAt_53 hl (k := 2) rfl rfl (by decide) rfl (fun ls hl => ?_)
        refine lv_iinc (v := (x6 + 1)) (lv' := [(6, .int (x6 + 1)), (5, .int (x5 + (-1))), (0, .ref (b 0)), (3, .long x3)]) hx hb dX7_zeroAt_56 hl (k := 3) rfl rfl (by decide) rfl (fun ls hl => ?_)
        refine lv_goto (tgt := 25) hx hb dX7_zeroAt_59 (by decide) ?_
        exact hk25 x3 (x5 + (-1)) (x6 + 1) ls (lv_sub hl [2, 3, 1, 0] rfl) h
      · replace h := ite_t h c47
        refine lv_iload hx hb dX7_zeroAt_50 (lv_at hl 3 rfl) ?_
        obtain rfl := Option.some.inj h
        exact hp_iret hx hb hr hlocks dX7_zeroAt_52
set_option maxHeartbeats 4000000 in
set_option maxRecDepth 100000 in
theorem wk_X7_zeroAt_25 {p : Program} {l : Launch} {e : Env} {s : State} {m : MethodId} {args : Array Value} {below : List Frame} {meth : Method} {c : Code} {D : va_G} {ca : Nat → ClassId} {b : Nat → Nat} {tw : Nat} {tt : Nat → Nat} (C0 : Cx p s m args meth c cX7_zeroAt (some .int) 7 wsX7_zeroAt RX7) (hK : va_K D vwCl (tys3 ca) s) (hT0 : tW tw tt (ad_of 6 b) s s.heap) (v : YS) (hP : va_P D vwCl (YW ca b v) s.heap) {q : Int32} : ∀ (n : Nat) (x3 : Int64) (x5 : Int32) (x6 : Int32) (ls : Array Slot) (hl : lv_has ls 7 [(0, .ref (b 0)), (3, .long x3), (5, .int x5), (6, .int x6)]) (h : fn_X7_zeroAt_25 v n x3 x5 x6 = some q), W p l e rm_X7_zeroAt s m args below meth c s.heap [] 0 0 (MQ below (HQ (some (.int q))) args s 0 0 (fun _ => False)) (F0 m 25 ls []) := by
  intro n
  induction n with
  | zero => intro x3 x5 x6 ls hl h; unfold fn_X7_zeroAt_25 at h; cases h
  | succ n ih => intro x3 x5 x6 ls hl h; exact wk_X7_zeroAt_25_body C0 hK hT0 v hP (k25 := fn_X7_zeroAt_25 v n) (hk25 := ih) (hl := hl) (h := h)
set_option maxHeartbeats 4000000 in
set_option maxRecDepth 100000 in
theorem wk_X7_zeroAt {p : Program} {l : Launch} {e : Env} {s : State} {m : MethodId} {args : Array Value} {below : List Frame} {meth : Method} {c : Code} {D : va_G} {ca : Nat → ClassId} {b : Nat → Nat} {tw : Nat} {tt : Nat → Nat} (C0 : Cx p s m args meth c cX7_zeroAt (some .int) 7 wsX7_zeroAt RX7) (hK : va_K D vwCl (tys3 ca) s) (hT0 : tW tw tt (ad_of 6 b) s s.heap) (v : YS) (hP : va_P D vwCl (YW ca b v) s.heap) {q : Int32} (x1 : Int32) (x2 : Int32) (ls : Array Slot) (hl : lv_has ls 7 [(0, .ref (b 0)), (1, .int x1), (2, .int x2)]) (h : fn_X7_zeroAt v x1 x2 = some q) : W p l e rm_X7_zeroAt s m args below meth c s.heap [] 0 0 (MQ below (HQ (some (.int q))) args s 0 0 (fun _ => False)) (F0 m 0 ls []) := by
  obtain ⟨hx, hb, hr, hml, hown, hts, hlocks⟩ := id C0
  have hS : va_S (ad_of 6 b) s.heap s.heap [] := va_S.rf
  unfold fn_X7_zeroAt at h
  refine lv_iload_n hx hb dX7_zeroAt_0 rfl (lv_at hl 1 rfl) ?_
  obtain ⟨q1, e1, h⟩ := Option.bind_eq_some_iff.mp h
  refine hp_S (As := [.int x1]) (rest := []) ⟨hx, hb, hml, hown, hts⟩ (ct_X7_isSet l tw tt x1 e1) (va_cwS 1 hts gX7_zeroAt_X7_isSet rfl rfl rfl (by decide +kernel) ⟨Nat.le_of_ble_eq_true rfl, Nat.le_of_ble_eq_true rfl⟩) GP.mv (GP.from hT0 hS) rfl hl.1 rfl (Nat.le_of_ble_eq_true rfl) dX7_zeroAt_1 ⟨Nat.zero_le _, Nat.zero_le _⟩ ?_
  refine W.eq (g2 := F0 m 4 ls [.int q1]) rfl ?_
  refine lv_if_eq (tgt := 11) hx hb dX7_zeroAt_4 (by decide) (fun c4 => ?_) (fun c4 => ?_)
  · replace h := ite_t h c4
    refine lv_iconst (v := (-1)) hx hb dX7_zeroAt_11 (by decide) ?_
    obtain rfl := Option.some.inj h
    exact hp_iret hx hb hr hlocks dX7_zeroAt_12
  · replace h := ite_f h c4
    refine lv_iload_n hx hb dX7_zeroAt_7 rfl (lv_at hl 2 rfl) ?_
    refine lv_if_ge (tgt := 13) hx hb dX7_zeroAt_8 (by decide) (fun c8 => ?_) (fun c8 => ?_)
    · replace h := ite_t h c8
      refine lv_aload_n hx hb dX7_zeroAt_13 rfl (lv_at hl 0 rfl) ?_
      refine lv_iload_n hx hb dX7_zeroAt_14 rfl (lv_at hl 1 rfl) ?_
      obtain ⟨q15, e15, h⟩ := Option.bind_eq_some_iff.mp h
      refine hp_V (As := [.int x1]) (rest := []) (b := (b 0)) ⟨hx, hb, hml, hown, hts⟩ (ct_X7_barred l D ca b tw tt v x1 e15) (cwV 1 hts gX7_zeroAt_X7_barred rfl rfl rfl (by decide +kernel) ⟨Nat.le_of_ble_eq_true rfl, Nat.le_of_ble_eq_true rfl⟩) (va_recv hK hP (ci := 4) (q0 := 0) rfl rfl) GW.mv (GW.from hP hK hT0 hS) rfl hl.1 rfl (Nat.le_of_ble_eq_true rfl) dX7_zeroAt_15 ⟨Nat.zero_le _, Nat.zero_le _⟩ ?_
      refine W.eq (g2 := F0 m 18 ls [.long q15]) rfl ?_
      refine lv_lstore_n (lv' := [(3, .long q15), (0, .ref (b 0)), (1, .int x1), (2, .int x2)]) hx hb dX7_zeroAt_18 rfl hl (by decide) rfl (fun ls hl => ?_)
      refine lv_iload_n hx hb dX7_zeroAt_19 rfl (lv_at hl 3 rfl) ?_
      refine lv_istore (lv' := [(5, .int x2), (3, .long q15), (0, .ref (b 0)), (1, .int x1), (2, .int x2)]) hx hb dX7_zeroAt_20 hl (by decide) rfl (fun ls hl => ?_)
      refine lv_iconst (v := 0) hx hb dX7_zeroAt_22 (by decide) ?_
      refine lv_istore (lv' := [(6, .int 0), (5, .int x2), (3, .long q15), (0, .ref (b 0)), (1, .int x1), (2, .int x2)]) hx hb dX7_zeroAt_23 hl (by decide) rfl (fun ls hl => ?_)
      exact wk_X7_zeroAt_25 C0 hK hT0 v hP  FU q15 x2 0 ls (lv_sub hl [3, 2, 1, 0] rfl) h
    · replace h := ite_f h c8
      refine lv_iconst (v := (-1)) hx hb dX7_zeroAt_11 (by decide) ?_
      obtain rfl := Option.some.inj h
      exact hp_iret hx hb hr hlocks dX7_zeroAt_12
theorem ct_X7_zeroAt (l : Launch) (D : va_G) (ca : Nat → ClassId) (b : Nat → Nat) (tw : Nat) (tt : Nat → Nat) (v : YS) (x1 : Int32) (x2 : Int32) {q : Int32} (h : fn_X7_zeroAt v x1 x2 = some q) : Hp l yX7_zeroAt wsX7_zeroAt rm_X7_zeroAt [.ref (b 0), .int x1, .int x2] (GW D ca tw tt (ad_of 6 b) (YW ca b v)) (some (.int q)) := by
  refine Hp.of (cc := cX7_zeroAt) (nL := 7) (ret := (some .int)) (own := RX7) (by decide) rfl rfl (Nat.le_of_ble_eq_true rfl) ?_
  intro p e s m below meth c ls C0 hB hl
  exact wk_X7_zeroAt C0 hB.2.1 hB.2.2 v hB.1 (hl := hl) (h := h)
abbrev rm_X7_combine : Room := { frames := 3, cells := 0, slots := 0, locals := 72 }
set_option maxHeartbeats 4000000 in
set_option maxRecDepth 100000 in
theorem wk_X7_combine {p : Program} {l : Launch} {e : Env} {s : State} {m : MethodId} {args : Array Value} {below : List Frame} {meth : Method} {c : Code} {D : va_G} {ca : Nat → ClassId} {b : Nat → Nat} {tw : Nat} {tt : Nat → Nat} (C0 : Cx p s m args meth c cX7_combine (some .int) 3 wsX7_combine RX7) (hap : ap_ok 6 b) (hK : va_K D vwCl (tys3 ca) s) (hT0 : tW tw tt (ad_of 6 b) s s.heap) {q : Int32 × YS} (v : YS) (H : Heap) (locs : List Loc) (x1 : Int32) (x2 : Int32) (ls : Array Slot) (hP : va_P D vwCl (YW ca b v) H) (hS : va_S (ad_of 6 b) s.heap H locs) (hl : lv_has ls 3 [(0, .ref (b 0)), (1, .int x1), (2, .int x2)]) (h : fn_X7_combine v x1 x2 = some q) : W p l e rm_X7_combine s m args below meth c H locs 0 0 (MQ below (PQ (some (.int q.1)) (fun H => va_P D vwCl (YW ca b q.2) H) (ad_of 6 b)) args s 0 0 (ad_of 6 b)) (F0 m 0 ls []) := by
  obtain ⟨hx, hb, hr, hml, hown, hts, hlocks⟩ := id C0
  have hD0 := fun v => YW_D (ca := ca) hap v
  unfold fn_X7_combine at h
  refine lv_iload_n hx hb dX7_combine_0 rfl (lv_at hl 1 rfl) ?_
  obtain ⟨q1, e1, h⟩ := Option.bind_eq_some_iff.mp h
  refine hp_S (As := [.int x1]) (rest := []) ⟨hx, hb, hml, hown, hts⟩ (ct_X7_isSet l tw tt x1 e1) (va_cwS 1 hts gX7_combine_X7_isSet rfl rfl rfl (by decide +kernel) ⟨Nat.le_of_ble_eq_true rfl, Nat.le_of_ble_eq_true rfl⟩) GP.mv (GP.from hT0 hS) rfl hl.1 rfl (Nat.le_of_ble_eq_true rfl) dX7_combine_1 ⟨Nat.zero_le _, Nat.zero_le _⟩ ?_
  refine W.eq (g2 := F0 m 4 ls [.int q1]) rfl ?_
  refine lv_if_eq (tgt := 31) hx hb dX7_combine_4 (by decide) (fun c4 => ?_) (fun c4 => ?_)
  · replace h := ite_t h c4
    refine lv_iconst (v := (-1)) hx hb dX7_combine_31 (by decide) ?_
    obtain rfl := Option.some.inj h
    exact mp_iret hx hb hr hlocks hP hS dX7_combine_32
  · replace h := ite_f h c4
    refine lv_iload_n hx hb dX7_combine_7 rfl (lv_at hl 2 rfl) ?_
    obtain ⟨q8, e8, h⟩ := Option.bind_eq_some_iff.mp h
    refine hp_S (As := [.int x2]) (rest := []) ⟨hx, hb, hml, hown, hts⟩ (ct_X7_isRegister l tw tt x2 e8) (va_cwS 1 hts gX7_combine_X7_isRegister rfl rfl rfl (by decide +kernel) ⟨Nat.le_of_ble_eq_true rfl, Nat.le_of_ble_eq_true rfl⟩) GP.mv (GP.from hT0 hS) rfl hl.1 rfl (Nat.le_of_ble_eq_true rfl) dX7_combine_8 ⟨Nat.zero_le _, Nat.zero_le _⟩ ?_
    refine W.eq (g2 := F0 m 11 ls [.int q8]) rfl ?_
    refine lv_if_eq (tgt := 31) hx hb dX7_combine_11 (by decide) (fun c11 => ?_) (fun c11 => ?_)
    · replace h := ite_t h c11
      refine lv_iconst (v := (-1)) hx hb dX7_combine_31 (by decide) ?_
      obtain rfl := Option.some.inj h
      exact mp_iret hx hb hr hlocks hP hS dX7_combine_32
    · replace h := ite_f h c11
      refine lv_aload_n hx hb dX7_combine_14 rfl (lv_at hl 0 rfl) ?_
      refine lv_iload_n hx hb dX7_combine_15 rfl (lv_at hl 2 rfl) ?_
      refine lv_aload_n hx hb dX7_combine_16 rfl (lv_at hl 0 rfl) ?_
      refine lv_aload_n hx hb dX7_combine_17 rfl (lv_at hl 0 rfl) ?_
      refine lv_iload_n hx hb dX7_combine_18 rfl (lv_at hl 1 rfl) ?_
      obtain ⟨q19, e19, h⟩ := Option.bind_eq_some_iff.mp h
      refine hp_V (As := [.int x1]) (rest := [.ref (b 0), .int x2, .ref (b 0)]) (b := (b 0)) ⟨hx, hb, hml, hown, hts⟩ (ct_X7_barred l D ca b tw tt v x1 e19) (cwV 1 hts gX7_combine_X7_barred rfl rfl rfl (by decide +kernel) ⟨Nat.le_of_ble_eq_true rfl, Nat.le_of_ble_eq_true rfl⟩) (va_recv hK hP (ci := 4) (q0 := 0) rfl rfl) GW.mv (GW.from hP hK hT0 hS) rfl hl.1 rfl (Nat.le_of_ble_eq_true rfl) dX7_combine_19 ⟨Nat.zero_le _, Nat.zero_le _⟩ ?_
      refine W.eq (g2 := F0 m 22 ls [.long q19, .ref (b 0), .int x2, .ref (b 0)]) rfl ?_
      obtain ⟨q22, e22, h⟩ := Option.bind_eq_some_iff.mp h
      refine hp_V (As := [.long q19]) (rest := [.int x2, .ref (b 0)]) (b := (b 0)) ⟨hx, hb, hml, hown, hts⟩ (ct_X7_values l D ca b tw tt v q19 e22) (cwV 1 hts gX7_combine_X7_values rfl rfl rfl (by decide +kernel) ⟨Nat.le_of_ble_eq_true rfl, Nat.le_of_ble_eq_true rfl⟩) (va_recv hK hP (ci := 4) (q0 := 0) rfl rfl) GW.mv (GW.from hP hK hT0 hS) rfl hl.1 rfl (Nat.le_of_ble_eq_true rfl) dX7_combine_22 ⟨Nat.zero_le _, Nat.zero_le _⟩ ?_
      refine W.eq (g2 := F0 m 25 ls [.long q22, .int x2, .ref (b 0)]) rfl ?_
      obtain ⟨q25, e25, h⟩ := Option.bind_eq_some_iff.mp h
      refine mp_V (As := [.int x2, .long q22]) (rest := []) (b := (b 0)) ⟨hx, hb, hml, hown, hts⟩ (ct_X7_gets l D ca b tw tt hap v x2 q22 e25) (cwV 2 hts gX7_combine_X7_gets rfl rfl rfl (by decide +kernel) ⟨Nat.le_of_ble_eq_true rfl, Nat.le_of_ble_eq_true rfl⟩) (va_recv hK hP (ci := 4) (q0 := 0) rfl rfl) GW.mv (GW.from hP hK hT0 hS) hS rfl hl.1 rfl (Nat.le_of_ble_eq_true rfl) dX7_combine_25 ⟨Nat.zero_le _, Nat.zero_le _⟩ (fun H locs hP hS => ?_)
      refine W.eq (g2 := F0 m 28 ls [.int q25.1]) rfl ?_
      refine lv_goto (tgt := 32) hx hb dX7_combine_28 (by decide) ?_
      obtain rfl := Option.some.inj h
      exact mp_iret hx hb hr hlocks hP hS dX7_combine_32
theorem ct_X7_combine (l : Launch) (D : va_G) (ca : Nat → ClassId) (b : Nat → Nat) (tw : Nat) (tt : Nat → Nat) (hap : ap_ok 6 b) (v : YS) (x1 : Int32) (x2 : Int32) {q : Int32 × YS} (h : fn_X7_combine v x1 x2 = some q) : Mp l yX7_combine wsX7_combine rm_X7_combine [.ref (b 0), .int x1, .int x2] (GW D ca tw tt (ad_of 6 b) (YW ca b v)) (some (.int q.1)) (fun H => va_P D vwCl (YW ca b q.2) H) (ad_of 6 b) := by
  refine Mp.of (cc := cX7_combine) (nL := 3) (ret := (some .int)) (own := RX7) (by decide) rfl rfl (Nat.le_of_ble_eq_true rfl) ?_
  intro p e s m below meth c ls C0 hB hl
  exact wk_X7_combine C0 hap hB.2.1 hB.2.2 (hP := hB.1) (hS := va_S.rf) (hl := hl) (h := h)
abbrev rm_X7_eliminate : Room := { frames := 3, cells := 0, slots := 0, locals := 72 }
theorem lk_X7_eliminate_f7 : Cond.fieldLink RX7 7 "BooleanRingModel" "n" "I" ∈ wsX7_eliminate := by decide +kernel
theorem ly_X7_eliminate_X7 : ∀ w ∈ wsX70, w ∈ wsX7_eliminate := by decide +kernel
set_option maxHeartbeats 4000000 in
set_option maxRecDepth 100000 in
theorem wk_X7_eliminate_82 {p : Program} {l : Launch} {e : Env} {s : State} {m : MethodId} {args : Array Value} {below : List Frame} {meth : Method} {c : Code} {D : va_G} {ca : Nat → ClassId} {b : Nat → Nat} {tw : Nat} {tt : Nat → Nat} (C0 : Cx p s m args meth c cX7_eliminate (some .int) 9 wsX7_eliminate RX7) (hap : ap_ok 6 b) (hK : va_K D vwCl (tys3 ca) s) (hT0 : tW tw tt (ad_of 6 b) s s.heap) {q : Int32 × YS} (k37 : YS → Int32 → Int32 → Int64 → Int64 → Int32 → Option (Int32 × YS)) (hk37 : ∀ (v : YS) (H : Heap) (locs : List Loc) (x2 : Int32) (x3 : Int32) (x4 : Int64) (x6 : Int64) (x8 : Int32) (ls : Array Slot) (hP : va_P D vwCl (YW ca b v) H) (hS : va_S (ad_of 6 b) s.heap H locs) (hl : lv_has ls 9 [(0, .ref (b 0)), (2, .int x2), (3, .int x3), (4, .long x4), (6, .long x6), (8, .int x8)]) (h : k37 v x2 x3 x4 x6 x8 = some q), W p l e rm_X7_eliminate s m args below meth c H locs 0 0 (MQ below (PQ (some (.int q.1)) (fun H => va_P D vwCl (YW ca b q.2) H) (ad_of 6 b)) args s 0 0 (ad_of 6 b)) (F0 m 37 ls [])) (v : YS) (H : Heap) (locs : List Loc) (x2 : Int32) (x3 : Int32) (x4 : Int64) (x8 : Int32) (y0 : Int64) (y1 : Int64) (ls : Array Slot) (hP : va_P D vwCl (YW ca b v) H) (hS : va_S (ad_of 6 b) s.heap H locs) (hl : lv_has ls 9 [(0, .ref (b 0)), (2, .int x2), (3, .int x3), (4, .long x4), (8, .int x8)]) (h : fn_X7_eliminate_82 k37 v x2 x3 x4 x8 y0 y1 = some q) : W p l e rm_X7_eliminate s m args below meth c H locs 0 0 (MQ below (PQ (some (.int q.1)) (fun H => va_P D vwCl (YW ca b q.2) H) (ad_of 6 b)) args s 0 0 (ad_of 6 b)) (F0 m 82 ls [.long y0, .long y1]) := by
  obtain ⟨hx, hb, hr, hml, hown, hts, hlocks⟩ := id C0
  have hD0 := fun v => YW_D (ca := ca) hap v
  unfold fn_X7_eliminate_82 at h
  refine lv_lor hx hb dX7_eliminate_82 ?_
  refine lv_lstore (lv' := [(6, .long (y1 ||| y0)), (0, .ref (b 0)), (2, .int x2), (3, .int x3), (4, .long x4), (8, .int x8)]) hx hb dX7_eliminate_83 hl (by decide) rfl (fun ls hl => ?_)
  refine lv_iinc (v := (x8 + 1)) (lv' := [(8, .int (x8 + 1)), (6, .long (y1 ||| y0)), (0, .ref (b 0)), (2, .int x2), (3, .int x3), (4, .long x4)]) hx hb dX7_eliminate_85 hl (k := 5) rfl rfl (by decide) rfl (fun ls hl => ?_)
  refine lv_goto (tgt := 37) hx hb dX7_eliminate_88 (by decide) ?_
  exact hk37 v H locs x2 x3 x4 (y1 ||| y0) (x8 + 1) ls hP hS (lv_sub hl [2, 3, 4, 5, 1, 0] rfl) h
set_option maxHeartbeats 4000000 in
set_option maxRecDepth 100000 in
theorem wk_X7_eliminate_81 {p : Program} {l : Launch} {e : Env} {s : State} {m : MethodId} {args : Array Value} {below : List Frame} {meth : Method} {c : Code} {D : va_G} {ca : Nat → ClassId} {b : Nat → Nat} {tw : Nat} {tt : Nat → Nat} (C0 : Cx p s m args meth c cX7_eliminate (some .int) 9 wsX7_eliminate RX7) (hap : ap_ok 6 b) (hK : va_K D vwCl (tys3 ca) s) (hT0 : tW tw tt (ad_of 6 b) s s.heap) {q : Int32 × YS} (k37 : YS → Int32 → Int32 → Int64 → Int64 → Int32 → Option (Int32 × YS)) (hk37 : ∀ (v : YS) (H : Heap) (locs : List Loc) (x2 : Int32) (x3 : Int32) (x4 : Int64) (x6 : Int64) (x8 : Int32) (ls : Array Slot) (hP : va_P D vwCl (YW ca b v) H) (hS : va_S (ad_of 6 b) s.heap H locs) (hl : lv_has ls 9 [(0, .ref (b 0)), (2, .int x2), (3, .int x3), (4, .long x4), (6, .long x6), (8, .int x8)]) (h : k37 v x2 x3 x4 x6 x8 = some q), W p l e rm_X7_eliminate s m args below meth c H locs 0 0 (MQ below (PQ (some (.int q.1)) (fun H => va_P D vwCl (YW ca b q.2) H) (ad_of 6 b)) args s 0 0 (ad_of 6 b)) (F0 m 37 ls [])) (v : YS) (H : Heap) (locs : List Loc) (x2 : Int32) (x3 : Int32) (x4 : Int64) (x8 : Int32) (y0 : Int64) (ls : Array Slot) (hP : va_P D vwCl (YW ca b v) H) (hS : va_S (ad_of 6 b) s.heap H locs) (hl : lv_has ls 9 [(0, .ref (b 0)), (2, .int x2), (3, .int x3), (4, .long x4), (8, .int x8)]) (h : fn_X7_eliminate_81 k37 v x2 x3 x4 x8 y0 = some q) : W p l e rm_X7_eliminate s m args below meth c H locs 0 0 (MQ below (PQ (some (.int q.1)) (fun H => va_P D vwCl (YW ca b q.2) H) (ad_of 6 b)) args s 0 0 (ad_of 6 b)) (F0 m 81 ls [.long y0]) := by
  obtain ⟨hx, hb, hr, hml, hown, hts, hlocks⟩ := id C0
  have hD0 := fun v => YW_D (ca := ca) hap v
  unfold fn_X7_eliminate_81 at h
  refine lv_lconst (v := 0) hx hb dX7_eliminate_81 (by decide) ?_
  exact wk_X7_eliminate_82 C0 hap hK hT0 (k37 := k37) (hk37 := hk37) (ls := ls) (hP := hP) (hS := hS) (hl := (lv_sub hl [0, 1, 2, 3, 4] rfl)) (h := h)
set_option maxHeartbeats 4000000 in
set_option maxRecDepth 100000 in
theorem wk_X7_eliminate_37_body {p : Program} {l : Launch} {e : Env} {s : State} {m : MethodId} {args : Array Value} {below : List Frame} {meth : Method} {c : Code} {D : va_G} {ca : Nat → ClassId} {b : Nat → Nat} {tw : Nat} {tt : Nat → Nat} (C0 : Cx p s m args meth c cX7_eliminate (some .int) 9 wsX7_eliminate RX7) (hap : ap_ok 6 b) (hK : va_K D vwCl (tys3 ca) s) (hT0 : tW tw tt (ad_of 6 b) s s.heap) {q : Int32 × YS} (k37 : YS → Int32 → Int32 → Int64 → Int64 → Int32 → Option (Int32 × YS)) (hk37 : ∀ (v : YS) (H : Heap) (locs : List Loc) (x2 : Int32) (x3 : Int32) (x4 : Int64) (x6 : Int64) (x8 : Int32) (ls : Array Slot) (hP : va_P D vwCl (YW ca b v) H) (hS : va_S (ad_of 6 b) s.heap H locs) (hl : lv_has ls 9 [(0, .ref (b 0)), (2, .int x2), (3, .int x3), (4, .long x4), (6, .long x6), (8, .int x8)]) (h : k37 v x2 x3 x4 x6 x8 = some q), W p l e rm_X7_eliminate s m args below meth c H locs 0 0 (MQ below (PQ (some (.int q.1)) (fun H => va_P D vwCl (YW ca b q.2) H) (ad_of 6 b)) args s 0 0 (ad_of 6 b)) (F0 m 37 ls [])) (v : YS) (H : Heap) (locs : List Loc) (x2 : Int32) (x3 : Int32) (x4 : Int64) (x6 : Int64) (x8 : Int32) (ls : Array Slot) (hP : va_P D vwCl (YW ca b v) H) (hS : va_S (ad_of 6 b) s.heap H locs) (hl : lv_has ls 9 [(0, .ref (b 0)), (2, .int x2), (3, .int x3), (4, .long x4), (6, .long x6), (8, .int x8)]) (h : fn_X7_eliminate_37_body k37 v x2 x3 x4 x6 x8 = some q) : W p l e rm_X7_eliminate s m args below meth c H locs 0 0 (MQ below (PQ (some (.int q.1)) (fun H => va_P D vwCl (YW ca b q.2) H) (ad_of 6 b)) args s 0 0 (ad_of 6 b)) (F0 m 37 ls []) := by
  obtain ⟨hx, hb, hr, hml, hown, hts, hlocks⟩ := id C0
  have hD0 := fun v => YW_D (ca := ca) hap v
  unfold fn_X7_eliminate_37_body at h
  refine lv_iload hx hb dX7_eliminate_37 (lv_at hl 5 rfl) ?_
  refine lv_iconst (v := 1) hx hb dX7_eliminate_39 (by decide) ?_
  refine lv_aload_n hx hb dX7_eliminate_40 rfl (lv_at hl 0 rfl) ?_
  refine va_get (D := D) (ci := 4) (v := .int (y_n v)) (C := RX7) (T := TX7) (N := 9) hx hb hts ly_X7_eliminate_X7 hown hK hP 0 rfl rfl 0 (by decide) (hts _ lk_X7_eliminate_f7) (fun _ h9 => h9) rfl dX7_eliminate_41 ?_
  refine lv_ishl hx hb dX7_eliminate_44 ?_
  refine lv_icmp_ge (tgt := 91) hx hb dX7_eliminate_45 (by decide) (fun c45 => ?_) (fun c45 => ?_)
  · replace h := ite_t h c45
    refine lv_aload_n hx hb dX7_eliminate_91 rfl (lv_at hl 0 rfl) ?_
    refine lv_iload_n hx hb dX7_eliminate_92 rfl (lv_at hl 2 rfl) ?_
    refine lv_aload_n hx hb dX7_eliminate_93 rfl (lv_at hl 0 rfl) ?_
    refine lv_lload hx hb dX7_eliminate_94 (lv_at hl 4 rfl) ?_
    obtain ⟨q96, e96, h⟩ := Option.bind_eq_some_iff.mp h
    refine hp_V (As := [.long x6]) (rest := [.int x3, .ref (b 0)]) (b := (b 0)) ⟨hx, hb, hml, hown, hts⟩ (ct_X7_values l D ca b tw tt v x6 e96) (cwV 1 hts gX7_eliminate_X7_values rfl rfl rfl (by decide +kernel) ⟨Nat.le_of_ble_eq_true rfl, Nat.le_of_ble_eq_true rfl⟩) (va_recv hK hP (ci := 4) (q0 := 0) rfl rfl) GW.mv (GW.from hP hK hT0 hS) rfl hl.1 rfl (Nat.le_of_ble_eq_true rfl) dX7_eliminate_96 ⟨Nat.zero_le _, Nat.zero_le _⟩ ?_
    refine W.eq (g2 := F0 m 99 ls [.long q96, .int x3, .ref (b 0)]) rfl ?_
    obtain ⟨q99, e99, h⟩ := Option.bind_eq_some_iff.mp h
    refine mp_V (As := [.int x3, .long q96]) (rest := []) (b := (b 0)) ⟨hx, hb, hml, hown, hts⟩ (ct_X7_gets l D ca b tw tt hap v x3 q96 e99) (cwV 2 hts gX7_eliminate_X7_gets rfl rfl rfl (by decide +kernel) ⟨Nat.le_of_ble_eq_true rfl, Nat.le_of_ble_eq_true rfl⟩) (va_recv hK hP (ci := 4) (q0 := 0) rfl rfl) GW.mv (GW.from hP hK hT0 hS) hS rfl hl.1 rfl (Nat.le_of_ble_eq_true rfl) dX7_eliminate_99 ⟨Nat.zero_le _, Nat.zero_le _⟩ (fun H locs hP hS => ?_)
    refine W.eq (g2 := F0 m 102 ls [.int q99.1]) rfl ?_
    obtain rfl := Option.some.inj h
    exact mp_iret hx hb hr hlocks hP hS dX7_eliminate_102
  · replace h := ite_f h c45
    refine lv_lload hx hb dX7_eliminate_48 (lv_at hl 4 rfl) ?_
    refine lv_lload hx hb dX7_eliminate_50 (lv_at hl 3 rfl) ?_
    refine lv_iload hx hb dX7_eliminate_52 (lv_at hl 5 rfl) ?_
    obtain ⟨q54, e54, h⟩ := Option.bind_eq_some_iff.mp h
    refine hp_S (As := [.long x4, .int x8]) (rest := [.long x6]) ⟨hx, hb, hml, hown, hts⟩ (ct_X7_has1 l tw tt x4 x8 e54) (va_cwS 2 hts gX7_eliminate_X7_has1 rfl rfl rfl (by decide +kernel) ⟨Nat.le_of_ble_eq_true rfl, Nat.le_of_ble_eq_true rfl⟩) GP.mv (GP.from hT0 hS) rfl hl.1 rfl (Nat.le_of_ble_eq_true rfl) dX7_eliminate_54 ⟨Nat.zero_le _, Nat.zero_le _⟩ ?_
    refine W.eq (g2 := F0 m 57 ls [.int q54, .long x6]) rfl ?_
    refine lv_if_eq (tgt := 81) hx hb dX7_eliminate_57 (by decide) (fun c57 => ?_) (fun c57 => ?_)
    · replace h := ite_t h c57
      exact wk_X7_eliminate_81 C0 hap hK hT0 (k37 := k37) (hk37 := hk37) (ls := ls) (hP := hP) (hS := hS) (hl := (lv_sub hl [0, 1, 2, 3, 5] rfl)) (h := h)
    · replace h := ite_f h c57
      refine lv_lload hx hb dX7_eliminate_60 (lv_at hl 3 rfl) ?_
      refine lv_iload hx hb dX7_eliminate_62 (lv_at hl 5 rfl) ?_
      refine lv_iconst (v := 1) hx hb dX7_eliminate_64 (by decide) ?_
      refine lv_iload_n hx hb dX7_eliminate_65 rfl (lv_at hl 1 rfl) ?_
      refine lv_ishl hx hb dX7_eliminate_66 ?_
      refine lv_ixor hx hb dX7_eliminate_67 ?_
      obtain ⟨q68, e68, h⟩ := Option.bind_eq_some_iff.mp h
      refine hp_S (As := [.long x4, .int (x8 ^^^ (ish 1 x2))]) (rest := [.long x6]) ⟨hx, hb, hml, hown, hts⟩ (ct_X7_has1 l tw tt x4 (x8 ^^^ (ish 1 x2)) e68) (va_cwS 2 hts gX7_eliminate_X7_has1 rfl rfl rfl (by decide +kernel) ⟨Nat.le_of_ble_eq_true rfl, Nat.le_of_ble_eq_true rfl⟩) GP.mv (GP.from hT0 hS) rfl hl.1 rfl (Nat.le_of_ble_eq_true rfl) dX7_eliminate_68 ⟨Nat.zero_le _, Nat.zero_le _⟩ ?_
      refine W.eq (g2 := F0 m 71 ls [.int q68, .long x6]) rfl ?_
      refine lv_if_eq (tgt := 81) hx hb dX7_eliminate_71 (by decide) (fun c71 => ?_) (fun c71 => ?_)
      · replace h := ite_t h c71
        exact wk_X7_eliminate_81 C0 hap hK hT0 (k37 := k37) (hk37 := hk37) (ls := ls) (hP := hP) (hS := hS) (hl := (lv_sub hl [0, 1, 2, 3, 5] rfl)) (h := h)
      · replace h := ite_f h c71
        refine lv_lconst (v := 1) hx hb dX7_eliminate_74 (by decide) ?_
        refine lv_iload hx hb dX7_eliminate_75 (lv_at hl 5 rfl) ?_
        refine lv_lshl (v := (lsh 1 x8)) hx hb dX7_eliminate_77 rfl ?_
        refine lv_goto (tgt := 82) hx hb dX7_eliminate_78 (by decide) ?_
        exact wk_X7_eliminate_82 C0 hap hK hT0 (k37 := k37) (hk37 := hk37) (ls := ls) (hP := hP) (hS := hS) (hl := (lv_sub hl [0, 1, 2, 3, 5] rfl)) (h := h)
set_option maxHeartbeats 4000000 in
set_option maxRecDepth 100000 in
theorem wk_X7_eliminate_37 {p : Program} {l : Launch} {e : Env} {s : State} {m : MethodId} {args : Array Value} {below : List Frame} {meth : Method} {c : Code} {D : va_G} {ca : Nat → ClassId} {b : Nat → Nat} {tw : Nat} {tt : Nat → Nat} (C0 : Cx p s m args meth c cX7_eliminate (some .int) 9 wsX7_eliminate RX7) (hap : ap_ok 6 b) (hK : va_K D vwCl (tys3 ca) s) (hT0 : tW tw tt (ad_of 6 b) s s.heap) {q : Int32 × YS} : ∀ (n : Nat) (v : YS) (H : Heap) (locs : List Loc) (x2 : Int32) (x3 : Int32) (x4 : Int64) (x6 : Int64) (x8 : Int32) (ls : Array Slot) (hP : va_P D vwCl (YW ca b v) H) (hS : va_S (ad_of 6 b) s.heap H locs) (hl : lv_has ls 9 [(0, .ref (b 0)), (2, .int x2), (3, .int x3), (4, .long x4), (6, .long x6), (8, .int x8)]) (h : fn_X7_eliminate_37 n v x2 x3 x4 x6 x8 = some q), W p l e rm_X7_eliminate s m args below meth c H locs 0 0 (MQ below (PQ (some (.int q.1)) (fun H => va_P D vwCl (YW ca b q.2) H) (ad_of 6 b)) args s 0 0 (ad_of 6 b)) (F0 m 37 ls []) := by
  intro n
  induction n with
  | zero => intro v H locs x2 x3 x4 x6 x8 ls hP hS hl h; unfold fn_X7_eliminate_37 at h; cases h
  | succ n ih => intro v H locs x2 x3 x4 x6 x8 ls hP hS hl h; exact wk_X7_eliminate_37_body C0 hap hK hT0 (k37 := fn_X7_eliminate_37 n) (hk37 := ih) (hl := hl) (hP := hP) (hS := hS) (h := h)
set_option maxHeartbeats 4000000 in
set_option maxRecDepth 100000 in
theorem wk_X7_eliminate {p : Program} {l : Launch} {e : Env} {s : State} {m : MethodId} {args : Array Value} {below : List Frame} {meth : Method} {c : Code} {D : va_G} {ca : Nat → ClassId} {b : Nat → Nat} {tw : Nat} {tt : Nat → Nat} (C0 : Cx p s m args meth c cX7_eliminate (some .int) 9 wsX7_eliminate RX7) (hap : ap_ok 6 b) (hK : va_K D vwCl (tys3 ca) s) (hT0 : tW tw tt (ad_of 6 b) s s.heap) {q : Int32 × YS} (v : YS) (H : Heap) (locs : List Loc) (x1 : Int32) (x2 : Int32) (x3 : Int32) (ls : Array Slot) (hP : va_P D vwCl (YW ca b v) H) (hS : va_S (ad_of 6 b) s.heap H locs) (hl : lv_has ls 9 [(0, .ref (b 0)), (1, .int x1), (2, .int x2), (3, .int x3)]) (h : fn_X7_eliminate v x1 x2 x3 = some q) : W p l e rm_X7_eliminate s m args below meth c H locs 0 0 (MQ below (PQ (some (.int q.1)) (fun H => va_P D vwCl (YW ca b q.2) H) (ad_of 6 b)) args s 0 0 (ad_of 6 b)) (F0 m 0 ls []) := by
  obtain ⟨hx, hb, hr, hml, hown, hts, hlocks⟩ := id C0
  have hD0 := fun v => YW_D (ca := ca) hap v
  unfold fn_X7_eliminate at h
  refine lv_iload_n hx hb dX7_eliminate_0 rfl (lv_at hl 1 rfl) ?_
  obtain ⟨q1, e1, h⟩ := Option.bind_eq_some_iff.mp h
  refine hp_S (As := [.int x1]) (rest := []) ⟨hx, hb, hml, hown, hts⟩ (ct_X7_isSet l tw tt x1 e1) (va_cwS 1 hts gX7_eliminate_X7_isSet rfl rfl rfl (by decide +kernel) ⟨Nat.le_of_ble_eq_true rfl, Nat.le_of_ble_eq_true rfl⟩) GP.mv (GP.from hT0 hS) rfl hl.1 rfl (Nat.le_of_ble_eq_true rfl) dX7_eliminate_1 ⟨Nat.zero_le _, Nat.zero_le _⟩ ?_
  refine W.eq (g2 := F0 m 4 ls [.int q1]) rfl ?_
  refine lv_if_eq (tgt := 22) hx hb dX7_eliminate_4 (by decide) (fun c4 => ?_) (fun c4 => ?_)
  · replace h := ite_t h c4
    refine lv_iconst (v := (-1)) hx hb dX7_eliminate_22 (by decide) ?_
    obtain rfl := Option.some.inj h
    exact mp_iret hx hb hr hlocks hP hS dX7_eliminate_23
  · replace h := ite_f h c4
    refine lv_aload_n hx hb dX7_eliminate_7 rfl (lv_at hl 0 rfl) ?_
    refine lv_iload_n hx hb dX7_eliminate_8 rfl (lv_at hl 2 rfl) ?_
    obtain ⟨q9, e9, h⟩ := Option.bind_eq_some_iff.mp h
    refine hp_V (As := [.int x2]) (rest := []) (b := (b 0)) ⟨hx, hb, hml, hown, hts⟩ (ct_X7_isVariable l D ca b tw tt v x2 e9) (cwV 1 hts gX7_eliminate_X7_isVariable rfl rfl rfl (by decide +kernel) ⟨Nat.le_of_ble_eq_true rfl, Nat.le_of_ble_eq_true rfl⟩) (va_recv hK hP (ci := 4) (q0 := 0) rfl rfl) GW.mv (GW.from hP hK hT0 hS) rfl hl.1 rfl (Nat.le_of_ble_eq_true rfl) dX7_eliminate_9 ⟨Nat.zero_le _, Nat.zero_le _⟩ ?_
    refine W.eq (g2 := F0 m 12 ls [.int q9]) rfl ?_
    refine lv_if_eq (tgt := 22) hx hb dX7_eliminate_12 (by decide) (fun c12 => ?_) (fun c12 => ?_)
    · replace h := ite_t h c12
      refine lv_iconst (v := (-1)) hx hb dX7_eliminate_22 (by decide) ?_
      obtain rfl := Option.some.inj h
      exact mp_iret hx hb hr hlocks hP hS dX7_eliminate_23
    · replace h := ite_f h c12
      refine lv_iload_n hx hb dX7_eliminate_15 rfl (lv_at hl 3 rfl) ?_
      obtain ⟨q16, e16, h⟩ := Option.bind_eq_some_iff.mp h
      refine hp_S (As := [.int x3]) (rest := []) ⟨hx, hb, hml, hown, hts⟩ (ct_X7_isRegister l tw tt x3 e16) (va_cwS 1 hts gX7_eliminate_X7_isRegister rfl rfl rfl (by decide +kernel) ⟨Nat.le_of_ble_eq_true rfl, Nat.le_of_ble_eq_true rfl⟩) GP.mv (GP.from hT0 hS) rfl hl.1 rfl (Nat.le_of_ble_eq_true rfl) dX7_eliminate_16 ⟨Nat.zero_le _, Nat.zero_le _⟩ ?_
      refine W.eq (g2 := F0 m 19 ls [.int q16]) rfl ?_
      refine lv_if_ne (tgt := 24) hx hb dX7_eliminate_19 (by decide) (fun c19 => ?_) (fun c19 => ?_)
      · replace h := ite_f h c19
        refine lv_aload_n hx hb dX7_eliminate_24 rfl (lv_at hl 0 rfl) ?_
        refine lv_iload_n hx hb dX7_eliminate_25 rfl (lv_at hl 1 rfl) ?_
        obtain ⟨q26, e26, h⟩ := Option.bind_eq_some_iff.mp h
        refine hp_V (As := [.int x1]) (rest := []) (b := (b 0)) ⟨hx, hb, hml, hown, hts⟩ (ct_X7_barred l D ca b tw tt v x1 e26) (cwV 1 hts gX7_eliminate_X7_barred rfl rfl rfl (by decide +kernel) ⟨Nat.le_of_ble_eq_true rfl, Nat.le_of_ble_eq_true rfl⟩) (va_recv hK hP (ci := 4) (q0 := 0) rfl rfl) GW.mv (GW.from hP hK hT0 hS) rfl hl.1 rfl (Nat.le_of_ble_eq_true rfl) dX7_eliminate_26 ⟨Nat.zero_le _, Nat.zero_le _⟩ ?_
        refine W.eq (g2 := F0 m 29 ls [.long q26]) rfl ?_
        refine lv_lstore (lv' := [(4, .long q26), (0, .ref (b 0)), (1, .int x1), (2, .int x2), (3, .int x3)]) hx hb dX7_eliminate_29 hl (by decide) rfl (fun ls hl => ?_)
        refine lv_lconst (v := 0) hx hb dX7_eliminate_31 (by decide) ?_
        refine lv_lstore (lv' := [(6, .long 0), (4, .long q26), (0, .ref (b 0)), (1, .int x1), (2, .int x2), (3, .int x3)]) hx hb dX7_eliminate_32 hl (by decide) rfl (fun ls hl => ?_)
        refine lv_iconst (v := 0) hx hb dX7_eliminate_34 (by decide) ?_
        refine lv_istore (lv' := [(8, .int 0), (6, .long 0), (4, .long q26), (0, .ref (b 0)), (1, .int x1), (2, .int x2), (3, .int x3)]) hx hb dX7_eliminate_35 hl (by decide) rfl (fun ls hl => ?_)
        exact wk_X7_eliminate_37 C0 hap hK hT0  FU v H locs x2 x3 q26 0 0 ls hP hS (lv_sub hl [3, 5, 6, 2, 1, 0] rfl) h
      · replace h := ite_t h c19
        refine lv_iconst (v := (-1)) hx hb dX7_eliminate_22 (by decide) ?_
        obtain rfl := Option.some.inj h
        exact mp_iret hx hb hr hlocks hP hS dX7_eliminate_23
theorem ct_X7_eliminate (l : Launch) (D : va_G) (ca : Nat → ClassId) (b : Nat → Nat) (tw : Nat) (tt : Nat → Nat) (hap : ap_ok 6 b) (v : YS) (x1 : Int32) (x2 : Int32) (x3 : Int32) {q : Int32 × YS} (h : fn_X7_eliminate v x1 x2 x3 = some q) : Mp l yX7_eliminate wsX7_eliminate rm_X7_eliminate [.ref (b 0), .int x1, .int x2, .int x3] (GW D ca tw tt (ad_of 6 b) (YW ca b v)) (some (.int q.1)) (fun H => va_P D vwCl (YW ca b q.2) H) (ad_of 6 b) := by
  refine Mp.of (cc := cX7_eliminate) (nL := 9) (ret := (some .int)) (own := RX7) (by decide) rfl rfl (Nat.le_of_ble_eq_true rfl) ?_
  intro p e s m below meth c ls C0 hB hl
  exact wk_X7_eliminate C0 hap hB.2.1 hB.2.2 (hP := hB.1) (hS := va_S.rf) (hl := hl) (h := h)
abbrev rm_X7_fibres : Room := { frames := 3, cells := 0, slots := 0, locals := 72 }
theorem lk_X7_fibres_f7 : Cond.fieldLink RX7 7 "BooleanRingModel" "n" "I" ∈ wsX7_fibres := by decide +kernel
theorem ly_X7_fibres_X7 : ∀ w ∈ wsX70, w ∈ wsX7_fibres := by decide +kernel
set_option maxHeartbeats 4000000 in
set_option maxRecDepth 100000 in
theorem wk_X7_fibres_109 {p : Program} {l : Launch} {e : Env} {s : State} {m : MethodId} {args : Array Value} {below : List Frame} {meth : Method} {c : Code} {D : va_G} {ca : Nat → ClassId} {b : Nat → Nat} {tw : Nat} {tt : Nat → Nat} (C0 : Cx p s m args meth c cX7_fibres (some .int) 9 wsX7_fibres RX7) (hK : va_K D vwCl (tys3 ca) s) (hT0 : tW tw tt (ad_of 6 b) s s.heap) (v : YS) (hP : va_P D vwCl (YW ca b v) s.heap) {q : Int32} (k39 : Int32 → Int32 → Int64 → Int32 → Int32 → Option (Int32)) (hk39 : ∀ (x2 : Int32) (x3 : Int32) (x4 : Int64) (x6 : Int32) (x7 : Int32) (ls : Array Slot) (hl : lv_has ls 9 [(0, .ref (b 0)), (2, .int x2), (3, .int x3), (4, .long x4), (6, .int x6), (7, .int x7)]) (h : k39 x2 x3 x4 x6 x7 = some q), W p l e rm_X7_fibres s m args below meth c s.heap [] 0 0 (MQ below (HQ (some (.int q))) args s 0 0 (fun _ => False)) (F0 m 39 ls [])) (x2 : Int32) (x3 : Int32) (x4 : Int64) (x7 : Int32) (y0 : Int32) (y1 : Int32) (ls : Array Slot) (hl : lv_has ls 9 [(0, .ref (b 0)), (2, .int x2), (3, .int x3), (4, .long x4), (7, .int x7)]) (h : fn_X7_fibres_109 v k39 x2 x3 x4 x7 y0 y1 = some q) : W p l e rm_X7_fibres s m args below meth c s.heap [] 0 0 (MQ below (HQ (some (.int q))) args s 0 0 (fun _ => False)) (F0 m 109 ls [.int y0, .int y1]) := by
  obtain ⟨hx, hb, hr, hml, hown, hts, hlocks⟩ := id C0
  have hS : va_S (ad_of 6 b) s.heap s.heap [] := va_S.rf
  unfold fn_X7_fibres_109 at h
  refine lv_iadd hx hb dX7_fibres_109 ?_
  refine lv_istore (lv' := [(6, .int (y1 + y0)), (0, .ref (b 0)), (2, .int x2), (3, .int x3), (4, .long x4), (7, .int x7)]) hx hb dX7_fibres_110 hl (by decide) rfl (fun ls hl => ?_)
  refine lv_iinc (v := (x7 + 1)) (lv' := [(7, .int (x7 + 1)), (6, .int (y1 + y0)), (0, .ref (b 0)), (2, .int x2), (3, .int x3), (4, .long x4)]) hx hb dX7_fibres_112 hl (k := 5) rfl rfl (by decide) rfl (fun ls hl => ?_)
  refine lv_goto (tgt := 39) hx hb dX7_fibres_115 (by decide) ?_
  exact hk39 x2 x3 x4 (y1 + y0) (x7 + 1) ls (lv_sub hl [2, 3, 4, 5, 1, 0] rfl) h
set_option maxHeartbeats 4000000 in
set_option maxRecDepth 100000 in
theorem wk_X7_fibres_108 {p : Program} {l : Launch} {e : Env} {s : State} {m : MethodId} {args : Array Value} {below : List Frame} {meth : Method} {c : Code} {D : va_G} {ca : Nat → ClassId} {b : Nat → Nat} {tw : Nat} {tt : Nat → Nat} (C0 : Cx p s m args meth c cX7_fibres (some .int) 9 wsX7_fibres RX7) (hK : va_K D vwCl (tys3 ca) s) (hT0 : tW tw tt (ad_of 6 b) s s.heap) (v : YS) (hP : va_P D vwCl (YW ca b v) s.heap) {q : Int32} (k39 : Int32 → Int32 → Int64 → Int32 → Int32 → Option (Int32)) (hk39 : ∀ (x2 : Int32) (x3 : Int32) (x4 : Int64) (x6 : Int32) (x7 : Int32) (ls : Array Slot) (hl : lv_has ls 9 [(0, .ref (b 0)), (2, .int x2), (3, .int x3), (4, .long x4), (6, .int x6), (7, .int x7)]) (h : k39 x2 x3 x4 x6 x7 = some q), W p l e rm_X7_fibres s m args below meth c s.heap [] 0 0 (MQ below (HQ (some (.int q))) args s 0 0 (fun _ => False)) (F0 m 39 ls [])) (x2 : Int32) (x3 : Int32) (x4 : Int64) (x7 : Int32) (y0 : Int32) (ls : Array Slot) (hl : lv_has ls 9 [(0, .ref (b 0)), (2, .int x2), (3, .int x3), (4, .long x4), (7, .int x7)]) (h : fn_X7_fibres_108 v k39 x2 x3 x4 x7 y0 = some q) : W p l e rm_X7_fibres s m args below meth c s.heap [] 0 0 (MQ below (HQ (some (.int q))) args s 0 0 (fun _ => False)) (F0 m 108 ls [.int y0]) := by
  obtain ⟨hx, hb, hr, hml, hown, hts, hlocks⟩ := id C0
  have hS : va_S (ad_of 6 b) s.heap s.heap [] := va_S.rf
  unfold fn_X7_fibres_108 at h
  refine lv_iconst (v := 0) hx hb dX7_fibres_108 (by decide) ?_
  exact wk_X7_fibres_109 C0 hK hT0 v hP (k39 := k39) (hk39 := hk39) (ls := ls) (hl := (lv_sub hl [0, 1, 2, 3, 4] rfl)) (h := h)
set_option maxHeartbeats 4000000 in
set_option maxRecDepth 100000 in
theorem wk_X7_fibres_84 {p : Program} {l : Launch} {e : Env} {s : State} {m : MethodId} {args : Array Value} {below : List Frame} {meth : Method} {c : Code} {D : va_G} {ca : Nat → ClassId} {b : Nat → Nat} {tw : Nat} {tt : Nat → Nat} (C0 : Cx p s m args meth c cX7_fibres (some .int) 9 wsX7_fibres RX7) (hK : va_K D vwCl (tys3 ca) s) (hT0 : tW tw tt (ad_of 6 b) s s.heap) (v : YS) (hP : va_P D vwCl (YW ca b v) s.heap) {q : Int32} (k39 : Int32 → Int32 → Int64 → Int32 → Int32 → Option (Int32)) (hk39 : ∀ (x2 : Int32) (x3 : Int32) (x4 : Int64) (x6 : Int32) (x7 : Int32) (ls : Array Slot) (hl : lv_has ls 9 [(0, .ref (b 0)), (2, .int x2), (3, .int x3), (4, .long x4), (6, .int x6), (7, .int x7)]) (h : k39 x2 x3 x4 x6 x7 = some q), W p l e rm_X7_fibres s m args below meth c s.heap [] 0 0 (MQ below (HQ (some (.int q))) args s 0 0 (fun _ => False)) (F0 m 39 ls [])) (x2 : Int32) (x3 : Int32) (x4 : Int64) (x6 : Int32) (x7 : Int32) (y0 : Int32) (y1 : Int32) (ls : Array Slot) (hl : lv_has ls 9 [(0, .ref (b 0)), (2, .int x2), (3, .int x3), (4, .long x4), (6, .int x6), (7, .int x7)]) (h : fn_X7_fibres_84 v k39 x2 x3 x4 x6 x7 y0 y1 = some q) : W p l e rm_X7_fibres s m args below meth c s.heap [] 0 0 (MQ below (HQ (some (.int q))) args s 0 0 (fun _ => False)) (F0 m 84 ls [.int y0, .int y1]) := by
  obtain ⟨hx, hb, hr, hml, hown, hts, hlocks⟩ := id C0
  have hS : va_S (ad_of 6 b) s.heap s.heap [] := va_S.rf
  unfold fn_X7_fibres_84 at h
  refine lv_iadd hx hb dX7_fibres_84 ?_
  refine lv_istore (lv' := [(8, .int (y1 + y0)), (0, .ref (b 0)), (2, .int x2), (3, .int x3), (4, .long x4), (6, .int x6), (7, .int x7)]) hx hb dX7_fibres_85 hl (by decide) rfl (fun ls hl => ?_)
  refine lv_iload hx hb dX7_fibres_87 (lv_at hl 5 rfl) ?_
  refine lv_iload hx hb dX7_fibres_89 (lv_at hl 6 rfl) ?_
  refine lv_iload_n hx hb dX7_fibres_91 rfl (lv_at hl 2 rfl) ?_
  refine lv_ishr hx hb dX7_fibres_92 ?_
  refine lv_iconst (v := 1) hx hb dX7_fibres_93 (by decide) ?_
  refine lv_iand hx hb dX7_fibres_94 ?_
  refine lv_if_ne (tgt := 108) hx hb dX7_fibres_95 (by decide) (fun c95 => ?_) (fun c95 => ?_)
  · replace h := ite_f h c95
    exact wk_X7_fibres_108 C0 hK hT0 v hP (k39 := k39) (hk39 := hk39) (ls := ls) (hl := (lv_sub hl [1, 2, 3, 4, 6] rfl)) (h := h)
  · replace h := ite_t h c95
    refine lv_iload hx hb dX7_fibres_98 (lv_at hl 0 rfl) ?_
    refine lv_iload_n hx hb dX7_fibres_100 rfl (lv_at hl 3 rfl) ?_
    refine lv_icmp_ne (tgt := 108) hx hb dX7_fibres_101 (by decide) (fun c101 => ?_) (fun c101 => ?_)
    · replace h := ite_f h c101
      exact wk_X7_fibres_108 C0 hK hT0 v hP (k39 := k39) (hk39 := hk39) (ls := ls) (hl := (lv_sub hl [1, 2, 3, 4, 6] rfl)) (h := h)
    · replace h := ite_t h c101
      refine lv_iconst (v := 1) hx hb dX7_fibres_104 (by decide) ?_
      refine lv_goto (tgt := 109) hx hb dX7_fibres_105 (by decide) ?_
      exact wk_X7_fibres_109 C0 hK hT0 v hP (k39 := k39) (hk39 := hk39) (ls := ls) (hl := (lv_sub hl [1, 2, 3, 4, 6] rfl)) (h := h)
set_option maxHeartbeats 4000000 in
set_option maxRecDepth 100000 in
theorem wk_X7_fibres_65 {p : Program} {l : Launch} {e : Env} {s : State} {m : MethodId} {args : Array Value} {below : List Frame} {meth : Method} {c : Code} {D : va_G} {ca : Nat → ClassId} {b : Nat → Nat} {tw : Nat} {tt : Nat → Nat} (C0 : Cx p s m args meth c cX7_fibres (some .int) 9 wsX7_fibres RX7) (hK : va_K D vwCl (tys3 ca) s) (hT0 : tW tw tt (ad_of 6 b) s s.heap) (v : YS) (hP : va_P D vwCl (YW ca b v) s.heap) {q : Int32} (k39 : Int32 → Int32 → Int64 → Int32 → Int32 → Option (Int32)) (hk39 : ∀ (x2 : Int32) (x3 : Int32) (x4 : Int64) (x6 : Int32) (x7 : Int32) (ls : Array Slot) (hl : lv_has ls 9 [(0, .ref (b 0)), (2, .int x2), (3, .int x3), (4, .long x4), (6, .int x6), (7, .int x7)]) (h : k39 x2 x3 x4 x6 x7 = some q), W p l e rm_X7_fibres s m args below meth c s.heap [] 0 0 (MQ below (HQ (some (.int q))) args s 0 0 (fun _ => False)) (F0 m 39 ls [])) (x2 : Int32) (x3 : Int32) (x4 : Int64) (x6 : Int32) (x7 : Int32) (y0 : Int32) (ls : Array Slot) (hl : lv_has ls 9 [(0, .ref (b 0)), (2, .int x2), (3, .int x3), (4, .long x4), (6, .int x6), (7, .int x7)]) (h : fn_X7_fibres_65 v k39 x2 x3 x4 x6 x7 y0 = some q) : W p l e rm_X7_fibres s m args below meth c s.heap [] 0 0 (MQ below (HQ (some (.int q))) args s 0 0 (fun _ => False)) (F0 m 65 ls [.int y0]) := by
  obtain ⟨hx, hb, hr, hml, hown, hts, hlocks⟩ := id C0
  have hS : va_S (ad_of 6 b) s.heap s.heap [] := va_S.rf
  unfold fn_X7_fibres_65 at h
  refine lv_lload hx hb dX7_fibres_65 (lv_at hl 3 rfl) ?_
  refine lv_iload hx hb dX7_fibres_67 (lv_at hl 5 rfl) ?_
  refine lv_iconst (v := 1) hx hb dX7_fibres_69 (by decide) ?_
  refine lv_iload_n hx hb dX7_fibres_70 rfl (lv_at hl 1 rfl) ?_
  refine lv_ishl hx hb dX7_fibres_71 ?_
  refine lv_ixor hx hb dX7_fibres_72 ?_
  obtain ⟨q73, e73, h⟩ := Option.bind_eq_some_iff.mp h
  refine hp_S (As := [.long x4, .int (x7 ^^^ (ish 1 x2))]) (rest := [.int y0]) ⟨hx, hb, hml, hown, hts⟩ (ct_X7_has1 l tw tt x4 (x7 ^^^ (ish 1 x2)) e73) (va_cwS 2 hts gX7_fibres_X7_has1 rfl rfl rfl (by decide +kernel) ⟨Nat.le_of_ble_eq_true rfl, Nat.le_of_ble_eq_true rfl⟩) GP.mv (GP.from hT0 hS) rfl hl.1 rfl (Nat.le_of_ble_eq_true rfl) dX7_fibres_73 ⟨Nat.zero_le _, Nat.zero_le _⟩ ?_
  refine W.eq (g2 := F0 m 76 ls [.int q73, .int y0]) rfl ?_
  refine lv_if_eq (tgt := 83) hx hb dX7_fibres_76 (by decide) (fun c76 => ?_) (fun c76 => ?_)
  · replace h := ite_t h c76
    refine lv_iconst (v := 1) hx hb dX7_fibres_83 (by decide) ?_
    exact wk_X7_fibres_84 C0 hK hT0 v hP (k39 := k39) (hk39 := hk39) (ls := ls) (hl := (lv_sub hl [0, 1, 2, 3, 4, 5] rfl)) (h := h)
  · replace h := ite_f h c76
    refine lv_iconst (v := 0) hx hb dX7_fibres_79 (by decide) ?_
    refine lv_goto (tgt := 84) hx hb dX7_fibres_80 (by decide) ?_
    exact wk_X7_fibres_84 C0 hK hT0 v hP (k39 := k39) (hk39 := hk39) (ls := ls) (hl := (lv_sub hl [0, 1, 2, 3, 4, 5] rfl)) (h := h)
set_option maxHeartbeats 4000000 in
set_option maxRecDepth 100000 in
theorem wk_X7_fibres_39_body {p : Program} {l : Launch} {e : Env} {s : State} {m : MethodId} {args : Array Value} {below : List Frame} {meth : Method} {c : Code} {D : va_G} {ca : Nat → ClassId} {b : Nat → Nat} {tw : Nat} {tt : Nat → Nat} (C0 : Cx p s m args meth c cX7_fibres (some .int) 9 wsX7_fibres RX7) (hK : va_K D vwCl (tys3 ca) s) (hT0 : tW tw tt (ad_of 6 b) s s.heap) (v : YS) (hP : va_P D vwCl (YW ca b v) s.heap) {q : Int32} (k39 : Int32 → Int32 → Int64 → Int32 → Int32 → Option (Int32)) (hk39 : ∀ (x2 : Int32) (x3 : Int32) (x4 : Int64) (x6 : Int32) (x7 : Int32) (ls : Array Slot) (hl : lv_has ls 9 [(0, .ref (b 0)), (2, .int x2), (3, .int x3), (4, .long x4), (6, .int x6), (7, .int x7)]) (h : k39 x2 x3 x4 x6 x7 = some q), W p l e rm_X7_fibres s m args below meth c s.heap [] 0 0 (MQ below (HQ (some (.int q))) args s 0 0 (fun _ => False)) (F0 m 39 ls [])) (x2 : Int32) (x3 : Int32) (x4 : Int64) (x6 : Int32) (x7 : Int32) (ls : Array Slot) (hl : lv_has ls 9 [(0, .ref (b 0)), (2, .int x2), (3, .int x3), (4, .long x4), (6, .int x6), (7, .int x7)]) (h : fn_X7_fibres_39_body v k39 x2 x3 x4 x6 x7 = some q) : W p l e rm_X7_fibres s m args below meth c s.heap [] 0 0 (MQ below (HQ (some (.int q))) args s 0 0 (fun _ => False)) (F0 m 39 ls []) := by
  obtain ⟨hx, hb, hr, hml, hown, hts, hlocks⟩ := id C0
  have hS : va_S (ad_of 6 b) s.heap s.heap [] := va_S.rf
  unfold fn_X7_fibres_39_body at h
  refine lv_iload hx hb dX7_fibres_39 (lv_at hl 5 rfl) ?_
  refine lv_iconst (v := 1) hx hb dX7_fibres_41 (by decide) ?_
  refine lv_aload_n hx hb dX7_fibres_42 rfl (lv_at hl 0 rfl) ?_
  refine va_get (D := D) (ci := 4) (v := .int (y_n v)) (C := RX7) (T := TX7) (N := 9) hx hb hts ly_X7_fibres_X7 hown hK hP 0 rfl rfl 0 (by decide) (hts _ lk_X7_fibres_f7) (fun _ h9 => h9) rfl dX7_fibres_43 ?_
  refine lv_ishl hx hb dX7_fibres_46 ?_
  refine lv_icmp_ge (tgt := 118) hx hb dX7_fibres_47 (by decide) (fun c47 => ?_) (fun c47 => ?_)
  · replace h := ite_t h c47
    refine lv_iload hx hb dX7_fibres_118 (lv_at hl 4 rfl) ?_
    obtain rfl := Option.some.inj h
    exact hp_iret hx hb hr hlocks dX7_fibres_120
  · replace h := ite_f h c47
    refine lv_lload hx hb dX7_fibres_50 (lv_at hl 3 rfl) ?_
    refine lv_iload hx hb dX7_fibres_52 (lv_at hl 5 rfl) ?_
    obtain ⟨q54, e54, h⟩ := Option.bind_eq_some_iff.mp h
    refine hp_S (As := [.long x4, .int x7]) (rest := []) ⟨hx, hb, hml, hown, hts⟩ (ct_X7_has1 l tw tt x4 x7 e54) (va_cwS 2 hts gX7_fibres_X7_has1 rfl rfl rfl (by decide +kernel) ⟨Nat.le_of_ble_eq_true rfl, Nat.le_of_ble_eq_true rfl⟩) GP.mv (GP.from hT0 hS) rfl hl.1 rfl (Nat.le_of_ble_eq_true rfl) dX7_fibres_54 ⟨Nat.zero_le _, Nat.zero_le _⟩ ?_
    refine W.eq (g2 := F0 m 57 ls [.int q54]) rfl ?_
    refine lv_if_eq (tgt := 64) hx hb dX7_fibres_57 (by decide) (fun c57 => ?_) (fun c57 => ?_)
    · replace h := ite_t h c57
      refine lv_iconst (v := 1) hx hb dX7_fibres_64 (by decide) ?_
      exact wk_X7_fibres_65 C0 hK hT0 v hP (k39 := k39) (hk39 := hk39) (ls := ls) (hl := (lv_sub hl [0, 1, 2, 3, 4, 5] rfl)) (h := h)
    · replace h := ite_f h c57
      refine lv_iconst (v := 0) hx hb dX7_fibres_60 (by decide) ?_
      refine lv_goto (tgt := 65) hx hb dX7_fibres_61 (by decide) ?_
      exact wk_X7_fibres_65 C0 hK hT0 v hP (k39 := k39) (hk39 := hk39) (ls := ls) (hl := (lv_sub hl [0, 1, 2, 3, 4, 5] rfl)) (h := h)
set_option maxHeartbeats 4000000 in
set_option maxRecDepth 100000 in
theorem wk_X7_fibres_39 {p : Program} {l : Launch} {e : Env} {s : State} {m : MethodId} {args : Array Value} {below : List Frame} {meth : Method} {c : Code} {D : va_G} {ca : Nat → ClassId} {b : Nat → Nat} {tw : Nat} {tt : Nat → Nat} (C0 : Cx p s m args meth c cX7_fibres (some .int) 9 wsX7_fibres RX7) (hK : va_K D vwCl (tys3 ca) s) (hT0 : tW tw tt (ad_of 6 b) s s.heap) (v : YS) (hP : va_P D vwCl (YW ca b v) s.heap) {q : Int32} : ∀ (n : Nat) (x2 : Int32) (x3 : Int32) (x4 : Int64) (x6 : Int32) (x7 : Int32) (ls : Array Slot) (hl : lv_has ls 9 [(0, .ref (b 0)), (2, .int x2), (3, .int x3), (4, .long x4), (6, .int x6), (7, .int x7)]) (h : fn_X7_fibres_39 v n x2 x3 x4 x6 x7 = some q), W p l e rm_X7_fibres s m args below meth c s.heap [] 0 0 (MQ below (HQ (some (.int q))) args s 0 0 (fun _ => False)) (F0 m 39 ls []) := by
  intro n
  induction n with
  | zero => intro x2 x3 x4 x6 x7 ls hl h; unfold fn_X7_fibres_39 at h; cases h
  | succ n ih => intro x2 x3 x4 x6 x7 ls hl h; exact wk_X7_fibres_39_body C0 hK hT0 v hP (k39 := fn_X7_fibres_39 v n) (hk39 := ih) (hl := hl) (h := h)
set_option maxHeartbeats 4000000 in
set_option maxRecDepth 100000 in
theorem wk_X7_fibres {p : Program} {l : Launch} {e : Env} {s : State} {m : MethodId} {args : Array Value} {below : List Frame} {meth : Method} {c : Code} {D : va_G} {ca : Nat → ClassId} {b : Nat → Nat} {tw : Nat} {tt : Nat → Nat} (C0 : Cx p s m args meth c cX7_fibres (some .int) 9 wsX7_fibres RX7) (hK : va_K D vwCl (tys3 ca) s) (hT0 : tW tw tt (ad_of 6 b) s s.heap) (v : YS) (hP : va_P D vwCl (YW ca b v) s.heap) {q : Int32} (x1 : Int32) (x2 : Int32) (x3 : Int32) (ls : Array Slot) (hl : lv_has ls 9 [(0, .ref (b 0)), (1, .int x1), (2, .int x2), (3, .int x3)]) (h : fn_X7_fibres v x1 x2 x3 = some q) : W p l e rm_X7_fibres s m args below meth c s.heap [] 0 0 (MQ below (HQ (some (.int q))) args s 0 0 (fun _ => False)) (F0 m 0 ls []) := by
  obtain ⟨hx, hb, hr, hml, hown, hts, hlocks⟩ := id C0
  have hS : va_S (ad_of 6 b) s.heap s.heap [] := va_S.rf
  unfold fn_X7_fibres at h
  refine lv_iload_n hx hb dX7_fibres_0 rfl (lv_at hl 1 rfl) ?_
  obtain ⟨q1, e1, h⟩ := Option.bind_eq_some_iff.mp h
  refine hp_S (As := [.int x1]) (rest := []) ⟨hx, hb, hml, hown, hts⟩ (ct_X7_isSet l tw tt x1 e1) (va_cwS 1 hts gX7_fibres_X7_isSet rfl rfl rfl (by decide +kernel) ⟨Nat.le_of_ble_eq_true rfl, Nat.le_of_ble_eq_true rfl⟩) GP.mv (GP.from hT0 hS) rfl hl.1 rfl (Nat.le_of_ble_eq_true rfl) dX7_fibres_1 ⟨Nat.zero_le _, Nat.zero_le _⟩ ?_
  refine W.eq (g2 := F0 m 4 ls [.int q1]) rfl ?_
  refine lv_if_eq (tgt := 24) hx hb dX7_fibres_4 (by decide) (fun c4 => ?_) (fun c4 => ?_)
  · replace h := ite_t h c4
    refine lv_iconst (v := (-1)) hx hb dX7_fibres_24 (by decide) ?_
    obtain rfl := Option.some.inj h
    exact hp_iret hx hb hr hlocks dX7_fibres_25
  · replace h := ite_f h c4
    refine lv_aload_n hx hb dX7_fibres_7 rfl (lv_at hl 0 rfl) ?_
    refine lv_iload_n hx hb dX7_fibres_8 rfl (lv_at hl 2 rfl) ?_
    obtain ⟨q9, e9, h⟩ := Option.bind_eq_some_iff.mp h
    refine hp_V (As := [.int x2]) (rest := []) (b := (b 0)) ⟨hx, hb, hml, hown, hts⟩ (ct_X7_isVariable l D ca b tw tt v x2 e9) (cwV 1 hts gX7_fibres_X7_isVariable rfl rfl rfl (by decide +kernel) ⟨Nat.le_of_ble_eq_true rfl, Nat.le_of_ble_eq_true rfl⟩) (va_recv hK hP (ci := 4) (q0 := 0) rfl rfl) GW.mv (GW.from hP hK hT0 hS) rfl hl.1 rfl (Nat.le_of_ble_eq_true rfl) dX7_fibres_9 ⟨Nat.zero_le _, Nat.zero_le _⟩ ?_
    refine W.eq (g2 := F0 m 12 ls [.int q9]) rfl ?_
    refine lv_if_eq (tgt := 24) hx hb dX7_fibres_12 (by decide) (fun c12 => ?_) (fun c12 => ?_)
    · replace h := ite_t h c12
      refine lv_iconst (v := (-1)) hx hb dX7_fibres_24 (by decide) ?_
      obtain rfl := Option.some.inj h
      exact hp_iret hx hb hr hlocks dX7_fibres_25
    · replace h := ite_f h c12
      refine lv_iload_n hx hb dX7_fibres_15 rfl (lv_at hl 3 rfl) ?_
      refine lv_iconst (v := 0) hx hb dX7_fibres_16 (by decide) ?_
      refine lv_iconst (v := 2) hx hb dX7_fibres_17 (by decide) ?_
      obtain ⟨q18, e18, h⟩ := Option.bind_eq_some_iff.mp h
      refine hp_S (As := [.int x3, .int 0, .int 2]) (rest := []) ⟨hx, hb, hml, hown, hts⟩ (ct_X7_in l tw tt x3 0 2 e18) (va_cwS 3 hts gX7_fibres_X7_in rfl rfl rfl (by decide +kernel) ⟨Nat.le_of_ble_eq_true rfl, Nat.le_of_ble_eq_true rfl⟩) GP.mv (GP.from hT0 hS) rfl hl.1 rfl (Nat.le_of_ble_eq_true rfl) dX7_fibres_18 ⟨Nat.zero_le _, Nat.zero_le _⟩ ?_
      refine W.eq (g2 := F0 m 21 ls [.int q18]) rfl ?_
      refine lv_if_ne (tgt := 26) hx hb dX7_fibres_21 (by decide) (fun c21 => ?_) (fun c21 => ?_)
      · replace h := ite_f h c21
        refine lv_aload_n hx hb dX7_fibres_26 rfl (lv_at hl 0 rfl) ?_
        refine lv_iload_n hx hb dX7_fibres_27 rfl (lv_at hl 1 rfl) ?_
        obtain ⟨q28, e28, h⟩ := Option.bind_eq_some_iff.mp h
        refine hp_V (As := [.int x1]) (rest := []) (b := (b 0)) ⟨hx, hb, hml, hown, hts⟩ (ct_X7_barred l D ca b tw tt v x1 e28) (cwV 1 hts gX7_fibres_X7_barred rfl rfl rfl (by decide +kernel) ⟨Nat.le_of_ble_eq_true rfl, Nat.le_of_ble_eq_true rfl⟩) (va_recv hK hP (ci := 4) (q0 := 0) rfl rfl) GW.mv (GW.from hP hK hT0 hS) rfl hl.1 rfl (Nat.le_of_ble_eq_true rfl) dX7_fibres_28 ⟨Nat.zero_le _, Nat.zero_le _⟩ ?_
        refine W.eq (g2 := F0 m 31 ls [.long q28]) rfl ?_
        refine lv_lstore (lv' := [(4, .long q28), (0, .ref (b 0)), (1, .int x1), (2, .int x2), (3, .int x3)]) hx hb dX7_fibres_31 hl (by decide) rfl (fun ls hl => ?_)
        refine lv_iconst (v := 0) hx hb dX7_fibres_33 (by decide) ?_
        refine lv_istore (lv' := [(6, .int 0), (4, .long q28), (0, .ref (b 0)), (1, .int x1), (2, .int x2), (3, .int x3)]) hx hb dX7_fibres_34 hl (by decide) rfl (fun ls hl => ?_)
        refine lv_iconst (v := 0) hx hb dX7_fibres_36 (by decide) ?_
        refine lv_istore (lv' := [(7, .int 0), (6, .int 0), (4, .long q28), (0, .ref (b 0)), (1, .int x1), (2, .int x2), (3, .int x3)]) hx hb dX7_fibres_37 hl (by decide) rfl (fun ls hl => ?_)
        exact wk_X7_fibres_39 C0 hK hT0 v hP  FU x2 x3 q28 0 0 ls (lv_sub hl [3, 5, 6, 2, 1, 0] rfl) h
      · replace h := ite_t h c21
        refine lv_iconst (v := (-1)) hx hb dX7_fibres_24 (by decide) ?_
        obtain rfl := Option.some.inj h
        exact hp_iret hx hb hr hlocks dX7_fibres_25
theorem ct_X7_fibres (l : Launch) (D : va_G) (ca : Nat → ClassId) (b : Nat → Nat) (tw : Nat) (tt : Nat → Nat) (v : YS) (x1 : Int32) (x2 : Int32) (x3 : Int32) {q : Int32} (h : fn_X7_fibres v x1 x2 x3 = some q) : Hp l yX7_fibres wsX7_fibres rm_X7_fibres [.ref (b 0), .int x1, .int x2, .int x3] (GW D ca tw tt (ad_of 6 b) (YW ca b v)) (some (.int q)) := by
  refine Hp.of (cc := cX7_fibres) (nL := 9) (ret := (some .int)) (own := RX7) (by decide) rfl rfl (Nat.le_of_ble_eq_true rfl) ?_
  intro p e s m below meth c ls C0 hB hl
  exact wk_X7_fibres C0 hB.2.1 hB.2.2 v hB.1 (hl := hl) (h := h)
abbrev rm_X7_isMember : Room := { frames := 3, cells := 0, slots := 0, locals := 72 }
theorem lk_X7_isMember_f13 : Cond.fieldLink RX7 13 "BooleanRingModel" "p" "[J" ∈ wsX7_isMember := by decide +kernel
theorem lk_X7_isMember_c104 : Cond.constantLong RX7 104 (-1) ∈ wsX7_isMember := by decide +kernel
theorem ly_X7_isMember_X7 : ∀ w ∈ wsX70, w ∈ wsX7_isMember := by decide +kernel
set_option maxHeartbeats 4000000 in
set_option maxRecDepth 100000 in
theorem wk_X7_isMember {p : Program} {l : Launch} {e : Env} {s : State} {m : MethodId} {args : Array Value} {below : List Frame} {meth : Method} {c : Code} {D : va_G} {ca : Nat → ClassId} {b : Nat → Nat} {tw : Nat} {tt : Nat → Nat} (C0 : Cx p s m args meth c cX7_isMember (some .int) 3 wsX7_isMember RX7) (hK : va_K D vwCl (tys3 ca) s) (hT0 : tW tw tt (ad_of 6 b) s s.heap) (v : YS) (hP : va_P D vwCl (YW ca b v) s.heap) {q : Int32} (x1 : Int32) (x2 : Int32) (ls : Array Slot) (hl : lv_has ls 3 [(0, .ref (b 0)), (1, .int x1), (2, .int x2)]) (h : fn_X7_isMember v x1 x2 = some q) : W p l e rm_X7_isMember s m args below meth c s.heap [] 0 0 (MQ below (HQ (some (.int q))) args s 0 0 (fun _ => False)) (F0 m 0 ls []) := by
  obtain ⟨hx, hb, hr, hml, hown, hts, hlocks⟩ := id C0
  have hS : va_S (ad_of 6 b) s.heap s.heap [] := va_S.rf
  unfold fn_X7_isMember at h
  refine lv_iload_n hx hb dX7_isMember_0 rfl (lv_at hl 1 rfl) ?_
  obtain ⟨q1, e1, h⟩ := Option.bind_eq_some_iff.mp h
  refine hp_S (As := [.int x1]) (rest := []) ⟨hx, hb, hml, hown, hts⟩ (ct_X7_isRegister l tw tt x1 e1) (va_cwS 1 hts gX7_isMember_X7_isRegister rfl rfl rfl (by decide +kernel) ⟨Nat.le_of_ble_eq_true rfl, Nat.le_of_ble_eq_true rfl⟩) GP.mv (GP.from hT0 hS) rfl hl.1 rfl (Nat.le_of_ble_eq_true rfl) dX7_isMember_1 ⟨Nat.zero_le _, Nat.zero_le _⟩ ?_
  refine W.eq (g2 := F0 m 4 ls [.int q1]) rfl ?_
  refine lv_if_eq (tgt := 14) hx hb dX7_isMember_4 (by decide) (fun c4 => ?_) (fun c4 => ?_)
  · replace h := ite_t h c4
    refine lv_iconst (v := (-1)) hx hb dX7_isMember_14 (by decide) ?_
    obtain rfl := Option.some.inj h
    exact hp_iret hx hb hr hlocks dX7_isMember_15
  · replace h := ite_f h c4
    refine lv_iload_n hx hb dX7_isMember_7 rfl (lv_at hl 2 rfl) ?_
    obtain ⟨q8, e8, h⟩ := Option.bind_eq_some_iff.mp h
    refine hp_S (As := [.int x2]) (rest := []) ⟨hx, hb, hml, hown, hts⟩ (ct_X7_isSet l tw tt x2 e8) (va_cwS 1 hts gX7_isMember_X7_isSet rfl rfl rfl (by decide +kernel) ⟨Nat.le_of_ble_eq_true rfl, Nat.le_of_ble_eq_true rfl⟩) GP.mv (GP.from hT0 hS) rfl hl.1 rfl (Nat.le_of_ble_eq_true rfl) dX7_isMember_8 ⟨Nat.zero_le _, Nat.zero_le _⟩ ?_
    refine W.eq (g2 := F0 m 11 ls [.int q8]) rfl ?_
    refine lv_if_ne (tgt := 16) hx hb dX7_isMember_11 (by decide) (fun c11 => ?_) (fun c11 => ?_)
    · replace h := ite_f h c11
      refine lv_aload_n hx hb dX7_isMember_16 rfl (lv_at hl 0 rfl) ?_
      refine lv_aload_n hx hb dX7_isMember_17 rfl (lv_at hl 0 rfl) ?_
      refine va_get (D := D) (ci := 4) (v := .ref (b 1)) (C := RX7) (T := TX7) (N := 9) hx hb hts ly_X7_isMember_X7 hown hK hP 0 rfl rfl 1 (by decide) (hts _ lk_X7_isMember_f13) (fun _ h9 => h9) rfl dX7_isMember_18 ?_
      refine lv_iload_n hx hb dX7_isMember_21 rfl (lv_at hl 1 rfl) ?_
      obtain ⟨q22, e22, h⟩ := Option.bind_eq_some_iff.mp h
      refine rd_lald hx hb hK hP 1 0 e22 rfl rfl dX7_isMember_22 ?_
      obtain ⟨q23, e23, h⟩ := Option.bind_eq_some_iff.mp h
      refine hp_V (As := [.long q22]) (rest := []) (b := (b 0)) ⟨hx, hb, hml, hown, hts⟩ (ct_X7_values l D ca b tw tt v q22 e23) (cwV 1 hts gX7_isMember_X7_values rfl rfl rfl (by decide +kernel) ⟨Nat.le_of_ble_eq_true rfl, Nat.le_of_ble_eq_true rfl⟩) (va_recv hK hP (ci := 4) (q0 := 0) rfl rfl) GW.mv (GW.from hP hK hT0 hS) rfl hl.1 rfl (Nat.le_of_ble_eq_true rfl) dX7_isMember_23 ⟨Nat.zero_le _, Nat.zero_le _⟩ ?_
      refine W.eq (g2 := F0 m 26 ls [.long q23]) rfl ?_
      refine lv_aload_n hx hb dX7_isMember_26 rfl (lv_at hl 0 rfl) ?_
      refine lv_iload_n hx hb dX7_isMember_27 rfl (lv_at hl 2 rfl) ?_
      obtain ⟨q28, e28, h⟩ := Option.bind_eq_some_iff.mp h
      refine hp_V (As := [.int x2]) (rest := [.long q23]) (b := (b 0)) ⟨hx, hb, hml, hown, hts⟩ (ct_X7_barred l D ca b tw tt v x2 e28) (cwV 1 hts gX7_isMember_X7_barred rfl rfl rfl (by decide +kernel) ⟨Nat.le_of_ble_eq_true rfl, Nat.le_of_ble_eq_true rfl⟩) (va_recv hK hP (ci := 4) (q0 := 0) rfl rfl) GW.mv (GW.from hP hK hT0 hS) rfl hl.1 rfl (Nat.le_of_ble_eq_true rfl) dX7_isMember_28 ⟨Nat.zero_le _, Nat.zero_le _⟩ ?_
      refine W.eq (g2 := F0 m 31 ls [.long q28, .long q23]) rfl ?_
      refine lv_ldc2 (v := (-1)) hx hb hown (hts _ lk_X7_isMember_c104) dX7_isMember_31 ?_
      refine lv_lxor hx hb dX7_isMember_34 ?_
      refine lv_land hx hb dX7_isMember_35 ?_
      refine lv_lconst (v := 0) hx hb dX7_isMember_36 (by decide) ?_
      refine wl_ne (tgt := 45) hx hb dX7_isMember_37 dX7_isMember_38 (by decide) (fun c37 => ?_) (fun c37 => ?_)
      · replace h := ite_f h c37
        refine lv_iconst (v := 0) hx hb dX7_isMember_45 (by decide) ?_
        obtain rfl := Option.some.inj h
        exact hp_iret hx hb hr hlocks dX7_isMember_46
      · replace h := ite_t h c37
        refine lv_iconst (v := 1) hx hb dX7_isMember_41 (by decide) ?_
        refine lv_goto (tgt := 46) hx hb dX7_isMember_42 (by decide) ?_
        obtain rfl := Option.some.inj h
        exact hp_iret hx hb hr hlocks dX7_isMember_46
    · replace h := ite_t h c11
      refine lv_iconst (v := (-1)) hx hb dX7_isMember_14 (by decide) ?_
      obtain rfl := Option.some.inj h
      exact hp_iret hx hb hr hlocks dX7_isMember_15
theorem ct_X7_isMember (l : Launch) (D : va_G) (ca : Nat → ClassId) (b : Nat → Nat) (tw : Nat) (tt : Nat → Nat) (v : YS) (x1 : Int32) (x2 : Int32) {q : Int32} (h : fn_X7_isMember v x1 x2 = some q) : Hp l yX7_isMember wsX7_isMember rm_X7_isMember [.ref (b 0), .int x1, .int x2] (GW D ca tw tt (ad_of 6 b) (YW ca b v)) (some (.int q)) := by
  refine Hp.of (cc := cX7_isMember) (nL := 3) (ret := (some .int)) (own := RX7) (by decide) rfl rfl (Nat.le_of_ble_eq_true rfl) ?_
  intro p e s m below meth c ls C0 hB hl
  exact wk_X7_isMember C0 hB.2.1 hB.2.2 v hB.1 (hl := hl) (h := h)
abbrev rm_X7_isSameIdeal : Room := { frames := 3, cells := 0, slots := 0, locals := 72 }
set_option maxHeartbeats 4000000 in
set_option maxRecDepth 100000 in
theorem wk_X7_isSameIdeal {p : Program} {l : Launch} {e : Env} {s : State} {m : MethodId} {args : Array Value} {below : List Frame} {meth : Method} {c : Code} {D : va_G} {ca : Nat → ClassId} {b : Nat → Nat} {tw : Nat} {tt : Nat → Nat} (C0 : Cx p s m args meth c cX7_isSameIdeal (some .int) 3 wsX7_isSameIdeal RX7) (hK : va_K D vwCl (tys3 ca) s) (hT0 : tW tw tt (ad_of 6 b) s s.heap) (v : YS) (hP : va_P D vwCl (YW ca b v) s.heap) {q : Int32} (x1 : Int32) (x2 : Int32) (ls : Array Slot) (hl : lv_has ls 3 [(0, .ref (b 0)), (1, .int x1), (2, .int x2)]) (h : fn_X7_isSameIdeal v x1 x2 = some q) : W p l e rm_X7_isSameIdeal s m args below meth c s.heap [] 0 0 (MQ below (HQ (some (.int q))) args s 0 0 (fun _ => False)) (F0 m 0 ls []) := by
  obtain ⟨hx, hb, hr, hml, hown, hts, hlocks⟩ := id C0
  have hS : va_S (ad_of 6 b) s.heap s.heap [] := va_S.rf
  unfold fn_X7_isSameIdeal at h
  refine lv_iload_n hx hb dX7_isSameIdeal_0 rfl (lv_at hl 1 rfl) ?_
  obtain ⟨q1, e1, h⟩ := Option.bind_eq_some_iff.mp h
  refine hp_S (As := [.int x1]) (rest := []) ⟨hx, hb, hml, hown, hts⟩ (ct_X7_isSet l tw tt x1 e1) (va_cwS 1 hts gX7_isSameIdeal_X7_isSet rfl rfl rfl (by decide +kernel) ⟨Nat.le_of_ble_eq_true rfl, Nat.le_of_ble_eq_true rfl⟩) GP.mv (GP.from hT0 hS) rfl hl.1 rfl (Nat.le_of_ble_eq_true rfl) dX7_isSameIdeal_1 ⟨Nat.zero_le _, Nat.zero_le _⟩ ?_
  refine W.eq (g2 := F0 m 4 ls [.int q1]) rfl ?_
  refine lv_if_eq (tgt := 14) hx hb dX7_isSameIdeal_4 (by decide) (fun c4 => ?_) (fun c4 => ?_)
  · replace h := ite_t h c4
    refine lv_iconst (v := (-1)) hx hb dX7_isSameIdeal_14 (by decide) ?_
    refine lv_goto (tgt := 37) hx hb dX7_isSameIdeal_15 (by decide) ?_
    obtain rfl := Option.some.inj h
    exact hp_iret hx hb hr hlocks dX7_isSameIdeal_37
  · replace h := ite_f h c4
    refine lv_iload_n hx hb dX7_isSameIdeal_7 rfl (lv_at hl 2 rfl) ?_
    obtain ⟨q8, e8, h⟩ := Option.bind_eq_some_iff.mp h
    refine hp_S (As := [.int x2]) (rest := []) ⟨hx, hb, hml, hown, hts⟩ (ct_X7_isSet l tw tt x2 e8) (va_cwS 1 hts gX7_isSameIdeal_X7_isSet rfl rfl rfl (by decide +kernel) ⟨Nat.le_of_ble_eq_true rfl, Nat.le_of_ble_eq_true rfl⟩) GP.mv (GP.from hT0 hS) rfl hl.1 rfl (Nat.le_of_ble_eq_true rfl) dX7_isSameIdeal_8 ⟨Nat.zero_le _, Nat.zero_le _⟩ ?_
    refine W.eq (g2 := F0 m 11 ls [.int q8]) rfl ?_
    refine lv_if_ne (tgt := 18) hx hb dX7_isSameIdeal_11 (by decide) (fun c11 => ?_) (fun c11 => ?_)
    · replace h := ite_f h c11
      refine lv_aload_n hx hb dX7_isSameIdeal_18 rfl (lv_at hl 0 rfl) ?_
      refine lv_iload_n hx hb dX7_isSameIdeal_19 rfl (lv_at hl 1 rfl) ?_
      obtain ⟨q20, e20, h⟩ := Option.bind_eq_some_iff.mp h
      refine hp_V (As := [.int x1]) (rest := []) (b := (b 0)) ⟨hx, hb, hml, hown, hts⟩ (ct_X7_barred l D ca b tw tt v x1 e20) (cwV 1 hts gX7_isSameIdeal_X7_barred rfl rfl rfl (by decide +kernel) ⟨Nat.le_of_ble_eq_true rfl, Nat.le_of_ble_eq_true rfl⟩) (va_recv hK hP (ci := 4) (q0 := 0) rfl rfl) GW.mv (GW.from hP hK hT0 hS) rfl hl.1 rfl (Nat.le_of_ble_eq_true rfl) dX7_isSameIdeal_20 ⟨Nat.zero_le _, Nat.zero_le _⟩ ?_
      refine W.eq (g2 := F0 m 23 ls [.long q20]) rfl ?_
      refine lv_aload_n hx hb dX7_isSameIdeal_23 rfl (lv_at hl 0 rfl) ?_
      refine lv_iload_n hx hb dX7_isSameIdeal_24 rfl (lv_at hl 2 rfl) ?_
      obtain ⟨q25, e25, h⟩ := Option.bind_eq_some_iff.mp h
      refine hp_V (As := [.int x2]) (rest := [.long q20]) (b := (b 0)) ⟨hx, hb, hml, hown, hts⟩ (ct_X7_barred l D ca b tw tt v x2 e25) (cwV 1 hts gX7_isSameIdeal_X7_barred rfl rfl rfl (by decide +kernel) ⟨Nat.le_of_ble_eq_true rfl, Nat.le_of_ble_eq_true rfl⟩) (va_recv hK hP (ci := 4) (q0 := 0) rfl rfl) GW.mv (GW.from hP hK hT0 hS) rfl hl.1 rfl (Nat.le_of_ble_eq_true rfl) dX7_isSameIdeal_25 ⟨Nat.zero_le _, Nat.zero_le _⟩ ?_
      refine W.eq (g2 := F0 m 28 ls [.long q25, .long q20]) rfl ?_
      refine wl_ne (tgt := 36) hx hb dX7_isSameIdeal_28 dX7_isSameIdeal_29 (by decide) (fun c28 => ?_) (fun c28 => ?_)
      · replace h := ite_f h c28
        refine lv_iconst (v := 0) hx hb dX7_isSameIdeal_36 (by decide) ?_
        obtain rfl := Option.some.inj h
        exact hp_iret hx hb hr hlocks dX7_isSameIdeal_37
      · replace h := ite_t h c28
        refine lv_iconst (v := 1) hx hb dX7_isSameIdeal_32 (by decide) ?_
        refine lv_goto (tgt := 37) hx hb dX7_isSameIdeal_33 (by decide) ?_
        obtain rfl := Option.some.inj h
        exact hp_iret hx hb hr hlocks dX7_isSameIdeal_37
    · replace h := ite_t h c11
      refine lv_iconst (v := (-1)) hx hb dX7_isSameIdeal_14 (by decide) ?_
      refine lv_goto (tgt := 37) hx hb dX7_isSameIdeal_15 (by decide) ?_
      obtain rfl := Option.some.inj h
      exact hp_iret hx hb hr hlocks dX7_isSameIdeal_37
theorem ct_X7_isSameIdeal (l : Launch) (D : va_G) (ca : Nat → ClassId) (b : Nat → Nat) (tw : Nat) (tt : Nat → Nat) (v : YS) (x1 : Int32) (x2 : Int32) {q : Int32} (h : fn_X7_isSameIdeal v x1 x2 = some q) : Hp l yX7_isSameIdeal wsX7_isSameIdeal rm_X7_isSameIdeal [.ref (b 0), .int x1, .int x2] (GW D ca tw tt (ad_of 6 b) (YW ca b v)) (some (.int q)) := by
  refine Hp.of (cc := cX7_isSameIdeal) (nL := 3) (ret := (some .int)) (own := RX7) (by decide) rfl rfl (Nat.le_of_ble_eq_true rfl) ?_
  intro p e s m below meth c ls C0 hB hl
  exact wk_X7_isSameIdeal C0 hB.2.1 hB.2.2 v hB.1 (hl := hl) (h := h)
abbrev rm_X7_fixedVariables : Room := { frames := 3, cells := 0, slots := 0, locals := 72 }
theorem lk_X7_fixedVariables_f7 : Cond.fieldLink RX7 7 "BooleanRingModel" "n" "I" ∈ wsX7_fixedVariables := by decide +kernel
theorem ly_X7_fixedVariables_X7 : ∀ w ∈ wsX70, w ∈ wsX7_fixedVariables := by decide +kernel
set_option maxHeartbeats 4000000 in
set_option maxRecDepth 100000 in
theorem wk_X7_fixedVariables_90 {p : Program} {l : Launch} {e : Env} {s : State} {m : MethodId} {args : Array Value} {below : List Frame} {meth : Method} {c : Code} {D : va_G} {ca : Nat → ClassId} {b : Nat → Nat} {tw : Nat} {tt : Nat → Nat} (C0 : Cx p s m args meth c cX7_fixedVariables (some .int) 7 wsX7_fixedVariables RX7) (hK : va_K D vwCl (tys3 ca) s) (hT0 : tW tw tt (ad_of 6 b) s s.heap) (v : YS) (hP : va_P D vwCl (YW ca b v) s.heap) {q : Int32} (x4 : Int32) (x5 : Int32) (ls : Array Slot) (hl : lv_has ls 7 [(0, .ref (b 0)), (4, .int x4), (5, .int x5)]) (h : fn_X7_fixedVariables_90 v x4 x5 = some q) : W p l e rm_X7_fixedVariables s m args below meth c s.heap [] 0 0 (MQ below (HQ (some (.int q))) args s 0 0 (fun _ => False)) (F0 m 90 ls []) := by
  obtain ⟨hx, hb, hr, hml, hown, hts, hlocks⟩ := id C0
  have hS : va_S (ad_of 6 b) s.heap s.heap [] := va_S.rf
  unfold fn_X7_fixedVariables_90 at h
  refine lv_aload_n hx hb dX7_fixedVariables_90 rfl (lv_at hl 0 rfl) ?_
  refine va_get (D := D) (ci := 4) (v := .int (y_n v)) (C := RX7) (T := TX7) (N := 9) hx hb hts ly_X7_fixedVariables_X7 hown hK hP 0 rfl rfl 0 (by decide) (hts _ lk_X7_fixedVariables_f7) (fun _ h9 => h9) rfl dX7_fixedVariables_91 ?_
  refine lv_iload hx hb dX7_fixedVariables_94 (lv_at hl 1 rfl) ?_
  refine lv_iload hx hb dX7_fixedVariables_96 (lv_at hl 2 rfl) ?_
  refine lv_iand hx hb dX7_fixedVariables_98 ?_
  refine lv_i2l (v := (x4 &&& x5).toInt64) hx hb dX7_fixedVariables_99 rfl ?_
  obtain ⟨q100, e100, h⟩ := Option.bind_eq_some_iff.mp h
  refine hp_S (As := [.long ((x4 &&& x5).toInt64)]) (rest := [.int (y_n v)]) ⟨hx, hb, hml, hown, hts⟩ (ct_X7_many l tw tt ((x4 &&& x5).toInt64) e100) (va_cwS 1 hts gX7_fixedVariables_X7_many rfl rfl rfl (by decide +kernel) ⟨Nat.le_of_ble_eq_true rfl, Nat.le_of_ble_eq_true rfl⟩) GP.mv (GP.from hT0 hS) rfl hl.1 rfl (Nat.le_of_ble_eq_true rfl) dX7_fixedVariables_100 ⟨Nat.zero_le _, Nat.zero_le _⟩ ?_
  refine W.eq (g2 := F0 m 103 ls [.int q100, .int (y_n v)]) rfl ?_
  refine lv_isub hx hb dX7_fixedVariables_103 ?_
  obtain rfl := Option.some.inj h
  exact hp_iret hx hb hr hlocks dX7_fixedVariables_104
set_option maxHeartbeats 4000000 in
set_option maxRecDepth 100000 in
theorem wk_X7_fixedVariables_24_body {p : Program} {l : Launch} {e : Env} {s : State} {m : MethodId} {args : Array Value} {below : List Frame} {meth : Method} {c : Code} {D : va_G} {ca : Nat → ClassId} {b : Nat → Nat} {tw : Nat} {tt : Nat → Nat} (C0 : Cx p s m args meth c cX7_fixedVariables (some .int) 7 wsX7_fixedVariables RX7) (hK : va_K D vwCl (tys3 ca) s) (hT0 : tW tw tt (ad_of 6 b) s s.heap) (v : YS) (hP : va_P D vwCl (YW ca b v) s.heap) {q : Int32} (k24 : Int64 → Int32 → Int32 → Int32 → Option (Int32)) (hk24 : ∀ (x2 : Int64) (x4 : Int32) (x5 : Int32) (x6 : Int32) (ls : Array Slot) (hl : lv_has ls 7 [(0, .ref (b 0)), (2, .long x2), (4, .int x4), (5, .int x5), (6, .int x6)]) (h : k24 x2 x4 x5 x6 = some q), W p l e rm_X7_fixedVariables s m args below meth c s.heap [] 0 0 (MQ below (HQ (some (.int q))) args s 0 0 (fun _ => False)) (F0 m 24 ls [])) (x2 : Int64) (x4 : Int32) (x5 : Int32) (x6 : Int32) (ls : Array Slot) (hl : lv_has ls 7 [(0, .ref (b 0)), (2, .long x2), (4, .int x4), (5, .int x5), (6, .int x6)]) (h : fn_X7_fixedVariables_24_body v k24 x2 x4 x5 x6 = some q) : W p l e rm_X7_fixedVariables s m args below meth c s.heap [] 0 0 (MQ below (HQ (some (.int q))) args s 0 0 (fun _ => False)) (F0 m 24 ls []) := by
  obtain ⟨hx, hb, hr, hml, hown, hts, hlocks⟩ := id C0
  have hS : va_S (ad_of 6 b) s.heap s.heap [] := va_S.rf
  unfold fn_X7_fixedVariables_24_body at h
  refine lv_iload hx hb dX7_fixedVariables_24 (lv_at hl 4 rfl) ?_
  refine lv_iconst (v := 1) hx hb dX7_fixedVariables_26 (by decide) ?_
  refine lv_aload_n hx hb dX7_fixedVariables_27 rfl (lv_at hl 0 rfl) ?_
  refine va_get (D := D) (ci := 4) (v := .int (y_n v)) (C := RX7) (T := TX7) (N := 9) hx hb hts ly_X7_fixedVariables_X7 hown hK hP 0 rfl rfl 0 (by decide) (hts _ lk_X7_fixedVariables_f7) (fun _ h9 => h9) rfl dX7_fixedVariables_28 ?_
  refine lv_ishl hx hb dX7_fixedVariables_31 ?_
  refine lv_icmp_ge (tgt := 75) hx hb dX7_fixedVariables_32 (by decide) (fun c32 => ?_) (fun c32 => ?_)
  · replace h := ite_t h c32
    refine lv_iload hx hb dX7_fixedVariables_75 (lv_at hl 2 rfl) ?_
    refine lv_if_ne (tgt := 90) hx hb dX7_fixedVariables_77 (by decide) (fun c77 => ?_) (fun c77 => ?_)
    · replace h := ite_f h c77
      exact wk_X7_fixedVariables_90 C0 hK hT0 v hP (ls := ls) (hl := (lv_sub hl [0, 2, 3] rfl)) (h := h)
    · replace h := ite_t h c77
      refine lv_iload hx hb dX7_fixedVariables_80 (lv_at hl 3 rfl) ?_
      refine lv_if_ne (tgt := 90) hx hb dX7_fixedVariables_82 (by decide) (fun c82 => ?_) (fun c82 => ?_)
      · replace h := ite_f h c82
        exact wk_X7_fixedVariables_90 C0 hK hT0 v hP (ls := ls) (hl := (lv_sub hl [0, 2, 3] rfl)) (h := h)
      · replace h := ite_t h c82
        refine lv_bipush (v := (-4)) hx hb dX7_fixedVariables_85 (by decide) ?_
        refine lv_goto (tgt := 104) hx hb dX7_fixedVariables_87 (by decide) ?_
        obtain rfl := Option.some.inj h
        exact hp_iret hx hb hr hlocks dX7_fixedVariables_104
  · replace h := ite_f h c32
    refine lv_lload_n hx hb dX7_fixedVariables_35 rfl (lv_at hl 1 rfl) ?_
    refine lv_iload hx hb dX7_fixedVariables_36 (lv_at hl 4 rfl) ?_
    obtain ⟨q38, e38, h⟩ := Option.bind_eq_some_iff.mp h
    refine hp_S (As := [.long x2, .int x6]) (rest := []) ⟨hx, hb, hml, hown, hts⟩ (ct_X7_has1 l tw tt x2 x6 e38) (va_cwS 2 hts gX7_fixedVariables_X7_has1 rfl rfl rfl (by decide +kernel) ⟨Nat.le_of_ble_eq_true rfl, Nat.le_of_ble_eq_true rfl⟩) GP.mv (GP.from hT0 hS) rfl hl.1 rfl (Nat.le_of_ble_eq_true rfl) dX7_fixedVariables_38 ⟨Nat.zero_le _, Nat.zero_le _⟩ ?_
    refine W.eq (g2 := F0 m 41 ls [.int q38]) rfl ?_
    refine lv_if_ne (tgt := 69) hx hb dX7_fixedVariables_41 (by decide) (fun c41 => ?_) (fun c41 => ?_)
    · replace h := ite_f h c41
      refine lv_iinc (v := (x6 + 1)) (lv' := [(6, .int (x6 + 1)), (0, .ref (b 0)), (2, .long x2), (4, .int x4), (5, .int x5)]) hx hb dX7_fixedVariables_69 hl (k := 4) rfl rfl (by decide) rfl (fun ls hl => ?_)
      refine lv_goto (tgt := 24) hx hb dX7_fixedVariables_72 (by decide) ?_
      exact hk24 x2 x4 x5 (x6 + 1) ls (lv_sub hl [1, 2, 3, 4, 0] rfl) h
    · replace h := ite_t h c41
      refine lv_iload hx hb dX7_fixedVariables_44 (lv_at hl 2 rfl) ?_
      refine lv_iload hx hb dX7_fixedVariables_46 (lv_at hl 4 rfl) ?_
      refine lv_ior hx hb dX7_fixedVariables_48 ?_
      refine lv_istore (lv' := [(4, .int (x4 ||| x6)), (0, .ref (b 0)), (2, .long x2), (5, .int x5), (6, .int x6)]) hx hb dX7_fixedVariables_49 hl (by decide) rfl (fun ls hl => ?_)
      refine lv_iload hx hb dX7_fixedVariables_51 (lv_at hl 3 rfl) ?_
      refine lv_iload hx hb dX7_fixedVariables_53 (lv_at hl 4 rfl) ?_
      refine lv_iconst (v := (-1)) hx hb dX7_fixedVariables_55 (by decide) ?_
      refine lv_ixor hx hb dX7_fixedVariables_56 ?_
      refine lv_iconst (v := 1) hx hb dX7_fixedVariables_57 (by decide) ?_
      refine lv_aload_n hx hb dX7_fixedVariables_58 rfl (lv_at hl 1 rfl) ?_
      refine va_get (D := D) (ci := 4) (v := .int (y_n v)) (C := RX7) (T := TX7) (N := 9) hx hb hts ly_X7_fixedVariables_X7 hown hK hP 0 rfl rfl 0 (by decide) (hts _ lk_X7_fixedVariables_f7) (fun _ h9 => h9) rfl dX7_fixedVariables_59 ?_
      refine lv_ishl hx hb dX7_fixedVariables_62 ?_
      refine lv_iconst (v := 1) hx hb dX7_fixedVariables_63 (by decide) ?_
      refine lv_isub hx hb dX7_fixedVariables_64 ?_
      refine lv_iand hx hb dX7_fixedVariables_65 ?_
      refine lv_ior hx hb dX7_fixedVariables_66 ?_
      refine lv_istore (lv' := [(5, .int (x5 ||| ((x6 ^^^ (-1)) &&& ((ish 1 (y_n v)) - 1)))), (4, .int (x4 ||| x6)), (0, .ref (b 0)), (2, .long x2), (6, .int x6)]) hx hb dX7_fixedVariables_67 hl (by decide) rfl (fun ls hl => ?_)
      refine lv_iinc (v := (x6 + 1)) (lv' := [(6, .int (x6 + 1)), (5, .int (x5 ||| ((x6 ^^^ (-1)) &&& ((ish 1 (y_n v)) - 1)))), (4, .int (x4 ||| x6)), (0, .ref (b 0)), (2, .long x2)]) hx hb dX7_fixedVariables_69 hl (k := 4) rfl rfl (by decide) rfl (fun ls hl => ?_)
      refine lv_goto (tgt := 24) hx hb dX7_fixedVariables_72 (by decide) ?_
      exact hk24 x2 (x4 ||| x6) (x5 ||| ((x6 ^^^ (-1)) &&& ((ish 1 (y_n v)) - 1))) (x6 + 1) ls (lv_sub hl [3, 4, 2, 1, 0] rfl) h
set_option maxHeartbeats 4000000 in
set_option maxRecDepth 100000 in
theorem wk_X7_fixedVariables_24 {p : Program} {l : Launch} {e : Env} {s : State} {m : MethodId} {args : Array Value} {below : List Frame} {meth : Method} {c : Code} {D : va_G} {ca : Nat → ClassId} {b : Nat → Nat} {tw : Nat} {tt : Nat → Nat} (C0 : Cx p s m args meth c cX7_fixedVariables (some .int) 7 wsX7_fixedVariables RX7) (hK : va_K D vwCl (tys3 ca) s) (hT0 : tW tw tt (ad_of 6 b) s s.heap) (v : YS) (hP : va_P D vwCl (YW ca b v) s.heap) {q : Int32} : ∀ (n : Nat) (x2 : Int64) (x4 : Int32) (x5 : Int32) (x6 : Int32) (ls : Array Slot) (hl : lv_has ls 7 [(0, .ref (b 0)), (2, .long x2), (4, .int x4), (5, .int x5), (6, .int x6)]) (h : fn_X7_fixedVariables_24 v n x2 x4 x5 x6 = some q), W p l e rm_X7_fixedVariables s m args below meth c s.heap [] 0 0 (MQ below (HQ (some (.int q))) args s 0 0 (fun _ => False)) (F0 m 24 ls []) := by
  intro n
  induction n with
  | zero => intro x2 x4 x5 x6 ls hl h; unfold fn_X7_fixedVariables_24 at h; cases h
  | succ n ih => intro x2 x4 x5 x6 ls hl h; exact wk_X7_fixedVariables_24_body C0 hK hT0 v hP (k24 := fn_X7_fixedVariables_24 v n) (hk24 := ih) (hl := hl) (h := h)
set_option maxHeartbeats 4000000 in
set_option maxRecDepth 100000 in
theorem wk_X7_fixedVariables {p : Program} {l : Launch} {e : Env} {s : State} {m : MethodId} {args : Array Value} {below : List Frame} {meth : Method} {c : Code} {D : va_G} {ca : Nat → ClassId} {b : Nat → Nat} {tw : Nat} {tt : Nat → Nat} (C0 : Cx p s m args meth c cX7_fixedVariables (some .int) 7 wsX7_fixedVariables RX7) (hK : va_K D vwCl (tys3 ca) s) (hT0 : tW tw tt (ad_of 6 b) s s.heap) (v : YS) (hP : va_P D vwCl (YW ca b v) s.heap) {q : Int32} (x1 : Int32) (ls : Array Slot) (hl : lv_has ls 7 [(0, .ref (b 0)), (1, .int x1)]) (h : fn_X7_fixedVariables v x1 = some q) : W p l e rm_X7_fixedVariables s m args below meth c s.heap [] 0 0 (MQ below (HQ (some (.int q))) args s 0 0 (fun _ => False)) (F0 m 0 ls []) := by
  obtain ⟨hx, hb, hr, hml, hown, hts, hlocks⟩ := id C0
  have hS : va_S (ad_of 6 b) s.heap s.heap [] := va_S.rf
  unfold fn_X7_fixedVariables at h
  refine lv_iload_n hx hb dX7_fixedVariables_0 rfl (lv_at hl 1 rfl) ?_
  obtain ⟨q1, e1, h⟩ := Option.bind_eq_some_iff.mp h
  refine hp_S (As := [.int x1]) (rest := []) ⟨hx, hb, hml, hown, hts⟩ (ct_X7_isSet l tw tt x1 e1) (va_cwS 1 hts gX7_fixedVariables_X7_isSet rfl rfl rfl (by decide +kernel) ⟨Nat.le_of_ble_eq_true rfl, Nat.le_of_ble_eq_true rfl⟩) GP.mv (GP.from hT0 hS) rfl hl.1 rfl (Nat.le_of_ble_eq_true rfl) dX7_fixedVariables_1 ⟨Nat.zero_le _, Nat.zero_le _⟩ ?_
  refine W.eq (g2 := F0 m 4 ls [.int q1]) rfl ?_
  refine lv_if_ne (tgt := 9) hx hb dX7_fixedVariables_4 (by decide) (fun c4 => ?_) (fun c4 => ?_)
  · replace h := ite_f h c4
    refine lv_aload_n hx hb dX7_fixedVariables_9 rfl (lv_at hl 0 rfl) ?_
    refine lv_iload_n hx hb dX7_fixedVariables_10 rfl (lv_at hl 1 rfl) ?_
    obtain ⟨q11, e11, h⟩ := Option.bind_eq_some_iff.mp h
    refine hp_V (As := [.int x1]) (rest := []) (b := (b 0)) ⟨hx, hb, hml, hown, hts⟩ (ct_X7_barred l D ca b tw tt v x1 e11) (cwV 1 hts gX7_fixedVariables_X7_barred rfl rfl rfl (by decide +kernel) ⟨Nat.le_of_ble_eq_true rfl, Nat.le_of_ble_eq_true rfl⟩) (va_recv hK hP (ci := 4) (q0 := 0) rfl rfl) GW.mv (GW.from hP hK hT0 hS) rfl hl.1 rfl (Nat.le_of_ble_eq_true rfl) dX7_fixedVariables_11 ⟨Nat.zero_le _, Nat.zero_le _⟩ ?_
    refine W.eq (g2 := F0 m 14 ls [.long q11]) rfl ?_
    refine lv_lstore_n (lv' := [(2, .long q11), (0, .ref (b 0)), (1, .int x1)]) hx hb dX7_fixedVariables_14 rfl hl (by decide) rfl (fun ls hl => ?_)
    refine lv_iconst (v := 0) hx hb dX7_fixedVariables_15 (by decide) ?_
    refine lv_istore (lv' := [(4, .int 0), (2, .long q11), (0, .ref (b 0)), (1, .int x1)]) hx hb dX7_fixedVariables_16 hl (by decide) rfl (fun ls hl => ?_)
    refine lv_iconst (v := 0) hx hb dX7_fixedVariables_18 (by decide) ?_
    refine lv_istore (lv' := [(5, .int 0), (4, .int 0), (2, .long q11), (0, .ref (b 0)), (1, .int x1)]) hx hb dX7_fixedVariables_19 hl (by decide) rfl (fun ls hl => ?_)
    refine lv_iconst (v := 0) hx hb dX7_fixedVariables_21 (by decide) ?_
    refine lv_istore (lv' := [(6, .int 0), (5, .int 0), (4, .int 0), (2, .long q11), (0, .ref (b 0)), (1, .int x1)]) hx hb dX7_fixedVariables_22 hl (by decide) rfl (fun ls hl => ?_)
    exact wk_X7_fixedVariables_24 C0 hK hT0 v hP  FU q11 0 0 0 ls (lv_sub hl [4, 3, 2, 1, 0] rfl) h
  · replace h := ite_t h c4
    refine lv_iconst (v := (-1)) hx hb dX7_fixedVariables_7 (by decide) ?_
    obtain rfl := Option.some.inj h
    exact hp_iret hx hb hr hlocks dX7_fixedVariables_8
theorem ct_X7_fixedVariables (l : Launch) (D : va_G) (ca : Nat → ClassId) (b : Nat → Nat) (tw : Nat) (tt : Nat → Nat) (v : YS) (x1 : Int32) {q : Int32} (h : fn_X7_fixedVariables v x1 = some q) : Hp l yX7_fixedVariables wsX7_fixedVariables rm_X7_fixedVariables [.ref (b 0), .int x1] (GW D ca tw tt (ad_of 6 b) (YW ca b v)) (some (.int q)) := by
  refine Hp.of (cc := cX7_fixedVariables) (nL := 7) (ret := (some .int)) (own := RX7) (by decide) rfl rfl (Nat.le_of_ble_eq_true rfl) ?_
  intro p e s m below meth c ls C0 hB hl
  exact wk_X7_fixedVariables C0 hB.2.1 hB.2.2 v hB.1 (hl := hl) (h := h)
abbrev rm_X7_type : Room := { frames := 1, cells := 0, slots := 0, locals := 22 }
theorem lk_X7_type_f114 : Cond.fieldLink RX7 114 "BooleanRingModel" "typed" "I" ∈ wsX7_type := by decide +kernel
theorem lk_X7_type_f20 : Cond.fieldLink RX7 20 "BooleanRingModel" "text" "[C" ∈ wsX7_type := by decide +kernel
theorem ly_X7_type_X7 : ∀ w ∈ wsX70, w ∈ wsX7_type := by decide +kernel
set_option maxHeartbeats 4000000 in
set_option maxRecDepth 100000 in
theorem wk_X7_type {p : Program} {l : Launch} {e : Env} {s : State} {m : MethodId} {args : Array Value} {below : List Frame} {meth : Method} {c : Code} {D : va_G} {ca : Nat → ClassId} {b : Nat → Nat} {tw : Nat} {tt : Nat → Nat} (C0 : Cx p s m args meth c cX7_type (some .int) 2 wsX7_type RX7) (hap : ap_ok 6 b) (hK : va_K D vwCl (tys3 ca) s) (hT0 : tW tw tt (ad_of 6 b) s s.heap) {q : Int32 × YS} (v : YS) (H : Heap) (locs : List Loc) (x1 : Int32) (ls : Array Slot) (hP : va_P D vwCl (YW ca b v) H) (hS : va_S (ad_of 6 b) s.heap H locs) (hl : lv_has ls 2 [(0, .ref (b 0)), (1, .int x1)]) (h : fn_X7_type v x1 = some q) : W p l e rm_X7_type s m args below meth c H locs 0 0 (MQ below (PQ (some (.int q.1)) (fun H => va_P D vwCl (YW ca b q.2) H) (ad_of 6 b)) args s 0 0 (ad_of 6 b)) (F0 m 0 ls []) := by
  obtain ⟨hx, hb, hr, hml, hown, hts, hlocks⟩ := id C0
  have hD0 := fun v => YW_D (ca := ca) hap v
  unfold fn_X7_type at h
  refine lv_iload_n hx hb dX7_type_0 rfl (lv_at hl 1 rfl) ?_
  refine lv_bipush (v := 32) hx hb dX7_type_1 (by decide) ?_
  refine lv_bipush (v := 126) hx hb dX7_type_3 (by decide) ?_
  obtain ⟨q5, e5, h⟩ := Option.bind_eq_some_iff.mp h
  refine hp_S (As := [.int x1, .int 32, .int 126]) (rest := []) ⟨hx, hb, hml, hown, hts⟩ (ct_X7_in l tw tt x1 32 126 e5) (va_cwS 3 hts gX7_type_X7_in rfl rfl rfl (by decide +kernel) ⟨Nat.le_of_ble_eq_true rfl, Nat.le_of_ble_eq_true rfl⟩) GP.mv (GP.from hT0 hS) rfl hl.1 rfl (Nat.le_of_ble_eq_true rfl) dX7_type_5 ⟨Nat.zero_le _, Nat.zero_le _⟩ ?_
  refine W.eq (g2 := F0 m 8 ls [.int q5]) rfl ?_
  refine lv_if_ne (tgt := 13) hx hb dX7_type_8 (by decide) (fun c8 => ?_) (fun c8 => ?_)
  · replace h := ite_f h c8
    refine lv_aload_n hx hb dX7_type_13 rfl (lv_at hl 0 rfl) ?_
    refine va_get (D := D) (ci := 4) (v := .int (y_typed v)) (C := RX7) (T := TX7) (N := 9) hx hb hts ly_X7_type_X7 hown hK hP 0 rfl rfl 5 (by decide) (hts _ lk_X7_type_f114) (fun _ h9 => h9) rfl dX7_type_14 ?_
    refine lv_bipush (v := 60) hx hb dX7_type_17 (by decide) ?_
    refine lv_icmp_ne (tgt := 25) hx hb dX7_type_19 (by decide) (fun c19 => ?_) (fun c19 => ?_)
    · replace h := ite_f h c19
      refine lv_aload_n hx hb dX7_type_25 rfl (lv_at hl 0 rfl) ?_
      refine va_get (D := D) (ci := 4) (v := .ref (b 3)) (C := RX7) (T := TX7) (N := 9) hx hb hts ly_X7_type_X7 hown hK hP 0 rfl rfl 4 (by decide) (hts _ lk_X7_type_f20) (fun _ h9 => h9) rfl dX7_type_26 ?_
      refine lv_aload_n hx hb dX7_type_29 rfl (lv_at hl 0 rfl) ?_
      refine va_get (D := D) (ci := 4) (v := .int (y_typed v)) (C := RX7) (T := TX7) (N := 9) hx hb hts ly_X7_type_X7 hown hK hP 0 rfl rfl 5 (by decide) (hts _ lk_X7_type_f114) (fun _ h9 => h9) rfl dX7_type_30 ?_
      refine lv_iload_n hx hb dX7_type_33 rfl (lv_at hl 1 rfl) ?_
      refine lv_i2c (v := (tch x1)) hx hb dX7_type_34 rfl ?_
      obtain ⟨g35, e35, h⟩ := Option.bind_eq_some_iff.mp h
      refine wr_cast hx hb hK hP (hD0 v) hS 3 2 e35 rfl rfl dX7_type_35 (fun H locs hP hS => ?_)
      have hP : va_P D vwCl (YW ca b (ys_text v g35)) H := hP
      refine lv_aload_n hx hb dX7_type_36 rfl (lv_at hl 0 rfl) ?_
      refine lv_dup hx hb dX7_type_37 rfl ?_
      refine va_get (D := D) (ci := 4) (v := .int (y_typed v)) (C := RX7) (T := TX7) (N := 9) hx hb hts ly_X7_type_X7 hown hK hP 0 rfl rfl 5 (by decide) (hts _ lk_X7_type_f114) (fun _ h9 => h9) rfl dX7_type_38 ?_
      refine lv_iconst (v := 1) hx hb dX7_type_41 (by decide) ?_
      refine lv_iadd hx hb dX7_type_42 ?_
      refine va_put (D := D) (ci := 4) (v := .int ((y_typed v) + 1)) (ty := .int) (C := RX7) (T := TX7) (N := 9) hx hb hts ly_X7_type_X7 tyX7 tyX7_ok nmX7 hown hK hP (hD0 (ys_text v g35)) hS 0 rfl rfl 5 (by decide) (hts _ lk_X7_type_f114) (fun _ h9 => h9) rfl (by decide +kernel) rfl rfl (Nat.le_of_ble_eq_true rfl) dX7_type_43 (fun H locs hP _ hS => ?_)
      have hP : va_P D vwCl (YW ca b (ys_typed (ys_text v g35) ((y_typed v) + 1))) H := hP
      refine lv_aload_n hx hb dX7_type_46 rfl (lv_at hl 0 rfl) ?_
      refine va_get (D := D) (ci := 4) (v := .int ((y_typed v) + 1)) (C := RX7) (T := TX7) (N := 9) hx hb hts ly_X7_type_X7 hown hK hP 0 rfl rfl 5 (by decide) (hts _ lk_X7_type_f114) (fun _ h9 => h9) rfl dX7_type_47 ?_
      obtain rfl := Option.some.inj h
      exact mp_iret hx hb hr hlocks hP hS dX7_type_50
    · replace h := ite_t h c19
      refine lv_bipush (v := (-3)) hx hb dX7_type_22 (by decide) ?_
      obtain rfl := Option.some.inj h
      exact mp_iret hx hb hr hlocks hP hS dX7_type_24
  · replace h := ite_t h c8
    refine lv_iconst (v := (-1)) hx hb dX7_type_11 (by decide) ?_
    obtain rfl := Option.some.inj h
    exact mp_iret hx hb hr hlocks hP hS dX7_type_12
theorem ct_X7_type (l : Launch) (D : va_G) (ca : Nat → ClassId) (b : Nat → Nat) (tw : Nat) (tt : Nat → Nat) (hap : ap_ok 6 b) (v : YS) (x1 : Int32) {q : Int32 × YS} (h : fn_X7_type v x1 = some q) : Mp l yX7_type wsX7_type rm_X7_type [.ref (b 0), .int x1] (GW D ca tw tt (ad_of 6 b) (YW ca b v)) (some (.int q.1)) (fun H => va_P D vwCl (YW ca b q.2) H) (ad_of 6 b) := by
  refine Mp.of (cc := cX7_type) (nL := 2) (ret := (some .int)) (own := RX7) (by decide) rfl rfl (Nat.le_of_ble_eq_true rfl) ?_
  intro p e s m below meth c ls C0 hB hl
  exact wk_X7_type C0 hap hB.2.1 hB.2.2 (hP := hB.1) (hS := va_S.rf) (hl := hl) (h := h)
abbrev rm_X7_clearText : Room := { frames := 0, cells := 0, slots := 0, locals := 0 }
theorem lk_X7_clearText_f114 : Cond.fieldLink RX7 114 "BooleanRingModel" "typed" "I" ∈ wsX7_clearText := by decide +kernel
theorem ly_X7_clearText_X7 : ∀ w ∈ wsX70, w ∈ wsX7_clearText := by decide +kernel
set_option maxHeartbeats 4000000 in
set_option maxRecDepth 100000 in
theorem wk_X7_clearText {p : Program} {l : Launch} {e : Env} {s : State} {m : MethodId} {args : Array Value} {below : List Frame} {meth : Method} {c : Code} {D : va_G} {ca : Nat → ClassId} {b : Nat → Nat} {tw : Nat} {tt : Nat → Nat} (C0 : Cx p s m args meth c cX7_clearText (some .int) 2 wsX7_clearText RX7) (hap : ap_ok 6 b) (hK : va_K D vwCl (tys3 ca) s) (hT0 : tW tw tt (ad_of 6 b) s s.heap) {q : Int32 × YS} (v : YS) (H : Heap) (locs : List Loc) (ls : Array Slot) (hP : va_P D vwCl (YW ca b v) H) (hS : va_S (ad_of 6 b) s.heap H locs) (hl : lv_has ls 2 [(0, .ref (b 0))]) (h : fn_X7_clearText v  = some q) : W p l e rm_X7_clearText s m args below meth c H locs 0 0 (MQ below (PQ (some (.int q.1)) (fun H => va_P D vwCl (YW ca b q.2) H) (ad_of 6 b)) args s 0 0 (ad_of 6 b)) (F0 m 0 ls []) := by
  obtain ⟨hx, hb, hr, hml, hown, hts, hlocks⟩ := id C0
  have hD0 := fun v => YW_D (ca := ca) hap v
  unfold fn_X7_clearText at h
  refine lv_aload_n hx hb dX7_clearText_0 rfl (lv_at hl 0 rfl) ?_
  refine va_get (D := D) (ci := 4) (v := .int (y_typed v)) (C := RX7) (T := TX7) (N := 9) hx hb hts ly_X7_clearText_X7 hown hK hP 0 rfl rfl 5 (by decide) (hts _ lk_X7_clearText_f114) (fun _ h9 => h9) rfl dX7_clearText_1 ?_
  refine lv_istore_n (lv' := [(1, .int (y_typed v)), (0, .ref (b 0))]) hx hb dX7_clearText_4 rfl hl (by decide) rfl (fun ls hl => ?_)
  refine lv_aload_n hx hb dX7_clearText_5 rfl (lv_at hl 1 rfl) ?_
  refine lv_iconst (v := 0) hx hb dX7_clearText_6 (by decide) ?_
  refine va_put (D := D) (ci := 4) (v := .int 0) (ty := .int) (C := RX7) (T := TX7) (N := 9) hx hb hts ly_X7_clearText_X7 tyX7 tyX7_ok nmX7 hown hK hP (hD0 v) hS 0 rfl rfl 5 (by decide) (hts _ lk_X7_clearText_f114) (fun _ h9 => h9) rfl (by decide +kernel) rfl rfl (Nat.le_of_ble_eq_true rfl) dX7_clearText_7 (fun H locs hP _ hS => ?_)
  have hP : va_P D vwCl (YW ca b (ys_typed v 0)) H := hP
  refine lv_iload_n hx hb dX7_clearText_10 rfl (lv_at hl 0 rfl) ?_
  obtain rfl := Option.some.inj h
  exact mp_iret hx hb hr hlocks hP hS dX7_clearText_11
theorem ct_X7_clearText (l : Launch) (D : va_G) (ca : Nat → ClassId) (b : Nat → Nat) (tw : Nat) (tt : Nat → Nat) (hap : ap_ok 6 b) (v : YS) {q : Int32 × YS} (h : fn_X7_clearText v  = some q) : Mp l yX7_clearText wsX7_clearText rm_X7_clearText [.ref (b 0)] (GW D ca tw tt (ad_of 6 b) (YW ca b v)) (some (.int q.1)) (fun H => va_P D vwCl (YW ca b q.2) H) (ad_of 6 b) := by
  refine Mp.of (cc := cX7_clearText) (nL := 2) (ret := (some .int)) (own := RX7) (by decide) rfl rfl (Nat.le_of_ble_eq_true rfl) ?_
  intro p e s m below meth c ls C0 hB hl
  exact wk_X7_clearText C0 hap hB.2.1 hB.2.2 (hP := hB.1) (hS := va_S.rf) (hl := hl) (h := h)
abbrev rm_X7_behind : Room := { frames := 1, cells := 0, slots := 0, locals := 22 }
theorem lk_X7_behind_f7 : Cond.fieldLink RX7 7 "BooleanRingModel" "n" "I" ∈ wsX7_behind := by decide +kernel
theorem ly_X7_behind_X7 : ∀ w ∈ wsX70, w ∈ wsX7_behind := by decide +kernel
set_option maxHeartbeats 4000000 in
set_option maxRecDepth 100000 in
theorem wk_X7_behind_59 {p : Program} {l : Launch} {e : Env} {s : State} {m : MethodId} {args : Array Value} {below : List Frame} {meth : Method} {c : Code} {D : va_G} {ca : Nat → ClassId} {b : Nat → Nat} {tw : Nat} {tt : Nat → Nat} (C0 : Cx p s m args meth c cX7_behind (some .int) 4 wsX7_behind RX7) (hK : va_K D vwCl (tys3 ca) s) (hT0 : tW tw tt (ad_of 6 b) s s.heap) (v : YS) (hP : va_P D vwCl (YW ca b v) s.heap) {q : Int32} (x3 : Int32) (y0 : Int32) (y1 : Int32) (ls : Array Slot) (hl : lv_has ls 4 [(0, .ref (b 0)), (3, .int x3)]) (h : fn_X7_behind_59 v x3 y0 y1 = some q) : W p l e rm_X7_behind s m args below meth c s.heap [] 0 0 (MQ below (HQ (some (.int q))) args s 0 0 (fun _ => False)) (F0 m 59 ls [.int y0, .int y1]) := by
  obtain ⟨hx, hb, hr, hml, hown, hts, hlocks⟩ := id C0
  have hS : va_S (ad_of 6 b) s.heap s.heap [] := va_S.rf
  unfold fn_X7_behind_59 at h
  refine lv_aload_n hx hb dX7_behind_59 rfl (lv_at hl 0 rfl) ?_
  refine va_get (D := D) (ci := 4) (v := .int (y_n v)) (C := RX7) (T := TX7) (N := 9) hx hb hts ly_X7_behind_X7 hown hK hP 0 rfl rfl 0 (by decide) (hts _ lk_X7_behind_f7) (fun _ h9 => h9) rfl dX7_behind_60 ?_
  refine lv_iconst (v := 1) hx hb dX7_behind_63 (by decide) ?_
  refine lv_isub hx hb dX7_behind_64 ?_
  obtain ⟨q65, e65, h⟩ := Option.bind_eq_some_iff.mp h
  refine hp_S (As := [.int y1, .int y0, .int ((y_n v) - 1)]) (rest := []) ⟨hx, hb, hml, hown, hts⟩ (ct_X7_in l tw tt y1 y0 ((y_n v) - 1) e65) (va_cwS 3 hts gX7_behind_X7_in rfl rfl rfl (by decide +kernel) ⟨Nat.le_of_ble_eq_true rfl, Nat.le_of_ble_eq_true rfl⟩) GP.mv (GP.from hT0 hS) rfl hl.1 rfl (Nat.le_of_ble_eq_true rfl) dX7_behind_65 ⟨Nat.zero_le _, Nat.zero_le _⟩ ?_
  refine W.eq (g2 := F0 m 68 ls [.int q65]) rfl ?_
  refine lv_if_eq (tgt := 75) hx hb dX7_behind_68 (by decide) (fun c68 => ?_) (fun c68 => ?_)
  · replace h := ite_t h c68
    refine lv_bipush (v := (-2)) hx hb dX7_behind_75 (by decide) ?_
    obtain rfl := Option.some.inj h
    exact hp_iret hx hb hr hlocks dX7_behind_77
  · replace h := ite_f h c68
    refine lv_iload_n hx hb dX7_behind_71 rfl (lv_at hl 1 rfl) ?_
    refine lv_goto (tgt := 77) hx hb dX7_behind_72 (by decide) ?_
    obtain rfl := Option.some.inj h
    exact hp_iret hx hb hr hlocks dX7_behind_77
set_option maxHeartbeats 4000000 in
set_option maxRecDepth 100000 in
theorem wk_X7_behind_41 {p : Program} {l : Launch} {e : Env} {s : State} {m : MethodId} {args : Array Value} {below : List Frame} {meth : Method} {c : Code} {D : va_G} {ca : Nat → ClassId} {b : Nat → Nat} {tw : Nat} {tt : Nat → Nat} (C0 : Cx p s m args meth c cX7_behind (some .int) 4 wsX7_behind RX7) (hK : va_K D vwCl (tys3 ca) s) (hT0 : tW tw tt (ad_of 6 b) s s.heap) (v : YS) (hP : va_P D vwCl (YW ca b v) s.heap) {q : Int32} (x1 : Int32) (x3 : Int32) (ls : Array Slot) (hl : lv_has ls 4 [(0, .ref (b 0)), (1, .int x1), (3, .int x3)]) (h : fn_X7_behind_41 v x1 x3 = some q) : W p l e rm_X7_behind s m args below meth c s.heap [] 0 0 (MQ below (HQ (some (.int q))) args s 0 0 (fun _ => False)) (F0 m 41 ls []) := by
  obtain ⟨hx, hb, hr, hml, hown, hts, hlocks⟩ := id C0
  have hS : va_S (ad_of 6 b) s.heap s.heap [] := va_S.rf
  unfold fn_X7_behind_41 at h
  refine lv_iload_n hx hb dX7_behind_41 rfl (lv_at hl 1 rfl) ?_
  refine lv_bipush (v := 6) hx hb dX7_behind_42 (by decide) ?_
  refine lv_icmp_ge (tgt := 75) hx hb dX7_behind_44 (by decide) (fun c44 => ?_) (fun c44 => ?_)
  · replace h := ite_t h c44
    refine lv_bipush (v := (-2)) hx hb dX7_behind_75 (by decide) ?_
    obtain rfl := Option.some.inj h
    exact hp_iret hx hb hr hlocks dX7_behind_77
  · replace h := ite_f h c44
    refine lv_iload_n hx hb dX7_behind_47 rfl (lv_at hl 2 rfl) ?_
    refine lv_iload_n hx hb dX7_behind_48 rfl (lv_at hl 1 rfl) ?_
    refine lv_if_ge (tgt := 56) hx hb dX7_behind_49 (by decide) (fun c49 => ?_) (fun c49 => ?_)
    · replace h := ite_t h c49
      refine lv_iload_n hx hb dX7_behind_56 rfl (lv_at hl 1 rfl) ?_
      refine lv_iconst (v := 1) hx hb dX7_behind_57 (by decide) ?_
      refine lv_iadd hx hb dX7_behind_58 ?_
      exact wk_X7_behind_59 C0 hK hT0 v hP (ls := ls) (hl := (lv_sub hl [0, 2] rfl)) (h := h)
    · replace h := ite_f h c49
      refine lv_iconst (v := 0) hx hb dX7_behind_52 (by decide) ?_
      refine lv_goto (tgt := 59) hx hb dX7_behind_53 (by decide) ?_
      exact wk_X7_behind_59 C0 hK hT0 v hP (ls := ls) (hl := (lv_sub hl [0, 2] rfl)) (h := h)
set_option maxHeartbeats 4000000 in
set_option maxRecDepth 100000 in
theorem wk_X7_behind {p : Program} {l : Launch} {e : Env} {s : State} {m : MethodId} {args : Array Value} {below : List Frame} {meth : Method} {c : Code} {D : va_G} {ca : Nat → ClassId} {b : Nat → Nat} {tw : Nat} {tt : Nat → Nat} (C0 : Cx p s m args meth c cX7_behind (some .int) 4 wsX7_behind RX7) (hK : va_K D vwCl (tys3 ca) s) (hT0 : tW tw tt (ad_of 6 b) s s.heap) (v : YS) (hP : va_P D vwCl (YW ca b v) s.heap) {q : Int32} (x1 : Int32) (x2 : Int32) (ls : Array Slot) (hl : lv_has ls 4 [(0, .ref (b 0)), (1, .int x1), (2, .int x2)]) (h : fn_X7_behind v x1 x2 = some q) : W p l e rm_X7_behind s m args below meth c s.heap [] 0 0 (MQ below (HQ (some (.int q))) args s 0 0 (fun _ => False)) (F0 m 0 ls []) := by
  obtain ⟨hx, hb, hr, hml, hown, hts, hlocks⟩ := id C0
  have hS : va_S (ad_of 6 b) s.heap s.heap [] := va_S.rf
  unfold fn_X7_behind at h
  refine lv_iload_n hx hb dX7_behind_0 rfl (lv_at hl 2 rfl) ?_
  refine lv_bipush (v := 43) hx hb dX7_behind_1 (by decide) ?_
  refine lv_icmp_ne (tgt := 17) hx hb dX7_behind_3 (by decide) (fun c3 => ?_) (fun c3 => ?_)
  · replace h := ite_f h c3
    refine lv_iload_n hx hb dX7_behind_17 rfl (lv_at hl 2 rfl) ?_
    refine lv_bipush (v := 97) hx hb dX7_behind_18 (by decide) ?_
    refine lv_isub hx hb dX7_behind_20 ?_
    refine lv_istore_n (lv' := [(3, .int (x2 - 97)), (0, .ref (b 0)), (1, .int x1), (2, .int x2)]) hx hb dX7_behind_21 rfl hl (by decide) rfl (fun ls hl => ?_)
    refine lv_iload_n hx hb dX7_behind_22 rfl (lv_at hl 2 rfl) ?_
    refine lv_if_ge (tgt := 41) hx hb dX7_behind_23 (by decide) (fun c23 => ?_) (fun c23 => ?_)
    · replace h := ite_t h c23
      exact wk_X7_behind_41 C0 hK hT0 v hP (ls := ls) (hl := (lv_sub hl [1, 2, 0] rfl)) (h := h)
    · replace h := ite_f h c23
      refine lv_iload_n hx hb dX7_behind_26 rfl (lv_at hl 3 rfl) ?_
      refine lv_bipush (v := 48) hx hb dX7_behind_27 (by decide) ?_
      refine lv_icmp_eq (tgt := 38) hx hb dX7_behind_29 (by decide) (fun c29 => ?_) (fun c29 => ?_)
      · replace h := ite_t h c29
        refine lv_bipush (v := 6) hx hb dX7_behind_38 (by decide) ?_
        obtain rfl := Option.some.inj h
        exact hp_iret hx hb hr hlocks dX7_behind_40
      · replace h := ite_f h c29
        refine lv_iload_n hx hb dX7_behind_32 rfl (lv_at hl 3 rfl) ?_
        refine lv_bipush (v := 49) hx hb dX7_behind_33 (by decide) ?_
        refine lv_icmp_ne (tgt := 41) hx hb dX7_behind_35 (by decide) (fun c35 => ?_) (fun c35 => ?_)
        · replace h := ite_f h c35
          exact wk_X7_behind_41 C0 hK hT0 v hP (ls := ls) (hl := (lv_sub hl [1, 2, 0] rfl)) (h := h)
        · replace h := ite_t h c35
          refine lv_bipush (v := 6) hx hb dX7_behind_38 (by decide) ?_
          obtain rfl := Option.some.inj h
          exact hp_iret hx hb hr hlocks dX7_behind_40
  · replace h := ite_t h c3
    refine lv_iload_n hx hb dX7_behind_6 rfl (lv_at hl 1 rfl) ?_
    refine lv_if_lt (tgt := 14) hx hb dX7_behind_7 (by decide) (fun c7 => ?_) (fun c7 => ?_)
    · replace h := ite_t h c7
      refine lv_bipush (v := (-2)) hx hb dX7_behind_14 (by decide) ?_
      obtain rfl := Option.some.inj h
      exact hp_iret hx hb hr hlocks dX7_behind_16
    · replace h := ite_f h c7
      refine lv_iconst (v := (-1)) hx hb dX7_behind_10 (by decide) ?_
      refine lv_goto (tgt := 16) hx hb dX7_behind_11 (by decide) ?_
      obtain rfl := Option.some.inj h
      exact hp_iret hx hb hr hlocks dX7_behind_16
theorem ct_X7_behind (l : Launch) (D : va_G) (ca : Nat → ClassId) (b : Nat → Nat) (tw : Nat) (tt : Nat → Nat) (v : YS) (x1 : Int32) (x2 : Int32) {q : Int32} (h : fn_X7_behind v x1 x2 = some q) : Hp l yX7_behind wsX7_behind rm_X7_behind [.ref (b 0), .int x1, .int x2] (GW D ca tw tt (ad_of 6 b) (YW ca b v)) (some (.int q)) := by
  refine Hp.of (cc := cX7_behind) (nL := 4) (ret := (some .int)) (own := RX7) (by decide) rfl rfl (Nat.le_of_ble_eq_true rfl) ?_
  intro p e s m below meth c ls C0 hB hl
  exact wk_X7_behind C0 hB.2.1 hB.2.2 v hB.1 (hl := hl) (h := h)
abbrev rm_X7_fault : Room := { frames := 2, cells := 0, slots := 0, locals := 45 }
theorem lk_X7_fault_f114 : Cond.fieldLink RX7 114 "BooleanRingModel" "typed" "I" ∈ wsX7_fault := by decide +kernel
theorem lk_X7_fault_f20 : Cond.fieldLink RX7 20 "BooleanRingModel" "text" "[C" ∈ wsX7_fault := by decide +kernel
theorem ly_X7_fault_X7 : ∀ w ∈ wsX70, w ∈ wsX7_fault := by decide +kernel
set_option maxHeartbeats 4000000 in
set_option maxRecDepth 100000 in
theorem wk_X7_fault_4_body {p : Program} {l : Launch} {e : Env} {s : State} {m : MethodId} {args : Array Value} {below : List Frame} {meth : Method} {c : Code} {D : va_G} {ca : Nat → ClassId} {b : Nat → Nat} {tw : Nat} {tt : Nat → Nat} (C0 : Cx p s m args meth c cX7_fault (some .int) 3 wsX7_fault RX7) (hK : va_K D vwCl (tys3 ca) s) (hT0 : tW tw tt (ad_of 6 b) s s.heap) (v : YS) (hP : va_P D vwCl (YW ca b v) s.heap) {q : Int32} (k4 : Int32 → Int32 → Option (Int32)) (hk4 : ∀ (x1 : Int32) (x2 : Int32) (ls : Array Slot) (hl : lv_has ls 3 [(0, .ref (b 0)), (1, .int x1), (2, .int x2)]) (h : k4 x1 x2 = some q), W p l e rm_X7_fault s m args below meth c s.heap [] 0 0 (MQ below (HQ (some (.int q))) args s 0 0 (fun _ => False)) (F0 m 4 ls [])) (x1 : Int32) (x2 : Int32) (ls : Array Slot) (hl : lv_has ls 3 [(0, .ref (b 0)), (1, .int x1), (2, .int x2)]) (h : fn_X7_fault_4_body v k4 x1 x2 = some q) : W p l e rm_X7_fault s m args below meth c s.heap [] 0 0 (MQ below (HQ (some (.int q))) args s 0 0 (fun _ => False)) (F0 m 4 ls []) := by
  obtain ⟨hx, hb, hr, hml, hown, hts, hlocks⟩ := id C0
  have hS : va_S (ad_of 6 b) s.heap s.heap [] := va_S.rf
  unfold fn_X7_fault_4_body at h
  refine lv_iload_n hx hb dX7_fault_4 rfl (lv_at hl 2 rfl) ?_
  refine lv_aload_n hx hb dX7_fault_5 rfl (lv_at hl 0 rfl) ?_
  refine va_get (D := D) (ci := 4) (v := .int (y_typed v)) (C := RX7) (T := TX7) (N := 9) hx hb hts ly_X7_fault_X7 hown hK hP 0 rfl rfl 5 (by decide) (hts _ lk_X7_fault_f114) (fun _ h9 => h9) rfl dX7_fault_6 ?_
  refine lv_icmp_ge (tgt := 38) hx hb dX7_fault_9 (by decide) (fun c9 => ?_) (fun c9 => ?_)
  · replace h := ite_t h c9
    refine lv_iload_n hx hb dX7_fault_38 rfl (lv_at hl 1 rfl) ?_
    refine lv_if_ge (tgt := 49) hx hb dX7_fault_39 (by decide) (fun c39 => ?_) (fun c39 => ?_)
    · replace h := ite_t h c39
      refine lv_bipush (v := (-4)) hx hb dX7_fault_49 (by decide) ?_
      obtain rfl := Option.some.inj h
      exact hp_iret hx hb hr hlocks dX7_fault_51
    · replace h := ite_f h c39
      refine lv_aload_n hx hb dX7_fault_42 rfl (lv_at hl 0 rfl) ?_
      refine va_get (D := D) (ci := 4) (v := .int (y_typed v)) (C := RX7) (T := TX7) (N := 9) hx hb hts ly_X7_fault_X7 hown hK hP 0 rfl rfl 5 (by decide) (hts _ lk_X7_fault_f114) (fun _ h9 => h9) rfl dX7_fault_43 ?_
      refine lv_goto (tgt := 51) hx hb dX7_fault_46 (by decide) ?_
      obtain rfl := Option.some.inj h
      exact hp_iret hx hb hr hlocks dX7_fault_51
  · replace h := ite_f h c9
    refine lv_aload_n hx hb dX7_fault_12 rfl (lv_at hl 0 rfl) ?_
    refine lv_iload_n hx hb dX7_fault_13 rfl (lv_at hl 1 rfl) ?_
    refine lv_aload_n hx hb dX7_fault_14 rfl (lv_at hl 0 rfl) ?_
    refine va_get (D := D) (ci := 4) (v := .ref (b 3)) (C := RX7) (T := TX7) (N := 9) hx hb hts ly_X7_fault_X7 hown hK hP 0 rfl rfl 4 (by decide) (hts _ lk_X7_fault_f20) (fun _ h9 => h9) rfl dX7_fault_15 ?_
    refine lv_iload_n hx hb dX7_fault_18 rfl (lv_at hl 2 rfl) ?_
    obtain ⟨q19, e19, h⟩ := Option.bind_eq_some_iff.mp h
    refine rd_cald hx hb hK hP 3 2 e19 rfl rfl dX7_fault_19 ?_
    obtain ⟨q20, e20, h⟩ := Option.bind_eq_some_iff.mp h
    refine hp_V (As := [.int x1, .int q19]) (rest := []) (b := (b 0)) ⟨hx, hb, hml, hown, hts⟩ (ct_X7_behind l D ca b tw tt v x1 q19 e20) (cwV 2 hts gX7_fault_X7_behind rfl rfl rfl (by decide +kernel) ⟨Nat.le_of_ble_eq_true rfl, Nat.le_of_ble_eq_true rfl⟩) (va_recv hK hP (ci := 4) (q0 := 0) rfl rfl) GW.mv (GW.from hP hK hT0 hS) rfl hl.1 rfl (Nat.le_of_ble_eq_true rfl) dX7_fault_20 ⟨Nat.zero_le _, Nat.zero_le _⟩ ?_
    refine W.eq (g2 := F0 m 23 ls [.int q20]) rfl ?_
    refine lv_istore_n (lv' := [(1, .int q20), (0, .ref (b 0)), (2, .int x2)]) hx hb dX7_fault_23 rfl hl (by decide) rfl (fun ls hl => ?_)
    refine lv_iload_n hx hb dX7_fault_24 rfl (lv_at hl 0 rfl) ?_
    refine lv_bipush (v := (-2)) hx hb dX7_fault_25 (by decide) ?_
    refine lv_icmp_ne (tgt := 32) hx hb dX7_fault_27 (by decide) (fun c27 => ?_) (fun c27 => ?_)
    · replace h := ite_f h c27
      refine lv_iinc (v := (x2 + 1)) (lv' := [(2, .int (x2 + 1)), (1, .int q20), (0, .ref (b 0))]) hx hb dX7_fault_32 hl (k := 2) rfl rfl (by decide) rfl (fun ls hl => ?_)
      refine lv_goto (tgt := 4) hx hb dX7_fault_35 (by decide) ?_
      exact hk4 q20 (x2 + 1) ls (lv_sub hl [2, 1, 0] rfl) h
    · replace h := ite_t h c27
      refine lv_iload_n hx hb dX7_fault_30 rfl (lv_at hl 2 rfl) ?_
      obtain rfl := Option.some.inj h
      exact hp_iret hx hb hr hlocks dX7_fault_31
set_option maxHeartbeats 4000000 in
set_option maxRecDepth 100000 in
theorem wk_X7_fault_4 {p : Program} {l : Launch} {e : Env} {s : State} {m : MethodId} {args : Array Value} {below : List Frame} {meth : Method} {c : Code} {D : va_G} {ca : Nat → ClassId} {b : Nat → Nat} {tw : Nat} {tt : Nat → Nat} (C0 : Cx p s m args meth c cX7_fault (some .int) 3 wsX7_fault RX7) (hK : va_K D vwCl (tys3 ca) s) (hT0 : tW tw tt (ad_of 6 b) s s.heap) (v : YS) (hP : va_P D vwCl (YW ca b v) s.heap) {q : Int32} : ∀ (n : Nat) (x1 : Int32) (x2 : Int32) (ls : Array Slot) (hl : lv_has ls 3 [(0, .ref (b 0)), (1, .int x1), (2, .int x2)]) (h : fn_X7_fault_4 v n x1 x2 = some q), W p l e rm_X7_fault s m args below meth c s.heap [] 0 0 (MQ below (HQ (some (.int q))) args s 0 0 (fun _ => False)) (F0 m 4 ls []) := by
  intro n
  induction n with
  | zero => intro x1 x2 ls hl h; unfold fn_X7_fault_4 at h; cases h
  | succ n ih => intro x1 x2 ls hl h; exact wk_X7_fault_4_body C0 hK hT0 v hP (k4 := fn_X7_fault_4 v n) (hk4 := ih) (hl := hl) (h := h)
set_option maxHeartbeats 4000000 in
set_option maxRecDepth 100000 in
theorem wk_X7_fault {p : Program} {l : Launch} {e : Env} {s : State} {m : MethodId} {args : Array Value} {below : List Frame} {meth : Method} {c : Code} {D : va_G} {ca : Nat → ClassId} {b : Nat → Nat} {tw : Nat} {tt : Nat → Nat} (C0 : Cx p s m args meth c cX7_fault (some .int) 3 wsX7_fault RX7) (hK : va_K D vwCl (tys3 ca) s) (hT0 : tW tw tt (ad_of 6 b) s s.heap) (v : YS) (hP : va_P D vwCl (YW ca b v) s.heap) {q : Int32} (ls : Array Slot) (hl : lv_has ls 3 [(0, .ref (b 0))]) (h : fn_X7_fault v  = some q) : W p l e rm_X7_fault s m args below meth c s.heap [] 0 0 (MQ below (HQ (some (.int q))) args s 0 0 (fun _ => False)) (F0 m 0 ls []) := by
  obtain ⟨hx, hb, hr, hml, hown, hts, hlocks⟩ := id C0
  have hS : va_S (ad_of 6 b) s.heap s.heap [] := va_S.rf
  unfold fn_X7_fault at h
  refine lv_iconst (v := (-1)) hx hb dX7_fault_0 (by decide) ?_
  refine lv_istore_n (lv' := [(1, .int (-1)), (0, .ref (b 0))]) hx hb dX7_fault_1 rfl hl (by decide) rfl (fun ls hl => ?_)
  refine lv_iconst (v := 0) hx hb dX7_fault_2 (by decide) ?_
  refine lv_istore_n (lv' := [(2, .int 0), (1, .int (-1)), (0, .ref (b 0))]) hx hb dX7_fault_3 rfl hl (by decide) rfl (fun ls hl => ?_)
  exact wk_X7_fault_4 C0 hK hT0 v hP  FU (-1) 0 ls (lv_sub hl [2, 1, 0] rfl) h
theorem ct_X7_fault (l : Launch) (D : va_G) (ca : Nat → ClassId) (b : Nat → Nat) (tw : Nat) (tt : Nat → Nat) (v : YS) {q : Int32} (h : fn_X7_fault v  = some q) : Hp l yX7_fault wsX7_fault rm_X7_fault [.ref (b 0)] (GW D ca tw tt (ad_of 6 b) (YW ca b v)) (some (.int q)) := by
  refine Hp.of (cc := cX7_fault) (nL := 3) (ret := (some .int)) (own := RX7) (by decide) rfl rfl (Nat.le_of_ble_eq_true rfl) ?_
  intro p e s m below meth c ls C0 hB hl
  exact wk_X7_fault C0 hB.2.1 hB.2.2 v hB.1 (hl := hl) (h := h)
abbrev rm_X7_read : Room := { frames := 3, cells := 0, slots := 0, locals := 67 }
theorem lk_X7_read_f114 : Cond.fieldLink RX7 114 "BooleanRingModel" "typed" "I" ∈ wsX7_read := by decide +kernel
theorem lk_X7_read_f20 : Cond.fieldLink RX7 20 "BooleanRingModel" "text" "[C" ∈ wsX7_read := by decide +kernel
theorem ly_X7_read_X7 : ∀ w ∈ wsX70, w ∈ wsX7_read := by decide +kernel
set_option maxHeartbeats 4000000 in
set_option maxRecDepth 100000 in
theorem wk_X7_read_85 {p : Program} {l : Launch} {e : Env} {s : State} {m : MethodId} {args : Array Value} {below : List Frame} {meth : Method} {c : Code} {D : va_G} {ca : Nat → ClassId} {b : Nat → Nat} {tw : Nat} {tt : Nat → Nat} (C0 : Cx p s m args meth c cX7_read (some .int) 8 wsX7_read RX7) (hap : ap_ok 6 b) (hK : va_K D vwCl (tys3 ca) s) (hT0 : tW tw tt (ad_of 6 b) s s.heap) {q : Int32 × YS} (k32 : YS → Int32 → Int64 → Int32 → Int32 → Int32 → Option (Int32 × YS)) (hk32 : ∀ (v : YS) (H : Heap) (locs : List Loc) (x1 : Int32) (x2 : Int64) (x4 : Int32) (x5 : Int32) (x6 : Int32) (ls : Array Slot) (hP : va_P D vwCl (YW ca b v) H) (hS : va_S (ad_of 6 b) s.heap H locs) (hl : lv_has ls 8 [(0, .ref (b 0)), (1, .int x1), (2, .long x2), (4, .int x4), (5, .int x5), (6, .int x6)]) (h : k32 v x1 x2 x4 x5 x6 = some q), W p l e rm_X7_read s m args below meth c H locs 0 0 (MQ below (PQ (some (.int q.1)) (fun H => va_P D vwCl (YW ca b q.2) H) (ad_of 6 b)) args s 0 0 (ad_of 6 b)) (F0 m 32 ls [])) (v : YS) (H : Heap) (locs : List Loc) (x1 : Int32) (x6 : Int32) (y0 : Int64) (y1 : Int64) (ls : Array Slot) (hP : va_P D vwCl (YW ca b v) H) (hS : va_S (ad_of 6 b) s.heap H locs) (hl : lv_has ls 8 [(0, .ref (b 0)), (1, .int x1), (6, .int x6)]) (h : fn_X7_read_85 k32 v x1 x6 y0 y1 = some q) : W p l e rm_X7_read s m args below meth c H locs 0 0 (MQ below (PQ (some (.int q.1)) (fun H => va_P D vwCl (YW ca b q.2) H) (ad_of 6 b)) args s 0 0 (ad_of 6 b)) (F0 m 85 ls [.long y0, .long y1]) := by
  obtain ⟨hx, hb, hr, hml, hown, hts, hlocks⟩ := id C0
  have hD0 := fun v => YW_D (ca := ca) hap v
  unfold fn_X7_read_85 at h
  refine lv_lxor hx hb dX7_read_85 ?_
  refine lv_lstore_n (lv' := [(2, .long (y1 ^^^ y0)), (0, .ref (b 0)), (1, .int x1), (6, .int x6)]) hx hb dX7_read_86 rfl hl (by decide) rfl (fun ls hl => ?_)
  refine lv_iconst (v := 0) hx hb dX7_read_87 (by decide) ?_
  refine lv_istore (lv' := [(4, .int 0), (2, .long (y1 ^^^ y0)), (0, .ref (b 0)), (1, .int x1), (6, .int x6)]) hx hb dX7_read_88 hl (by decide) rfl (fun ls hl => ?_)
  refine lv_iconst (v := 0) hx hb dX7_read_90 (by decide) ?_
  refine lv_istore (lv' := [(5, .int 0), (4, .int 0), (2, .long (y1 ^^^ y0)), (0, .ref (b 0)), (1, .int x1), (6, .int x6)]) hx hb dX7_read_91 hl (by decide) rfl (fun ls hl => ?_)
  refine lv_goto (tgt := 132) hx hb dX7_read_93 (by decide) ?_
  refine lv_iinc (v := (x6 + 1)) (lv' := [(6, .int (x6 + 1)), (5, .int 0), (4, .int 0), (2, .long (y1 ^^^ y0)), (0, .ref (b 0)), (1, .int x1)]) hx hb dX7_read_132 hl (k := 5) rfl rfl (by decide) rfl (fun ls hl => ?_)
  refine lv_goto (tgt := 32) hx hb dX7_read_135 (by decide) ?_
  exact hk32 v H locs x1 (y1 ^^^ y0) 0 0 (x6 + 1) ls hP hS (lv_sub hl [4, 5, 3, 2, 1, 0] rfl) h
set_option maxHeartbeats 4000000 in
set_option maxRecDepth 100000 in
theorem wk_X7_read_62 {p : Program} {l : Launch} {e : Env} {s : State} {m : MethodId} {args : Array Value} {below : List Frame} {meth : Method} {c : Code} {D : va_G} {ca : Nat → ClassId} {b : Nat → Nat} {tw : Nat} {tt : Nat → Nat} (C0 : Cx p s m args meth c cX7_read (some .int) 8 wsX7_read RX7) (hap : ap_ok 6 b) (hK : va_K D vwCl (tys3 ca) s) (hT0 : tW tw tt (ad_of 6 b) s s.heap) {q : Int32 × YS} (k32 : YS → Int32 → Int64 → Int32 → Int32 → Int32 → Option (Int32 × YS)) (hk32 : ∀ (v : YS) (H : Heap) (locs : List Loc) (x1 : Int32) (x2 : Int64) (x4 : Int32) (x5 : Int32) (x6 : Int32) (ls : Array Slot) (hP : va_P D vwCl (YW ca b v) H) (hS : va_S (ad_of 6 b) s.heap H locs) (hl : lv_has ls 8 [(0, .ref (b 0)), (1, .int x1), (2, .long x2), (4, .int x4), (5, .int x5), (6, .int x6)]) (h : k32 v x1 x2 x4 x5 x6 = some q), W p l e rm_X7_read s m args below meth c H locs 0 0 (MQ below (PQ (some (.int q.1)) (fun H => va_P D vwCl (YW ca b q.2) H) (ad_of 6 b)) args s 0 0 (ad_of 6 b)) (F0 m 32 ls [])) (v : YS) (H : Heap) (locs : List Loc) (x1 : Int32) (x2 : Int64) (x4 : Int32) (x5 : Int32) (x6 : Int32) (y0 : Int32) (ls : Array Slot) (hP : va_P D vwCl (YW ca b v) H) (hS : va_S (ad_of 6 b) s.heap H locs) (hl : lv_has ls 8 [(0, .ref (b 0)), (1, .int x1), (2, .long x2), (4, .int x4), (5, .int x5), (6, .int x6)]) (h : fn_X7_read_62 k32 v x1 x2 x4 x5 x6 y0 = some q) : W p l e rm_X7_read s m args below meth c H locs 0 0 (MQ below (PQ (some (.int q.1)) (fun H => va_P D vwCl (YW ca b q.2) H) (ad_of 6 b)) args s 0 0 (ad_of 6 b)) (F0 m 62 ls [.int y0]) := by
  obtain ⟨hx, hb, hr, hml, hown, hts, hlocks⟩ := id C0
  have hD0 := fun v => YW_D (ca := ca) hap v
  unfold fn_X7_read_62 at h
  refine lv_istore (lv' := [(7, .int y0), (0, .ref (b 0)), (1, .int x1), (2, .long x2), (4, .int x4), (5, .int x5), (6, .int x6)]) hx hb dX7_read_62 hl (by decide) rfl (fun ls hl => ?_)
  refine lv_iload hx hb dX7_read_64 (lv_at hl 0 rfl) ?_
  refine lv_bipush (v := 43) hx hb dX7_read_66 (by decide) ?_
  refine lv_icmp_ne (tgt := 96) hx hb dX7_read_68 (by decide) (fun c68 => ?_) (fun c68 => ?_)
  · replace h := ite_f h c68
    refine lv_iload hx hb dX7_read_96 (lv_at hl 0 rfl) ?_
    refine lv_bipush (v := 97) hx hb dX7_read_98 (by decide) ?_
    refine lv_icmp_lt (tgt := 118) hx hb dX7_read_100 (by decide) (fun c100 => ?_) (fun c100 => ?_)
    · replace h := ite_t h c100
      refine lv_iload hx hb dX7_read_118 (lv_at hl 0 rfl) ?_
      refine lv_bipush (v := 48) hx hb dX7_read_120 (by decide) ?_
      refine lv_icmp_ne (tgt := 129) hx hb dX7_read_122 (by decide) (fun c122 => ?_) (fun c122 => ?_)
      · replace h := ite_f h c122
        refine lv_iconst (v := 0) hx hb dX7_read_129 (by decide) ?_
        refine lv_istore (lv' := [(5, .int 0), (7, .int y0), (0, .ref (b 0)), (1, .int x1), (2, .long x2), (4, .int x4), (6, .int x6)]) hx hb dX7_read_130 hl (by decide) rfl (fun ls hl => ?_)
        refine lv_iinc (v := (x6 + 1)) (lv' := [(6, .int (x6 + 1)), (5, .int 0), (7, .int y0), (0, .ref (b 0)), (1, .int x1), (2, .long x2), (4, .int x4)]) hx hb dX7_read_132 hl (k := 6) rfl rfl (by decide) rfl (fun ls hl => ?_)
        refine lv_goto (tgt := 32) hx hb dX7_read_135 (by decide) ?_
        exact hk32 v H locs x1 x2 x4 0 (x6 + 1) ls hP hS (lv_sub hl [3, 4, 5, 6, 1, 0] rfl) h
      · replace h := ite_t h c122
        refine lv_iconst (v := 1) hx hb dX7_read_125 (by decide) ?_
        refine lv_goto (tgt := 130) hx hb dX7_read_126 (by decide) ?_
        refine lv_istore (lv' := [(5, .int 1), (7, .int y0), (0, .ref (b 0)), (1, .int x1), (2, .long x2), (4, .int x4), (6, .int x6)]) hx hb dX7_read_130 hl (by decide) rfl (fun ls hl => ?_)
        refine lv_iinc (v := (x6 + 1)) (lv' := [(6, .int (x6 + 1)), (5, .int 1), (7, .int y0), (0, .ref (b 0)), (1, .int x1), (2, .long x2), (4, .int x4)]) hx hb dX7_read_132 hl (k := 6) rfl rfl (by decide) rfl (fun ls hl => ?_)
        refine lv_goto (tgt := 32) hx hb dX7_read_135 (by decide) ?_
        exact hk32 v H locs x1 x2 x4 1 (x6 + 1) ls hP hS (lv_sub hl [3, 4, 5, 6, 1, 0] rfl) h
    · replace h := ite_f h c100
      refine lv_iload hx hb dX7_read_103 (lv_at hl 4 rfl) ?_
      refine lv_iconst (v := 1) hx hb dX7_read_105 (by decide) ?_
      refine lv_iload hx hb dX7_read_106 (lv_at hl 0 rfl) ?_
      refine lv_bipush (v := 97) hx hb dX7_read_108 (by decide) ?_
      refine lv_isub hx hb dX7_read_110 ?_
      refine lv_ishl hx hb dX7_read_111 ?_
      refine lv_ior hx hb dX7_read_112 ?_
      refine lv_istore (lv' := [(4, .int (x4 ||| (ish 1 (y0 - 97)))), (7, .int y0), (0, .ref (b 0)), (1, .int x1), (2, .long x2), (5, .int x5), (6, .int x6)]) hx hb dX7_read_113 hl (by decide) rfl (fun ls hl => ?_)
      refine lv_goto (tgt := 132) hx hb dX7_read_115 (by decide) ?_
      refine lv_iinc (v := (x6 + 1)) (lv' := [(6, .int (x6 + 1)), (4, .int (x4 ||| (ish 1 (y0 - 97)))), (7, .int y0), (0, .ref (b 0)), (1, .int x1), (2, .long x2), (5, .int x5)]) hx hb dX7_read_132 hl (k := 6) rfl rfl (by decide) rfl (fun ls hl => ?_)
      refine lv_goto (tgt := 32) hx hb dX7_read_135 (by decide) ?_
      exact hk32 v H locs x1 x2 (x4 ||| (ish 1 (y0 - 97))) x5 (x6 + 1) ls hP hS (lv_sub hl [3, 4, 5, 1, 6, 0] rfl) h
  · replace h := ite_t h c68
    refine lv_lload_n hx hb dX7_read_71 rfl (lv_at hl 3 rfl) ?_
    refine lv_iload hx hb dX7_read_72 (lv_at hl 5 rfl) ?_
    refine lv_if_eq (tgt := 81) hx hb dX7_read_74 (by decide) (fun c74 => ?_) (fun c74 => ?_)
    · replace h := ite_t h c74
      refine lv_lconst (v := 1) hx hb dX7_read_81 (by decide) ?_
      refine lv_iload hx hb dX7_read_82 (lv_at hl 4 rfl) ?_
      refine lv_lshl (v := (lsh 1 x4)) hx hb dX7_read_84 rfl ?_
      exact wk_X7_read_85 C0 hap hK hT0 (k32 := k32) (hk32 := hk32) (ls := ls) (hP := hP) (hS := hS) (hl := (lv_sub hl [1, 2, 6] rfl)) (h := h)
    · replace h := ite_f h c74
      refine lv_lconst (v := 0) hx hb dX7_read_77 (by decide) ?_
      refine lv_goto (tgt := 85) hx hb dX7_read_78 (by decide) ?_
      exact wk_X7_read_85 C0 hap hK hT0 (k32 := k32) (hk32 := hk32) (ls := ls) (hP := hP) (hS := hS) (hl := (lv_sub hl [1, 2, 6] rfl)) (h := h)
set_option maxHeartbeats 4000000 in
set_option maxRecDepth 100000 in
theorem wk_X7_read_32_body {p : Program} {l : Launch} {e : Env} {s : State} {m : MethodId} {args : Array Value} {below : List Frame} {meth : Method} {c : Code} {D : va_G} {ca : Nat → ClassId} {b : Nat → Nat} {tw : Nat} {tt : Nat → Nat} (C0 : Cx p s m args meth c cX7_read (some .int) 8 wsX7_read RX7) (hap : ap_ok 6 b) (hK : va_K D vwCl (tys3 ca) s) (hT0 : tW tw tt (ad_of 6 b) s s.heap) {q : Int32 × YS} (k32 : YS → Int32 → Int64 → Int32 → Int32 → Int32 → Option (Int32 × YS)) (hk32 : ∀ (v : YS) (H : Heap) (locs : List Loc) (x1 : Int32) (x2 : Int64) (x4 : Int32) (x5 : Int32) (x6 : Int32) (ls : Array Slot) (hP : va_P D vwCl (YW ca b v) H) (hS : va_S (ad_of 6 b) s.heap H locs) (hl : lv_has ls 8 [(0, .ref (b 0)), (1, .int x1), (2, .long x2), (4, .int x4), (5, .int x5), (6, .int x6)]) (h : k32 v x1 x2 x4 x5 x6 = some q), W p l e rm_X7_read s m args below meth c H locs 0 0 (MQ below (PQ (some (.int q.1)) (fun H => va_P D vwCl (YW ca b q.2) H) (ad_of 6 b)) args s 0 0 (ad_of 6 b)) (F0 m 32 ls [])) (v : YS) (H : Heap) (locs : List Loc) (x1 : Int32) (x2 : Int64) (x4 : Int32) (x5 : Int32) (x6 : Int32) (ls : Array Slot) (hP : va_P D vwCl (YW ca b v) H) (hS : va_S (ad_of 6 b) s.heap H locs) (hl : lv_has ls 8 [(0, .ref (b 0)), (1, .int x1), (2, .long x2), (4, .int x4), (5, .int x5), (6, .int x6)]) (h : fn_X7_read_32_body k32 v x1 x2 x4 x5 x6 = some q) : W p l e rm_X7_read s m args below meth c H locs 0 0 (MQ below (PQ (some (.int q.1)) (fun H => va_P D vwCl (YW ca b q.2) H) (ad_of 6 b)) args s 0 0 (ad_of 6 b)) (F0 m 32 ls []) := by
  obtain ⟨hx, hb, hr, hml, hown, hts, hlocks⟩ := id C0
  have hD0 := fun v => YW_D (ca := ca) hap v
  unfold fn_X7_read_32_body at h
  refine lv_iload hx hb dX7_read_32 (lv_at hl 5 rfl) ?_
  refine lv_aload_n hx hb dX7_read_34 rfl (lv_at hl 0 rfl) ?_
  refine va_get (D := D) (ci := 4) (v := .int (y_typed v)) (C := RX7) (T := TX7) (N := 9) hx hb hts ly_X7_read_X7 hown hK hP 0 rfl rfl 5 (by decide) (hts _ lk_X7_read_f114) (fun _ h9 => h9) rfl dX7_read_35 ?_
  refine lv_icmp_gt (tgt := 138) hx hb dX7_read_38 (by decide) (fun c38 => ?_) (fun c38 => ?_)
  · replace h := ite_t h c38
    refine lv_aload_n hx hb dX7_read_138 rfl (lv_at hl 0 rfl) ?_
    refine lv_iload_n hx hb dX7_read_139 rfl (lv_at hl 1 rfl) ?_
    refine lv_lload_n hx hb dX7_read_140 rfl (lv_at hl 2 rfl) ?_
    obtain ⟨q141, e141, h⟩ := Option.bind_eq_some_iff.mp h
    refine mp_V (As := [.int x1, .long x2]) (rest := []) (b := (b 0)) ⟨hx, hb, hml, hown, hts⟩ (ct_X7_gets l D ca b tw tt hap v x1 x2 e141) (cwV 2 hts gX7_read_X7_gets rfl rfl rfl (by decide +kernel) ⟨Nat.le_of_ble_eq_true rfl, Nat.le_of_ble_eq_true rfl⟩) (va_recv hK hP (ci := 4) (q0 := 0) rfl rfl) GW.mv (GW.from hP hK hT0 hS) hS rfl hl.1 rfl (Nat.le_of_ble_eq_true rfl) dX7_read_141 ⟨Nat.zero_le _, Nat.zero_le _⟩ (fun H locs hP hS => ?_)
    refine W.eq (g2 := F0 m 144 ls [.int q141.1]) rfl ?_
    obtain rfl := Option.some.inj h
    exact mp_iret hx hb hr hlocks hP hS dX7_read_144
  · replace h := ite_f h c38
    refine lv_iload hx hb dX7_read_41 (lv_at hl 5 rfl) ?_
    refine lv_aload_n hx hb dX7_read_43 rfl (lv_at hl 0 rfl) ?_
    refine va_get (D := D) (ci := 4) (v := .int (y_typed v)) (C := RX7) (T := TX7) (N := 9) hx hb hts ly_X7_read_X7 hown hK hP 0 rfl rfl 5 (by decide) (hts _ lk_X7_read_f114) (fun _ h9 => h9) rfl dX7_read_44 ?_
    refine lv_icmp_ge (tgt := 60) hx hb dX7_read_47 (by decide) (fun c47 => ?_) (fun c47 => ?_)
    · replace h := ite_t h c47
      refine lv_bipush (v := 43) hx hb dX7_read_60 (by decide) ?_
      exact wk_X7_read_62 C0 hap hK hT0 (k32 := k32) (hk32 := hk32) (ls := ls) (hP := hP) (hS := hS) (hl := (lv_sub hl [0, 1, 2, 3, 4, 5] rfl)) (h := h)
    · replace h := ite_f h c47
      refine lv_aload_n hx hb dX7_read_50 rfl (lv_at hl 0 rfl) ?_
      refine va_get (D := D) (ci := 4) (v := .ref (b 3)) (C := RX7) (T := TX7) (N := 9) hx hb hts ly_X7_read_X7 hown hK hP 0 rfl rfl 4 (by decide) (hts _ lk_X7_read_f20) (fun _ h9 => h9) rfl dX7_read_51 ?_
      refine lv_iload hx hb dX7_read_54 (lv_at hl 5 rfl) ?_
      obtain ⟨q56, e56, h⟩ := Option.bind_eq_some_iff.mp h
      refine rd_cald hx hb hK hP 3 2 e56 rfl rfl dX7_read_56 ?_
      refine lv_goto (tgt := 62) hx hb dX7_read_57 (by decide) ?_
      exact wk_X7_read_62 C0 hap hK hT0 (k32 := k32) (hk32 := hk32) (ls := ls) (hP := hP) (hS := hS) (hl := (lv_sub hl [0, 1, 2, 3, 4, 5] rfl)) (h := h)
set_option maxHeartbeats 4000000 in
set_option maxRecDepth 100000 in
theorem wk_X7_read_32 {p : Program} {l : Launch} {e : Env} {s : State} {m : MethodId} {args : Array Value} {below : List Frame} {meth : Method} {c : Code} {D : va_G} {ca : Nat → ClassId} {b : Nat → Nat} {tw : Nat} {tt : Nat → Nat} (C0 : Cx p s m args meth c cX7_read (some .int) 8 wsX7_read RX7) (hap : ap_ok 6 b) (hK : va_K D vwCl (tys3 ca) s) (hT0 : tW tw tt (ad_of 6 b) s s.heap) {q : Int32 × YS} : ∀ (n : Nat) (v : YS) (H : Heap) (locs : List Loc) (x1 : Int32) (x2 : Int64) (x4 : Int32) (x5 : Int32) (x6 : Int32) (ls : Array Slot) (hP : va_P D vwCl (YW ca b v) H) (hS : va_S (ad_of 6 b) s.heap H locs) (hl : lv_has ls 8 [(0, .ref (b 0)), (1, .int x1), (2, .long x2), (4, .int x4), (5, .int x5), (6, .int x6)]) (h : fn_X7_read_32 n v x1 x2 x4 x5 x6 = some q), W p l e rm_X7_read s m args below meth c H locs 0 0 (MQ below (PQ (some (.int q.1)) (fun H => va_P D vwCl (YW ca b q.2) H) (ad_of 6 b)) args s 0 0 (ad_of 6 b)) (F0 m 32 ls []) := by
  intro n
  induction n with
  | zero => intro v H locs x1 x2 x4 x5 x6 ls hP hS hl h; unfold fn_X7_read_32 at h; cases h
  | succ n ih => intro v H locs x1 x2 x4 x5 x6 ls hP hS hl h; exact wk_X7_read_32_body C0 hap hK hT0 (k32 := fn_X7_read_32 n) (hk32 := ih) (hl := hl) (hP := hP) (hS := hS) (h := h)
set_option maxHeartbeats 4000000 in
set_option maxRecDepth 100000 in
theorem wk_X7_read {p : Program} {l : Launch} {e : Env} {s : State} {m : MethodId} {args : Array Value} {below : List Frame} {meth : Method} {c : Code} {D : va_G} {ca : Nat → ClassId} {b : Nat → Nat} {tw : Nat} {tt : Nat → Nat} (C0 : Cx p s m args meth c cX7_read (some .int) 8 wsX7_read RX7) (hap : ap_ok 6 b) (hK : va_K D vwCl (tys3 ca) s) (hT0 : tW tw tt (ad_of 6 b) s s.heap) {q : Int32 × YS} (v : YS) (H : Heap) (locs : List Loc) (x1 : Int32) (ls : Array Slot) (hP : va_P D vwCl (YW ca b v) H) (hS : va_S (ad_of 6 b) s.heap H locs) (hl : lv_has ls 8 [(0, .ref (b 0)), (1, .int x1)]) (h : fn_X7_read v x1 = some q) : W p l e rm_X7_read s m args below meth c H locs 0 0 (MQ below (PQ (some (.int q.1)) (fun H => va_P D vwCl (YW ca b q.2) H) (ad_of 6 b)) args s 0 0 (ad_of 6 b)) (F0 m 0 ls []) := by
  obtain ⟨hx, hb, hr, hml, hown, hts, hlocks⟩ := id C0
  have hD0 := fun v => YW_D (ca := ca) hap v
  unfold fn_X7_read at h
  refine lv_iload_n hx hb dX7_read_0 rfl (lv_at hl 1 rfl) ?_
  obtain ⟨q1, e1, h⟩ := Option.bind_eq_some_iff.mp h
  refine hp_S (As := [.int x1]) (rest := []) ⟨hx, hb, hml, hown, hts⟩ (ct_X7_isRegister l tw tt x1 e1) (va_cwS 1 hts gX7_read_X7_isRegister rfl rfl rfl (by decide +kernel) ⟨Nat.le_of_ble_eq_true rfl, Nat.le_of_ble_eq_true rfl⟩) GP.mv (GP.from hT0 hS) rfl hl.1 rfl (Nat.le_of_ble_eq_true rfl) dX7_read_1 ⟨Nat.zero_le _, Nat.zero_le _⟩ ?_
  refine W.eq (g2 := F0 m 4 ls [.int q1]) rfl ?_
  refine lv_if_ne (tgt := 9) hx hb dX7_read_4 (by decide) (fun c4 => ?_) (fun c4 => ?_)
  · replace h := ite_f h c4
    refine lv_aload_n hx hb dX7_read_9 rfl (lv_at hl 0 rfl) ?_
    obtain ⟨q10, e10, h⟩ := Option.bind_eq_some_iff.mp h
    refine hp_V (As := []) (rest := []) (b := (b 0)) ⟨hx, hb, hml, hown, hts⟩ (ct_X7_fault l D ca b tw tt v  e10) (cwV 0 hts gX7_read_X7_fault rfl rfl rfl (by decide +kernel) ⟨Nat.le_of_ble_eq_true rfl, Nat.le_of_ble_eq_true rfl⟩) (va_recv hK hP (ci := 4) (q0 := 0) rfl rfl) GW.mv (GW.from hP hK hT0 hS) rfl hl.1 rfl (Nat.le_of_ble_eq_true rfl) dX7_read_10 ⟨Nat.zero_le _, Nat.zero_le _⟩ ?_
    refine W.eq (g2 := F0 m 13 ls [.int q10]) rfl ?_
    refine lv_bipush (v := (-4)) hx hb dX7_read_13 (by decide) ?_
    refine lv_icmp_eq (tgt := 21) hx hb dX7_read_15 (by decide) (fun c15 => ?_) (fun c15 => ?_)
    · replace h := ite_t h c15
      refine lv_lconst (v := 0) hx hb dX7_read_21 (by decide) ?_
      refine lv_lstore_n (lv' := [(2, .long 0), (0, .ref (b 0)), (1, .int x1)]) hx hb dX7_read_22 rfl hl (by decide) rfl (fun ls hl => ?_)
      refine lv_iconst (v := 0) hx hb dX7_read_23 (by decide) ?_
      refine lv_istore (lv' := [(4, .int 0), (2, .long 0), (0, .ref (b 0)), (1, .int x1)]) hx hb dX7_read_24 hl (by decide) rfl (fun ls hl => ?_)
      refine lv_iconst (v := 0) hx hb dX7_read_26 (by decide) ?_
      refine lv_istore (lv' := [(5, .int 0), (4, .int 0), (2, .long 0), (0, .ref (b 0)), (1, .int x1)]) hx hb dX7_read_27 hl (by decide) rfl (fun ls hl => ?_)
      refine lv_iconst (v := 0) hx hb dX7_read_29 (by decide) ?_
      refine lv_istore (lv' := [(6, .int 0), (5, .int 0), (4, .int 0), (2, .long 0), (0, .ref (b 0)), (1, .int x1)]) hx hb dX7_read_30 hl (by decide) rfl (fun ls hl => ?_)
      exact wk_X7_read_32 C0 hap hK hT0  FU v H locs x1 0 0 0 0 ls hP hS (lv_sub hl [4, 5, 3, 2, 1, 0] rfl) h
    · replace h := ite_f h c15
      refine lv_bipush (v := (-2)) hx hb dX7_read_18 (by decide) ?_
      obtain rfl := Option.some.inj h
      exact mp_iret hx hb hr hlocks hP hS dX7_read_20
  · replace h := ite_t h c4
    refine lv_iconst (v := (-1)) hx hb dX7_read_7 (by decide) ?_
    obtain rfl := Option.some.inj h
    exact mp_iret hx hb hr hlocks hP hS dX7_read_8
theorem ct_X7_read (l : Launch) (D : va_G) (ca : Nat → ClassId) (b : Nat → Nat) (tw : Nat) (tt : Nat → Nat) (hap : ap_ok 6 b) (v : YS) (x1 : Int32) {q : Int32 × YS} (h : fn_X7_read v x1 = some q) : Mp l yX7_read wsX7_read rm_X7_read [.ref (b 0), .int x1] (GW D ca tw tt (ad_of 6 b) (YW ca b v)) (some (.int q.1)) (fun H => va_P D vwCl (YW ca b q.2) H) (ad_of 6 b) := by
  refine Mp.of (cc := cX7_read) (nL := 8) (ret := (some .int)) (own := RX7) (by decide) rfl rfl (Nat.le_of_ble_eq_true rfl) ?_
  intro p e s m below meth c ls C0 hB hl
  exact wk_X7_read C0 hap hB.2.1 hB.2.2 (hP := hB.1) (hS := va_S.rf) (hl := hl) (h := h)
abbrev rm_X7_longOf : Room := { frames := 1, cells := 0, slots := 0, locals := 24 }
set_option maxHeartbeats 4000000 in
set_option maxRecDepth 100000 in
theorem wk_X7_longOf {p : Program} {l : Launch} {e : Env} {s : State} {m : MethodId} {args : Array Value} {below : List Frame} {meth : Method} {c : Code} {tw : Nat} {tt : Nat → Nat} (C0 : Cx p s m args meth c cX7_longOf (some .int) 1 wsX7_longOf RX7) (hT0 : tW tw tt (fun _ => False) s s.heap) {q : Int32} (x0 : Int32) (ls : Array Slot) (hl : lv_has ls 1 [(0, .int x0)]) (h : fn_X7_longOf x0 = some q) : W p l e rm_X7_longOf s m args below meth c s.heap [] 0 0 (MQ below (HQ (some (.int q))) args s 0 0 (fun _ => False)) (F0 m 0 ls []) := by
  obtain ⟨hx, hb, hr, hml, hown, hts, hlocks⟩ := id C0
  have hS : va_S (fun _ => False) s.heap s.heap [] := va_S.rf
  unfold fn_X7_longOf at h
  refine lv_iload_n hx hb dX7_longOf_0 rfl (lv_at hl 0 rfl) ?_
  refine lv_if_ne (tgt := 8) hx hb dX7_longOf_1 (by decide) (fun c1 => ?_) (fun c1 => ?_)
  · replace h := ite_f h c1
    refine lv_iload_n hx hb dX7_longOf_8 rfl (lv_at hl 0 rfl) ?_
    refine lv_i2l (v := x0.toInt64) hx hb dX7_longOf_9 rfl ?_
    obtain ⟨q10, e10, h⟩ := Option.bind_eq_some_iff.mp h
    refine hp_S (As := [.long x0.toInt64]) (rest := []) ⟨hx, hb, hml, hown, hts⟩ (ct_X7_many l tw tt x0.toInt64 e10) (va_cwS 1 hts gX7_longOf_X7_many rfl rfl rfl (by decide +kernel) ⟨Nat.le_of_ble_eq_true rfl, Nat.le_of_ble_eq_true rfl⟩) GP.mv (GP.from hT0 hS) rfl hl.1 rfl (Nat.le_of_ble_eq_true rfl) dX7_longOf_10 ⟨Nat.zero_le _, Nat.zero_le _⟩ ?_
    refine W.eq (g2 := F0 m 13 ls [.int q10]) rfl ?_
    obtain rfl := Option.some.inj h
    exact hp_iret hx hb hr hlocks dX7_longOf_13
  · replace h := ite_t h c1
    refine lv_iconst (v := 1) hx hb dX7_longOf_4 (by decide) ?_
    refine lv_goto (tgt := 13) hx hb dX7_longOf_5 (by decide) ?_
    obtain rfl := Option.some.inj h
    exact hp_iret hx hb hr hlocks dX7_longOf_13
theorem ct_X7_longOf (l : Launch) (tw : Nat) (tt : Nat → Nat) (x0 : Int32) {q : Int32} (h : fn_X7_longOf x0 = some q) : Hp l yX7_longOf wsX7_longOf rm_X7_longOf [.int x0] (GP tw tt) (some (.int q)) := by
  refine Hp.of (cc := cX7_longOf) (nL := 1) (ret := (some .int)) (own := RX7) (by decide) rfl rfl (Nat.le_of_ble_eq_true rfl) ?_
  intro p e s m below meth c ls C0 hB hl
  exact wk_X7_longOf C0 hB (hl := hl) (h := h)
abbrev rm_X7_textLength : Room := { frames := 2, cells := 0, slots := 0, locals := 44 }
theorem lk_X7_textLength_f13 : Cond.fieldLink RX7 13 "BooleanRingModel" "p" "[J" ∈ wsX7_textLength := by decide +kernel
theorem lk_X7_textLength_f7 : Cond.fieldLink RX7 7 "BooleanRingModel" "n" "I" ∈ wsX7_textLength := by decide +kernel
theorem ly_X7_textLength_X7 : ∀ w ∈ wsX70, w ∈ wsX7_textLength := by decide +kernel
set_option maxHeartbeats 4000000 in
set_option maxRecDepth 100000 in
theorem wk_X7_textLength_62 {p : Program} {l : Launch} {e : Env} {s : State} {m : MethodId} {args : Array Value} {below : List Frame} {meth : Method} {c : Code} {D : va_G} {ca : Nat → ClassId} {b : Nat → Nat} {tw : Nat} {tt : Nat → Nat} (C0 : Cx p s m args meth c cX7_textLength (some .int) 4 wsX7_textLength RX7) (hK : va_K D vwCl (tys3 ca) s) (hT0 : tW tw tt (ad_of 6 b) s s.heap) (v : YS) (hP : va_P D vwCl (YW ca b v) s.heap) {q : Int32} (k28 : Int32 → Int32 → Int32 → Option (Int32)) (hk28 : ∀ (x1 : Int32) (x2 : Int32) (x3 : Int32) (ls : Array Slot) (hl : lv_has ls 4 [(0, .ref (b 0)), (1, .int x1), (2, .int x2), (3, .int x3)]) (h : k28 x1 x2 x3 = some q), W p l e rm_X7_textLength s m args below meth c s.heap [] 0 0 (MQ below (HQ (some (.int q))) args s 0 0 (fun _ => False)) (F0 m 28 ls [])) (x1 : Int32) (x3 : Int32) (y0 : Int32) (y1 : Int32) (ls : Array Slot) (hl : lv_has ls 4 [(0, .ref (b 0)), (1, .int x1), (3, .int x3)]) (h : fn_X7_textLength_62 v k28 x1 x3 y0 y1 = some q) : W p l e rm_X7_textLength s m args below meth c s.heap [] 0 0 (MQ below (HQ (some (.int q))) args s 0 0 (fun _ => False)) (F0 m 62 ls [.int y0, .int y1]) := by
  obtain ⟨hx, hb, hr, hml, hown, hts, hlocks⟩ := id C0
  have hS : va_S (ad_of 6 b) s.heap s.heap [] := va_S.rf
  unfold fn_X7_textLength_62 at h
  refine lv_iadd hx hb dX7_textLength_62 ?_
  refine lv_istore_n (lv' := [(2, .int (y1 + y0)), (0, .ref (b 0)), (1, .int x1), (3, .int x3)]) hx hb dX7_textLength_63 rfl hl (by decide) rfl (fun ls hl => ?_)
  refine lv_iinc (v := (x3 + 1)) (lv' := [(3, .int (x3 + 1)), (2, .int (y1 + y0)), (0, .ref (b 0)), (1, .int x1)]) hx hb dX7_textLength_64 hl (k := 3) rfl rfl (by decide) rfl (fun ls hl => ?_)
  refine lv_goto (tgt := 28) hx hb dX7_textLength_67 (by decide) ?_
  exact hk28 x1 (y1 + y0) (x3 + 1) ls (lv_sub hl [2, 3, 1, 0] rfl) h
set_option maxHeartbeats 4000000 in
set_option maxRecDepth 100000 in
theorem wk_X7_textLength_28_body {p : Program} {l : Launch} {e : Env} {s : State} {m : MethodId} {args : Array Value} {below : List Frame} {meth : Method} {c : Code} {D : va_G} {ca : Nat → ClassId} {b : Nat → Nat} {tw : Nat} {tt : Nat → Nat} (C0 : Cx p s m args meth c cX7_textLength (some .int) 4 wsX7_textLength RX7) (hK : va_K D vwCl (tys3 ca) s) (hT0 : tW tw tt (ad_of 6 b) s s.heap) (v : YS) (hP : va_P D vwCl (YW ca b v) s.heap) {q : Int32} (k28 : Int32 → Int32 → Int32 → Option (Int32)) (hk28 : ∀ (x1 : Int32) (x2 : Int32) (x3 : Int32) (ls : Array Slot) (hl : lv_has ls 4 [(0, .ref (b 0)), (1, .int x1), (2, .int x2), (3, .int x3)]) (h : k28 x1 x2 x3 = some q), W p l e rm_X7_textLength s m args below meth c s.heap [] 0 0 (MQ below (HQ (some (.int q))) args s 0 0 (fun _ => False)) (F0 m 28 ls [])) (x1 : Int32) (x2 : Int32) (x3 : Int32) (ls : Array Slot) (hl : lv_has ls 4 [(0, .ref (b 0)), (1, .int x1), (2, .int x2), (3, .int x3)]) (h : fn_X7_textLength_28_body v k28 x1 x2 x3 = some q) : W p l e rm_X7_textLength s m args below meth c s.heap [] 0 0 (MQ below (HQ (some (.int q))) args s 0 0 (fun _ => False)) (F0 m 28 ls []) := by
  obtain ⟨hx, hb, hr, hml, hown, hts, hlocks⟩ := id C0
  have hS : va_S (ad_of 6 b) s.heap s.heap [] := va_S.rf
  unfold fn_X7_textLength_28_body at h
  refine lv_iload_n hx hb dX7_textLength_28 rfl (lv_at hl 3 rfl) ?_
  refine lv_iconst (v := 1) hx hb dX7_textLength_29 (by decide) ?_
  refine lv_aload_n hx hb dX7_textLength_30 rfl (lv_at hl 0 rfl) ?_
  refine va_get (D := D) (ci := 4) (v := .int (y_n v)) (C := RX7) (T := TX7) (N := 9) hx hb hts ly_X7_textLength_X7 hown hK hP 0 rfl rfl 0 (by decide) (hts _ lk_X7_textLength_f7) (fun _ h9 => h9) rfl dX7_textLength_31 ?_
  refine lv_ishl hx hb dX7_textLength_34 ?_
  refine lv_icmp_ge (tgt := 70) hx hb dX7_textLength_35 (by decide) (fun c35 => ?_) (fun c35 => ?_)
  · replace h := ite_t h c35
    refine lv_iload_n hx hb dX7_textLength_70 rfl (lv_at hl 2 rfl) ?_
    obtain rfl := Option.some.inj h
    exact hp_iret hx hb hr hlocks dX7_textLength_71
  · replace h := ite_f h c35
    refine lv_iload_n hx hb dX7_textLength_38 rfl (lv_at hl 2 rfl) ?_
    refine lv_aload_n hx hb dX7_textLength_39 rfl (lv_at hl 0 rfl) ?_
    refine va_get (D := D) (ci := 4) (v := .ref (b 1)) (C := RX7) (T := TX7) (N := 9) hx hb hts ly_X7_textLength_X7 hown hK hP 0 rfl rfl 1 (by decide) (hts _ lk_X7_textLength_f13) (fun _ h9 => h9) rfl dX7_textLength_40 ?_
    refine lv_iload_n hx hb dX7_textLength_43 rfl (lv_at hl 1 rfl) ?_
    obtain ⟨q44, e44, h⟩ := Option.bind_eq_some_iff.mp h
    refine rd_lald hx hb hK hP 1 0 e44 rfl rfl dX7_textLength_44 ?_
    refine lv_iload_n hx hb dX7_textLength_45 rfl (lv_at hl 3 rfl) ?_
    obtain ⟨q46, e46, h⟩ := Option.bind_eq_some_iff.mp h
    refine hp_S (As := [.long q44, .int x3]) (rest := [.int x2]) ⟨hx, hb, hml, hown, hts⟩ (ct_X7_has1 l tw tt q44 x3 e46) (va_cwS 2 hts gX7_textLength_X7_has1 rfl rfl rfl (by decide +kernel) ⟨Nat.le_of_ble_eq_true rfl, Nat.le_of_ble_eq_true rfl⟩) GP.mv (GP.from hT0 hS) rfl hl.1 rfl (Nat.le_of_ble_eq_true rfl) dX7_textLength_46 ⟨Nat.zero_le _, Nat.zero_le _⟩ ?_
    refine W.eq (g2 := F0 m 49 ls [.int q46, .int x2]) rfl ?_
    refine lv_if_eq (tgt := 61) hx hb dX7_textLength_49 (by decide) (fun c49 => ?_) (fun c49 => ?_)
    · replace h := ite_t h c49
      refine lv_iconst (v := 0) hx hb dX7_textLength_61 (by decide) ?_
      exact wk_X7_textLength_62 C0 hK hT0 v hP (k28 := k28) (hk28 := hk28) (ls := ls) (hl := (lv_sub hl [0, 1, 3] rfl)) (h := h)
    · replace h := ite_f h c49
      refine lv_iconst (v := 1) hx hb dX7_textLength_52 (by decide) ?_
      refine lv_iload_n hx hb dX7_textLength_53 rfl (lv_at hl 3 rfl) ?_
      obtain ⟨q54, e54, h⟩ := Option.bind_eq_some_iff.mp h
      refine hp_S (As := [.int x3]) (rest := [.int 1, .int x2]) ⟨hx, hb, hml, hown, hts⟩ (ct_X7_longOf l tw tt x3 e54) (va_cwS 1 hts gX7_textLength_X7_longOf rfl rfl rfl (by decide +kernel) ⟨Nat.le_of_ble_eq_true rfl, Nat.le_of_ble_eq_true rfl⟩) GP.mv (GP.from hT0 hS) rfl hl.1 rfl (Nat.le_of_ble_eq_true rfl) dX7_textLength_54 ⟨Nat.zero_le _, Nat.zero_le _⟩ ?_
      refine W.eq (g2 := F0 m 57 ls [.int q54, .int 1, .int x2]) rfl ?_
      refine lv_iadd hx hb dX7_textLength_57 ?_
      refine lv_goto (tgt := 62) hx hb dX7_textLength_58 (by decide) ?_
      exact wk_X7_textLength_62 C0 hK hT0 v hP (k28 := k28) (hk28 := hk28) (ls := ls) (hl := (lv_sub hl [0, 1, 3] rfl)) (h := h)
set_option maxHeartbeats 4000000 in
set_option maxRecDepth 100000 in
theorem wk_X7_textLength_28 {p : Program} {l : Launch} {e : Env} {s : State} {m : MethodId} {args : Array Value} {below : List Frame} {meth : Method} {c : Code} {D : va_G} {ca : Nat → ClassId} {b : Nat → Nat} {tw : Nat} {tt : Nat → Nat} (C0 : Cx p s m args meth c cX7_textLength (some .int) 4 wsX7_textLength RX7) (hK : va_K D vwCl (tys3 ca) s) (hT0 : tW tw tt (ad_of 6 b) s s.heap) (v : YS) (hP : va_P D vwCl (YW ca b v) s.heap) {q : Int32} : ∀ (n : Nat) (x1 : Int32) (x2 : Int32) (x3 : Int32) (ls : Array Slot) (hl : lv_has ls 4 [(0, .ref (b 0)), (1, .int x1), (2, .int x2), (3, .int x3)]) (h : fn_X7_textLength_28 v n x1 x2 x3 = some q), W p l e rm_X7_textLength s m args below meth c s.heap [] 0 0 (MQ below (HQ (some (.int q))) args s 0 0 (fun _ => False)) (F0 m 28 ls []) := by
  intro n
  induction n with
  | zero => intro x1 x2 x3 ls hl h; unfold fn_X7_textLength_28 at h; cases h
  | succ n ih => intro x1 x2 x3 ls hl h; exact wk_X7_textLength_28_body C0 hK hT0 v hP (k28 := fn_X7_textLength_28 v n) (hk28 := ih) (hl := hl) (h := h)
set_option maxHeartbeats 4000000 in
set_option maxRecDepth 100000 in
theorem wk_X7_textLength_25 {p : Program} {l : Launch} {e : Env} {s : State} {m : MethodId} {args : Array Value} {below : List Frame} {meth : Method} {c : Code} {D : va_G} {ca : Nat → ClassId} {b : Nat → Nat} {tw : Nat} {tt : Nat → Nat} (C0 : Cx p s m args meth c cX7_textLength (some .int) 4 wsX7_textLength RX7) (hK : va_K D vwCl (tys3 ca) s) (hT0 : tW tw tt (ad_of 6 b) s s.heap) (v : YS) (hP : va_P D vwCl (YW ca b v) s.heap) {q : Int32} (x1 : Int32) (y0 : Int32) (ls : Array Slot) (hl : lv_has ls 4 [(0, .ref (b 0)), (1, .int x1)]) (h : fn_X7_textLength_25 v x1 y0 = some q) : W p l e rm_X7_textLength s m args below meth c s.heap [] 0 0 (MQ below (HQ (some (.int q))) args s 0 0 (fun _ => False)) (F0 m 25 ls [.int y0]) := by
  obtain ⟨hx, hb, hr, hml, hown, hts, hlocks⟩ := id C0
  have hS : va_S (ad_of 6 b) s.heap s.heap [] := va_S.rf
  unfold fn_X7_textLength_25 at h
  refine lv_istore_n (lv' := [(2, .int y0), (0, .ref (b 0)), (1, .int x1)]) hx hb dX7_textLength_25 rfl hl (by decide) rfl (fun ls hl => ?_)
  refine lv_iconst (v := 0) hx hb dX7_textLength_26 (by decide) ?_
  refine lv_istore_n (lv' := [(3, .int 0), (2, .int y0), (0, .ref (b 0)), (1, .int x1)]) hx hb dX7_textLength_27 rfl hl (by decide) rfl (fun ls hl => ?_)
  exact wk_X7_textLength_28 C0 hK hT0 v hP  FU x1 y0 0 ls (lv_sub hl [2, 3, 1, 0] rfl) h
set_option maxHeartbeats 4000000 in
set_option maxRecDepth 100000 in
theorem wk_X7_textLength {p : Program} {l : Launch} {e : Env} {s : State} {m : MethodId} {args : Array Value} {below : List Frame} {meth : Method} {c : Code} {D : va_G} {ca : Nat → ClassId} {b : Nat → Nat} {tw : Nat} {tt : Nat → Nat} (C0 : Cx p s m args meth c cX7_textLength (some .int) 4 wsX7_textLength RX7) (hK : va_K D vwCl (tys3 ca) s) (hT0 : tW tw tt (ad_of 6 b) s s.heap) (v : YS) (hP : va_P D vwCl (YW ca b v) s.heap) {q : Int32} (x1 : Int32) (ls : Array Slot) (hl : lv_has ls 4 [(0, .ref (b 0)), (1, .int x1)]) (h : fn_X7_textLength v x1 = some q) : W p l e rm_X7_textLength s m args below meth c s.heap [] 0 0 (MQ below (HQ (some (.int q))) args s 0 0 (fun _ => False)) (F0 m 0 ls []) := by
  obtain ⟨hx, hb, hr, hml, hown, hts, hlocks⟩ := id C0
  have hS : va_S (ad_of 6 b) s.heap s.heap [] := va_S.rf
  unfold fn_X7_textLength at h
  refine lv_iload_n hx hb dX7_textLength_0 rfl (lv_at hl 1 rfl) ?_
  obtain ⟨q1, e1, h⟩ := Option.bind_eq_some_iff.mp h
  refine hp_S (As := [.int x1]) (rest := []) ⟨hx, hb, hml, hown, hts⟩ (ct_X7_isRegister l tw tt x1 e1) (va_cwS 1 hts gX7_textLength_X7_isRegister rfl rfl rfl (by decide +kernel) ⟨Nat.le_of_ble_eq_true rfl, Nat.le_of_ble_eq_true rfl⟩) GP.mv (GP.from hT0 hS) rfl hl.1 rfl (Nat.le_of_ble_eq_true rfl) dX7_textLength_1 ⟨Nat.zero_le _, Nat.zero_le _⟩ ?_
  refine W.eq (g2 := F0 m 4 ls [.int q1]) rfl ?_
  refine lv_if_ne (tgt := 9) hx hb dX7_textLength_4 (by decide) (fun c4 => ?_) (fun c4 => ?_)
  · replace h := ite_f h c4
    refine lv_aload_n hx hb dX7_textLength_9 rfl (lv_at hl 0 rfl) ?_
    refine va_get (D := D) (ci := 4) (v := .ref (b 1)) (C := RX7) (T := TX7) (N := 9) hx hb hts ly_X7_textLength_X7 hown hK hP 0 rfl rfl 1 (by decide) (hts _ lk_X7_textLength_f13) (fun _ h9 => h9) rfl dX7_textLength_10 ?_
    refine lv_iload_n hx hb dX7_textLength_13 rfl (lv_at hl 1 rfl) ?_
    obtain ⟨q14, e14, h⟩ := Option.bind_eq_some_iff.mp h
    refine rd_lald hx hb hK hP 1 0 e14 rfl rfl dX7_textLength_14 ?_
    refine lv_lconst (v := 0) hx hb dX7_textLength_15 (by decide) ?_
    refine wl_ne (tgt := 24) hx hb dX7_textLength_16 dX7_textLength_17 (by decide) (fun c16 => ?_) (fun c16 => ?_)
    · replace h := ite_f h c16
      refine lv_iconst (v := (-1)) hx hb dX7_textLength_24 (by decide) ?_
      exact wk_X7_textLength_25 C0 hK hT0 v hP (ls := ls) (hl := (lv_sub hl [0, 1] rfl)) (h := h)
    · replace h := ite_t h c16
      refine lv_iconst (v := 1) hx hb dX7_textLength_20 (by decide) ?_
      refine lv_goto (tgt := 25) hx hb dX7_textLength_21 (by decide) ?_
      exact wk_X7_textLength_25 C0 hK hT0 v hP (ls := ls) (hl := (lv_sub hl [0, 1] rfl)) (h := h)
  · replace h := ite_t h c4
    refine lv_iconst (v := (-1)) hx hb dX7_textLength_7 (by decide) ?_
    obtain rfl := Option.some.inj h
    exact hp_iret hx hb hr hlocks dX7_textLength_8
theorem ct_X7_textLength (l : Launch) (D : va_G) (ca : Nat → ClassId) (b : Nat → Nat) (tw : Nat) (tt : Nat → Nat) (v : YS) (x1 : Int32) {q : Int32} (h : fn_X7_textLength v x1 = some q) : Hp l yX7_textLength wsX7_textLength rm_X7_textLength [.ref (b 0), .int x1] (GW D ca tw tt (ad_of 6 b) (YW ca b v)) (some (.int q)) := by
  refine Hp.of (cc := cX7_textLength) (nL := 4) (ret := (some .int)) (own := RX7) (by decide) rfl rfl (Nat.le_of_ble_eq_true rfl) ?_
  intro p e s m below meth c ls C0 hB hl
  exact wk_X7_textLength C0 hB.2.1 hB.2.2 v hB.1 (hl := hl) (h := h)
