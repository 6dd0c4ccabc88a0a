/-! by program (gen.py): the machine does what the functions say -/
abbrev rm_X6_degree : Room := { frames := 3, cells := 0, slots := 0, locals := 68 }
theorem lk_X6_degree_f9 : Cond.fieldLink RX6 9 "BooleanRing" "registers" "[J" ∈ wsX6_degree := by decide +kernel
theorem ly_X6_degree_X6 : ∀ w ∈ wsX60, w ∈ wsX6_degree := by decide +kernel
set_option maxHeartbeats 4000000 in
set_option maxRecDepth 100000 in
theorem wk_X6_degree {p : Program} {l : Launch} {e : Env} {s : State} {m : MethodId} {args : Array Value} {below : List Frame} {meth : Method} {c : Code} {D : va_G} {ca : Nat → ClassId} {a : Nat → Nat} {tw : Nat} {tt : Nat → Nat} (C0 : Cx p s m args meth c cX6_degree (some .int) 3 wsX6_degree RX6) (hK : va_K D vwCl (tys3 ca) s) (hT0 : tW tw tt (ad_of 9 a) s s.heap) (v : XS) (hP : va_P D vwCl (XW ca a v) s.heap) {q : Int32} (x1 : Int32) (ls : Array Slot) (hl : lv_has ls 3 [(0, .ref (a 0)), (1, .int x1)]) (h : fn_X6_degree v x1 = some q) : W p l e rm_X6_degree s m args below meth c s.heap [] 0 0 (MQ below (HQ (some (.int q))) args s 0 0 (fun _ => False)) (F0 m 0 ls []) := by
  obtain ⟨hx, hb, hr, hml, hown, hts, hlocks⟩ := id C0
  have hS : va_S (ad_of 9 a) s.heap s.heap [] := va_S.rf
  unfold fn_X6_degree at h
  refine lv_iload_n hx hb dX6_degree_0 rfl (lv_at hl 1 rfl) ?_
  obtain ⟨q1, e1, h⟩ := Option.bind_eq_some_iff.mp h
  refine hp_S (As := [.int x1]) (rest := []) ⟨hx, hb, hml, hown, hts⟩ (ct_X6_isRegister l tw tt x1 e1) (va_cwS 1 hts gX6_degree_X6_isRegister rfl rfl rfl (by decide +kernel) ⟨Nat.le_of_ble_eq_true rfl, Nat.le_of_ble_eq_true rfl⟩) GP.mv (GP.from hT0 hS) rfl hl.1 rfl (Nat.le_of_ble_eq_true rfl) dX6_degree_1 ⟨Nat.zero_le _, Nat.zero_le _⟩ ?_
  refine W.eq (g2 := F0 m 4 ls [.int q1]) rfl ?_
  refine lv_if_ne (tgt := 9) hx hb dX6_degree_4 (by decide) (fun c4 => ?_) (fun c4 => ?_)
  · replace h := ite_f h c4
    refine lv_aload_n hx hb dX6_degree_9 rfl (lv_at hl 0 rfl) ?_
    refine va_get (D := D) (ci := 3) (v := .ref (a 1)) (C := RX6) (T := TX6) (N := 6) hx hb hts ly_X6_degree_X6 hown hK hP 0 rfl rfl 0 (by decide) (hts _ lk_X6_degree_f9) (fun _ h9 => h9) rfl dX6_degree_10 ?_
    refine lv_iload_n hx hb dX6_degree_13 rfl (lv_at hl 1 rfl) ?_
    obtain ⟨q14, e14, h⟩ := Option.bind_eq_some_iff.mp h
    refine rd_lald hx hb hK hP 1 0 e14 rfl rfl dX6_degree_14 ?_
    refine lv_iconst (v := 1) hx hb dX6_degree_15 (by decide) ?_
    refine lv_iconst (v := 0) hx hb dX6_degree_16 (by decide) ?_
    obtain ⟨q17, e17, h⟩ := Option.bind_eq_some_iff.mp h
    refine hp_S (As := [.long q14, .int 1, .int 0]) (rest := []) ⟨hx, hb, hml, hown, hts⟩ (ct_X2_termOf l tw tt q14 1 0 e17) (va_cwS 3 hts gX6_degree_X2_termOf rfl rfl rfl (by decide +kernel) ⟨Nat.le_of_ble_eq_true rfl, Nat.le_of_ble_eq_true rfl⟩) GP.mv (GP.from hT0 hS) rfl hl.1 rfl (Nat.le_of_ble_eq_true rfl) dX6_degree_17 ⟨Nat.zero_le _, Nat.zero_le _⟩ ?_
    refine W.eq (g2 := F0 m 20 ls [.int q17]) rfl ?_
    refine lv_istore_n (lv' := [(2, .int q17), (0, .ref (a 0)), (1, .int x1)]) hx hb dX6_degree_20 rfl hl (by decide) rfl (fun ls hl => ?_)
    refine lv_iload_n hx hb dX6_degree_21 rfl (lv_at hl 0 rfl) ?_
    refine lv_if_ge (tgt := 30) hx hb dX6_degree_22 (by decide) (fun c22 => ?_) (fun c22 => ?_)
    · replace h := ite_t h c22
      refine lv_iload_n hx hb dX6_degree_30 rfl (lv_at hl 0 rfl) ?_
      obtain ⟨q31, e31, h⟩ := Option.bind_eq_some_iff.mp h
      refine hp_S (As := [.int q17]) (rest := []) ⟨hx, hb, hml, hown, hts⟩ (ct_J6_bitCount_0f7a4 l tw tt q17 e31) (va_cwS 1 hts gX6_degree_J6_bitCount_0f7a4 rfl rfl rfl (by decide +kernel) ⟨Nat.le_of_ble_eq_true rfl, Nat.le_of_ble_eq_true rfl⟩) GP.mv (GP.from hT0 hS) rfl hl.1 rfl (Nat.le_of_ble_eq_true rfl) dX6_degree_31 ⟨Nat.zero_le _, Nat.zero_le _⟩ ?_
      refine W.eq (g2 := F0 m 34 ls [.int q31]) rfl ?_
      obtain rfl := Option.some.inj h
      exact hp_iret hx hb hr hlocks dX6_degree_34
    · replace h := ite_f h c22
      refine lv_bipush (v := (-4)) hx hb dX6_degree_25 (by decide) ?_
      refine lv_goto (tgt := 34) hx hb dX6_degree_27 (by decide) ?_
      obtain rfl := Option.some.inj h
      exact hp_iret hx hb hr hlocks dX6_degree_34
  · replace h := ite_t h c4
    refine lv_iconst (v := (-1)) hx hb dX6_degree_7 (by decide) ?_
    obtain rfl := Option.some.inj h
    exact hp_iret hx hb hr hlocks dX6_degree_8
theorem ct_X6_degree (l : Launch) (D : va_G) (ca : Nat → ClassId) (a : Nat → Nat) (tw : Nat) (tt : Nat → Nat) (v : XS) (x1 : Int32) {q : Int32} (h : fn_X6_degree v x1 = some q) : Hp l yX6_degree wsX6_degree rm_X6_degree [.ref (a 0), .int x1] (GW D ca tw tt (ad_of 9 a) (XW ca a v)) (some (.int q)) := by
  refine Hp.of (cc := cX6_degree) (nL := 3) (ret := (some .int)) (own := RX6) (by decide) rfl rfl (Nat.le_of_ble_eq_true rfl) ?_
  intro p e s m below meth c ls C0 hB hl
  exact wk_X6_degree C0 hB.2.1 hB.2.2 v hB.1 (hl := hl) (h := h)
abbrev rm_X6_occurring : Room := { frames := 2, cells := 0, slots := 0, locals := 42 }
theorem lk_X6_occurring_f38 : Cond.fieldLink RX6 38 "BooleanRing" "n" "I" ∈ wsX6_occurring := by decide +kernel
theorem lk_X6_occurring_f9 : Cond.fieldLink RX6 9 "BooleanRing" "registers" "[J" ∈ wsX6_occurring := by decide +kernel
theorem ly_X6_occurring_X6 : ∀ w ∈ wsX60, w ∈ wsX6_occurring := by decide +kernel
set_option maxHeartbeats 4000000 in
set_option maxRecDepth 100000 in
theorem wk_X6_occurring_13_body {p : Program} {l : Launch} {e : Env} {s : State} {m : MethodId} {args : Array Value} {below : List Frame} {meth : Method} {c : Code} {D : va_G} {ca : Nat → ClassId} {a : Nat → Nat} {tw : Nat} {tt : Nat → Nat} (C0 : Cx p s m args meth c cX6_occurring (some .int) 4 wsX6_occurring RX6) (hK : va_K D vwCl (tys3 ca) s) (hT0 : tW tw tt (ad_of 9 a) s s.heap) (v : XS) (hP : va_P D vwCl (XW ca a v) s.heap) {q : Int32} (k13 : Int32 → Int32 → Int32 → Option (Int32)) (hk13 : ∀ (x1 : Int32) (x2 : Int32) (x3 : Int32) (ls : Array Slot) (hl : lv_has ls 4 [(0, .ref (a 0)), (1, .int x1), (2, .int x2), (3, .int x3)]) (h : k13 x1 x2 x3 = some q), W p l e rm_X6_occurring s m args below meth c s.heap [] 0 0 (MQ below (HQ (some (.int q))) args s 0 0 (fun _ => False)) (F0 m 13 ls [])) (x1 : Int32) (x2 : Int32) (x3 : Int32) (ls : Array Slot) (hl : lv_has ls 4 [(0, .ref (a 0)), (1, .int x1), (2, .int x2), (3, .int x3)]) (h : fn_X6_occurring_13_body v k13 x1 x2 x3 = some q) : W p l e rm_X6_occurring s m args below meth c s.heap [] 0 0 (MQ below (HQ (some (.int q))) args s 0 0 (fun _ => False)) (F0 m 13 ls []) := by
  obtain ⟨hx, hb, hr, hml, hown, hts, hlocks⟩ := id C0
  have hS : va_S (ad_of 9 a) s.heap s.heap [] := va_S.rf
  unfold fn_X6_occurring_13_body at h
  refine lv_iload_n hx hb dX6_occurring_13 rfl (lv_at hl 3 rfl) ?_
  refine lv_aload_n hx hb dX6_occurring_14 rfl (lv_at hl 0 rfl) ?_
  refine va_get (D := D) (ci := 3) (v := .int (x_n v)) (C := RX6) (T := TX6) (N := 6) hx hb hts ly_X6_occurring_X6 hown hK hP 0 rfl rfl 5 (by decide) (hts _ lk_X6_occurring_f38) (fun _ h9 => h9) rfl dX6_occurring_15 ?_
  refine lv_icmp_ge (tgt := 48) hx hb dX6_occurring_18 (by decide) (fun c18 => ?_) (fun c18 => ?_)
  · replace h := ite_t h c18
    refine lv_iload_n hx hb dX6_occurring_48 rfl (lv_at hl 2 rfl) ?_
    obtain rfl := Option.some.inj h
    exact hp_iret hx hb hr hlocks dX6_occurring_49
  · replace h := ite_f h c18
    refine lv_aload_n hx hb dX6_occurring_21 rfl (lv_at hl 0 rfl) ?_
    refine va_get (D := D) (ci := 3) (v := .ref (a 1)) (C := RX6) (T := TX6) (N := 6) hx hb hts ly_X6_occurring_X6 hown hK hP 0 rfl rfl 0 (by decide) (hts _ lk_X6_occurring_f9) (fun _ h9 => h9) rfl dX6_occurring_22 ?_
    refine lv_iload_n hx hb dX6_occurring_25 rfl (lv_at hl 1 rfl) ?_
    obtain ⟨q26, e26, h⟩ := Option.bind_eq_some_iff.mp h
    refine rd_lald hx hb hK hP 1 0 e26 rfl rfl dX6_occurring_26 ?_
    refine lv_iload_n hx hb dX6_occurring_27 rfl (lv_at hl 3 rfl) ?_
    obtain ⟨q28, e28, h⟩ := Option.bind_eq_some_iff.mp h
    refine hp_S (As := [.long q26, .int x3]) (rest := []) ⟨hx, hb, hml, hown, hts⟩ (ct_X3_upperHalf l tw tt q26 x3 e28) (va_cwS 2 hts gX6_occurring_X3_upperHalf rfl rfl rfl (by decide +kernel) ⟨Nat.le_of_ble_eq_true rfl, Nat.le_of_ble_eq_true rfl⟩) GP.mv (GP.from hT0 hS) rfl hl.1 rfl (Nat.le_of_ble_eq_true rfl) dX6_occurring_28 ⟨Nat.zero_le _, Nat.zero_le _⟩ ?_
    refine W.eq (g2 := F0 m 31 ls [.long q28]) rfl ?_
    refine lv_lconst (v := 0) hx hb dX6_occurring_31 (by decide) ?_
    refine wl_eq (tgt := 42) hx hb dX6_occurring_32 dX6_occurring_33 (by decide) (fun c32 => ?_) (fun c32 => ?_)
    · replace h := ite_t h c32
      refine lv_iinc (v := (x3 + 1)) (lv' := [(3, .int (x3 + 1)), (0, .ref (a 0)), (1, .int x1), (2, .int x2)]) hx hb dX6_occurring_42 hl (k := 3) rfl rfl (by decide) rfl (fun ls hl => ?_)
      refine lv_goto (tgt := 13) hx hb dX6_occurring_45 (by decide) ?_
      exact hk13 x1 x2 (x3 + 1) ls (lv_sub hl [1, 2, 3, 0] rfl) h
    · replace h := ite_f h c32
      refine lv_iload_n hx hb dX6_occurring_36 rfl (lv_at hl 2 rfl) ?_
      refine lv_iconst (v := 1) hx hb dX6_occurring_37 (by decide) ?_
      refine lv_iload_n hx hb dX6_occurring_38 rfl (lv_at hl 3 rfl) ?_
      refine lv_ishl hx hb dX6_occurring_39 ?_
      refine lv_ior hx hb dX6_occurring_40 ?_
      refine lv_istore_n (lv' := [(2, .int (x2 ||| (ish 1 x3))), (0, .ref (a 0)), (1, .int x1), (3, .int x3)]) hx hb dX6_occurring_41 rfl hl (by decide) rfl (fun ls hl => ?_)
      refine lv_iinc (v := (x3 + 1)) (lv' := [(3, .int (x3 + 1)), (2, .int (x2 ||| (ish 1 x3))), (0, .ref (a 0)), (1, .int x1)]) hx hb dX6_occurring_42 hl (k := 3) rfl rfl (by decide) rfl (fun ls hl => ?_)
      refine lv_goto (tgt := 13) hx hb dX6_occurring_45 (by decide) ?_
      exact hk13 x1 (x2 ||| (ish 1 x3)) (x3 + 1) ls (lv_sub hl [2, 3, 1, 0] rfl) h
set_option maxHeartbeats 4000000 in
set_option maxRecDepth 100000 in
theorem wk_X6_occurring_13 {p : Program} {l : Launch} {e : Env} {s : State} {m : MethodId} {args : Array Value} {below : List Frame} {meth : Method} {c : Code} {D : va_G} {ca : Nat → ClassId} {a : Nat → Nat} {tw : Nat} {tt : Nat → Nat} (C0 : Cx p s m args meth c cX6_occurring (some .int) 4 wsX6_occurring RX6) (hK : va_K D vwCl (tys3 ca) s) (hT0 : tW tw tt (ad_of 9 a) s s.heap) (v : XS) (hP : va_P D vwCl (XW ca a v) s.heap) {q : Int32} : ∀ (n : Nat) (x1 : Int32) (x2 : Int32) (x3 : Int32) (ls : Array Slot) (hl : lv_has ls 4 [(0, .ref (a 0)), (1, .int x1), (2, .int x2), (3, .int x3)]) (h : fn_X6_occurring_13 v n x1 x2 x3 = some q), W p l e rm_X6_occurring s m args below meth c s.heap [] 0 0 (MQ below (HQ (some (.int q))) args s 0 0 (fun _ => False)) (F0 m 13 ls []) := by
  intro n
  induction n with
  | zero => intro x1 x2 x3 ls hl h; unfold fn_X6_occurring_13 at h; cases h
  | succ n ih => intro x1 x2 x3 ls hl h; exact wk_X6_occurring_13_body C0 hK hT0 v hP (k13 := fn_X6_occurring_13 v n) (hk13 := ih) (hl := hl) (h := h)
set_option maxHeartbeats 4000000 in
set_option maxRecDepth 100000 in
theorem wk_X6_occurring {p : Program} {l : Launch} {e : Env} {s : State} {m : MethodId} {args : Array Value} {below : List Frame} {meth : Method} {c : Code} {D : va_G} {ca : Nat → ClassId} {a : Nat → Nat} {tw : Nat} {tt : Nat → Nat} (C0 : Cx p s m args meth c cX6_occurring (some .int) 4 wsX6_occurring RX6) (hK : va_K D vwCl (tys3 ca) s) (hT0 : tW tw tt (ad_of 9 a) s s.heap) (v : XS) (hP : va_P D vwCl (XW ca a v) s.heap) {q : Int32} (x1 : Int32) (ls : Array Slot) (hl : lv_has ls 4 [(0, .ref (a 0)), (1, .int x1)]) (h : fn_X6_occurring v x1 = some q) : W p l e rm_X6_occurring s m args below meth c s.heap [] 0 0 (MQ below (HQ (some (.int q))) args s 0 0 (fun _ => False)) (F0 m 0 ls []) := by
  obtain ⟨hx, hb, hr, hml, hown, hts, hlocks⟩ := id C0
  have hS : va_S (ad_of 9 a) s.heap s.heap [] := va_S.rf
  unfold fn_X6_occurring at h
  refine lv_iload_n hx hb dX6_occurring_0 rfl (lv_at hl 1 rfl) ?_
  obtain ⟨q1, e1, h⟩ := Option.bind_eq_some_iff.mp h
  refine hp_S (As := [.int x1]) (rest := []) ⟨hx, hb, hml, hown, hts⟩ (ct_X6_isRegister l tw tt x1 e1) (va_cwS 1 hts gX6_occurring_X6_isRegister rfl rfl rfl (by decide +kernel) ⟨Nat.le_of_ble_eq_true rfl, Nat.le_of_ble_eq_true rfl⟩) GP.mv (GP.from hT0 hS) rfl hl.1 rfl (Nat.le_of_ble_eq_true rfl) dX6_occurring_1 ⟨Nat.zero_le _, Nat.zero_le _⟩ ?_
  refine W.eq (g2 := F0 m 4 ls [.int q1]) rfl ?_
  refine lv_if_ne (tgt := 9) hx hb dX6_occurring_4 (by decide) (fun c4 => ?_) (fun c4 => ?_)
  · replace h := ite_f h c4
    refine lv_iconst (v := 0) hx hb dX6_occurring_9 (by decide) ?_
    refine lv_istore_n (lv' := [(2, .int 0), (0, .ref (a 0)), (1, .int x1)]) hx hb dX6_occurring_10 rfl hl (by decide) rfl (fun ls hl => ?_)
    refine lv_iconst (v := 0) hx hb dX6_occurring_11 (by decide) ?_
    refine lv_istore_n (lv' := [(3, .int 0), (2, .int 0), (0, .ref (a 0)), (1, .int x1)]) hx hb dX6_occurring_12 rfl hl (by decide) rfl (fun ls hl => ?_)
    exact wk_X6_occurring_13 C0 hK hT0 v hP  FU x1 0 0 ls (lv_sub hl [2, 3, 1, 0] rfl) h
  · replace h := ite_t h c4
    refine lv_iconst (v := (-1)) hx hb dX6_occurring_7 (by decide) ?_
    obtain rfl := Option.some.inj h
    exact hp_iret hx hb hr hlocks dX6_occurring_8
theorem ct_X6_occurring (l : Launch) (D : va_G) (ca : Nat → ClassId) (a : Nat → Nat) (tw : Nat) (tt : Nat → Nat) (v : XS) (x1 : Int32) {q : Int32} (h : fn_X6_occurring v x1 = some q) : Hp l yX6_occurring wsX6_occurring rm_X6_occurring [.ref (a 0), .int x1] (GW D ca tw tt (ad_of 9 a) (XW ca a v)) (some (.int q)) := by
  refine Hp.of (cc := cX6_occurring) (nL := 4) (ret := (some .int)) (own := RX6) (by decide) rfl rfl (Nat.le_of_ble_eq_true rfl) ?_
  intro p e s m below meth c ls C0 hB hl
  exact wk_X6_occurring C0 hB.2.1 hB.2.2 v hB.1 (hl := hl) (h := h)
abbrev rm_X6_size : Room := { frames := 4, cells := 0, slots := 0, locals := 86 }
theorem lk_X6_size_f27 : Cond.fieldLink RX6 27 "BooleanRing" "diagrams" "LBooleanRing$Diagrams;" ∈ wsX6_size := by decide +kernel
theorem lk_X6_size_f9 : Cond.fieldLink RX6 9 "BooleanRing" "registers" "[J" ∈ wsX6_size := by decide +kernel
theorem ly_X6_size_X6 : ∀ w ∈ wsX60, w ∈ wsX6_size := by decide +kernel
set_option maxHeartbeats 4000000 in
set_option maxRecDepth 100000 in
theorem wk_X6_size {p : Program} {l : Launch} {e : Env} {s : State} {m : MethodId} {args : Array Value} {below : List Frame} {meth : Method} {c : Code} {D : va_G} {ca : Nat → ClassId} {a : Nat → Nat} {tw : Nat} {tt : Nat → Nat} (C0 : Cx p s m args meth c cX6_size (some .int) 2 wsX6_size RX6) (hap : ap_ok 9 a) (hK : va_K D vwCl (tys3 ca) s) (hT0 : tW tw tt (ad_of 9 a) s s.heap) {q : Int32 × XS} (v : XS) (H : Heap) (locs : List Loc) (x1 : Int32) (ls : Array Slot) (hP : va_P D vwCl (XW ca a v) H) (hS : va_S (ad_of 9 a) s.heap H locs) (hl : lv_has ls 2 [(0, .ref (a 0)), (1, .int x1)]) (h : fn_X6_size v x1 = some q) : W p l e rm_X6_size s m args below meth c H locs 0 0 (MQ below (PQ (some (.int q.1)) (fun H => va_P D vwCl (XW ca a q.2) H) (ad_of 9 a)) args s 0 0 (ad_of 9 a)) (F0 m 0 ls []) := by
  obtain ⟨hx, hb, hr, hml, hown, hts, hlocks⟩ := id C0
  have hD0 := fun v => XW_D (ca := ca) hap v
  unfold fn_X6_size at h
  refine lv_iload_n hx hb dX6_size_0 rfl (lv_at hl 1 rfl) ?_
  obtain ⟨q1, e1, h⟩ := Option.bind_eq_some_iff.mp h
  refine hp_S (As := [.int x1]) (rest := []) ⟨hx, hb, hml, hown, hts⟩ (ct_X6_isRegister l tw tt x1 e1) (va_cwS 1 hts gX6_size_X6_isRegister rfl rfl rfl (by decide +kernel) ⟨Nat.le_of_ble_eq_true rfl, Nat.le_of_ble_eq_true rfl⟩) GP.mv (GP.from hT0 hS) rfl hl.1 rfl (Nat.le_of_ble_eq_true rfl) dX6_size_1 ⟨Nat.zero_le _, Nat.zero_le _⟩ ?_
  refine W.eq (g2 := F0 m 4 ls [.int q1]) rfl ?_
  refine lv_if_ne (tgt := 9) hx hb dX6_size_4 (by decide) (fun c4 => ?_) (fun c4 => ?_)
  · replace h := ite_f h c4
    refine lv_aload_n hx hb dX6_size_9 rfl (lv_at hl 0 rfl) ?_
    refine va_get (D := D) (ci := 3) (v := .ref (a 5)) (C := RX6) (T := TX6) (N := 6) hx hb hts ly_X6_size_X6 hown hK hP 0 rfl rfl 3 (by decide) (hts _ lk_X6_size_f27) (fun _ h9 => h9) rfl dX6_size_10 ?_
    obtain ⟨q13, e13, h⟩ := Option.bind_eq_some_iff.mp h
    refine mp_V (As := []) (rest := []) (b := (a 5)) ⟨hx, hb, hml, hown, hts⟩ (ct_X0_forget l D ca a tw tt hap v  e13) (cwV 0 hts gX6_size_X0_forget rfl rfl rfl (by decide +kernel) ⟨Nat.le_of_ble_eq_true rfl, Nat.le_of_ble_eq_true rfl⟩) (va_recv hK hP (ci := 0) (q0 := 5) rfl rfl) GW.mv (GW.from hP hK hT0 hS) hS rfl hl.1 rfl (Nat.le_of_ble_eq_true rfl) dX6_size_13 ⟨Nat.zero_le _, Nat.zero_le _⟩ (fun H locs hP hS => ?_)
    refine W.eq (g2 := F0 m 16 ls []) rfl ?_
    refine lv_aload_n hx hb dX6_size_16 rfl (lv_at hl 0 rfl) ?_
    refine va_get (D := D) (ci := 3) (v := .ref (a 5)) (C := RX6) (T := TX6) (N := 6) hx hb hts ly_X6_size_X6 hown hK hP 0 rfl rfl 3 (by decide) (hts _ lk_X6_size_f27) (fun _ h9 => h9) rfl dX6_size_17 ?_
    refine lv_aload_n hx hb dX6_size_20 rfl (lv_at hl 0 rfl) ?_
    refine va_get (D := D) (ci := 3) (v := .ref (a 1)) (C := RX6) (T := TX6) (N := 6) hx hb hts ly_X6_size_X6 hown hK hP 0 rfl rfl 0 (by decide) (hts _ lk_X6_size_f9) (fun _ h9 => h9) rfl dX6_size_21 ?_
    refine lv_iload_n hx hb dX6_size_24 rfl (lv_at hl 1 rfl) ?_
    obtain ⟨q25, e25, h⟩ := Option.bind_eq_some_iff.mp h
    refine rd_lald hx hb hK hP 1 0 e25 rfl rfl dX6_size_25 ?_
    obtain ⟨q26, e26, h⟩ := Option.bind_eq_some_iff.mp h
    refine mp_V (As := [.long q25]) (rest := []) (b := (a 5)) ⟨hx, hb, hml, hown, hts⟩ (ct_X0_enter l D ca a tw tt hap q13 q25 e26) (cwV 1 hts gX6_size_X0_enter rfl rfl rfl (by decide +kernel) ⟨Nat.le_of_ble_eq_true rfl, Nat.le_of_ble_eq_true rfl⟩) (va_recv hK hP (ci := 0) (q0 := 5) rfl rfl) GW.mv (GW.from hP hK hT0 hS) hS rfl hl.1 rfl (Nat.le_of_ble_eq_true rfl) dX6_size_26 ⟨Nat.zero_le _, Nat.zero_le _⟩ (fun H locs hP hS => ?_)
    refine W.eq (g2 := F0 m 29 ls []) rfl ?_
    refine lv_aload_n hx hb dX6_size_29 rfl (lv_at hl 0 rfl) ?_
    refine va_get (D := D) (ci := 3) (v := .ref (a 5)) (C := RX6) (T := TX6) (N := 6) hx hb hts ly_X6_size_X6 hown hK hP 0 rfl rfl 3 (by decide) (hts _ lk_X6_size_f27) (fun _ h9 => h9) rfl dX6_size_30 ?_
    obtain ⟨q33, e33, h⟩ := Option.bind_eq_some_iff.mp h
    refine mp_V (As := []) (rest := []) (b := (a 5)) ⟨hx, hb, hml, hown, hts⟩ (ct_X0_closedCount l D ca a tw tt hap q26  e33) (cwV 0 hts gX6_size_X0_closedCount rfl rfl rfl (by decide +kernel) ⟨Nat.le_of_ble_eq_true rfl, Nat.le_of_ble_eq_true rfl⟩) (va_recv hK hP (ci := 0) (q0 := 5) rfl rfl) GW.mv (GW.from hP hK hT0 hS) hS rfl hl.1 rfl (Nat.le_of_ble_eq_true rfl) dX6_size_33 ⟨Nat.zero_le _, Nat.zero_le _⟩ (fun H locs hP hS => ?_)
    refine W.eq (g2 := F0 m 36 ls [.int q33.1]) rfl ?_
    obtain rfl := Option.some.inj h
    exact mp_iret hx hb hr hlocks hP hS dX6_size_36
  · replace h := ite_t h c4
    refine lv_iconst (v := (-1)) hx hb dX6_size_7 (by decide) ?_
    obtain rfl := Option.some.inj h
    exact mp_iret hx hb hr hlocks hP hS dX6_size_8
theorem ct_X6_size (l : Launch) (D : va_G) (ca : Nat → ClassId) (a : Nat → Nat) (tw : Nat) (tt : Nat → Nat) (hap : ap_ok 9 a) (v : XS) (x1 : Int32) {q : Int32 × XS} (h : fn_X6_size v x1 = some q) : Mp l yX6_size wsX6_size rm_X6_size [.ref (a 0), .int x1] (GW D ca tw tt (ad_of 9 a) (XW ca a v)) (some (.int q.1)) (fun H => va_P D vwCl (XW ca a q.2) H) (ad_of 9 a) := by
  refine Mp.of (cc := cX6_size) (nL := 2) (ret := (some .int)) (own := RX6) (by decide) rfl rfl (Nat.le_of_ble_eq_true rfl) ?_
  intro p e s m below meth c ls C0 hB hl
  exact wk_X6_size C0 hap hB.2.1 hB.2.2 (hP := hB.1) (hS := va_S.rf) (hl := hl) (h := h)
abbrev rm_X6_sharedSize : Room := { frames := 4, cells := 0, slots := 0, locals := 86 }
theorem lk_X6_sharedSize_f27 : Cond.fieldLink RX6 27 "BooleanRing" "diagrams" "LBooleanRing$Diagrams;" ∈ wsX6_sharedSize := by decide +kernel
theorem lk_X6_sharedSize_f9 : Cond.fieldLink RX6 9 "BooleanRing" "registers" "[J" ∈ wsX6_sharedSize := by decide +kernel
theorem ly_X6_sharedSize_X6 : ∀ w ∈ wsX60, w ∈ wsX6_sharedSize := by decide +kernel
set_option maxHeartbeats 4000000 in
set_option maxRecDepth 100000 in
theorem wk_X6_sharedSize_9_body {p : Program} {l : Launch} {e : Env} {s : State} {m : MethodId} {args : Array Value} {below : List Frame} {meth : Method} {c : Code} {D : va_G} {ca : Nat → ClassId} {a : Nat → Nat} {tw : Nat} {tt : Nat → Nat} (C0 : Cx p s m args meth c cX6_sharedSize (some .int) 2 wsX6_sharedSize RX6) (hap : ap_ok 9 a) (hK : va_K D vwCl (tys3 ca) s) (hT0 : tW tw tt (ad_of 9 a) s s.heap) {q : Int32 × XS} (k9 : XS → Int32 → Option (Int32 × XS)) (hk9 : ∀ (v : XS) (H : Heap) (locs : List Loc) (x1 : Int32) (ls : Array Slot) (hP : va_P D vwCl (XW ca a v) H) (hS : va_S (ad_of 9 a) s.heap H locs) (hl : lv_has ls 2 [(0, .ref (a 0)), (1, .int x1)]) (h : k9 v x1 = some q), W p l e rm_X6_sharedSize s m args below meth c H locs 0 0 (MQ below (PQ (some (.int q.1)) (fun H => va_P D vwCl (XW ca a q.2) H) (ad_of 9 a)) args s 0 0 (ad_of 9 a)) (F0 m 9 ls [])) (v : XS) (H : Heap) (locs : List Loc) (x1 : Int32) (ls : Array Slot) (hP : va_P D vwCl (XW ca a v) H) (hS : va_S (ad_of 9 a) s.heap H locs) (hl : lv_has ls 2 [(0, .ref (a 0)), (1, .int x1)]) (h : fn_X6_sharedSize_9_body k9 v x1 = some q) : W p l e rm_X6_sharedSize s m args below meth c H locs 0 0 (MQ below (PQ (some (.int q.1)) (fun H => va_P D vwCl (XW ca a q.2) H) (ad_of 9 a)) args s 0 0 (ad_of 9 a)) (F0 m 9 ls []) := by
  obtain ⟨hx, hb, hr, hml, hown, hts, hlocks⟩ := id C0
  have hD0 := fun v => XW_D (ca := ca) hap v
  unfold fn_X6_sharedSize_9_body at h
  refine lv_iload_n hx hb dX6_sharedSize_9 rfl (lv_at hl 1 rfl) ?_
  refine lv_bipush (v := 8) hx hb dX6_sharedSize_10 (by decide) ?_
  refine lv_icmp_ge (tgt := 34) hx hb dX6_sharedSize_12 (by decide) (fun c12 => ?_) (fun c12 => ?_)
  · replace h := ite_t h c12
    refine lv_aload_n hx hb dX6_sharedSize_34 rfl (lv_at hl 0 rfl) ?_
    refine va_get (D := D) (ci := 3) (v := .ref (a 5)) (C := RX6) (T := TX6) (N := 6) hx hb hts ly_X6_sharedSize_X6 hown hK hP 0 rfl rfl 3 (by decide) (hts _ lk_X6_sharedSize_f27) (fun _ h9 => h9) rfl dX6_sharedSize_35 ?_
    obtain ⟨q38, e38, h⟩ := Option.bind_eq_some_iff.mp h
    refine mp_V (As := []) (rest := []) (b := (a 5)) ⟨hx, hb, hml, hown, hts⟩ (ct_X0_closedCount l D ca a tw tt hap v  e38) (cwV 0 hts gX6_sharedSize_X0_closedCount rfl rfl rfl (by decide +kernel) ⟨Nat.le_of_ble_eq_true rfl, Nat.le_of_ble_eq_true rfl⟩) (va_recv hK hP (ci := 0) (q0 := 5) rfl rfl) GW.mv (GW.from hP hK hT0 hS) hS rfl hl.1 rfl (Nat.le_of_ble_eq_true rfl) dX6_sharedSize_38 ⟨Nat.zero_le _, Nat.zero_le _⟩ (fun H locs hP hS => ?_)
    refine W.eq (g2 := F0 m 41 ls [.int q38.1]) rfl ?_
    obtain rfl := Option.some.inj h
    exact mp_iret hx hb hr hlocks hP hS dX6_sharedSize_41
  · replace h := ite_f h c12
    refine lv_aload_n hx hb dX6_sharedSize_15 rfl (lv_at hl 0 rfl) ?_
    refine va_get (D := D) (ci := 3) (v := .ref (a 5)) (C := RX6) (T := TX6) (N := 6) hx hb hts ly_X6_sharedSize_X6 hown hK hP 0 rfl rfl 3 (by decide) (hts _ lk_X6_sharedSize_f27) (fun _ h9 => h9) rfl dX6_sharedSize_16 ?_
    refine lv_aload_n hx hb dX6_sharedSize_19 rfl (lv_at hl 0 rfl) ?_
    refine va_get (D := D) (ci := 3) (v := .ref (a 1)) (C := RX6) (T := TX6) (N := 6) hx hb hts ly_X6_sharedSize_X6 hown hK hP 0 rfl rfl 0 (by decide) (hts _ lk_X6_sharedSize_f9) (fun _ h9 => h9) rfl dX6_sharedSize_20 ?_
    refine lv_iload_n hx hb dX6_sharedSize_23 rfl (lv_at hl 1 rfl) ?_
    obtain ⟨q24, e24, h⟩ := Option.bind_eq_some_iff.mp h
    refine rd_lald hx hb hK hP 1 0 e24 rfl rfl dX6_sharedSize_24 ?_
    obtain ⟨q25, e25, h⟩ := Option.bind_eq_some_iff.mp h
    refine mp_V (As := [.long q24]) (rest := []) (b := (a 5)) ⟨hx, hb, hml, hown, hts⟩ (ct_X0_enter l D ca a tw tt hap v q24 e25) (cwV 1 hts gX6_sharedSize_X0_enter rfl rfl rfl (by decide +kernel) ⟨Nat.le_of_ble_eq_true rfl, Nat.le_of_ble_eq_true rfl⟩) (va_recv hK hP (ci := 0) (q0 := 5) rfl rfl) GW.mv (GW.from hP hK hT0 hS) hS rfl hl.1 rfl (Nat.le_of_ble_eq_true rfl) dX6_sharedSize_25 ⟨Nat.zero_le _, Nat.zero_le _⟩ (fun H locs hP hS => ?_)
    refine W.eq (g2 := F0 m 28 ls []) rfl ?_
    refine lv_iinc (v := (x1 + 1)) (lv' := [(1, .int (x1 + 1)), (0, .ref (a 0))]) hx hb dX6_sharedSize_28 hl (k := 1) rfl rfl (by decide) rfl (fun ls hl => ?_)
    refine lv_goto (tgt := 9) hx hb dX6_sharedSize_31 (by decide) ?_
    exact hk9 q25 H locs (x1 + 1) ls hP hS (lv_sub hl [1, 0] rfl) h
set_option maxHeartbeats 4000000 in
set_option maxRecDepth 100000 in
theorem wk_X6_sharedSize_9 {p : Program} {l : Launch} {e : Env} {s : State} {m : MethodId} {args : Array Value} {below : List Frame} {meth : Method} {c : Code} {D : va_G} {ca : Nat → ClassId} {a : Nat → Nat} {tw : Nat} {tt : Nat → Nat} (C0 : Cx p s m args meth c cX6_sharedSize (some .int) 2 wsX6_sharedSize RX6) (hap : ap_ok 9 a) (hK : va_K D vwCl (tys3 ca) s) (hT0 : tW tw tt (ad_of 9 a) s s.heap) {q : Int32 × XS} : ∀ (n : Nat) (v : XS) (H : Heap) (locs : List Loc) (x1 : Int32) (ls : Array Slot) (hP : va_P D vwCl (XW ca a v) H) (hS : va_S (ad_of 9 a) s.heap H locs) (hl : lv_has ls 2 [(0, .ref (a 0)), (1, .int x1)]) (h : fn_X6_sharedSize_9 n v x1 = some q), W p l e rm_X6_sharedSize s m args below meth c H locs 0 0 (MQ below (PQ (some (.int q.1)) (fun H => va_P D vwCl (XW ca a q.2) H) (ad_of 9 a)) args s 0 0 (ad_of 9 a)) (F0 m 9 ls []) := by
  intro n
  induction n with
  | zero => intro v H locs x1 ls hP hS hl h; unfold fn_X6_sharedSize_9 at h; cases h
  | succ n ih => intro v H locs x1 ls hP hS hl h; exact wk_X6_sharedSize_9_body C0 hap hK hT0 (k9 := fn_X6_sharedSize_9 n) (hk9 := ih) (hl := hl) (hP := hP) (hS := hS) (h := h)
set_option maxHeartbeats 4000000 in
set_option maxRecDepth 100000 in
theorem wk_X6_sharedSize {p : Program} {l : Launch} {e : Env} {s : State} {m : MethodId} {args : Array Value} {below : List Frame} {meth : Method} {c : Code} {D : va_G} {ca : Nat → ClassId} {a : Nat → Nat} {tw : Nat} {tt : Nat → Nat} (C0 : Cx p s m args meth c cX6_sharedSize (some .int) 2 wsX6_sharedSize RX6) (hap : ap_ok 9 a) (hK : va_K D vwCl (tys3 ca) s) (hT0 : tW tw tt (ad_of 9 a) s s.heap) {q : Int32 × XS} (v : XS) (H : Heap) (locs : List Loc) (ls : Array Slot) (hP : va_P D vwCl (XW ca a v) H) (hS : va_S (ad_of 9 a) s.heap H locs) (hl : lv_has ls 2 [(0, .ref (a 0))]) (h : fn_X6_sharedSize v  = some q) : W p l e rm_X6_sharedSize s m args below meth c H locs 0 0 (MQ below (PQ (some (.int q.1)) (fun H => va_P D vwCl (XW ca a q.2) H) (ad_of 9 a)) args s 0 0 (ad_of 9 a)) (F0 m 0 ls []) := by
  obtain ⟨hx, hb, hr, hml, hown, hts, hlocks⟩ := id C0
  have hD0 := fun v => XW_D (ca := ca) hap v
  unfold fn_X6_sharedSize at h
  refine lv_aload_n hx hb dX6_sharedSize_0 rfl (lv_at hl 0 rfl) ?_
  refine va_get (D := D) (ci := 3) (v := .ref (a 5)) (C := RX6) (T := TX6) (N := 6) hx hb hts ly_X6_sharedSize_X6 hown hK hP 0 rfl rfl 3 (by decide) (hts _ lk_X6_sharedSize_f27) (fun _ h9 => h9) rfl dX6_sharedSize_1 ?_
  obtain ⟨q4, e4, h⟩ := Option.bind_eq_some_iff.mp h
  refine mp_V (As := []) (rest := []) (b := (a 5)) ⟨hx, hb, hml, hown, hts⟩ (ct_X0_forget l D ca a tw tt hap v  e4) (cwV 0 hts gX6_sharedSize_X0_forget rfl rfl rfl (by decide +kernel) ⟨Nat.le_of_ble_eq_true rfl, Nat.le_of_ble_eq_true rfl⟩) (va_recv hK hP (ci := 0) (q0 := 5) rfl rfl) GW.mv (GW.from hP hK hT0 hS) hS rfl hl.1 rfl (Nat.le_of_ble_eq_true rfl) dX6_sharedSize_4 ⟨Nat.zero_le _, Nat.zero_le _⟩ (fun H locs hP hS => ?_)
  refine W.eq (g2 := F0 m 7 ls []) rfl ?_
  refine lv_iconst (v := 0) hx hb dX6_sharedSize_7 (by decide) ?_
  refine lv_istore_n (lv' := [(1, .int 0), (0, .ref (a 0))]) hx hb dX6_sharedSize_8 rfl hl (by decide) rfl (fun ls hl => ?_)
  exact wk_X6_sharedSize_9 C0 hap hK hT0  FU q4 H locs 0 ls hP hS (lv_sub hl [1, 0] rfl) h
theorem ct_X6_sharedSize (l : Launch) (D : va_G) (ca : Nat → ClassId) (a : Nat → Nat) (tw : Nat) (tt : Nat → Nat) (hap : ap_ok 9 a) (v : XS) {q : Int32 × XS} (h : fn_X6_sharedSize v  = some q) : Mp l yX6_sharedSize wsX6_sharedSize rm_X6_sharedSize [.ref (a 0)] (GW D ca tw tt (ad_of 9 a) (XW ca a v)) (some (.int q.1)) (fun H => va_P D vwCl (XW ca a q.2) H) (ad_of 9 a) := by
  refine Mp.of (cc := cX6_sharedSize) (nL := 2) (ret := (some .int)) (own := RX6) (by decide) rfl rfl (Nat.le_of_ble_eq_true rfl) ?_
  intro p e s m below meth c ls C0 hB hl
  exact wk_X6_sharedSize C0 hap hB.2.1 hB.2.2 (hP := hB.1) (hS := va_S.rf) (hl := hl) (h := h)
abbrev rm_X6_isOrder : Room := { frames := 0, cells := 0, slots := 0, locals := 0 }
set_option maxHeartbeats 4000000 in
set_option maxRecDepth 100000 in
theorem wk_X6_isOrder {p : Program} {l : Launch} {e : Env} {s : State} {m : MethodId} {args : Array Value} {below : List Frame} {meth : Method} {c : Code} {tw : Nat} {tt : Nat → Nat} (C0 : Cx p s m args meth c cX6_isOrder (some .boolean) 1 wsX6_isOrder RX6) (hT0 : tW tw tt (fun _ => False) s s.heap) {q : Int32} (x0 : Int32) (ls : Array Slot) (hl : lv_has ls 1 [(0, .int x0)]) (h : fn_X6_isOrder x0 = some q) : W p l e rm_X6_isOrder s m args below meth c s.heap [] 0 0 (MQ below (HQ (some (.int q))) args s 0 0 (fun _ => False)) (F0 m 0 ls []) := by
  obtain ⟨hx, hb, hr, hml, hown, hts, hlocks⟩ := id C0
  have hS : va_S (fun _ => False) s.heap s.heap [] := va_S.rf
  unfold fn_X6_isOrder at h
  refine lv_iload_n hx hb dX6_isOrder_0 rfl (lv_at hl 0 rfl) ?_
  refine lv_if_lt (tgt := 13) hx hb dX6_isOrder_1 (by decide) (fun c1 => ?_) (fun c1 => ?_)
  · replace h := ite_t h c1
    refine lv_iconst (v := 0) hx hb dX6_isOrder_13 (by decide) ?_
    obtain rfl := Option.some.inj h
    exact hp_zret hx hb hr hlocks rfl dX6_isOrder_14
  · replace h := ite_f h c1
    refine lv_iload_n hx hb dX6_isOrder_4 rfl (lv_at hl 0 rfl) ?_
    refine lv_iconst (v := 3) hx hb dX6_isOrder_5 (by decide) ?_
    refine lv_icmp_ge (tgt := 13) hx hb dX6_isOrder_6 (by decide) (fun c6 => ?_) (fun c6 => ?_)
    · replace h := ite_t h c6
      refine lv_iconst (v := 0) hx hb dX6_isOrder_13 (by decide) ?_
      obtain rfl := Option.some.inj h
      exact hp_zret hx hb hr hlocks rfl dX6_isOrder_14
    · replace h := ite_f h c6
      refine lv_iconst (v := 1) hx hb dX6_isOrder_9 (by decide) ?_
      refine lv_goto (tgt := 14) hx hb dX6_isOrder_10 (by decide) ?_
      obtain rfl := Option.some.inj h
      exact hp_zret hx hb hr hlocks rfl dX6_isOrder_14
theorem ct_X6_isOrder (l : Launch) (tw : Nat) (tt : Nat → Nat) (x0 : Int32) {q : Int32} (h : fn_X6_isOrder x0 = some q) : Hp l yX6_isOrder wsX6_isOrder rm_X6_isOrder [.int x0] (GP tw tt) (some (.int q)) := by
  refine Hp.of (cc := cX6_isOrder) (nL := 1) (ret := (some .boolean)) (own := RX6) (by decide) rfl rfl (Nat.le_of_ble_eq_true rfl) ?_
  intro p e s m below meth c ls C0 hB hl
  exact wk_X6_isOrder C0 hB (hl := hl) (h := h)
abbrev rm_X6_termAt : Room := { frames := 3, cells := 0, slots := 0, locals := 68 }
theorem lk_X6_termAt_f9 : Cond.fieldLink RX6 9 "BooleanRing" "registers" "[J" ∈ wsX6_termAt := by decide +kernel
theorem ly_X6_termAt_X6 : ∀ w ∈ wsX60, w ∈ wsX6_termAt := by decide +kernel
set_option maxHeartbeats 4000000 in
set_option maxRecDepth 100000 in
theorem wk_X6_termAt {p : Program} {l : Launch} {e : Env} {s : State} {m : MethodId} {args : Array Value} {below : List Frame} {meth : Method} {c : Code} {D : va_G} {ca : Nat → ClassId} {a : Nat → Nat} {tw : Nat} {tt : Nat → Nat} (C0 : Cx p s m args meth c cX6_termAt (some .int) 4 wsX6_termAt RX6) (hK : va_K D vwCl (tys3 ca) s) (hT0 : tW tw tt (ad_of 9 a) s s.heap) (v : XS) (hP : va_P D vwCl (XW ca a v) s.heap) {q : Int32} (x1 : Int32) (x2 : Int32) (x3 : Int32) (ls : Array Slot) (hl : lv_has ls 4 [(0, .ref (a 0)), (1, .int x1), (2, .int x2), (3, .int x3)]) (h : fn_X6_termAt v x1 x2 x3 = some q) : W p l e rm_X6_termAt s m args below meth c s.heap [] 0 0 (MQ below (HQ (some (.int q))) args s 0 0 (fun _ => False)) (F0 m 0 ls []) := by
  obtain ⟨hx, hb, hr, hml, hown, hts, hlocks⟩ := id C0
  have hS : va_S (ad_of 9 a) s.heap s.heap [] := va_S.rf
  unfold fn_X6_termAt at h
  refine lv_iload_n hx hb dX6_termAt_0 rfl (lv_at hl 1 rfl) ?_
  obtain ⟨q1, e1, h⟩ := Option.bind_eq_some_iff.mp h
  refine hp_S (As := [.int x1]) (rest := []) ⟨hx, hb, hml, hown, hts⟩ (ct_X6_isRegister l tw tt x1 e1) (va_cwS 1 hts gX6_termAt_X6_isRegister rfl rfl rfl (by decide +kernel) ⟨Nat.le_of_ble_eq_true rfl, Nat.le_of_ble_eq_true rfl⟩) GP.mv (GP.from hT0 hS) rfl hl.1 rfl (Nat.le_of_ble_eq_true rfl) dX6_termAt_1 ⟨Nat.zero_le _, Nat.zero_le _⟩ ?_
  refine W.eq (g2 := F0 m 4 ls [.int q1]) rfl ?_
  refine lv_if_eq (tgt := 18) hx hb dX6_termAt_4 (by decide) (fun c4 => ?_) (fun c4 => ?_)
  · replace h := ite_t h c4
    refine lv_iconst (v := (-1)) hx hb dX6_termAt_18 (by decide) ?_
    obtain rfl := Option.some.inj h
    exact hp_iret hx hb hr hlocks dX6_termAt_19
  · replace h := ite_f h c4
    refine lv_iload_n hx hb dX6_termAt_7 rfl (lv_at hl 2 rfl) ?_
    obtain ⟨q8, e8, h⟩ := Option.bind_eq_some_iff.mp h
    refine hp_S (As := [.int x2]) (rest := []) ⟨hx, hb, hml, hown, hts⟩ (ct_X6_isOrder l tw tt x2 e8) (va_cwS 1 hts gX6_termAt_X6_isOrder rfl rfl rfl (by decide +kernel) ⟨Nat.le_of_ble_eq_true rfl, Nat.le_of_ble_eq_true rfl⟩) GP.mv (GP.from hT0 hS) rfl hl.1 rfl (Nat.le_of_ble_eq_true rfl) dX6_termAt_8 ⟨Nat.zero_le _, Nat.zero_le _⟩ ?_
    refine W.eq (g2 := F0 m 11 ls [.int q8]) rfl ?_
    refine lv_if_eq (tgt := 18) hx hb dX6_termAt_11 (by decide) (fun c11 => ?_) (fun c11 => ?_)
    · replace h := ite_t h c11
      refine lv_iconst (v := (-1)) hx hb dX6_termAt_18 (by decide) ?_
      obtain rfl := Option.some.inj h
      exact hp_iret hx hb hr hlocks dX6_termAt_19
    · replace h := ite_f h c11
      refine lv_iload_n hx hb dX6_termAt_14 rfl (lv_at hl 3 rfl) ?_
      refine lv_if_ge (tgt := 20) hx hb dX6_termAt_15 (by decide) (fun c15 => ?_) (fun c15 => ?_)
      · replace h := ite_t h c15
        refine lv_aload_n hx hb dX6_termAt_20 rfl (lv_at hl 0 rfl) ?_
        refine va_get (D := D) (ci := 3) (v := .ref (a 1)) (C := RX6) (T := TX6) (N := 6) hx hb hts ly_X6_termAt_X6 hown hK hP 0 rfl rfl 0 (by decide) (hts _ lk_X6_termAt_f9) (fun _ h9 => h9) rfl dX6_termAt_21 ?_
        refine lv_iload_n hx hb dX6_termAt_24 rfl (lv_at hl 1 rfl) ?_
        obtain ⟨q25, e25, h⟩ := Option.bind_eq_some_iff.mp h
        refine rd_lald hx hb hK hP 1 0 e25 rfl rfl dX6_termAt_25 ?_
        refine lv_iload_n hx hb dX6_termAt_26 rfl (lv_at hl 2 rfl) ?_
        refine lv_iload_n hx hb dX6_termAt_27 rfl (lv_at hl 3 rfl) ?_
        obtain ⟨q28, e28, h⟩ := Option.bind_eq_some_iff.mp h
        refine hp_S (As := [.long q25, .int x2, .int x3]) (rest := []) ⟨hx, hb, hml, hown, hts⟩ (ct_X2_termOf l tw tt q25 x2 x3 e28) (va_cwS 3 hts gX6_termAt_X2_termOf rfl rfl rfl (by decide +kernel) ⟨Nat.le_of_ble_eq_true rfl, Nat.le_of_ble_eq_true rfl⟩) GP.mv (GP.from hT0 hS) rfl hl.1 rfl (Nat.le_of_ble_eq_true rfl) dX6_termAt_28 ⟨Nat.zero_le _, Nat.zero_le _⟩ ?_
        refine W.eq (g2 := F0 m 31 ls [.int q28]) rfl ?_
        obtain rfl := Option.some.inj h
        exact hp_iret hx hb hr hlocks dX6_termAt_31
      · replace h := ite_f h c15
        refine lv_iconst (v := (-1)) hx hb dX6_termAt_18 (by decide) ?_
        obtain rfl := Option.some.inj h
        exact hp_iret hx hb hr hlocks dX6_termAt_19
theorem ct_X6_termAt (l : Launch) (D : va_G) (ca : Nat → ClassId) (a : Nat → Nat) (tw : Nat) (tt : Nat → Nat) (v : XS) (x1 : Int32) (x2 : Int32) (x3 : Int32) {q : Int32} (h : fn_X6_termAt v x1 x2 x3 = some q) : Hp l yX6_termAt wsX6_termAt rm_X6_termAt [.ref (a 0), .int x1, .int x2, .int x3] (GW D ca tw tt (ad_of 9 a) (XW ca a v)) (some (.int q)) := by
  refine Hp.of (cc := cX6_termAt) (nL := 4) (ret := (some .int)) (own := RX6) (by decide) rfl rfl (Nat.le_of_ble_eq_true rfl) ?_
  intro p e s m below meth c ls C0 hB hl
  exact wk_X6_termAt C0 hB.2.1 hB.2.2 v hB.1 (hl := hl) (h := h)
abbrev rm_X6_value : Room := { frames := 3, cells := 0, slots := 0, locals := 67 }
theorem lk_X6_value_f9 : Cond.fieldLink RX6 9 "BooleanRing" "registers" "[J" ∈ wsX6_value := by decide +kernel
theorem lk_X6_value_f38 : Cond.fieldLink RX6 38 "BooleanRing" "n" "I" ∈ wsX6_value := by decide +kernel
theorem ly_X6_value_X6 : ∀ w ∈ wsX60, w ∈ wsX6_value := by decide +kernel
set_option maxHeartbeats 4000000 in
set_option maxRecDepth 100000 in
theorem wk_X6_value {p : Program} {l : Launch} {e : Env} {s : State} {m : MethodId} {args : Array Value} {below : List Frame} {meth : Method} {c : Code} {D : va_G} {ca : Nat → ClassId} {a : Nat → Nat} {tw : Nat} {tt : Nat → Nat} (C0 : Cx p s m args meth c cX6_value (some .int) 3 wsX6_value RX6) (hK : va_K D vwCl (tys3 ca) s) (hT0 : tW tw tt (ad_of 9 a) s s.heap) (v : XS) (hP : va_P D vwCl (XW ca a v) s.heap) {q : Int32} (x1 : Int32) (x2 : Int32) (ls : Array Slot) (hl : lv_has ls 3 [(0, .ref (a 0)), (1, .int x1), (2, .int x2)]) (h : fn_X6_value v x1 x2 = some q) : W p l e rm_X6_value s m args below meth c s.heap [] 0 0 (MQ below (HQ (some (.int q))) args s 0 0 (fun _ => False)) (F0 m 0 ls []) := by
  obtain ⟨hx, hb, hr, hml, hown, hts, hlocks⟩ := id C0
  have hS : va_S (ad_of 9 a) s.heap s.heap [] := va_S.rf
  unfold fn_X6_value at h
  refine lv_iload_n hx hb dX6_value_0 rfl (lv_at hl 1 rfl) ?_
  obtain ⟨q1, e1, h⟩ := Option.bind_eq_some_iff.mp h
  refine hp_S (As := [.int x1]) (rest := []) ⟨hx, hb, hml, hown, hts⟩ (ct_X6_isRegister l tw tt x1 e1) (va_cwS 1 hts gX6_value_X6_isRegister rfl rfl rfl (by decide +kernel) ⟨Nat.le_of_ble_eq_true rfl, Nat.le_of_ble_eq_true rfl⟩) GP.mv (GP.from hT0 hS) rfl hl.1 rfl (Nat.le_of_ble_eq_true rfl) dX6_value_1 ⟨Nat.zero_le _, Nat.zero_le _⟩ ?_
  refine W.eq (g2 := F0 m 4 ls [.int q1]) rfl ?_
  refine lv_if_eq (tgt := 15) hx hb dX6_value_4 (by decide) (fun c4 => ?_) (fun c4 => ?_)
  · replace h := ite_t h c4
    refine lv_iconst (v := (-1)) hx hb dX6_value_15 (by decide) ?_
    obtain rfl := Option.some.inj h
    exact hp_iret hx hb hr hlocks dX6_value_16
  · replace h := ite_f h c4
    refine lv_aload_n hx hb dX6_value_7 rfl (lv_at hl 0 rfl) ?_
    refine lv_iload_n hx hb dX6_value_8 rfl (lv_at hl 2 rfl) ?_
    obtain ⟨q9, e9, h⟩ := Option.bind_eq_some_iff.mp h
    refine hp_V (As := [.int x2]) (rest := []) (b := (a 0)) ⟨hx, hb, hml, hown, hts⟩ (ct_X6_isMask l D ca a tw tt v x2 e9) (cwV 1 hts gX6_value_X6_isMask rfl rfl rfl (by decide +kernel) ⟨Nat.le_of_ble_eq_true rfl, Nat.le_of_ble_eq_true rfl⟩) (va_recv hK hP (ci := 3) (q0 := 0) rfl rfl) GW.mv (GW.from hP hK hT0 hS) rfl hl.1 rfl (Nat.le_of_ble_eq_true rfl) dX6_value_9 ⟨Nat.zero_le _, Nat.zero_le _⟩ ?_
    refine W.eq (g2 := F0 m 12 ls [.int q9]) rfl ?_
    refine lv_if_ne (tgt := 17) hx hb dX6_value_12 (by decide) (fun c12 => ?_) (fun c12 => ?_)
    · replace h := ite_f h c12
      refine lv_aload_n hx hb dX6_value_17 rfl (lv_at hl 0 rfl) ?_
      refine va_get (D := D) (ci := 3) (v := .ref (a 1)) (C := RX6) (T := TX6) (N := 6) hx hb hts ly_X6_value_X6 hown hK hP 0 rfl rfl 0 (by decide) (hts _ lk_X6_value_f9) (fun _ h9 => h9) rfl dX6_value_18 ?_
      refine lv_iload_n hx hb dX6_value_21 rfl (lv_at hl 1 rfl) ?_
      obtain ⟨q22, e22, h⟩ := Option.bind_eq_some_iff.mp h
      refine rd_lald hx hb hK hP 1 0 e22 rfl rfl dX6_value_22 ?_
      refine lv_aload_n hx hb dX6_value_23 rfl (lv_at hl 0 rfl) ?_
      refine va_get (D := D) (ci := 3) (v := .int (x_n v)) (C := RX6) (T := TX6) (N := 6) hx hb hts ly_X6_value_X6 hown hK hP 0 rfl rfl 5 (by decide) (hts _ lk_X6_value_f38) (fun _ h9 => h9) rfl dX6_value_24 ?_
      obtain ⟨q27, e27, h⟩ := Option.bind_eq_some_iff.mp h
      refine hp_S (As := [.long q22, .int (x_n v)]) (rest := []) ⟨hx, hb, hml, hown, hts⟩ (ct_X3_transformed l tw tt q22 (x_n v) e27) (va_cwS 2 hts gX6_value_X3_transformed rfl rfl rfl (by decide +kernel) ⟨Nat.le_of_ble_eq_true rfl, Nat.le_of_ble_eq_true rfl⟩) GP.mv (GP.from hT0 hS) rfl hl.1 rfl (Nat.le_of_ble_eq_true rfl) dX6_value_27 ⟨Nat.zero_le _, Nat.zero_le _⟩ ?_
      refine W.eq (g2 := F0 m 30 ls [.long q27]) rfl ?_
      refine lv_iload_n hx hb dX6_value_30 rfl (lv_at hl 2 rfl) ?_
      obtain ⟨q31, e31, h⟩ := Option.bind_eq_some_iff.mp h
      refine hp_S (As := [.long q27, .int x2]) (rest := []) ⟨hx, hb, hml, hown, hts⟩ (ct_X3_bit l tw tt q27 x2 e31) (va_cwS 2 hts gX6_value_X3_bit rfl rfl rfl (by decide +kernel) ⟨Nat.le_of_ble_eq_true rfl, Nat.le_of_ble_eq_true rfl⟩) GP.mv (GP.from hT0 hS) rfl hl.1 rfl (Nat.le_of_ble_eq_true rfl) dX6_value_31 ⟨Nat.zero_le _, Nat.zero_le _⟩ ?_
      refine W.eq (g2 := F0 m 34 ls [.int q31]) rfl ?_
      obtain rfl := Option.some.inj h
      exact hp_iret hx hb hr hlocks dX6_value_34
    · replace h := ite_t h c12
      refine lv_iconst (v := (-1)) hx hb dX6_value_15 (by decide) ?_
      obtain rfl := Option.some.inj h
      exact hp_iret hx hb hr hlocks dX6_value_16
theorem ct_X6_value (l : Launch) (D : va_G) (ca : Nat → ClassId) (a : Nat → Nat) (tw : Nat) (tt : Nat → Nat) (v : XS) (x1 : Int32) (x2 : Int32) {q : Int32} (h : fn_X6_value v x1 x2 = some q) : Hp l yX6_value wsX6_value rm_X6_value [.ref (a 0), .int x1, .int x2] (GW D ca tw tt (ad_of 9 a) (XW ca a v)) (some (.int q)) := by
  refine Hp.of (cc := cX6_value) (nL := 3) (ret := (some .int)) (own := RX6) (by decide) rfl rfl (Nat.le_of_ble_eq_true rfl) ?_
  intro p e s m below meth c ls C0 hB hl
  exact wk_X6_value C0 hB.2.1 hB.2.2 v hB.1 (hl := hl) (h := h)
abbrev rm_X6_isSame : Room := { frames := 1, cells := 0, slots := 0, locals := 20 }
theorem lk_X6_isSame_f9 : Cond.fieldLink RX6 9 "BooleanRing" "registers" "[J" ∈ wsX6_isSame := by decide +kernel
theorem ly_X6_isSame_X6 : ∀ w ∈ wsX60, w ∈ wsX6_isSame := by decide +kernel
set_option maxHeartbeats 4000000 in
set_option maxRecDepth 100000 in
theorem wk_X6_isSame {p : Program} {l : Launch} {e : Env} {s : State} {m : MethodId} {args : Array Value} {below : List Frame} {meth : Method} {c : Code} {D : va_G} {ca : Nat → ClassId} {a : Nat → Nat} {tw : Nat} {tt : Nat → Nat} (C0 : Cx p s m args meth c cX6_isSame (some .int) 3 wsX6_isSame RX6) (hK : va_K D vwCl (tys3 ca) s) (hT0 : tW tw tt (ad_of 9 a) s s.heap) (v : XS) (hP : va_P D vwCl (XW ca a v) s.heap) {q : Int32} (x1 : Int32) (x2 : Int32) (ls : Array Slot) (hl : lv_has ls 3 [(0, .ref (a 0)), (1, .int x1), (2, .int x2)]) (h : fn_X6_isSame v x1 x2 = some q) : W p l e rm_X6_isSame s m args below meth c s.heap [] 0 0 (MQ below (HQ (some (.int q))) args s 0 0 (fun _ => False)) (F0 m 0 ls []) := by
  obtain ⟨hx, hb, hr, hml, hown, hts, hlocks⟩ := id C0
  have hS : va_S (ad_of 9 a) s.heap s.heap [] := va_S.rf
  unfold fn_X6_isSame at h
  refine lv_iload_n hx hb dX6_isSame_0 rfl (lv_at hl 1 rfl) ?_
  obtain ⟨q1, e1, h⟩ := Option.bind_eq_some_iff.mp h
  refine hp_S (As := [.int x1]) (rest := []) ⟨hx, hb, hml, hown, hts⟩ (ct_X6_isRegister l tw tt x1 e1) (va_cwS 1 hts gX6_isSame_X6_isRegister rfl rfl rfl (by decide +kernel) ⟨Nat.le_of_ble_eq_true rfl, Nat.le_of_ble_eq_true rfl⟩) GP.mv (GP.from hT0 hS) rfl hl.1 rfl (Nat.le_of_ble_eq_true rfl) dX6_isSame_1 ⟨Nat.zero_le _, Nat.zero_le _⟩ ?_
  refine W.eq (g2 := F0 m 4 ls [.int q1]) rfl ?_
  refine lv_if_eq (tgt := 14) hx hb dX6_isSame_4 (by decide) (fun c4 => ?_) (fun c4 => ?_)
  · replace h := ite_t h c4
    refine lv_iconst (v := (-1)) hx hb dX6_isSame_14 (by decide) ?_
    obtain rfl := Option.some.inj h
    exact hp_iret hx hb hr hlocks dX6_isSame_15
  · replace h := ite_f h c4
    refine lv_iload_n hx hb dX6_isSame_7 rfl (lv_at hl 2 rfl) ?_
    obtain ⟨q8, e8, h⟩ := Option.bind_eq_some_iff.mp h
    refine hp_S (As := [.int x2]) (rest := []) ⟨hx, hb, hml, hown, hts⟩ (ct_X6_isRegister l tw tt x2 e8) (va_cwS 1 hts gX6_isSame_X6_isRegister rfl rfl rfl (by decide +kernel) ⟨Nat.le_of_ble_eq_true rfl, Nat.le_of_ble_eq_true rfl⟩) GP.mv (GP.from hT0 hS) rfl hl.1 rfl (Nat.le_of_ble_eq_true rfl) dX6_isSame_8 ⟨Nat.zero_le _, Nat.zero_le _⟩ ?_
    refine W.eq (g2 := F0 m 11 ls [.int q8]) rfl ?_
    refine lv_if_ne (tgt := 16) hx hb dX6_isSame_11 (by decide) (fun c11 => ?_) (fun c11 => ?_)
    · replace h := ite_f h c11
      refine lv_aload_n hx hb dX6_isSame_16 rfl (lv_at hl 0 rfl) ?_
      refine va_get (D := D) (ci := 3) (v := .ref (a 1)) (C := RX6) (T := TX6) (N := 6) hx hb hts ly_X6_isSame_X6 hown hK hP 0 rfl rfl 0 (by decide) (hts _ lk_X6_isSame_f9) (fun _ h9 => h9) rfl dX6_isSame_17 ?_
      refine lv_iload_n hx hb dX6_isSame_20 rfl (lv_at hl 1 rfl) ?_
      obtain ⟨q21, e21, h⟩ := Option.bind_eq_some_iff.mp h
      refine rd_lald hx hb hK hP 1 0 e21 rfl rfl dX6_isSame_21 ?_
      refine lv_aload_n hx hb dX6_isSame_22 rfl (lv_at hl 0 rfl) ?_
      refine va_get (D := D) (ci := 3) (v := .ref (a 1)) (C := RX6) (T := TX6) (N := 6) hx hb hts ly_X6_isSame_X6 hown hK hP 0 rfl rfl 0 (by decide) (hts _ lk_X6_isSame_f9) (fun _ h9 => h9) rfl dX6_isSame_23 ?_
      refine lv_iload_n hx hb dX6_isSame_26 rfl (lv_at hl 2 rfl) ?_
      obtain ⟨q27, e27, h⟩ := Option.bind_eq_some_iff.mp h
      refine rd_lald hx hb hK hP 1 0 e27 rfl rfl dX6_isSame_27 ?_
      refine wl_ne (tgt := 36) hx hb dX6_isSame_28 dX6_isSame_29 (by decide) (fun c28 => ?_) (fun c28 => ?_)
      · replace h := ite_f h c28
        refine lv_iconst (v := 0) hx hb dX6_isSame_36 (by decide) ?_
        obtain rfl := Option.some.inj h
        exact hp_iret hx hb hr hlocks dX6_isSame_37
      · replace h := ite_t h c28
        refine lv_iconst (v := 1) hx hb dX6_isSame_32 (by decide) ?_
        refine lv_goto (tgt := 37) hx hb dX6_isSame_33 (by decide) ?_
        obtain rfl := Option.some.inj h
        exact hp_iret hx hb hr hlocks dX6_isSame_37
    · replace h := ite_t h c11
      refine lv_iconst (v := (-1)) hx hb dX6_isSame_14 (by decide) ?_
      obtain rfl := Option.some.inj h
      exact hp_iret hx hb hr hlocks dX6_isSame_15
theorem ct_X6_isSame (l : Launch) (D : va_G) (ca : Nat → ClassId) (a : Nat → Nat) (tw : Nat) (tt : Nat → Nat) (v : XS) (x1 : Int32) (x2 : Int32) {q : Int32} (h : fn_X6_isSame v x1 x2 = some q) : Hp l yX6_isSame wsX6_isSame rm_X6_isSame [.ref (a 0), .int x1, .int x2] (GW D ca tw tt (ad_of 9 a) (XW ca a v)) (some (.int q)) := by
  refine Hp.of (cc := cX6_isSame) (nL := 3) (ret := (some .int)) (own := RX6) (by decide) rfl rfl (Nat.le_of_ble_eq_true rfl) ?_
  intro p e s m below meth c ls C0 hB hl
  exact wk_X6_isSame C0 hB.2.1 hB.2.2 v hB.1 (hl := hl) (h := h)
abbrev rm_X6_isSet : Room := { frames := 0, cells := 0, slots := 0, locals := 0 }
set_option maxHeartbeats 4000000 in
set_option maxRecDepth 100000 in
theorem wk_X6_isSet {p : Program} {l : Launch} {e : Env} {s : State} {m : MethodId} {args : Array Value} {below : List Frame} {meth : Method} {c : Code} {tw : Nat} {tt : Nat → Nat} (C0 : Cx p s m args meth c cX6_isSet (some .boolean) 1 wsX6_isSet RX6) (hT0 : tW tw tt (fun _ => False) s s.heap) {q : Int32} (x0 : Int32) (ls : Array Slot) (hl : lv_has ls 1 [(0, .int x0)]) (h : fn_X6_isSet x0 = some q) : W p l e rm_X6_isSet s m args below meth c s.heap [] 0 0 (MQ below (HQ (some (.int q))) args s 0 0 (fun _ => False)) (F0 m 0 ls []) := by
  obtain ⟨hx, hb, hr, hml, hown, hts, hlocks⟩ := id C0
  have hS : va_S (fun _ => False) s.heap s.heap [] := va_S.rf
  unfold fn_X6_isSet at h
  refine lv_iload_n hx hb dX6_isSet_0 rfl (lv_at hl 0 rfl) ?_
  refine lv_if_lt (tgt := 15) hx hb dX6_isSet_1 (by decide) (fun c1 => ?_) (fun c1 => ?_)
  · replace h := ite_t h c1
    refine lv_iconst (v := 0) hx hb dX6_isSet_15 (by decide) ?_
    obtain rfl := Option.some.inj h
    exact hp_zret hx hb hr hlocks rfl dX6_isSet_16
  · replace h := ite_f h c1
    refine lv_iload_n hx hb dX6_isSet_4 rfl (lv_at hl 0 rfl) ?_
    refine lv_sipush (v := 256) hx hb dX6_isSet_5 (by decide) ?_
    refine lv_icmp_ge (tgt := 15) hx hb dX6_isSet_8 (by decide) (fun c8 => ?_) (fun c8 => ?_)
    · replace h := ite_t h c8
      refine lv_iconst (v := 0) hx hb dX6_isSet_15 (by decide) ?_
      obtain rfl := Option.some.inj h
      exact hp_zret hx hb hr hlocks rfl dX6_isSet_16
    · replace h := ite_f h c8
      refine lv_iconst (v := 1) hx hb dX6_isSet_11 (by decide) ?_
      refine lv_goto (tgt := 16) hx hb dX6_isSet_12 (by decide) ?_
      obtain rfl := Option.some.inj h
      exact hp_zret hx hb hr hlocks rfl dX6_isSet_16
theorem ct_X6_isSet (l : Launch) (tw : Nat) (tt : Nat → Nat) (x0 : Int32) {q : Int32} (h : fn_X6_isSet x0 = some q) : Hp l yX6_isSet wsX6_isSet rm_X6_isSet [.int x0] (GP tw tt) (some (.int q)) := by
  refine Hp.of (cc := cX6_isSet) (nL := 1) (ret := (some .boolean)) (own := RX6) (by decide) rfl rfl (Nat.le_of_ble_eq_true rfl) ?_
  intro p e s m below meth c ls C0 hB hl
  exact wk_X6_isSet C0 hB (hl := hl) (h := h)
abbrev rm_X6_findLeading : Room := { frames := 3, cells := 0, slots := 0, locals := 68 }
theorem lk_X6_findLeading_f13 : Cond.fieldLink RX6 13 "BooleanRing" "leading" "[I" ∈ wsX6_findLeading := by decide +kernel
theorem lk_X6_findLeading_f9 : Cond.fieldLink RX6 9 "BooleanRing" "registers" "[J" ∈ wsX6_findLeading := by decide +kernel
theorem ly_X6_findLeading_X6 : ∀ w ∈ wsX60, w ∈ wsX6_findLeading := by decide +kernel
set_option maxHeartbeats 4000000 in
set_option maxRecDepth 100000 in
theorem wk_X6_findLeading_2_body {p : Program} {l : Launch} {e : Env} {s : State} {m : MethodId} {args : Array Value} {below : List Frame} {meth : Method} {c : Code} {D : va_G} {ca : Nat → ClassId} {a : Nat → Nat} {tw : Nat} {tt : Nat → Nat} (C0 : Cx p s m args meth c cX6_findLeading none 3 wsX6_findLeading RX6) (hap : ap_ok 9 a) (hK : va_K D vwCl (tys3 ca) s) (hT0 : tW tw tt (ad_of 9 a) s s.heap) {q : XS} (k2 : XS → Int32 → Int32 → Option (XS)) (hk2 : ∀ (v : XS) (H : Heap) (locs : List Loc) (x1 : Int32) (x2 : Int32) (ls : Array Slot) (hP : va_P D vwCl (XW ca a v) H) (hS : va_S (ad_of 9 a) s.heap H locs) (hl : lv_has ls 3 [(0, .ref (a 0)), (1, .int x1), (2, .int x2)]) (h : k2 v x1 x2 = some q), W p l e rm_X6_findLeading s m args below meth c H locs 0 0 (MQ below (PQ none (fun H => va_P D vwCl (XW ca a q) H) (ad_of 9 a)) args s 0 0 (ad_of 9 a)) (F0 m 2 ls [])) (v : XS) (H : Heap) (locs : List Loc) (x1 : Int32) (x2 : Int32) (ls : Array Slot) (hP : va_P D vwCl (XW ca a v) H) (hS : va_S (ad_of 9 a) s.heap H locs) (hl : lv_has ls 3 [(0, .ref (a 0)), (1, .int x1), (2, .int x2)]) (h : fn_X6_findLeading_2_body k2 v x1 x2 = some q) : W p l e rm_X6_findLeading s m args below meth c H locs 0 0 (MQ below (PQ none (fun H => va_P D vwCl (XW ca a q) H) (ad_of 9 a)) args s 0 0 (ad_of 9 a)) (F0 m 2 ls []) := by
  obtain ⟨hx, hb, hr, hml, hown, hts, hlocks⟩ := id C0
  have hD0 := fun v => XW_D (ca := ca) hap v
  unfold fn_X6_findLeading_2_body at h
  refine lv_iload_n hx hb dX6_findLeading_2 rfl (lv_at hl 2 rfl) ?_
  refine lv_bipush (v := 8) hx hb dX6_findLeading_3 (by decide) ?_
  refine lv_icmp_ge (tgt := 31) hx hb dX6_findLeading_5 (by decide) (fun c5 => ?_) (fun c5 => ?_)
  · replace h := ite_t h c5
    obtain rfl := Option.some.inj h
    exact mp_vret hx hb hr hlocks hP hS dX6_findLeading_31
  · replace h := ite_f h c5
    refine lv_aload_n hx hb dX6_findLeading_8 rfl (lv_at hl 0 rfl) ?_
    refine va_get (D := D) (ci := 3) (v := .ref (a 2)) (C := RX6) (T := TX6) (N := 6) hx hb hts ly_X6_findLeading_X6 hown hK hP 0 rfl rfl 1 (by decide) (hts _ lk_X6_findLeading_f13) (fun _ h9 => h9) rfl dX6_findLeading_9 ?_
    refine lv_iload_n hx hb dX6_findLeading_12 rfl (lv_at hl 2 rfl) ?_
    refine lv_aload_n hx hb dX6_findLeading_13 rfl (lv_at hl 0 rfl) ?_
    refine va_get (D := D) (ci := 3) (v := .ref (a 1)) (C := RX6) (T := TX6) (N := 6) hx hb hts ly_X6_findLeading_X6 hown hK hP 0 rfl rfl 0 (by decide) (hts _ lk_X6_findLeading_f9) (fun _ h9 => h9) rfl dX6_findLeading_14 ?_
    refine lv_iload_n hx hb dX6_findLeading_17 rfl (lv_at hl 2 rfl) ?_
    obtain ⟨q18, e18, h⟩ := Option.bind_eq_some_iff.mp h
    refine rd_lald hx hb hK hP 1 0 e18 rfl rfl dX6_findLeading_18 ?_
    refine lv_iload_n hx hb dX6_findLeading_19 rfl (lv_at hl 1 rfl) ?_
    refine lv_iconst (v := 0) hx hb dX6_findLeading_20 (by decide) ?_
    obtain ⟨q21, e21, h⟩ := Option.bind_eq_some_iff.mp h
    refine hp_S (As := [.long q18, .int x1, .int 0]) (rest := [.int x2, .ref (a 2)]) ⟨hx, hb, hml, hown, hts⟩ (ct_X2_termOf l tw tt q18 x1 0 e21) (va_cwS 3 hts gX6_findLeading_X2_termOf rfl rfl rfl (by decide +kernel) ⟨Nat.le_of_ble_eq_true rfl, Nat.le_of_ble_eq_true rfl⟩) GP.mv (GP.from hT0 hS) rfl hl.1 rfl (Nat.le_of_ble_eq_true rfl) dX6_findLeading_21 ⟨Nat.zero_le _, Nat.zero_le _⟩ ?_
    refine W.eq (g2 := F0 m 24 ls [.int q21, .int x2, .ref (a 2)]) rfl ?_
    obtain ⟨g24, e24, h⟩ := Option.bind_eq_some_iff.mp h
    refine wr_iast hx hb hK hP (hD0 v) hS 2 1 e24 rfl rfl dX6_findLeading_24 (fun H locs hP hS => ?_)
    have hP : va_P D vwCl (XW ca a (xs_lead v g24)) H := hP
    refine lv_iinc (v := (x2 + 1)) (lv' := [(2, .int (x2 + 1)), (0, .ref (a 0)), (1, .int x1)]) hx hb dX6_findLeading_25 hl (k := 2) rfl rfl (by decide) rfl (fun ls hl => ?_)
    refine lv_goto (tgt := 2) hx hb dX6_findLeading_28 (by decide) ?_
    exact hk2 (xs_lead v g24) H locs x1 (x2 + 1) ls hP hS (lv_sub hl [1, 2, 0] rfl) h
set_option maxHeartbeats 4000000 in
set_option maxRecDepth 100000 in
theorem wk_X6_findLeading_2 {p : Program} {l : Launch} {e : Env} {s : State} {m : MethodId} {args : Array Value} {below : List Frame} {meth : Method} {c : Code} {D : va_G} {ca : Nat → ClassId} {a : Nat → Nat} {tw : Nat} {tt : Nat → Nat} (C0 : Cx p s m args meth c cX6_findLeading none 3 wsX6_findLeading RX6) (hap : ap_ok 9 a) (hK : va_K D vwCl (tys3 ca) s) (hT0 : tW tw tt (ad_of 9 a) s s.heap) {q : XS} : ∀ (n : Nat) (v : XS) (H : Heap) (locs : List Loc) (x1 : Int32) (x2 : Int32) (ls : Array Slot) (hP : va_P D vwCl (XW ca a v) H) (hS : va_S (ad_of 9 a) s.heap H locs) (hl : lv_has ls 3 [(0, .ref (a 0)), (1, .int x1), (2, .int x2)]) (h : fn_X6_findLeading_2 n v x1 x2 = some q), W p l e rm_X6_findLeading s m args below meth c H locs 0 0 (MQ below (PQ none (fun H => va_P D vwCl (XW ca a q) H) (ad_of 9 a)) args s 0 0 (ad_of 9 a)) (F0 m 2 ls []) := by
  intro n
  induction n with
  | zero => intro v H locs x1 x2 ls hP hS hl h; unfold fn_X6_findLeading_2 at h; cases h
  | succ n ih => intro v H locs x1 x2 ls hP hS hl h; exact wk_X6_findLeading_2_body C0 hap hK hT0 (k2 := fn_X6_findLeading_2 n) (hk2 := ih) (hl := hl) (hP := hP) (hS := hS) (h := h)
set_option maxHeartbeats 4000000 in
set_option maxRecDepth 100000 in
theorem wk_X6_findLeading {p : Program} {l : Launch} {e : Env} {s : State} {m : MethodId} {args : Array Value} {below : List Frame} {meth : Method} {c : Code} {D : va_G} {ca : Nat → ClassId} {a : Nat → Nat} {tw : Nat} {tt : Nat → Nat} (C0 : Cx p s m args meth c cX6_findLeading none 3 wsX6_findLeading RX6) (hap : ap_ok 9 a) (hK : va_K D vwCl (tys3 ca) s) (hT0 : tW tw tt (ad_of 9 a) s s.heap) {q : XS} (v : XS) (H : Heap) (locs : List Loc) (x1 : Int32) (ls : Array Slot) (hP : va_P D vwCl (XW ca a v) H) (hS : va_S (ad_of 9 a) s.heap H locs) (hl : lv_has ls 3 [(0, .ref (a 0)), (1, .int x1)]) (h : fn_X6_findLeading v x1 = some q) : W p l e rm_X6_findLeading s m args below meth c H locs 0 0 (MQ below (PQ none (fun H => va_P D vwCl (XW ca a q) H) (ad_of 9 a)) args s 0 0 (ad_of 9 a)) (F0 m 0 ls []) := by
  obtain ⟨hx, hb, hr, hml, hown, hts, hlocks⟩ := id C0
  have hD0 := fun v => XW_D (ca := ca) hap v
  unfold fn_X6_findLeading at h
  refine lv_iconst (v := 0) hx hb dX6_findLeading_0 (by decide) ?_
  refine lv_istore_n (lv' := [(2, .int 0), (0, .ref (a 0)), (1, .int x1)]) hx hb dX6_findLeading_1 rfl hl (by decide) rfl (fun ls hl => ?_)
  exact wk_X6_findLeading_2 C0 hap hK hT0  FU v H locs x1 0 ls hP hS (lv_sub hl [1, 2, 0] rfl) h
theorem ct_X6_findLeading (l : Launch) (D : va_G) (ca : Nat → ClassId) (a : Nat → Nat) (tw : Nat) (tt : Nat → Nat) (hap : ap_ok 9 a) (v : XS) (x1 : Int32) {q : XS} (h : fn_X6_findLeading v x1 = some q) : Mp l yX6_findLeading wsX6_findLeading rm_X6_findLeading [.ref (a 0), .int x1] (GW D ca tw tt (ad_of 9 a) (XW ca a v)) none (fun H => va_P D vwCl (XW ca a q) H) (ad_of 9 a) := by
  refine Mp.of (cc := cX6_findLeading) (nL := 3) (ret := none) (own := RX6) (by decide) rfl rfl (Nat.le_of_ble_eq_true rfl) ?_
  intro p e s m below meth c ls C0 hB hl
  exact wk_X6_findLeading C0 hap hB.2.1 hB.2.2 (hP := hB.1) (hS := va_S.rf) (hl := hl) (h := h)
abbrev rm_X6_isIn : Room := { frames := 0, cells := 0, slots := 0, locals := 0 }
set_option maxHeartbeats 4000000 in
set_option maxRecDepth 100000 in
theorem wk_X6_isIn {p : Program} {l : Launch} {e : Env} {s : State} {m : MethodId} {args : Array Value} {below : List Frame} {meth : Method} {c : Code} {tw : Nat} {tt : Nat → Nat} (C0 : Cx p s m args meth c cX6_isIn (some .boolean) 2 wsX6_isIn RX6) (hT0 : tW tw tt (fun _ => False) s s.heap) {q : Int32} (x0 : Int32) (x1 : Int32) (ls : Array Slot) (hl : lv_has ls 2 [(0, .int x0), (1, .int x1)]) (h : fn_X6_isIn x0 x1 = some q) : W p l e rm_X6_isIn s m args below meth c s.heap [] 0 0 (MQ below (HQ (some (.int q))) args s 0 0 (fun _ => False)) (F0 m 0 ls []) := by
  obtain ⟨hx, hb, hr, hml, hown, hts, hlocks⟩ := id C0
  have hS : va_S (fun _ => False) s.heap s.heap [] := va_S.rf
  unfold fn_X6_isIn at h
  refine lv_iload_n hx hb dX6_isIn_0 rfl (lv_at hl 0 rfl) ?_
  refine lv_iload_n hx hb dX6_isIn_1 rfl (lv_at hl 1 rfl) ?_
  refine lv_ishr hx hb dX6_isIn_2 ?_
  refine lv_iconst (v := 1) hx hb dX6_isIn_3 (by decide) ?_
  refine lv_iand hx hb dX6_isIn_4 ?_
  refine lv_iconst (v := 1) hx hb dX6_isIn_5 (by decide) ?_
  refine lv_icmp_ne (tgt := 13) hx hb dX6_isIn_6 (by decide) (fun c6 => ?_) (fun c6 => ?_)
  · replace h := ite_f h c6
    refine lv_iconst (v := 0) hx hb dX6_isIn_13 (by decide) ?_
    obtain rfl := Option.some.inj h
    exact hp_zret hx hb hr hlocks rfl dX6_isIn_14
  · replace h := ite_t h c6
    refine lv_iconst (v := 1) hx hb dX6_isIn_9 (by decide) ?_
    refine lv_goto (tgt := 14) hx hb dX6_isIn_10 (by decide) ?_
    obtain rfl := Option.some.inj h
    exact hp_zret hx hb hr hlocks rfl dX6_isIn_14
theorem ct_X6_isIn (l : Launch) (tw : Nat) (tt : Nat → Nat) (x0 : Int32) (x1 : Int32) {q : Int32} (h : fn_X6_isIn x0 x1 = some q) : Hp l yX6_isIn wsX6_isIn rm_X6_isIn [.int x0, .int x1] (GP tw tt) (some (.int q)) := by
  refine Hp.of (cc := cX6_isIn) (nL := 2) (ret := (some .boolean)) (own := RX6) (by decide) rfl rfl (Nat.le_of_ble_eq_true rfl) ?_
  intro p e s m below meth c ls C0 hB hl
  exact wk_X6_isIn C0 hB (hl := hl) (h := h)
abbrev rm_X6_reducerOf : Room := { frames := 1, cells := 0, slots := 0, locals := 21 }
theorem lk_X6_reducerOf_f13 : Cond.fieldLink RX6 13 "BooleanRing" "leading" "[I" ∈ wsX6_reducerOf := by decide +kernel
theorem ly_X6_reducerOf_X6 : ∀ w ∈ wsX60, w ∈ wsX6_reducerOf := by decide +kernel
set_option maxHeartbeats 4000000 in
set_option maxRecDepth 100000 in
theorem wk_X6_reducerOf_2_body {p : Program} {l : Launch} {e : Env} {s : State} {m : MethodId} {args : Array Value} {below : List Frame} {meth : Method} {c : Code} {D : va_G} {ca : Nat → ClassId} {a : Nat → Nat} {tw : Nat} {tt : Nat → Nat} (C0 : Cx p s m args meth c cX6_reducerOf (some .int) 4 wsX6_reducerOf RX6) (hK : va_K D vwCl (tys3 ca) s) (hT0 : tW tw tt (ad_of 9 a) s s.heap) (v : XS) (hP : va_P D vwCl (XW ca a v) s.heap) {q : Int32} (k2 : Int32 → Int32 → Int32 → Option (Int32)) (hk2 : ∀ (x1 : Int32) (x2 : Int32) (x3 : Int32) (ls : Array Slot) (hl : lv_has ls 4 [(0, .ref (a 0)), (1, .int x1), (2, .int x2), (3, .int x3)]) (h : k2 x1 x2 x3 = some q), W p l e rm_X6_reducerOf s m args below meth c s.heap [] 0 0 (MQ below (HQ (some (.int q))) args s 0 0 (fun _ => False)) (F0 m 2 ls [])) (x1 : Int32) (x2 : Int32) (x3 : Int32) (ls : Array Slot) (hl : lv_has ls 4 [(0, .ref (a 0)), (1, .int x1), (2, .int x2), (3, .int x3)]) (h : fn_X6_reducerOf_2_body v k2 x1 x2 x3 = some q) : W p l e rm_X6_reducerOf s m args below meth c s.heap [] 0 0 (MQ below (HQ (some (.int q))) args s 0 0 (fun _ => False)) (F0 m 2 ls []) := by
  obtain ⟨hx, hb, hr, hml, hown, hts, hlocks⟩ := id C0
  have hS : va_S (ad_of 9 a) s.heap s.heap [] := va_S.rf
  unfold fn_X6_reducerOf_2_body at h
  refine lv_iload_n hx hb dX6_reducerOf_2 rfl (lv_at hl 3 rfl) ?_
  refine lv_bipush (v := 8) hx hb dX6_reducerOf_3 (by decide) ?_
  refine lv_icmp_ge (tgt := 46) hx hb dX6_reducerOf_5 (by decide) (fun c5 => ?_) (fun c5 => ?_)
  · replace h := ite_t h c5
    refine lv_bipush (v := (-4)) hx hb dX6_reducerOf_46 (by decide) ?_
    obtain rfl := Option.some.inj h
    exact hp_iret hx hb hr hlocks dX6_reducerOf_48
  · replace h := ite_f h c5
    refine lv_iload_n hx hb dX6_reducerOf_8 rfl (lv_at hl 2 rfl) ?_
    refine lv_iload_n hx hb dX6_reducerOf_9 rfl (lv_at hl 3 rfl) ?_
    obtain ⟨q10, e10, h⟩ := Option.bind_eq_some_iff.mp h
    refine hp_S (As := [.int x2, .int x3]) (rest := []) ⟨hx, hb, hml, hown, hts⟩ (ct_X6_isIn l tw tt x2 x3 e10) (va_cwS 2 hts gX6_reducerOf_X6_isIn rfl rfl rfl (by decide +kernel) ⟨Nat.le_of_ble_eq_true rfl, Nat.le_of_ble_eq_true rfl⟩) GP.mv (GP.from hT0 hS) rfl hl.1 rfl (Nat.le_of_ble_eq_true rfl) dX6_reducerOf_10 ⟨Nat.zero_le _, Nat.zero_le _⟩ ?_
    refine W.eq (g2 := F0 m 13 ls [.int q10]) rfl ?_
    refine lv_if_eq (tgt := 40) hx hb dX6_reducerOf_13 (by decide) (fun c13 => ?_) (fun c13 => ?_)
    · replace h := ite_t h c13
      refine lv_iinc (v := (x3 + 1)) (lv' := [(3, .int (x3 + 1)), (0, .ref (a 0)), (1, .int x1), (2, .int x2)]) hx hb dX6_reducerOf_40 hl (k := 3) rfl rfl (by decide) rfl (fun ls hl => ?_)
      refine lv_goto (tgt := 2) hx hb dX6_reducerOf_43 (by decide) ?_
      exact hk2 x1 x2 (x3 + 1) ls (lv_sub hl [1, 2, 3, 0] rfl) h
    · replace h := ite_f h c13
      refine lv_aload_n hx hb dX6_reducerOf_16 rfl (lv_at hl 0 rfl) ?_
      refine va_get (D := D) (ci := 3) (v := .ref (a 2)) (C := RX6) (T := TX6) (N := 6) hx hb hts ly_X6_reducerOf_X6 hown hK hP 0 rfl rfl 1 (by decide) (hts _ lk_X6_reducerOf_f13) (fun _ h9 => h9) rfl dX6_reducerOf_17 ?_
      refine lv_iload_n hx hb dX6_reducerOf_20 rfl (lv_at hl 3 rfl) ?_
      obtain ⟨q21, e21, h⟩ := Option.bind_eq_some_iff.mp h
      refine rd_iald hx hb hK hP 2 1 e21 rfl rfl dX6_reducerOf_21 ?_
      refine lv_if_lt (tgt := 40) hx hb dX6_reducerOf_22 (by decide) (fun c22 => ?_) (fun c22 => ?_)
      · replace h := ite_t h c22
        refine lv_iinc (v := (x3 + 1)) (lv' := [(3, .int (x3 + 1)), (0, .ref (a 0)), (1, .int x1), (2, .int x2)]) hx hb dX6_reducerOf_40 hl (k := 3) rfl rfl (by decide) rfl (fun ls hl => ?_)
        refine lv_goto (tgt := 2) hx hb dX6_reducerOf_43 (by decide) ?_
        exact hk2 x1 x2 (x3 + 1) ls (lv_sub hl [1, 2, 3, 0] rfl) h
      · replace h := ite_f h c22
        refine lv_aload_n hx hb dX6_reducerOf_25 rfl (lv_at hl 0 rfl) ?_
        refine va_get (D := D) (ci := 3) (v := .ref (a 2)) (C := RX6) (T := TX6) (N := 6) hx hb hts ly_X6_reducerOf_X6 hown hK hP 0 rfl rfl 1 (by decide) (hts _ lk_X6_reducerOf_f13) (fun _ h9 => h9) rfl dX6_reducerOf_26 ?_
        refine lv_iload_n hx hb dX6_reducerOf_29 rfl (lv_at hl 3 rfl) ?_
        obtain ⟨q30, e30, h⟩ := Option.bind_eq_some_iff.mp h
        refine rd_iald hx hb hK hP 2 1 e30 rfl rfl dX6_reducerOf_30 ?_
        refine lv_iload_n hx hb dX6_reducerOf_31 rfl (lv_at hl 1 rfl) ?_
        refine lv_iconst (v := (-1)) hx hb dX6_reducerOf_32 (by decide) ?_
        refine lv_ixor hx hb dX6_reducerOf_33 ?_
        refine lv_iand hx hb dX6_reducerOf_34 ?_
        refine lv_if_ne (tgt := 40) hx hb dX6_reducerOf_35 (by decide) (fun c35 => ?_) (fun c35 => ?_)
        · replace h := ite_f h c35
          refine lv_iinc (v := (x3 + 1)) (lv' := [(3, .int (x3 + 1)), (0, .ref (a 0)), (1, .int x1), (2, .int x2)]) hx hb dX6_reducerOf_40 hl (k := 3) rfl rfl (by decide) rfl (fun ls hl => ?_)
          refine lv_goto (tgt := 2) hx hb dX6_reducerOf_43 (by decide) ?_
          exact hk2 x1 x2 (x3 + 1) ls (lv_sub hl [1, 2, 3, 0] rfl) h
        · replace h := ite_t h c35
          refine lv_iload_n hx hb dX6_reducerOf_38 rfl (lv_at hl 3 rfl) ?_
          obtain rfl := Option.some.inj h
          exact hp_iret hx hb hr hlocks dX6_reducerOf_39
set_option maxHeartbeats 4000000 in
set_option maxRecDepth 100000 in
theorem wk_X6_reducerOf_2 {p : Program} {l : Launch} {e : Env} {s : State} {m : MethodId} {args : Array Value} {below : List Frame} {meth : Method} {c : Code} {D : va_G} {ca : Nat → ClassId} {a : Nat → Nat} {tw : Nat} {tt : Nat → Nat} (C0 : Cx p s m args meth c cX6_reducerOf (some .int) 4 wsX6_reducerOf RX6) (hK : va_K D vwCl (tys3 ca) s) (hT0 : tW tw tt (ad_of 9 a) s s.heap) (v : XS) (hP : va_P D vwCl (XW ca a v) s.heap) {q : Int32} : ∀ (n : Nat) (x1 : Int32) (x2 : Int32) (x3 : Int32) (ls : Array Slot) (hl : lv_has ls 4 [(0, .ref (a 0)), (1, .int x1), (2, .int x2), (3, .int x3)]) (h : fn_X6_reducerOf_2 v n x1 x2 x3 = some q), W p l e rm_X6_reducerOf s m args below meth c s.heap [] 0 0 (MQ below (HQ (some (.int q))) args s 0 0 (fun _ => False)) (F0 m 2 ls []) := by
  intro n
  induction n with
  | zero => intro x1 x2 x3 ls hl h; unfold fn_X6_reducerOf_2 at h; cases h
  | succ n ih => intro x1 x2 x3 ls hl h; exact wk_X6_reducerOf_2_body C0 hK hT0 v hP (k2 := fn_X6_reducerOf_2 v n) (hk2 := ih) (hl := hl) (h := h)
set_option maxHeartbeats 4000000 in
set_option maxRecDepth 100000 in
theorem wk_X6_reducerOf {p : Program} {l : Launch} {e : Env} {s : State} {m : MethodId} {args : Array Value} {below : List Frame} {meth : Method} {c : Code} {D : va_G} {ca : Nat → ClassId} {a : Nat → Nat} {tw : Nat} {tt : Nat → Nat} (C0 : Cx p s m args meth c cX6_reducerOf (some .int) 4 wsX6_reducerOf RX6) (hK : va_K D vwCl (tys3 ca) s) (hT0 : tW tw tt (ad_of 9 a) s s.heap) (v : XS) (hP : va_P D vwCl (XW ca a v) s.heap) {q : Int32} (x1 : Int32) (x2 : Int32) (ls : Array Slot) (hl : lv_has ls 4 [(0, .ref (a 0)), (1, .int x1), (2, .int x2)]) (h : fn_X6_reducerOf v x1 x2 = some q) : W p l e rm_X6_reducerOf s m args below meth c s.heap [] 0 0 (MQ below (HQ (some (.int q))) args s 0 0 (fun _ => False)) (F0 m 0 ls []) := by
  obtain ⟨hx, hb, hr, hml, hown, hts, hlocks⟩ := id C0
  have hS : va_S (ad_of 9 a) s.heap s.heap [] := va_S.rf
  unfold fn_X6_reducerOf at h
  refine lv_iconst (v := 0) hx hb dX6_reducerOf_0 (by decide) ?_
  refine lv_istore_n (lv' := [(3, .int 0), (0, .ref (a 0)), (1, .int x1), (2, .int x2)]) hx hb dX6_reducerOf_1 rfl hl (by decide) rfl (fun ls hl => ?_)
  exact wk_X6_reducerOf_2 C0 hK hT0 v hP  FU x1 x2 0 ls (lv_sub hl [1, 2, 3, 0] rfl) h
theorem ct_X6_reducerOf (l : Launch) (D : va_G) (ca : Nat → ClassId) (a : Nat → Nat) (tw : Nat) (tt : Nat → Nat) (v : XS) (x1 : Int32) (x2 : Int32) {q : Int32} (h : fn_X6_reducerOf v x1 x2 = some q) : Hp l yX6_reducerOf wsX6_reducerOf rm_X6_reducerOf [.ref (a 0), .int x1, .int x2] (GW D ca tw tt (ad_of 9 a) (XW ca a v)) (some (.int q)) := by
  refine Hp.of (cc := cX6_reducerOf) (nL := 4) (ret := (some .int)) (own := RX6) (by decide) rfl rfl (Nat.le_of_ble_eq_true rfl) ?_
  intro p e s m below meth c ls C0 hB hl
  exact wk_X6_reducerOf C0 hB.2.1 hB.2.2 v hB.1 (hl := hl) (h := h)
abbrev rm_X6_reduce : Room := { frames := 4, cells := 0, slots := 0, locals := 91 }
theorem lk_X6_reduce_f9 : Cond.fieldLink RX6 9 "BooleanRing" "registers" "[J" ∈ wsX6_reduce := by decide +kernel
theorem lk_X6_reduce_f13 : Cond.fieldLink RX6 13 "BooleanRing" "leading" "[I" ∈ wsX6_reduce := by decide +kernel
theorem lk_X6_reduce_f38 : Cond.fieldLink RX6 38 "BooleanRing" "n" "I" ∈ wsX6_reduce := by decide +kernel
theorem ly_X6_reduce_X6 : ∀ w ∈ wsX60, w ∈ wsX6_reduce := by decide +kernel
set_option maxHeartbeats 4000000 in
set_option maxRecDepth 100000 in
theorem wk_X6_reduce_88 {p : Program} {l : Launch} {e : Env} {s : State} {m : MethodId} {args : Array Value} {below : List Frame} {meth : Method} {c : Code} {D : va_G} {ca : Nat → ClassId} {a : Nat → Nat} {tw : Nat} {tt : Nat → Nat} (C0 : Cx p s m args meth c cX6_reduce (some .int) 12 wsX6_reduce RX6) (hap : ap_ok 9 a) (hK : va_K D vwCl (tys3 ca) s) (hT0 : tW tw tt (ad_of 9 a) s s.heap) {q : Int32 × XS} (k50 : XS → Int32 → Int32 → Int32 → Int64 → Int32 → Int32 → Option (Int32 × XS)) (hk50 : ∀ (v : XS) (H : Heap) (locs : List Loc) (x2 : Int32) (x3 : Int32) (x4 : Int32) (x5 : Int64) (x7 : Int32) (x8 : Int32) (ls : Array Slot) (hP : va_P D vwCl (XW ca a v) H) (hS : va_S (ad_of 9 a) s.heap H locs) (hl : lv_has ls 12 [(0, .ref (a 0)), (2, .int x2), (3, .int x3), (4, .int x4), (5, .long x5), (7, .int x7), (8, .int x8)]) (h : k50 v x2 x3 x4 x5 x7 x8 = some q), W p l e rm_X6_reduce s m args below meth c H locs 0 0 (MQ below (PQ (some (.int q.1)) (fun H => va_P D vwCl (XW ca a q.2) H) (ad_of 9 a)) args s 0 0 (ad_of 9 a)) (F0 m 50 ls [])) (v : XS) (H : Heap) (locs : List Loc) (x2 : Int32) (x3 : Int32) (x4 : Int32) (x5 : Int64) (x7 : Int32) (x8 : Int32) (x9 : Int32) (y0 : Int32) (ls : Array Slot) (hP : va_P D vwCl (XW ca a v) H) (hS : va_S (ad_of 9 a) s.heap H locs) (hl : lv_has ls 12 [(0, .ref (a 0)), (2, .int x2), (3, .int x3), (4, .int x4), (5, .long x5), (7, .int x7), (8, .int x8), (9, .int x9)]) (h : fn_X6_reduce_88 k50 v x2 x3 x4 x5 x7 x8 x9 y0 = some q) : W p l e rm_X6_reduce s m args below meth c H locs 0 0 (MQ below (PQ (some (.int q.1)) (fun H => va_P D vwCl (XW ca a q.2) H) (ad_of 9 a)) args s 0 0 (ad_of 9 a)) (F0 m 88 ls [.int y0]) := by
  obtain ⟨hx, hb, hr, hml, hown, hts, hlocks⟩ := id C0
  have hD0 := fun v => XW_D (ca := ca) hap v
  unfold fn_X6_reduce_88 at h
  refine lv_istore (lv' := [(10, .int y0), (0, .ref (a 0)), (2, .int x2), (3, .int x3), (4, .int x4), (5, .long x5), (7, .int x7), (8, .int x8), (9, .int x9)]) hx hb dX6_reduce_88 hl (by decide) rfl (fun ls hl => ?_)
  refine lv_iload hx hb dX6_reduce_90 (lv_at hl 0 rfl) ?_
  obtain ⟨q92, e92, h⟩ := Option.bind_eq_some_iff.mp h
  refine hp_S (As := [.int y0]) (rest := []) ⟨hx, hb, hml, hown, hts⟩ (ct_X6_isRegister l tw tt y0 e92) (va_cwS 1 hts gX6_reduce_X6_isRegister rfl rfl rfl (by decide +kernel) ⟨Nat.le_of_ble_eq_true rfl, Nat.le_of_ble_eq_true rfl⟩) GP.mv (GP.from hT0 hS) rfl hl.1 rfl (Nat.le_of_ble_eq_true rfl) dX6_reduce_92 ⟨Nat.zero_le _, Nat.zero_le _⟩ ?_
  refine W.eq (g2 := F0 m 95 ls [.int q92]) rfl ?_
  refine lv_if_eq (tgt := 139) hx hb dX6_reduce_95 (by decide) (fun c95 => ?_) (fun c95 => ?_)
  · replace h := ite_t h c95
    refine lv_iinc (v := (x8 + 1)) (lv' := [(8, .int (x8 + 1)), (10, .int y0), (0, .ref (a 0)), (2, .int x2), (3, .int x3), (4, .int x4), (5, .long x5), (7, .int x7), (9, .int x9)]) hx hb dX6_reduce_139 hl (k := 7) rfl rfl (by decide) rfl (fun ls hl => ?_)
    refine lv_goto (tgt := 50) hx hb dX6_reduce_142 (by decide) ?_
    exact hk50 v H locs x2 x3 x4 x5 x7 (x8 + 1) ls hP hS (lv_sub hl [2, 3, 4, 5, 6, 7, 0] rfl) h
  · replace h := ite_f h c95
    refine lv_iload hx hb dX6_reduce_98 (lv_at hl 8 rfl) ?_
    refine lv_aload_n hx hb dX6_reduce_100 rfl (lv_at hl 1 rfl) ?_
    refine va_get (D := D) (ci := 3) (v := .ref (a 2)) (C := RX6) (T := TX6) (N := 6) hx hb hts ly_X6_reduce_X6 hown hK hP 0 rfl rfl 1 (by decide) (hts _ lk_X6_reduce_f13) (fun _ h9 => h9) rfl dX6_reduce_101 ?_
    refine lv_iload hx hb dX6_reduce_104 (lv_at hl 0 rfl) ?_
    obtain ⟨q106, e106, h⟩ := Option.bind_eq_some_iff.mp h
    refine rd_iald hx hb hK hP 2 1 e106 rfl rfl dX6_reduce_106 ?_
    refine lv_iconst (v := (-1)) hx hb dX6_reduce_107 (by decide) ?_
    refine lv_ixor hx hb dX6_reduce_108 ?_
    refine lv_iand hx hb dX6_reduce_109 ?_
    refine lv_istore (lv' := [(11, .int (x9 &&& (q106 ^^^ (-1)))), (10, .int y0), (0, .ref (a 0)), (2, .int x2), (3, .int x3), (4, .int x4), (5, .long x5), (7, .int x7), (8, .int x8), (9, .int x9)]) hx hb dX6_reduce_110 hl (by decide) rfl (fun ls hl => ?_)
    refine lv_lload hx hb dX6_reduce_112 (lv_at hl 6 rfl) ?_
    refine lv_aload_n hx hb dX6_reduce_114 rfl (lv_at hl 2 rfl) ?_
    refine va_get (D := D) (ci := 3) (v := .ref (a 1)) (C := RX6) (T := TX6) (N := 6) hx hb hts ly_X6_reduce_X6 hown hK hP 0 rfl rfl 0 (by decide) (hts _ lk_X6_reduce_f9) (fun _ h9 => h9) rfl dX6_reduce_115 ?_
    refine lv_iload hx hb dX6_reduce_118 (lv_at hl 1 rfl) ?_
    obtain ⟨q120, e120, h⟩ := Option.bind_eq_some_iff.mp h
    refine rd_lald hx hb hK hP 1 0 e120 rfl rfl dX6_reduce_120 ?_
    refine lv_iload hx hb dX6_reduce_121 (lv_at hl 0 rfl) ?_
    obtain ⟨q123, e123, h⟩ := Option.bind_eq_some_iff.mp h
    refine hp_S (As := [.int (x9 &&& (q106 ^^^ (-1)))]) (rest := [.long q120, .long x5]) ⟨hx, hb, hml, hown, hts⟩ (ct_X3_ofMonomial l tw tt (x9 &&& (q106 ^^^ (-1))) e123) (va_cwS 1 hts gX6_reduce_X3_ofMonomial rfl rfl rfl (by decide +kernel) ⟨Nat.le_of_ble_eq_true rfl, Nat.le_of_ble_eq_true rfl⟩) GP.mv (GP.from hT0 hS) rfl hl.1 rfl (Nat.le_of_ble_eq_true rfl) dX6_reduce_123 ⟨Nat.zero_le _, Nat.zero_le _⟩ ?_
    refine W.eq (g2 := F0 m 126 ls [.long q123, .long q120, .long x5]) rfl ?_
    refine lv_aload_n hx hb dX6_reduce_126 rfl (lv_at hl 2 rfl) ?_
    refine va_get (D := D) (ci := 3) (v := .int (x_n v)) (C := RX6) (T := TX6) (N := 6) hx hb hts ly_X6_reduce_X6 hown hK hP 0 rfl rfl 5 (by decide) (hts _ lk_X6_reduce_f38) (fun _ h9 => h9) rfl dX6_reduce_127 ?_
    obtain ⟨q130, e130, h⟩ := Option.bind_eq_some_iff.mp h
    refine hp_S (As := [.long q120, .long q123, .int (x_n v)]) (rest := [.long x5]) ⟨hx, hb, hml, hown, hts⟩ (ct_X3_multiplied l tw tt q120 q123 (x_n v) e130) (va_cwS 3 hts gX6_reduce_X3_multiplied rfl rfl rfl (by decide +kernel) ⟨Nat.le_of_ble_eq_true rfl, Nat.le_of_ble_eq_true rfl⟩) GP.mv (GP.from hT0 hS) rfl hl.1 rfl (Nat.le_of_ble_eq_true rfl) dX6_reduce_130 ⟨Nat.zero_le _, Nat.zero_le _⟩ ?_
    refine W.eq (g2 := F0 m 133 ls [.long q130, .long x5]) rfl ?_
    refine lv_lxor hx hb dX6_reduce_133 ?_
    refine lv_lstore (lv' := [(5, .long (x5 ^^^ q130)), (11, .int (x9 &&& (q106 ^^^ (-1)))), (10, .int y0), (0, .ref (a 0)), (2, .int x2), (3, .int x3), (4, .int x4), (7, .int x7), (8, .int x8), (9, .int x9)]) hx hb dX6_reduce_134 hl (by decide) rfl (fun ls hl => ?_)
    refine lv_iinc (v := (x7 + 1)) (lv' := [(7, .int (x7 + 1)), (5, .long (x5 ^^^ q130)), (11, .int (x9 &&& (q106 ^^^ (-1)))), (10, .int y0), (0, .ref (a 0)), (2, .int x2), (3, .int x3), (4, .int x4), (8, .int x8), (9, .int x9)]) hx hb dX6_reduce_136 hl (k := 7) rfl rfl (by decide) rfl (fun ls hl => ?_)
    refine lv_iinc (v := (x8 + 1)) (lv' := [(8, .int (x8 + 1)), (7, .int (x7 + 1)), (5, .long (x5 ^^^ q130)), (11, .int (x9 &&& (q106 ^^^ (-1)))), (10, .int y0), (0, .ref (a 0)), (2, .int x2), (3, .int x3), (4, .int x4), (9, .int x9)]) hx hb dX6_reduce_139 hl (k := 8) rfl rfl (by decide) rfl (fun ls hl => ?_)
    refine lv_goto (tgt := 50) hx hb dX6_reduce_142 (by decide) ?_
    exact hk50 v H locs x2 x3 x4 (x5 ^^^ q130) (x7 + 1) (x8 + 1) ls hP hS (lv_sub hl [5, 6, 7, 8, 2, 1, 0] rfl) h
set_option maxHeartbeats 4000000 in
set_option maxRecDepth 100000 in
theorem wk_X6_reduce_50_body {p : Program} {l : Launch} {e : Env} {s : State} {m : MethodId} {args : Array Value} {below : List Frame} {meth : Method} {c : Code} {D : va_G} {ca : Nat → ClassId} {a : Nat → Nat} {tw : Nat} {tt : Nat → Nat} (C0 : Cx p s m args meth c cX6_reduce (some .int) 12 wsX6_reduce RX6) (hap : ap_ok 9 a) (hK : va_K D vwCl (tys3 ca) s) (hT0 : tW tw tt (ad_of 9 a) s s.heap) {q : Int32 × XS} (k50 : XS → Int32 → Int32 → Int32 → Int64 → Int32 → Int32 → Option (Int32 × XS)) (hk50 : ∀ (v : XS) (H : Heap) (locs : List Loc) (x2 : Int32) (x3 : Int32) (x4 : Int32) (x5 : Int64) (x7 : Int32) (x8 : Int32) (ls : Array Slot) (hP : va_P D vwCl (XW ca a v) H) (hS : va_S (ad_of 9 a) s.heap H locs) (hl : lv_has ls 12 [(0, .ref (a 0)), (2, .int x2), (3, .int x3), (4, .int x4), (5, .long x5), (7, .int x7), (8, .int x8)]) (h : k50 v x2 x3 x4 x5 x7 x8 = some q), W p l e rm_X6_reduce s m args below meth c H locs 0 0 (MQ below (PQ (some (.int q.1)) (fun H => va_P D vwCl (XW ca a q.2) H) (ad_of 9 a)) args s 0 0 (ad_of 9 a)) (F0 m 50 ls [])) (v : XS) (H : Heap) (locs : List Loc) (x2 : Int32) (x3 : Int32) (x4 : Int32) (x5 : Int64) (x7 : Int32) (x8 : Int32) (ls : Array Slot) (hP : va_P D vwCl (XW ca a v) H) (hS : va_S (ad_of 9 a) s.heap H locs) (hl : lv_has ls 12 [(0, .ref (a 0)), (2, .int x2), (3, .int x3), (4, .int x4), (5, .long x5), (7, .int x7), (8, .int x8)]) (h : fn_X6_reduce_50_body k50 v x2 x3 x4 x5 x7 x8 = some q) : W p l e rm_X6_reduce s m args below meth c H locs 0 0 (MQ below (PQ (some (.int q.1)) (fun H => va_P D vwCl (XW ca a q.2) H) (ad_of 9 a)) args s 0 0 (ad_of 9 a)) (F0 m 50 ls []) := by
  obtain ⟨hx, hb, hr, hml, hown, hts, hlocks⟩ := id C0
  have hD0 := fun v => XW_D (ca := ca) hap v
  unfold fn_X6_reduce_50_body at h
  refine lv_iload hx hb dX6_reduce_50 (lv_at hl 6 rfl) ?_
  refine lv_bipush (v := 64) hx hb dX6_reduce_52 (by decide) ?_
  refine lv_icmp_ge (tgt := 145) hx hb dX6_reduce_54 (by decide) (fun c54 => ?_) (fun c54 => ?_)
  · replace h := ite_t h c54
    refine lv_aload_n hx hb dX6_reduce_145 rfl (lv_at hl 0 rfl) ?_
    refine lv_iload hx hb dX6_reduce_146 (lv_at hl 3 rfl) ?_
    refine lv_lload hx hb dX6_reduce_148 (lv_at hl 4 rfl) ?_
    obtain ⟨q150, e150, h⟩ := Option.bind_eq_some_iff.mp h
    refine mp_V (As := [.int x4, .long x5]) (rest := []) (b := (a 0)) ⟨hx, hb, hml, hown, hts⟩ (ct_X6_put l D ca a tw tt hap v x4 x5 e150) (cwV 2 hts gX6_reduce_X6_put rfl rfl rfl (by decide +kernel) ⟨Nat.le_of_ble_eq_true rfl, Nat.le_of_ble_eq_true rfl⟩) (va_recv hK hP (ci := 3) (q0 := 0) rfl rfl) GW.mv (GW.from hP hK hT0 hS) hS rfl hl.1 rfl (Nat.le_of_ble_eq_true rfl) dX6_reduce_150 ⟨Nat.zero_le _, Nat.zero_le _⟩ (fun H locs hP hS => ?_)
    refine W.eq (g2 := F0 m 153 ls [.int q150.1]) rfl ?_
    refine lv_pop hx hb dX6_reduce_153 rfl ?_
    refine lv_iload hx hb dX6_reduce_154 (lv_at hl 5 rfl) ?_
    obtain rfl := Option.some.inj h
    exact mp_iret hx hb hr hlocks hP hS dX6_reduce_156
  · replace h := ite_f h c54
    refine lv_iload_n hx hb dX6_reduce_57 rfl (lv_at hl 2 rfl) ?_
    refine lv_iload hx hb dX6_reduce_58 (lv_at hl 6 rfl) ?_
    obtain ⟨q60, e60, h⟩ := Option.bind_eq_some_iff.mp h
    refine hp_S (As := [.int x3, .int x8]) (rest := []) ⟨hx, hb, hml, hown, hts⟩ (ct_X2_monomialAt l tw tt x3 x8 e60) (va_cwS 2 hts gX6_reduce_X2_monomialAt rfl rfl rfl (by decide +kernel) ⟨Nat.le_of_ble_eq_true rfl, Nat.le_of_ble_eq_true rfl⟩) GP.mv (GP.from hT0 hS) rfl hl.1 rfl (Nat.le_of_ble_eq_true rfl) dX6_reduce_60 ⟨Nat.zero_le _, Nat.zero_le _⟩ ?_
    refine W.eq (g2 := F0 m 63 ls [.int q60]) rfl ?_
    refine lv_istore (lv' := [(9, .int q60), (0, .ref (a 0)), (2, .int x2), (3, .int x3), (4, .int x4), (5, .long x5), (7, .int x7), (8, .int x8)]) hx hb dX6_reduce_63 hl (by decide) rfl (fun ls hl => ?_)
    refine lv_lload hx hb dX6_reduce_65 (lv_at hl 5 rfl) ?_
    refine lv_iload hx hb dX6_reduce_67 (lv_at hl 0 rfl) ?_
    obtain ⟨q69, e69, h⟩ := Option.bind_eq_some_iff.mp h
    refine hp_S (As := [.long x5, .int q60]) (rest := []) ⟨hx, hb, hml, hown, hts⟩ (ct_X3_bit l tw tt x5 q60 e69) (va_cwS 2 hts gX6_reduce_X3_bit rfl rfl rfl (by decide +kernel) ⟨Nat.le_of_ble_eq_true rfl, Nat.le_of_ble_eq_true rfl⟩) GP.mv (GP.from hT0 hS) rfl hl.1 rfl (Nat.le_of_ble_eq_true rfl) dX6_reduce_69 ⟨Nat.zero_le _, Nat.zero_le _⟩ ?_
    refine W.eq (g2 := F0 m 72 ls [.int q69]) rfl ?_
    refine lv_iconst (v := 1) hx hb dX6_reduce_72 (by decide) ?_
    refine lv_icmp_ne (tgt := 86) hx hb dX6_reduce_73 (by decide) (fun c73 => ?_) (fun c73 => ?_)
    · replace h := ite_f h c73
      refine lv_bipush (v := (-4)) hx hb dX6_reduce_86 (by decide) ?_
      exact wk_X6_reduce_88 C0 hap hK hT0 (k50 := k50) (hk50 := hk50) (ls := ls) (hP := hP) (hS := hS) (hl := (lv_sub hl [1, 2, 3, 4, 5, 6, 7, 0] rfl)) (h := h)
    · replace h := ite_t h c73
      refine lv_aload_n hx hb dX6_reduce_76 rfl (lv_at hl 1 rfl) ?_
      refine lv_iload hx hb dX6_reduce_77 (lv_at hl 0 rfl) ?_
      refine lv_iload_n hx hb dX6_reduce_79 rfl (lv_at hl 2 rfl) ?_
      obtain ⟨q80, e80, h⟩ := Option.bind_eq_some_iff.mp h
      refine hp_V (As := [.int q60, .int x2]) (rest := []) (b := (a 0)) ⟨hx, hb, hml, hown, hts⟩ (ct_X6_reducerOf l D ca a tw tt v q60 x2 e80) (cwV 2 hts gX6_reduce_X6_reducerOf rfl rfl rfl (by decide +kernel) ⟨Nat.le_of_ble_eq_true rfl, Nat.le_of_ble_eq_true rfl⟩) (va_recv hK hP (ci := 3) (q0 := 0) rfl rfl) GW.mv (GW.from hP hK hT0 hS) rfl hl.1 rfl (Nat.le_of_ble_eq_true rfl) dX6_reduce_80 ⟨Nat.zero_le _, Nat.zero_le _⟩ ?_
      refine W.eq (g2 := F0 m 83 ls [.int q80]) rfl ?_
      refine lv_goto (tgt := 88) hx hb dX6_reduce_83 (by decide) ?_
      exact wk_X6_reduce_88 C0 hap hK hT0 (k50 := k50) (hk50 := hk50) (ls := ls) (hP := hP) (hS := hS) (hl := (lv_sub hl [1, 2, 3, 4, 5, 6, 7, 0] rfl)) (h := h)
set_option maxHeartbeats 4000000 in
set_option maxRecDepth 100000 in
theorem wk_X6_reduce_50 {p : Program} {l : Launch} {e : Env} {s : State} {m : MethodId} {args : Array Value} {below : List Frame} {meth : Method} {c : Code} {D : va_G} {ca : Nat → ClassId} {a : Nat → Nat} {tw : Nat} {tt : Nat → Nat} (C0 : Cx p s m args meth c cX6_reduce (some .int) 12 wsX6_reduce RX6) (hap : ap_ok 9 a) (hK : va_K D vwCl (tys3 ca) s) (hT0 : tW tw tt (ad_of 9 a) s s.heap) {q : Int32 × XS} : ∀ (n : Nat) (v : XS) (H : Heap) (locs : List Loc) (x2 : Int32) (x3 : Int32) (x4 : Int32) (x5 : Int64) (x7 : Int32) (x8 : Int32) (ls : Array Slot) (hP : va_P D vwCl (XW ca a v) H) (hS : va_S (ad_of 9 a) s.heap H locs) (hl : lv_has ls 12 [(0, .ref (a 0)), (2, .int x2), (3, .int x3), (4, .int x4), (5, .long x5), (7, .int x7), (8, .int x8)]) (h : fn_X6_reduce_50 n v x2 x3 x4 x5 x7 x8 = some q), W p l e rm_X6_reduce s m args below meth c H locs 0 0 (MQ below (PQ (some (.int q.1)) (fun H => va_P D vwCl (XW ca a q.2) H) (ad_of 9 a)) args s 0 0 (ad_of 9 a)) (F0 m 50 ls []) := by
  intro n
  induction n with
  | zero => intro v H locs x2 x3 x4 x5 x7 x8 ls hP hS hl h; unfold fn_X6_reduce_50 at h; cases h
  | succ n ih => intro v H locs x2 x3 x4 x5 x7 x8 ls hP hS hl h; exact wk_X6_reduce_50_body C0 hap hK hT0 (k50 := fn_X6_reduce_50 n) (hk50 := ih) (hl := hl) (hP := hP) (hS := hS) (h := h)
set_option maxHeartbeats 4000000 in
set_option maxRecDepth 100000 in
theorem wk_X6_reduce {p : Program} {l : Launch} {e : Env} {s : State} {m : MethodId} {args : Array Value} {below : List Frame} {meth : Method} {c : Code} {D : va_G} {ca : Nat → ClassId} {a : Nat → Nat} {tw : Nat} {tt : Nat → Nat} (C0 : Cx p s m args meth c cX6_reduce (some .int) 12 wsX6_reduce RX6) (hap : ap_ok 9 a) (hK : va_K D vwCl (tys3 ca) s) (hT0 : tW tw tt (ad_of 9 a) s s.heap) {q : Int32 × XS} (v : XS) (H : Heap) (locs : List Loc) (x1 : Int32) (x2 : Int32) (x3 : Int32) (x4 : Int32) (ls : Array Slot) (hP : va_P D vwCl (XW ca a v) H) (hS : va_S (ad_of 9 a) s.heap H locs) (hl : lv_has ls 12 [(0, .ref (a 0)), (1, .int x1), (2, .int x2), (3, .int x3), (4, .int x4)]) (h : fn_X6_reduce v x1 x2 x3 x4 = some q) : W p l e rm_X6_reduce s m args below meth c H locs 0 0 (MQ below (PQ (some (.int q.1)) (fun H => va_P D vwCl (XW ca a q.2) H) (ad_of 9 a)) args s 0 0 (ad_of 9 a)) (F0 m 0 ls []) := by
  obtain ⟨hx, hb, hr, hml, hown, hts, hlocks⟩ := id C0
  have hD0 := fun v => XW_D (ca := ca) hap v
  unfold fn_X6_reduce at h
  refine lv_iload_n hx hb dX6_reduce_0 rfl (lv_at hl 1 rfl) ?_
  obtain ⟨q1, e1, h⟩ := Option.bind_eq_some_iff.mp h
  refine hp_S (As := [.int x1]) (rest := []) ⟨hx, hb, hml, hown, hts⟩ (ct_X6_isRegister l tw tt x1 e1) (va_cwS 1 hts gX6_reduce_X6_isRegister rfl rfl rfl (by decide +kernel) ⟨Nat.le_of_ble_eq_true rfl, Nat.le_of_ble_eq_true rfl⟩) GP.mv (GP.from hT0 hS) rfl hl.1 rfl (Nat.le_of_ble_eq_true rfl) dX6_reduce_1 ⟨Nat.zero_le _, Nat.zero_le _⟩ ?_
  refine W.eq (g2 := F0 m 4 ls [.int q1]) rfl ?_
  refine lv_if_eq (tgt := 29) hx hb dX6_reduce_4 (by decide) (fun c4 => ?_) (fun c4 => ?_)
  · replace h := ite_t h c4
    refine lv_iconst (v := (-1)) hx hb dX6_reduce_29 (by decide) ?_
    obtain rfl := Option.some.inj h
    exact mp_iret hx hb hr hlocks hP hS dX6_reduce_30
  · replace h := ite_f h c4
    refine lv_iload_n hx hb dX6_reduce_7 rfl (lv_at hl 2 rfl) ?_
    obtain ⟨q8, e8, h⟩ := Option.bind_eq_some_iff.mp h
    refine hp_S (As := [.int x2]) (rest := []) ⟨hx, hb, hml, hown, hts⟩ (ct_X6_isSet l tw tt x2 e8) (va_cwS 1 hts gX6_reduce_X6_isSet rfl rfl rfl (by decide +kernel) ⟨Nat.le_of_ble_eq_true rfl, Nat.le_of_ble_eq_true rfl⟩) GP.mv (GP.from hT0 hS) rfl hl.1 rfl (Nat.le_of_ble_eq_true rfl) dX6_reduce_8 ⟨Nat.zero_le _, Nat.zero_le _⟩ ?_
    refine W.eq (g2 := F0 m 11 ls [.int q8]) rfl ?_
    refine lv_if_eq (tgt := 29) hx hb dX6_reduce_11 (by decide) (fun c11 => ?_) (fun c11 => ?_)
    · replace h := ite_t h c11
      refine lv_iconst (v := (-1)) hx hb dX6_reduce_29 (by decide) ?_
      obtain rfl := Option.some.inj h
      exact mp_iret hx hb hr hlocks hP hS dX6_reduce_30
    · replace h := ite_f h c11
      refine lv_iload_n hx hb dX6_reduce_14 rfl (lv_at hl 3 rfl) ?_
      obtain ⟨q15, e15, h⟩ := Option.bind_eq_some_iff.mp h
      refine hp_S (As := [.int x3]) (rest := []) ⟨hx, hb, hml, hown, hts⟩ (ct_X6_isOrder l tw tt x3 e15) (va_cwS 1 hts gX6_reduce_X6_isOrder rfl rfl rfl (by decide +kernel) ⟨Nat.le_of_ble_eq_true rfl, Nat.le_of_ble_eq_true rfl⟩) GP.mv (GP.from hT0 hS) rfl hl.1 rfl (Nat.le_of_ble_eq_true rfl) dX6_reduce_15 ⟨Nat.zero_le _, Nat.zero_le _⟩ ?_
      refine W.eq (g2 := F0 m 18 ls [.int q15]) rfl ?_
      refine lv_if_eq (tgt := 29) hx hb dX6_reduce_18 (by decide) (fun c18 => ?_) (fun c18 => ?_)
      · replace h := ite_t h c18
        refine lv_iconst (v := (-1)) hx hb dX6_reduce_29 (by decide) ?_
        obtain rfl := Option.some.inj h
        exact mp_iret hx hb hr hlocks hP hS dX6_reduce_30
      · replace h := ite_f h c18
        refine lv_iload hx hb dX6_reduce_21 (lv_at hl 4 rfl) ?_
        obtain ⟨q23, e23, h⟩ := Option.bind_eq_some_iff.mp h
        refine hp_S (As := [.int x4]) (rest := []) ⟨hx, hb, hml, hown, hts⟩ (ct_X6_isRegister l tw tt x4 e23) (va_cwS 1 hts gX6_reduce_X6_isRegister rfl rfl rfl (by decide +kernel) ⟨Nat.le_of_ble_eq_true rfl, Nat.le_of_ble_eq_true rfl⟩) GP.mv (GP.from hT0 hS) rfl hl.1 rfl (Nat.le_of_ble_eq_true rfl) dX6_reduce_23 ⟨Nat.zero_le _, Nat.zero_le _⟩ ?_
        refine W.eq (g2 := F0 m 26 ls [.int q23]) rfl ?_
        refine lv_if_ne (tgt := 31) hx hb dX6_reduce_26 (by decide) (fun c26 => ?_) (fun c26 => ?_)
        · replace h := ite_f h c26
          refine lv_aload_n hx hb dX6_reduce_31 rfl (lv_at hl 0 rfl) ?_
          refine lv_iload_n hx hb dX6_reduce_32 rfl (lv_at hl 3 rfl) ?_
          obtain ⟨q33, e33, h⟩ := Option.bind_eq_some_iff.mp h
          refine mp_V (As := [.int x3]) (rest := []) (b := (a 0)) ⟨hx, hb, hml, hown, hts⟩ (ct_X6_findLeading l D ca a tw tt hap v x3 e33) (cwV 1 hts gX6_reduce_X6_findLeading rfl rfl rfl (by decide +kernel) ⟨Nat.le_of_ble_eq_true rfl, Nat.le_of_ble_eq_true rfl⟩) (va_recv hK hP (ci := 3) (q0 := 0) rfl rfl) GW.mv (GW.from hP hK hT0 hS) hS rfl hl.1 rfl (Nat.le_of_ble_eq_true rfl) dX6_reduce_33 ⟨Nat.zero_le _, Nat.zero_le _⟩ (fun H locs hP hS => ?_)
          refine W.eq (g2 := F0 m 36 ls []) rfl ?_
          refine lv_aload_n hx hb dX6_reduce_36 rfl (lv_at hl 0 rfl) ?_
          refine va_get (D := D) (ci := 3) (v := .ref (a 1)) (C := RX6) (T := TX6) (N := 6) hx hb hts ly_X6_reduce_X6 hown hK hP 0 rfl rfl 0 (by decide) (hts _ lk_X6_reduce_f9) (fun _ h9 => h9) rfl dX6_reduce_37 ?_
          refine lv_iload_n hx hb dX6_reduce_40 rfl (lv_at hl 1 rfl) ?_
          obtain ⟨q41, e41, h⟩ := Option.bind_eq_some_iff.mp h
          refine rd_lald hx hb hK hP 1 0 e41 rfl rfl dX6_reduce_41 ?_
          refine lv_lstore (lv' := [(5, .long q41), (0, .ref (a 0)), (1, .int x1), (2, .int x2), (3, .int x3), (4, .int x4)]) hx hb dX6_reduce_42 hl (by decide) rfl (fun ls hl => ?_)
          refine lv_iconst (v := 0) hx hb dX6_reduce_44 (by decide) ?_
          refine lv_istore (lv' := [(7, .int 0), (5, .long q41), (0, .ref (a 0)), (1, .int x1), (2, .int x2), (3, .int x3), (4, .int x4)]) hx hb dX6_reduce_45 hl (by decide) rfl (fun ls hl => ?_)
          refine lv_iconst (v := 0) hx hb dX6_reduce_47 (by decide) ?_
          refine lv_istore (lv' := [(8, .int 0), (7, .int 0), (5, .long q41), (0, .ref (a 0)), (1, .int x1), (2, .int x2), (3, .int x3), (4, .int x4)]) hx hb dX6_reduce_48 hl (by decide) rfl (fun ls hl => ?_)
          exact wk_X6_reduce_50 C0 hap hK hT0  FU q33 H locs x2 x3 x4 q41 0 0 ls hP hS (lv_sub hl [3, 5, 6, 7, 2, 1, 0] rfl) h
        · replace h := ite_t h c26
          refine lv_iconst (v := (-1)) hx hb dX6_reduce_29 (by decide) ?_
          obtain rfl := Option.some.inj h
          exact mp_iret hx hb hr hlocks hP hS dX6_reduce_30
theorem ct_X6_reduce (l : Launch) (D : va_G) (ca : Nat → ClassId) (a : Nat → Nat) (tw : Nat) (tt : Nat → Nat) (hap : ap_ok 9 a) (v : XS) (x1 : Int32) (x2 : Int32) (x3 : Int32) (x4 : Int32) {q : Int32 × XS} (h : fn_X6_reduce v x1 x2 x3 x4 = some q) : Mp l yX6_reduce wsX6_reduce rm_X6_reduce [.ref (a 0), .int x1, .int x2, .int x3, .int x4] (GW D ca tw tt (ad_of 9 a) (XW ca a v)) (some (.int q.1)) (fun H => va_P D vwCl (XW ca a q.2) H) (ad_of 9 a) := by
  refine Mp.of (cc := cX6_reduce) (nL := 12) (ret := (some .int)) (own := RX6) (by decide) rfl rfl (Nat.le_of_ble_eq_true rfl) ?_
  intro p e s m below meth c ls C0 hB hl
  exact wk_X6_reduce C0 hap hB.2.1 hB.2.2 (hP := hB.1) (hS := va_S.rf) (hl := hl) (h := h)
abbrev rm_X6_nextOf : Room := { frames := 1, cells := 0, slots := 0, locals := 21 }
set_option maxHeartbeats 4000000 in
set_option maxRecDepth 100000 in
theorem wk_X6_nextOf_2_body {p : Program} {l : Launch} {e : Env} {s : State} {m : MethodId} {args : Array Value} {below : List Frame} {meth : Method} {c : Code} {tw : Nat} {tt : Nat → Nat} (C0 : Cx p s m args meth c cX6_nextOf (some .int) 3 wsX6_nextOf RX6) (hT0 : tW tw tt (fun _ => False) s s.heap) {q : Int32} (k2 : Int32 → Int32 → Option (Int32)) (hk2 : ∀ (x0 : Int32) (x2 : Int32) (ls : Array Slot) (hl : lv_has ls 3 [(0, .int x0), (2, .int x2)]) (h : k2 x0 x2 = some q), W p l e rm_X6_nextOf s m args below meth c s.heap [] 0 0 (MQ below (HQ (some (.int q))) args s 0 0 (fun _ => False)) (F0 m 2 ls [])) (x0 : Int32) (x2 : Int32) (ls : Array Slot) (hl : lv_has ls 3 [(0, .int x0), (2, .int x2)]) (h : fn_X6_nextOf_2_body k2 x0 x2 = some q) : W p l e rm_X6_nextOf s m args below meth c s.heap [] 0 0 (MQ below (HQ (some (.int q))) args s 0 0 (fun _ => False)) (F0 m 2 ls []) := by
  obtain ⟨hx, hb, hr, hml, hown, hts, hlocks⟩ := id C0
  have hS : va_S (fun _ => False) s.heap s.heap [] := va_S.rf
  unfold fn_X6_nextOf_2_body at h
  refine lv_iload_n hx hb dX6_nextOf_2 rfl (lv_at hl 1 rfl) ?_
  refine lv_bipush (v := 8) hx hb dX6_nextOf_3 (by decide) ?_
  refine lv_icmp_ge (tgt := 22) hx hb dX6_nextOf_5 (by decide) (fun c5 => ?_) (fun c5 => ?_)
  · replace h := ite_t h c5
    refine lv_iload_n hx hb dX6_nextOf_22 rfl (lv_at hl 1 rfl) ?_
    obtain rfl := Option.some.inj h
    exact hp_iret hx hb hr hlocks dX6_nextOf_23
  · replace h := ite_f h c5
    refine lv_iload_n hx hb dX6_nextOf_8 rfl (lv_at hl 0 rfl) ?_
    refine lv_iload_n hx hb dX6_nextOf_9 rfl (lv_at hl 1 rfl) ?_
    obtain ⟨q10, e10, h⟩ := Option.bind_eq_some_iff.mp h
    refine hp_S (As := [.int x0, .int x2]) (rest := []) ⟨hx, hb, hml, hown, hts⟩ (ct_X6_isIn l tw tt x0 x2 e10) (va_cwS 2 hts gX6_nextOf_X6_isIn rfl rfl rfl (by decide +kernel) ⟨Nat.le_of_ble_eq_true rfl, Nat.le_of_ble_eq_true rfl⟩) GP.mv (GP.from hT0 hS) rfl hl.1 rfl (Nat.le_of_ble_eq_true rfl) dX6_nextOf_10 ⟨Nat.zero_le _, Nat.zero_le _⟩ ?_
    refine W.eq (g2 := F0 m 13 ls [.int q10]) rfl ?_
    refine lv_if_ne (tgt := 22) hx hb dX6_nextOf_13 (by decide) (fun c13 => ?_) (fun c13 => ?_)
    · replace h := ite_f h c13
      refine lv_iload_n hx hb dX6_nextOf_22 rfl (lv_at hl 1 rfl) ?_
      obtain rfl := Option.some.inj h
      exact hp_iret hx hb hr hlocks dX6_nextOf_23
    · replace h := ite_t h c13
      refine lv_iinc (v := (x2 + 1)) (lv' := [(2, .int (x2 + 1)), (0, .int x0)]) hx hb dX6_nextOf_16 hl (k := 1) rfl rfl (by decide) rfl (fun ls hl => ?_)
      refine lv_goto (tgt := 2) hx hb dX6_nextOf_19 (by decide) ?_
      exact hk2 x0 (x2 + 1) ls (lv_sub hl [1, 0] rfl) h
set_option maxHeartbeats 4000000 in
set_option maxRecDepth 100000 in
theorem wk_X6_nextOf_2 {p : Program} {l : Launch} {e : Env} {s : State} {m : MethodId} {args : Array Value} {below : List Frame} {meth : Method} {c : Code} {tw : Nat} {tt : Nat → Nat} (C0 : Cx p s m args meth c cX6_nextOf (some .int) 3 wsX6_nextOf RX6) (hT0 : tW tw tt (fun _ => False) s s.heap) {q : Int32} : ∀ (n : Nat) (x0 : Int32) (x2 : Int32) (ls : Array Slot) (hl : lv_has ls 3 [(0, .int x0), (2, .int x2)]) (h : fn_X6_nextOf_2 n x0 x2 = some q), W p l e rm_X6_nextOf s m args below meth c s.heap [] 0 0 (MQ below (HQ (some (.int q))) args s 0 0 (fun _ => False)) (F0 m 2 ls []) := by
  intro n
  induction n with
  | zero => intro x0 x2 ls hl h; unfold fn_X6_nextOf_2 at h; cases h
  | succ n ih => intro x0 x2 ls hl h; exact wk_X6_nextOf_2_body C0 hT0 (k2 := fn_X6_nextOf_2 n) (hk2 := ih) (hl := hl) (h := h)
set_option maxHeartbeats 4000000 in
set_option maxRecDepth 100000 in
theorem wk_X6_nextOf {p : Program} {l : Launch} {e : Env} {s : State} {m : MethodId} {args : Array Value} {below : List Frame} {meth : Method} {c : Code} {tw : Nat} {tt : Nat → Nat} (C0 : Cx p s m args meth c cX6_nextOf (some .int) 3 wsX6_nextOf RX6) (hT0 : tW tw tt (fun _ => False) s s.heap) {q : Int32} (x0 : Int32) (x1 : Int32) (ls : Array Slot) (hl : lv_has ls 3 [(0, .int x0), (1, .int x1)]) (h : fn_X6_nextOf x0 x1 = some q) : W p l e rm_X6_nextOf s m args below meth c s.heap [] 0 0 (MQ below (HQ (some (.int q))) args s 0 0 (fun _ => False)) (F0 m 0 ls []) := by
  obtain ⟨hx, hb, hr, hml, hown, hts, hlocks⟩ := id C0
  have hS : va_S (fun _ => False) s.heap s.heap [] := va_S.rf
  unfold fn_X6_nextOf at h
  refine lv_iload_n hx hb dX6_nextOf_0 rfl (lv_at hl 1 rfl) ?_
  refine lv_istore_n (lv' := [(2, .int x1), (0, .int x0), (1, .int x1)]) hx hb dX6_nextOf_1 rfl hl (by decide) rfl (fun ls hl => ?_)
  exact wk_X6_nextOf_2 C0 hT0  FU x0 x1 ls (lv_sub hl [1, 0] rfl) h
theorem ct_X6_nextOf (l : Launch) (tw : Nat) (tt : Nat → Nat) (x0 : Int32) (x1 : Int32) {q : Int32} (h : fn_X6_nextOf x0 x1 = some q) : Hp l yX6_nextOf wsX6_nextOf rm_X6_nextOf [.int x0, .int x1] (GP tw tt) (some (.int q)) := by
  refine Hp.of (cc := cX6_nextOf) (nL := 3) (ret := (some .int)) (own := RX6) (by decide) rfl rfl (Nat.le_of_ble_eq_true rfl) ?_
  intro p e s m below meth c ls C0 hB hl
  exact wk_X6_nextOf C0 hB (hl := hl) (h := h)
abbrev rm_X6_bringUp : Room := { frames := 1, cells := 0, slots := 0, locals := 22 }
theorem lk_X6_bringUp_f9 : Cond.fieldLink RX6 9 "BooleanRing" "registers" "[J" ∈ wsX6_bringUp := by decide +kernel
theorem ly_X6_bringUp_X6 : ∀ w ∈ wsX60, w ∈ wsX6_bringUp := by decide +kernel
set_option maxHeartbeats 4000000 in
set_option maxRecDepth 100000 in
theorem wk_X6_bringUp_12_body {p : Program} {l : Launch} {e : Env} {s : State} {m : MethodId} {args : Array Value} {below : List Frame} {meth : Method} {c : Code} {D : va_G} {ca : Nat → ClassId} {a : Nat → Nat} {tw : Nat} {tt : Nat → Nat} (C0 : Cx p s m args meth c cX6_bringUp (some .boolean) 7 wsX6_bringUp RX6) (hap : ap_ok 9 a) (hK : va_K D vwCl (tys3 ca) s) (hT0 : tW tw tt (ad_of 9 a) s s.heap) {q : Int32 × XS} (k12 : XS → Int32 → Int32 → Int32 → Int32 → Option (Int32 × XS)) (hk12 : ∀ (v : XS) (H : Heap) (locs : List Loc) (x1 : Int32) (x2 : Int32) (x3 : Int32) (x4 : Int32) (ls : Array Slot) (hP : va_P D vwCl (XW ca a v) H) (hS : va_S (ad_of 9 a) s.heap H locs) (hl : lv_has ls 7 [(0, .ref (a 0)), (1, .int x1), (2, .int x2), (3, .int x3), (4, .int x4)]) (h : k12 v x1 x2 x3 x4 = some q), W p l e rm_X6_bringUp s m args below meth c H locs 0 0 (MQ below (PQ (some (.int q.1)) (fun H => va_P D vwCl (XW ca a q.2) H) (ad_of 9 a)) args s 0 0 (ad_of 9 a)) (F0 m 12 ls [])) (v : XS) (H : Heap) (locs : List Loc) (x1 : Int32) (x2 : Int32) (x3 : Int32) (x4 : Int32) (ls : Array Slot) (hP : va_P D vwCl (XW ca a v) H) (hS : va_S (ad_of 9 a) s.heap H locs) (hl : lv_has ls 7 [(0, .ref (a 0)), (1, .int x1), (2, .int x2), (3, .int x3), (4, .int x4)]) (h : fn_X6_bringUp_12_body k12 v x1 x2 x3 x4 = some q) : W p l e rm_X6_bringUp s m args below meth c H locs 0 0 (MQ below (PQ (some (.int q.1)) (fun H => va_P D vwCl (XW ca a q.2) H) (ad_of 9 a)) args s 0 0 (ad_of 9 a)) (F0 m 12 ls []) := by
  obtain ⟨hx, hb, hr, hml, hown, hts, hlocks⟩ := id C0
  have hD0 := fun v => XW_D (ca := ca) hap v
  unfold fn_X6_bringUp_12_body at h
  refine lv_iload hx hb dX6_bringUp_12 (lv_at hl 4 rfl) ?_
  refine lv_bipush (v := 8) hx hb dX6_bringUp_14 (by decide) ?_
  refine lv_icmp_ge (tgt := 81) hx hb dX6_bringUp_16 (by decide) (fun c16 => ?_) (fun c16 => ?_)
  · replace h := ite_t h c16
    refine lv_iconst (v := 0) hx hb dX6_bringUp_81 (by decide) ?_
    obtain rfl := Option.some.inj h
    exact mp_zret hx hb hr hlocks (show narrow .boolean (.int 0) = .int 0 from rfl) hP hS dX6_bringUp_82
  · replace h := ite_f h c16
    refine lv_iload_n hx hb dX6_bringUp_19 rfl (lv_at hl 1 rfl) ?_
    refine lv_iload hx hb dX6_bringUp_20 (lv_at hl 4 rfl) ?_
    obtain ⟨q22, e22, h⟩ := Option.bind_eq_some_iff.mp h
    refine hp_S (As := [.int x1, .int x4]) (rest := []) ⟨hx, hb, hml, hown, hts⟩ (ct_X6_isIn l tw tt x1 x4 e22) (va_cwS 2 hts gX6_bringUp_X6_isIn rfl rfl rfl (by decide +kernel) ⟨Nat.le_of_ble_eq_true rfl, Nat.le_of_ble_eq_true rfl⟩) GP.mv (GP.from hT0 hS) rfl hl.1 rfl (Nat.le_of_ble_eq_true rfl) dX6_bringUp_22 ⟨Nat.zero_le _, Nat.zero_le _⟩ ?_
    refine W.eq (g2 := F0 m 25 ls [.int q22]) rfl ?_
    refine lv_if_eq (tgt := 75) hx hb dX6_bringUp_25 (by decide) (fun c25 => ?_) (fun c25 => ?_)
    · replace h := ite_t h c25
      refine lv_iinc (v := (x4 + 1)) (lv' := [(4, .int (x4 + 1)), (0, .ref (a 0)), (1, .int x1), (2, .int x2), (3, .int x3)]) hx hb dX6_bringUp_75 hl (k := 4) rfl rfl (by decide) rfl (fun ls hl => ?_)
      refine lv_goto (tgt := 12) hx hb dX6_bringUp_78 (by decide) ?_
      exact hk12 v H locs x1 x2 x3 (x4 + 1) ls hP hS (lv_sub hl [1, 2, 3, 4, 0] rfl) h
    · replace h := ite_f h c25
      refine lv_aload_n hx hb dX6_bringUp_28 rfl (lv_at hl 0 rfl) ?_
      refine va_get (D := D) (ci := 3) (v := .ref (a 1)) (C := RX6) (T := TX6) (N := 6) hx hb hts ly_X6_bringUp_X6 hown hK hP 0 rfl rfl 0 (by decide) (hts _ lk_X6_bringUp_f9) (fun _ h9 => h9) rfl dX6_bringUp_29 ?_
      refine lv_iload hx hb dX6_bringUp_32 (lv_at hl 4 rfl) ?_
      obtain ⟨q34, e34, h⟩ := Option.bind_eq_some_iff.mp h
      refine rd_lald hx hb hK hP 1 0 e34 rfl rfl dX6_bringUp_34 ?_
      refine lv_iload_n hx hb dX6_bringUp_35 rfl (lv_at hl 3 rfl) ?_
      obtain ⟨q36, e36, h⟩ := Option.bind_eq_some_iff.mp h
      refine hp_S (As := [.long q34, .int x3]) (rest := []) ⟨hx, hb, hml, hown, hts⟩ (ct_X3_bit l tw tt q34 x3 e36) (va_cwS 2 hts gX6_bringUp_X3_bit rfl rfl rfl (by decide +kernel) ⟨Nat.le_of_ble_eq_true rfl, Nat.le_of_ble_eq_true rfl⟩) GP.mv (GP.from hT0 hS) rfl hl.1 rfl (Nat.le_of_ble_eq_true rfl) dX6_bringUp_36 ⟨Nat.zero_le _, Nat.zero_le _⟩ ?_
      refine W.eq (g2 := F0 m 39 ls [.int q36]) rfl ?_
      refine lv_iconst (v := 1) hx hb dX6_bringUp_39 (by decide) ?_
      refine lv_icmp_ne (tgt := 75) hx hb dX6_bringUp_40 (by decide) (fun c40 => ?_) (fun c40 => ?_)
      · replace h := ite_f h c40
        refine lv_iinc (v := (x4 + 1)) (lv' := [(4, .int (x4 + 1)), (0, .ref (a 0)), (1, .int x1), (2, .int x2), (3, .int x3)]) hx hb dX6_bringUp_75 hl (k := 4) rfl rfl (by decide) rfl (fun ls hl => ?_)
        refine lv_goto (tgt := 12) hx hb dX6_bringUp_78 (by decide) ?_
        exact hk12 v H locs x1 x2 x3 (x4 + 1) ls hP hS (lv_sub hl [1, 2, 3, 4, 0] rfl) h
      · replace h := ite_t h c40
        refine lv_aload_n hx hb dX6_bringUp_43 rfl (lv_at hl 0 rfl) ?_
        refine va_get (D := D) (ci := 3) (v := .ref (a 1)) (C := RX6) (T := TX6) (N := 6) hx hb hts ly_X6_bringUp_X6 hown hK hP 0 rfl rfl 0 (by decide) (hts _ lk_X6_bringUp_f9) (fun _ h9 => h9) rfl dX6_bringUp_44 ?_
        refine lv_iload hx hb dX6_bringUp_47 (lv_at hl 4 rfl) ?_
        obtain ⟨q49, e49, h⟩ := Option.bind_eq_some_iff.mp h
        refine rd_lald hx hb hK hP 1 0 e49 rfl rfl dX6_bringUp_49 ?_
        refine lv_lstore (lv' := [(5, .long q49), (0, .ref (a 0)), (1, .int x1), (2, .int x2), (3, .int x3), (4, .int x4)]) hx hb dX6_bringUp_50 hl (by decide) rfl (fun ls hl => ?_)
        refine lv_aload_n hx hb dX6_bringUp_52 rfl (lv_at hl 1 rfl) ?_
        refine va_get (D := D) (ci := 3) (v := .ref (a 1)) (C := RX6) (T := TX6) (N := 6) hx hb hts ly_X6_bringUp_X6 hown hK hP 0 rfl rfl 0 (by decide) (hts _ lk_X6_bringUp_f9) (fun _ h9 => h9) rfl dX6_bringUp_53 ?_
        refine lv_iload hx hb dX6_bringUp_56 (lv_at hl 5 rfl) ?_
        refine lv_aload_n hx hb dX6_bringUp_58 rfl (lv_at hl 1 rfl) ?_
        refine va_get (D := D) (ci := 3) (v := .ref (a 1)) (C := RX6) (T := TX6) (N := 6) hx hb hts ly_X6_bringUp_X6 hown hK hP 0 rfl rfl 0 (by decide) (hts _ lk_X6_bringUp_f9) (fun _ h9 => h9) rfl dX6_bringUp_59 ?_
        refine lv_iload_n hx hb dX6_bringUp_62 rfl (lv_at hl 3 rfl) ?_
        obtain ⟨q63, e63, h⟩ := Option.bind_eq_some_iff.mp h
        refine rd_lald hx hb hK hP 1 0 e63 rfl rfl dX6_bringUp_63 ?_
        obtain ⟨g64, e64, h⟩ := Option.bind_eq_some_iff.mp h
        refine wr_last hx hb hK hP (hD0 v) hS 1 0 e64 rfl rfl dX6_bringUp_64 (fun H locs hP hS => ?_)
        have hP : va_P D vwCl (XW ca a (xs_regs v g64)) H := hP
        refine lv_aload_n hx hb dX6_bringUp_65 rfl (lv_at hl 1 rfl) ?_
        refine va_get (D := D) (ci := 3) (v := .ref (a 1)) (C := RX6) (T := TX6) (N := 6) hx hb hts ly_X6_bringUp_X6 hown hK hP 0 rfl rfl 0 (by decide) (hts _ lk_X6_bringUp_f9) (fun _ h9 => h9) rfl dX6_bringUp_66 ?_
        refine lv_iload_n hx hb dX6_bringUp_69 rfl (lv_at hl 3 rfl) ?_
        refine lv_lload hx hb dX6_bringUp_70 (lv_at hl 0 rfl) ?_
        obtain ⟨g72, e72, h⟩ := Option.bind_eq_some_iff.mp h
        refine wr_last hx hb hK hP (hD0 (xs_regs v g64)) hS 1 0 e72 rfl rfl dX6_bringUp_72 (fun H locs hP hS => ?_)
        have hP : va_P D vwCl (XW ca a (xs_regs v g72)) H := hP
        refine lv_iconst (v := 1) hx hb dX6_bringUp_73 (by decide) ?_
        obtain rfl := Option.some.inj h
        exact mp_zret hx hb hr hlocks (show narrow .boolean (.int 1) = .int 1 from rfl) hP hS dX6_bringUp_74
set_option maxHeartbeats 4000000 in
set_option maxRecDepth 100000 in
theorem wk_X6_bringUp_12 {p : Program} {l : Launch} {e : Env} {s : State} {m : MethodId} {args : Array Value} {below : List Frame} {meth : Method} {c : Code} {D : va_G} {ca : Nat → ClassId} {a : Nat → Nat} {tw : Nat} {tt : Nat → Nat} (C0 : Cx p s m args meth c cX6_bringUp (some .boolean) 7 wsX6_bringUp RX6) (hap : ap_ok 9 a) (hK : va_K D vwCl (tys3 ca) s) (hT0 : tW tw tt (ad_of 9 a) s s.heap) {q : Int32 × XS} : ∀ (n : Nat) (v : XS) (H : Heap) (locs : List Loc) (x1 : Int32) (x2 : Int32) (x3 : Int32) (x4 : Int32) (ls : Array Slot) (hP : va_P D vwCl (XW ca a v) H) (hS : va_S (ad_of 9 a) s.heap H locs) (hl : lv_has ls 7 [(0, .ref (a 0)), (1, .int x1), (2, .int x2), (3, .int x3), (4, .int x4)]) (h : fn_X6_bringUp_12 n v x1 x2 x3 x4 = some q), W p l e rm_X6_bringUp s m args below meth c H locs 0 0 (MQ below (PQ (some (.int q.1)) (fun H => va_P D vwCl (XW ca a q.2) H) (ad_of 9 a)) args s 0 0 (ad_of 9 a)) (F0 m 12 ls []) := by
  intro n
  induction n with
  | zero => intro v H locs x1 x2 x3 x4 ls hP hS hl h; unfold fn_X6_bringUp_12 at h; cases h
  | succ n ih => intro v H locs x1 x2 x3 x4 ls hP hS hl h; exact wk_X6_bringUp_12_body C0 hap hK hT0 (k12 := fn_X6_bringUp_12 n) (hk12 := ih) (hl := hl) (hP := hP) (hS := hS) (h := h)
set_option maxHeartbeats 4000000 in
set_option maxRecDepth 100000 in
theorem wk_X6_bringUp {p : Program} {l : Launch} {e : Env} {s : State} {m : MethodId} {args : Array Value} {below : List Frame} {meth : Method} {c : Code} {D : va_G} {ca : Nat → ClassId} {a : Nat → Nat} {tw : Nat} {tt : Nat → Nat} (C0 : Cx p s m args meth c cX6_bringUp (some .boolean) 7 wsX6_bringUp RX6) (hap : ap_ok 9 a) (hK : va_K D vwCl (tys3 ca) s) (hT0 : tW tw tt (ad_of 9 a) s s.heap) {q : Int32 × XS} (v : XS) (H : Heap) (locs : List Loc) (x1 : Int32) (x2 : Int32) (x3 : Int32) (ls : Array Slot) (hP : va_P D vwCl (XW ca a v) H) (hS : va_S (ad_of 9 a) s.heap H locs) (hl : lv_has ls 7 [(0, .ref (a 0)), (1, .int x1), (2, .int x2), (3, .int x3)]) (h : fn_X6_bringUp v x1 x2 x3 = some q) : W p l e rm_X6_bringUp s m args below meth c H locs 0 0 (MQ below (PQ (some (.int q.1)) (fun H => va_P D vwCl (XW ca a q.2) H) (ad_of 9 a)) args s 0 0 (ad_of 9 a)) (F0 m 0 ls []) := by
  obtain ⟨hx, hb, hr, hml, hown, hts, hlocks⟩ := id C0
  have hD0 := fun v => XW_D (ca := ca) hap v
  unfold fn_X6_bringUp at h
  refine lv_iload_n hx hb dX6_bringUp_0 rfl (lv_at hl 2 rfl) ?_
  obtain ⟨q1, e1, h⟩ := Option.bind_eq_some_iff.mp h
  refine hp_S (As := [.int x2]) (rest := []) ⟨hx, hb, hml, hown, hts⟩ (ct_X6_isRegister l tw tt x2 e1) (va_cwS 1 hts gX6_bringUp_X6_isRegister rfl rfl rfl (by decide +kernel) ⟨Nat.le_of_ble_eq_true rfl, Nat.le_of_ble_eq_true rfl⟩) GP.mv (GP.from hT0 hS) rfl hl.1 rfl (Nat.le_of_ble_eq_true rfl) dX6_bringUp_1 ⟨Nat.zero_le _, Nat.zero_le _⟩ ?_
  refine W.eq (g2 := F0 m 4 ls [.int q1]) rfl ?_
  refine lv_if_ne (tgt := 9) hx hb dX6_bringUp_4 (by decide) (fun c4 => ?_) (fun c4 => ?_)
  · replace h := ite_f h c4
    refine lv_iload_n hx hb dX6_bringUp_9 rfl (lv_at hl 2 rfl) ?_
    refine lv_istore (lv' := [(4, .int x2), (0, .ref (a 0)), (1, .int x1), (2, .int x2), (3, .int x3)]) hx hb dX6_bringUp_10 hl (by decide) rfl (fun ls hl => ?_)
    exact wk_X6_bringUp_12 C0 hap hK hT0  FU v H locs x1 x2 x3 x2 ls hP hS (lv_sub hl [1, 2, 3, 4, 0] rfl) h
  · replace h := ite_t h c4
    refine lv_iconst (v := 0) hx hb dX6_bringUp_7 (by decide) ?_
    obtain rfl := Option.some.inj h
    exact mp_zret hx hb hr hlocks (show narrow .boolean (.int 0) = .int 0 from rfl) hP hS dX6_bringUp_8
theorem ct_X6_bringUp (l : Launch) (D : va_G) (ca : Nat → ClassId) (a : Nat → Nat) (tw : Nat) (tt : Nat → Nat) (hap : ap_ok 9 a) (v : XS) (x1 : Int32) (x2 : Int32) (x3 : Int32) {q : Int32 × XS} (h : fn_X6_bringUp v x1 x2 x3 = some q) : Mp l yX6_bringUp wsX6_bringUp rm_X6_bringUp [.ref (a 0), .int x1, .int x2, .int x3] (GW D ca tw tt (ad_of 9 a) (XW ca a v)) (some (.int q.1)) (fun H => va_P D vwCl (XW ca a q.2) H) (ad_of 9 a) := by
  refine Mp.of (cc := cX6_bringUp) (nL := 7) (ret := (some .boolean)) (own := RX6) (by decide) rfl rfl (Nat.le_of_ble_eq_true rfl) ?_
  intro p e s m below meth c ls C0 hB hl
  exact wk_X6_bringUp C0 hap hB.2.1 hB.2.2 (hP := hB.1) (hS := va_S.rf) (hl := hl) (h := h)
abbrev rm_X6_clearElsewhere : Room := { frames := 1, cells := 0, slots := 0, locals := 22 }
theorem lk_X6_clearElsewhere_f9 : Cond.fieldLink RX6 9 "BooleanRing" "registers" "[J" ∈ wsX6_clearElsewhere := by decide +kernel
theorem ly_X6_clearElsewhere_X6 : ∀ w ∈ wsX60, w ∈ wsX6_clearElsewhere := by decide +kernel
set_option maxHeartbeats 4000000 in
set_option maxRecDepth 100000 in
theorem wk_X6_clearElsewhere_11_body {p : Program} {l : Launch} {e : Env} {s : State} {m : MethodId} {args : Array Value} {below : List Frame} {meth : Method} {c : Code} {D : va_G} {ca : Nat → ClassId} {a : Nat → Nat} {tw : Nat} {tt : Nat → Nat} (C0 : Cx p s m args meth c cX6_clearElsewhere none 5 wsX6_clearElsewhere RX6) (hap : ap_ok 9 a) (hK : va_K D vwCl (tys3 ca) s) (hT0 : tW tw tt (ad_of 9 a) s s.heap) {q : XS} (k11 : XS → Int32 → Int32 → Int32 → Int32 → Option (XS)) (hk11 : ∀ (v : XS) (H : Heap) (locs : List Loc) (x1 : Int32) (x2 : Int32) (x3 : Int32) (x4 : Int32) (ls : Array Slot) (hP : va_P D vwCl (XW ca a v) H) (hS : va_S (ad_of 9 a) s.heap H locs) (hl : lv_has ls 5 [(0, .ref (a 0)), (1, .int x1), (2, .int x2), (3, .int x3), (4, .int x4)]) (h : k11 v x1 x2 x3 x4 = some q), W p l e rm_X6_clearElsewhere s m args below meth c H locs 0 0 (MQ below (PQ none (fun H => va_P D vwCl (XW ca a q) H) (ad_of 9 a)) args s 0 0 (ad_of 9 a)) (F0 m 11 ls [])) (v : XS) (H : Heap) (locs : List Loc) (x1 : Int32) (x2 : Int32) (x3 : Int32) (x4 : Int32) (ls : Array Slot) (hP : va_P D vwCl (XW ca a v) H) (hS : va_S (ad_of 9 a) s.heap H locs) (hl : lv_has ls 5 [(0, .ref (a 0)), (1, .int x1), (2, .int x2), (3, .int x3), (4, .int x4)]) (h : fn_X6_clearElsewhere_11_body k11 v x1 x2 x3 x4 = some q) : W p l e rm_X6_clearElsewhere s m args below meth c H locs 0 0 (MQ below (PQ none (fun H => va_P D vwCl (XW ca a q) H) (ad_of 9 a)) args s 0 0 (ad_of 9 a)) (F0 m 11 ls []) := by
  obtain ⟨hx, hb, hr, hml, hown, hts, hlocks⟩ := id C0
  have hD0 := fun v => XW_D (ca := ca) hap v
  unfold fn_X6_clearElsewhere_11_body at h
  refine lv_iload hx hb dX6_clearElsewhere_11 (lv_at hl 4 rfl) ?_
  refine lv_bipush (v := 8) hx hb dX6_clearElsewhere_13 (by decide) ?_
  refine lv_icmp_ge (tgt := 70) hx hb dX6_clearElsewhere_15 (by decide) (fun c15 => ?_) (fun c15 => ?_)
  · replace h := ite_t h c15
    obtain rfl := Option.some.inj h
    exact mp_vret hx hb hr hlocks hP hS dX6_clearElsewhere_70
  · replace h := ite_f h c15
    refine lv_iload hx hb dX6_clearElsewhere_18 (lv_at hl 4 rfl) ?_
    refine lv_iload_n hx hb dX6_clearElsewhere_20 rfl (lv_at hl 2 rfl) ?_
    refine lv_icmp_eq (tgt := 64) hx hb dX6_clearElsewhere_21 (by decide) (fun c21 => ?_) (fun c21 => ?_)
    · replace h := ite_t h c21
      refine lv_iinc (v := (x4 + 1)) (lv' := [(4, .int (x4 + 1)), (0, .ref (a 0)), (1, .int x1), (2, .int x2), (3, .int x3)]) hx hb dX6_clearElsewhere_64 hl (k := 4) rfl rfl (by decide) rfl (fun ls hl => ?_)
      refine lv_goto (tgt := 11) hx hb dX6_clearElsewhere_67 (by decide) ?_
      exact hk11 v H locs x1 x2 x3 (x4 + 1) ls hP hS (lv_sub hl [1, 2, 3, 4, 0] rfl) h
    · replace h := ite_f h c21
      refine lv_iload_n hx hb dX6_clearElsewhere_24 rfl (lv_at hl 1 rfl) ?_
      refine lv_iload hx hb dX6_clearElsewhere_25 (lv_at hl 4 rfl) ?_
      obtain ⟨q27, e27, h⟩ := Option.bind_eq_some_iff.mp h
      refine hp_S (As := [.int x1, .int x4]) (rest := []) ⟨hx, hb, hml, hown, hts⟩ (ct_X6_isIn l tw tt x1 x4 e27) (va_cwS 2 hts gX6_clearElsewhere_X6_isIn rfl rfl rfl (by decide +kernel) ⟨Nat.le_of_ble_eq_true rfl, Nat.le_of_ble_eq_true rfl⟩) GP.mv (GP.from hT0 hS) rfl hl.1 rfl (Nat.le_of_ble_eq_true rfl) dX6_clearElsewhere_27 ⟨Nat.zero_le _, Nat.zero_le _⟩ ?_
      refine W.eq (g2 := F0 m 30 ls [.int q27]) rfl ?_
      refine lv_if_eq (tgt := 64) hx hb dX6_clearElsewhere_30 (by decide) (fun c30 => ?_) (fun c30 => ?_)
      · replace h := ite_t h c30
        refine lv_iinc (v := (x4 + 1)) (lv' := [(4, .int (x4 + 1)), (0, .ref (a 0)), (1, .int x1), (2, .int x2), (3, .int x3)]) hx hb dX6_clearElsewhere_64 hl (k := 4) rfl rfl (by decide) rfl (fun ls hl => ?_)
        refine lv_goto (tgt := 11) hx hb dX6_clearElsewhere_67 (by decide) ?_
        exact hk11 v H locs x1 x2 x3 (x4 + 1) ls hP hS (lv_sub hl [1, 2, 3, 4, 0] rfl) h
      · replace h := ite_f h c30
        refine lv_aload_n hx hb dX6_clearElsewhere_33 rfl (lv_at hl 0 rfl) ?_
        refine va_get (D := D) (ci := 3) (v := .ref (a 1)) (C := RX6) (T := TX6) (N := 6) hx hb hts ly_X6_clearElsewhere_X6 hown hK hP 0 rfl rfl 0 (by decide) (hts _ lk_X6_clearElsewhere_f9) (fun _ h9 => h9) rfl dX6_clearElsewhere_34 ?_
        refine lv_iload hx hb dX6_clearElsewhere_37 (lv_at hl 4 rfl) ?_
        obtain ⟨q39, e39, h⟩ := Option.bind_eq_some_iff.mp h
        refine rd_lald hx hb hK hP 1 0 e39 rfl rfl dX6_clearElsewhere_39 ?_
        refine lv_iload_n hx hb dX6_clearElsewhere_40 rfl (lv_at hl 3 rfl) ?_
        obtain ⟨q41, e41, h⟩ := Option.bind_eq_some_iff.mp h
        refine hp_S (As := [.long q39, .int x3]) (rest := []) ⟨hx, hb, hml, hown, hts⟩ (ct_X3_bit l tw tt q39 x3 e41) (va_cwS 2 hts gX6_clearElsewhere_X3_bit rfl rfl rfl (by decide +kernel) ⟨Nat.le_of_ble_eq_true rfl, Nat.le_of_ble_eq_true rfl⟩) GP.mv (GP.from hT0 hS) rfl hl.1 rfl (Nat.le_of_ble_eq_true rfl) dX6_clearElsewhere_41 ⟨Nat.zero_le _, Nat.zero_le _⟩ ?_
        refine W.eq (g2 := F0 m 44 ls [.int q41]) rfl ?_
        refine lv_iconst (v := 1) hx hb dX6_clearElsewhere_44 (by decide) ?_
        refine lv_icmp_ne (tgt := 64) hx hb dX6_clearElsewhere_45 (by decide) (fun c45 => ?_) (fun c45 => ?_)
        · replace h := ite_f h c45
          refine lv_iinc (v := (x4 + 1)) (lv' := [(4, .int (x4 + 1)), (0, .ref (a 0)), (1, .int x1), (2, .int x2), (3, .int x3)]) hx hb dX6_clearElsewhere_64 hl (k := 4) rfl rfl (by decide) rfl (fun ls hl => ?_)
          refine lv_goto (tgt := 11) hx hb dX6_clearElsewhere_67 (by decide) ?_
          exact hk11 v H locs x1 x2 x3 (x4 + 1) ls hP hS (lv_sub hl [1, 2, 3, 4, 0] rfl) h
        · replace h := ite_t h c45
          refine lv_aload_n hx hb dX6_clearElsewhere_48 rfl (lv_at hl 0 rfl) ?_
          refine va_get (D := D) (ci := 3) (v := .ref (a 1)) (C := RX6) (T := TX6) (N := 6) hx hb hts ly_X6_clearElsewhere_X6 hown hK hP 0 rfl rfl 0 (by decide) (hts _ lk_X6_clearElsewhere_f9) (fun _ h9 => h9) rfl dX6_clearElsewhere_49 ?_
          refine lv_iload hx hb dX6_clearElsewhere_52 (lv_at hl 4 rfl) ?_
          refine lv_dup2_11 hx hb dX6_clearElsewhere_54 rfl rfl ?_
          obtain ⟨q55, e55, h⟩ := Option.bind_eq_some_iff.mp h
          refine rd_lald hx hb hK hP 1 0 e55 rfl rfl dX6_clearElsewhere_55 ?_
          refine lv_aload_n hx hb dX6_clearElsewhere_56 rfl (lv_at hl 0 rfl) ?_
          refine va_get (D := D) (ci := 3) (v := .ref (a 1)) (C := RX6) (T := TX6) (N := 6) hx hb hts ly_X6_clearElsewhere_X6 hown hK hP 0 rfl rfl 0 (by decide) (hts _ lk_X6_clearElsewhere_f9) (fun _ h9 => h9) rfl dX6_clearElsewhere_57 ?_
          refine lv_iload_n hx hb dX6_clearElsewhere_60 rfl (lv_at hl 2 rfl) ?_
          obtain ⟨q61, e61, h⟩ := Option.bind_eq_some_iff.mp h
          refine rd_lald hx hb hK hP 1 0 e61 rfl rfl dX6_clearElsewhere_61 ?_
          refine lv_lxor hx hb dX6_clearElsewhere_62 ?_
          obtain ⟨g63, e63, h⟩ := Option.bind_eq_some_iff.mp h
          refine wr_last hx hb hK hP (hD0 v) hS 1 0 e63 rfl rfl dX6_clearElsewhere_63 (fun H locs hP hS => ?_)
          have hP : va_P D vwCl (XW ca a (xs_regs v g63)) H := hP
          refine lv_iinc (v := (x4 + 1)) (lv' := [(4, .int (x4 + 1)), (0, .ref (a 0)), (1, .int x1), (2, .int x2), (3, .int x3)]) hx hb dX6_clearElsewhere_64 hl (k := 4) rfl rfl (by decide) rfl (fun ls hl => ?_)
          refine lv_goto (tgt := 11) hx hb dX6_clearElsewhere_67 (by decide) ?_
          exact hk11 (xs_regs v g63) H locs x1 x2 x3 (x4 + 1) ls hP hS (lv_sub hl [1, 2, 3, 4, 0] rfl) h
set_option maxHeartbeats 4000000 in
set_option maxRecDepth 100000 in
theorem wk_X6_clearElsewhere_11 {p : Program} {l : Launch} {e : Env} {s : State} {m : MethodId} {args : Array Value} {below : List Frame} {meth : Method} {c : Code} {D : va_G} {ca : Nat → ClassId} {a : Nat → Nat} {tw : Nat} {tt : Nat → Nat} (C0 : Cx p s m args meth c cX6_clearElsewhere none 5 wsX6_clearElsewhere RX6) (hap : ap_ok 9 a) (hK : va_K D vwCl (tys3 ca) s) (hT0 : tW tw tt (ad_of 9 a) s s.heap) {q : XS} : ∀ (n : Nat) (v : XS) (H : Heap) (locs : List Loc) (x1 : Int32) (x2 : Int32) (x3 : Int32) (x4 : Int32) (ls : Array Slot) (hP : va_P D vwCl (XW ca a v) H) (hS : va_S (ad_of 9 a) s.heap H locs) (hl : lv_has ls 5 [(0, .ref (a 0)), (1, .int x1), (2, .int x2), (3, .int x3), (4, .int x4)]) (h : fn_X6_clearElsewhere_11 n v x1 x2 x3 x4 = some q), W p l e rm_X6_clearElsewhere s m args below meth c H locs 0 0 (MQ below (PQ none (fun H => va_P D vwCl (XW ca a q) H) (ad_of 9 a)) args s 0 0 (ad_of 9 a)) (F0 m 11 ls []) := by
  intro n
  induction n with
  | zero => intro v H locs x1 x2 x3 x4 ls hP hS hl h; unfold fn_X6_clearElsewhere_11 at h; cases h
  | succ n ih => intro v H locs x1 x2 x3 x4 ls hP hS hl h; exact wk_X6_clearElsewhere_11_body C0 hap hK hT0 (k11 := fn_X6_clearElsewhere_11 n) (hk11 := ih) (hl := hl) (hP := hP) (hS := hS) (h := h)
set_option maxHeartbeats 4000000 in
set_option maxRecDepth 100000 in
theorem wk_X6_clearElsewhere {p : Program} {l : Launch} {e : Env} {s : State} {m : MethodId} {args : Array Value} {below : List Frame} {meth : Method} {c : Code} {D : va_G} {ca : Nat → ClassId} {a : Nat → Nat} {tw : Nat} {tt : Nat → Nat} (C0 : Cx p s m args meth c cX6_clearElsewhere none 5 wsX6_clearElsewhere RX6) (hap : ap_ok 9 a) (hK : va_K D vwCl (tys3 ca) s) (hT0 : tW tw tt (ad_of 9 a) s s.heap) {q : XS} (v : XS) (H : Heap) (locs : List Loc) (x1 : Int32) (x2 : Int32) (x3 : Int32) (ls : Array Slot) (hP : va_P D vwCl (XW ca a v) H) (hS : va_S (ad_of 9 a) s.heap H locs) (hl : lv_has ls 5 [(0, .ref (a 0)), (1, .int x1), (2, .int x2), (3, .int x3)]) (h : fn_X6_clearElsewhere v x1 x2 x3 = some q) : W p l e rm_X6_clearElsewhere s m args below meth c H locs 0 0 (MQ below (PQ none (fun H => va_P D vwCl (XW ca a q) H) (ad_of 9 a)) args s 0 0 (ad_of 9 a)) (F0 m 0 ls []) := by
  obtain ⟨hx, hb, hr, hml, hown, hts, hlocks⟩ := id C0
  have hD0 := fun v => XW_D (ca := ca) hap v
  unfold fn_X6_clearElsewhere at h
  refine lv_iload_n hx hb dX6_clearElsewhere_0 rfl (lv_at hl 2 rfl) ?_
  obtain ⟨q1, e1, h⟩ := Option.bind_eq_some_iff.mp h
  refine hp_S (As := [.int x2]) (rest := []) ⟨hx, hb, hml, hown, hts⟩ (ct_X6_isRegister l tw tt x2 e1) (va_cwS 1 hts gX6_clearElsewhere_X6_isRegister rfl rfl rfl (by decide +kernel) ⟨Nat.le_of_ble_eq_true rfl, Nat.le_of_ble_eq_true rfl⟩) GP.mv (GP.from hT0 hS) rfl hl.1 rfl (Nat.le_of_ble_eq_true rfl) dX6_clearElsewhere_1 ⟨Nat.zero_le _, Nat.zero_le _⟩ ?_
  refine W.eq (g2 := F0 m 4 ls [.int q1]) rfl ?_
  refine lv_if_ne (tgt := 8) hx hb dX6_clearElsewhere_4 (by decide) (fun c4 => ?_) (fun c4 => ?_)
  · replace h := ite_f h c4
    refine lv_iconst (v := 0) hx hb dX6_clearElsewhere_8 (by decide) ?_
    refine lv_istore (lv' := [(4, .int 0), (0, .ref (a 0)), (1, .int x1), (2, .int x2), (3, .int x3)]) hx hb dX6_clearElsewhere_9 hl (by decide) rfl (fun ls hl => ?_)
    exact wk_X6_clearElsewhere_11 C0 hap hK hT0  FU v H locs x1 x2 x3 0 ls hP hS (lv_sub hl [1, 2, 3, 4, 0] rfl) h
  · replace h := ite_t h c4
    obtain rfl := Option.some.inj h
    exact mp_vret hx hb hr hlocks hP hS dX6_clearElsewhere_7
theorem ct_X6_clearElsewhere (l : Launch) (D : va_G) (ca : Nat → ClassId) (a : Nat → Nat) (tw : Nat) (tt : Nat → Nat) (hap : ap_ok 9 a) (v : XS) (x1 : Int32) (x2 : Int32) (x3 : Int32) {q : XS} (h : fn_X6_clearElsewhere v x1 x2 x3 = some q) : Mp l yX6_clearElsewhere wsX6_clearElsewhere rm_X6_clearElsewhere [.ref (a 0), .int x1, .int x2, .int x3] (GW D ca tw tt (ad_of 9 a) (XW ca a v)) none (fun H => va_P D vwCl (XW ca a q) H) (ad_of 9 a) := by
  refine Mp.of (cc := cX6_clearElsewhere) (nL := 5) (ret := none) (own := RX6) (by decide) rfl rfl (Nat.le_of_ble_eq_true rfl) ?_
  intro p e s m below meth c ls C0 hB hl
  exact wk_X6_clearElsewhere C0 hap hB.2.1 hB.2.2 (hP := hB.1) (hS := va_S.rf) (hl := hl) (h := h)
abbrev rm_X6_echelon : Room := { frames := 2, cells := 0, slots := 0, locals := 48 }
theorem lk_X6_echelon_f20 : Cond.fieldLink RX6 20 "BooleanRing" "history" "LBooleanRing$History;" ∈ wsX6_echelon := by decide +kernel
theorem lk_X6_echelon_f9 : Cond.fieldLink RX6 9 "BooleanRing" "registers" "[J" ∈ wsX6_echelon := by decide +kernel
theorem ly_X6_echelon_X6 : ∀ w ∈ wsX60, w ∈ wsX6_echelon := by decide +kernel
set_option maxHeartbeats 4000000 in
set_option maxRecDepth 100000 in
theorem wk_X6_echelon_39_body {p : Program} {l : Launch} {e : Env} {s : State} {m : MethodId} {args : Array Value} {below : List Frame} {meth : Method} {c : Code} {D : va_G} {ca : Nat → ClassId} {a : Nat → Nat} {tw : Nat} {tt : Nat → Nat} (C0 : Cx p s m args meth c cX6_echelon (some .int) 7 wsX6_echelon RX6) (hap : ap_ok 9 a) (hK : va_K D vwCl (tys3 ca) s) (hT0 : tW tw tt (ad_of 9 a) s s.heap) {q : Int32 × XS} (k39 : XS → Int32 → Int32 → Int32 → Int32 → Int32 → Option (Int32 × XS)) (hk39 : ∀ (v : XS) (H : Heap) (locs : List Loc) (x1 : Int32) (x2 : Int32) (x3 : Int32) (x4 : Int32) (x5 : Int32) (ls : Array Slot) (hP : va_P D vwCl (XW ca a v) H) (hS : va_S (ad_of 9 a) s.heap H locs) (hl : lv_has ls 7 [(0, .ref (a 0)), (1, .int x1), (2, .int x2), (3, .int x3), (4, .int x4), (5, .int x5)]) (h : k39 v x1 x2 x3 x4 x5 = some q), W p l e rm_X6_echelon s m args below meth c H locs 0 0 (MQ below (PQ (some (.int q.1)) (fun H => va_P D vwCl (XW ca a q.2) H) (ad_of 9 a)) args s 0 0 (ad_of 9 a)) (F0 m 39 ls [])) (v : XS) (H : Heap) (locs : List Loc) (x1 : Int32) (x2 : Int32) (x3 : Int32) (x4 : Int32) (x5 : Int32) (ls : Array Slot) (hP : va_P D vwCl (XW ca a v) H) (hS : va_S (ad_of 9 a) s.heap H locs) (hl : lv_has ls 7 [(0, .ref (a 0)), (1, .int x1), (2, .int x2), (3, .int x3), (4, .int x4), (5, .int x5)]) (h : fn_X6_echelon_39_body k39 v x1 x2 x3 x4 x5 = some q) : W p l e rm_X6_echelon s m args below meth c H locs 0 0 (MQ below (PQ (some (.int q.1)) (fun H => va_P D vwCl (XW ca a q.2) H) (ad_of 9 a)) args s 0 0 (ad_of 9 a)) (F0 m 39 ls []) := by
  obtain ⟨hx, hb, hr, hml, hown, hts, hlocks⟩ := id C0
  have hD0 := fun v => XW_D (ca := ca) hap v
  unfold fn_X6_echelon_39_body at h
  refine lv_iload hx hb dX6_echelon_39 (lv_at hl 5 rfl) ?_
  refine lv_bipush (v := 64) hx hb dX6_echelon_41 (by decide) ?_
  refine lv_icmp_ge (tgt := 96) hx hb dX6_echelon_43 (by decide) (fun c43 => ?_) (fun c43 => ?_)
  · replace h := ite_t h c43
    refine lv_iload hx hb dX6_echelon_96 (lv_at hl 4 rfl) ?_
    obtain rfl := Option.some.inj h
    exact mp_iret hx hb hr hlocks hP hS dX6_echelon_98
  · replace h := ite_f h c43
    refine lv_iload_n hx hb dX6_echelon_46 rfl (lv_at hl 3 rfl) ?_
    refine lv_bipush (v := 8) hx hb dX6_echelon_47 (by decide) ?_
    refine lv_icmp_ge (tgt := 96) hx hb dX6_echelon_49 (by decide) (fun c49 => ?_) (fun c49 => ?_)
    · replace h := ite_t h c49
      refine lv_iload hx hb dX6_echelon_96 (lv_at hl 4 rfl) ?_
      obtain rfl := Option.some.inj h
      exact mp_iret hx hb hr hlocks hP hS dX6_echelon_98
    · replace h := ite_f h c49
      refine lv_iload_n hx hb dX6_echelon_52 rfl (lv_at hl 2 rfl) ?_
      refine lv_iload hx hb dX6_echelon_53 (lv_at hl 5 rfl) ?_
      obtain ⟨q55, e55, h⟩ := Option.bind_eq_some_iff.mp h
      refine hp_S (As := [.int x2, .int x5]) (rest := []) ⟨hx, hb, hml, hown, hts⟩ (ct_X2_monomialAt l tw tt x2 x5 e55) (va_cwS 2 hts gX6_echelon_X2_monomialAt rfl rfl rfl (by decide +kernel) ⟨Nat.le_of_ble_eq_true rfl, Nat.le_of_ble_eq_true rfl⟩) GP.mv (GP.from hT0 hS) rfl hl.1 rfl (Nat.le_of_ble_eq_true rfl) dX6_echelon_55 ⟨Nat.zero_le _, Nat.zero_le _⟩ ?_
      refine W.eq (g2 := F0 m 58 ls [.int q55]) rfl ?_
      refine lv_istore (lv' := [(6, .int q55), (0, .ref (a 0)), (1, .int x1), (2, .int x2), (3, .int x3), (4, .int x4), (5, .int x5)]) hx hb dX6_echelon_58 hl (by decide) rfl (fun ls hl => ?_)
      refine lv_aload_n hx hb dX6_echelon_60 rfl (lv_at hl 1 rfl) ?_
      refine lv_iload_n hx hb dX6_echelon_61 rfl (lv_at hl 2 rfl) ?_
      refine lv_iload_n hx hb dX6_echelon_62 rfl (lv_at hl 4 rfl) ?_
      refine lv_iload hx hb dX6_echelon_63 (lv_at hl 0 rfl) ?_
      obtain ⟨q65, e65, h⟩ := Option.bind_eq_some_iff.mp h
      refine mp_V (As := [.int x1, .int x3, .int q55]) (rest := []) (b := (a 0)) ⟨hx, hb, hml, hown, hts⟩ (ct_X6_bringUp l D ca a tw tt hap v x1 x3 q55 e65) (cwV 3 hts gX6_echelon_X6_bringUp rfl rfl rfl (by decide +kernel) ⟨Nat.le_of_ble_eq_true rfl, Nat.le_of_ble_eq_true rfl⟩) (va_recv hK hP (ci := 3) (q0 := 0) rfl rfl) GW.mv (GW.from hP hK hT0 hS) hS rfl hl.1 rfl (Nat.le_of_ble_eq_true rfl) dX6_echelon_65 ⟨Nat.zero_le _, Nat.zero_le _⟩ (fun H locs hP hS => ?_)
      refine W.eq (g2 := F0 m 68 ls [.int q65.1]) rfl ?_
      refine lv_if_eq (tgt := 90) hx hb dX6_echelon_68 (by decide) (fun c68 => ?_) (fun c68 => ?_)
      · replace h := ite_t h c68
        refine lv_iinc (v := (x5 + 1)) (lv' := [(5, .int (x5 + 1)), (6, .int q55), (0, .ref (a 0)), (1, .int x1), (2, .int x2), (3, .int x3), (4, .int x4)]) hx hb dX6_echelon_90 hl (k := 6) rfl rfl (by decide) rfl (fun ls hl => ?_)
        refine lv_goto (tgt := 39) hx hb dX6_echelon_93 (by decide) ?_
        exact hk39 q65.2 H locs x1 x2 x3 x4 (x5 + 1) ls hP hS (lv_sub hl [2, 3, 4, 5, 6, 0] rfl) h
      · replace h := ite_f h c68
        refine lv_aload_n hx hb dX6_echelon_71 rfl (lv_at hl 1 rfl) ?_
        refine lv_iload_n hx hb dX6_echelon_72 rfl (lv_at hl 2 rfl) ?_
        refine lv_iload_n hx hb dX6_echelon_73 rfl (lv_at hl 4 rfl) ?_
        refine lv_iload hx hb dX6_echelon_74 (lv_at hl 0 rfl) ?_
        obtain ⟨q76, e76, h⟩ := Option.bind_eq_some_iff.mp h
        refine mp_V (As := [.int x1, .int x3, .int q55]) (rest := []) (b := (a 0)) ⟨hx, hb, hml, hown, hts⟩ (ct_X6_clearElsewhere l D ca a tw tt hap q65.2 x1 x3 q55 e76) (cwV 3 hts gX6_echelon_X6_clearElsewhere rfl rfl rfl (by decide +kernel) ⟨Nat.le_of_ble_eq_true rfl, Nat.le_of_ble_eq_true rfl⟩) (va_recv hK hP (ci := 3) (q0 := 0) rfl rfl) GW.mv (GW.from hP hK hT0 hS) hS rfl hl.1 rfl (Nat.le_of_ble_eq_true rfl) dX6_echelon_76 ⟨Nat.zero_le _, Nat.zero_le _⟩ (fun H locs hP hS => ?_)
        refine W.eq (g2 := F0 m 79 ls []) rfl ?_
        refine lv_iload_n hx hb dX6_echelon_79 rfl (lv_at hl 2 rfl) ?_
        refine lv_iload_n hx hb dX6_echelon_80 rfl (lv_at hl 4 rfl) ?_
        refine lv_iconst (v := 1) hx hb dX6_echelon_81 (by decide) ?_
        refine lv_iadd hx hb dX6_echelon_82 ?_
        obtain ⟨q83, e83, h⟩ := Option.bind_eq_some_iff.mp h
        refine hp_S (As := [.int x1, .int (x3 + 1)]) (rest := []) ⟨hx, hb, hml, hown, hts⟩ (ct_X6_nextOf l tw tt x1 (x3 + 1) e83) (va_cwS 2 hts gX6_echelon_X6_nextOf rfl rfl rfl (by decide +kernel) ⟨Nat.le_of_ble_eq_true rfl, Nat.le_of_ble_eq_true rfl⟩) GP.mv (GP.from hT0 hS) rfl hl.1 rfl (Nat.le_of_ble_eq_true rfl) dX6_echelon_83 ⟨Nat.zero_le _, Nat.zero_le _⟩ ?_
        refine W.eq (g2 := F0 m 86 ls [.int q83]) rfl ?_
        refine lv_istore_n (lv' := [(3, .int q83), (6, .int q55), (0, .ref (a 0)), (1, .int x1), (2, .int x2), (4, .int x4), (5, .int x5)]) hx hb dX6_echelon_86 rfl hl (by decide) rfl (fun ls hl => ?_)
        refine lv_iinc (v := (x4 + 1)) (lv' := [(4, .int (x4 + 1)), (3, .int q83), (6, .int q55), (0, .ref (a 0)), (1, .int x1), (2, .int x2), (5, .int x5)]) hx hb dX6_echelon_87 hl (k := 5) rfl rfl (by decide) rfl (fun ls hl => ?_)
        refine lv_iinc (v := (x5 + 1)) (lv' := [(5, .int (x5 + 1)), (4, .int (x4 + 1)), (3, .int q83), (6, .int q55), (0, .ref (a 0)), (1, .int x1), (2, .int x2)]) hx hb dX6_echelon_90 hl (k := 6) rfl rfl (by decide) rfl (fun ls hl => ?_)
        refine lv_goto (tgt := 39) hx hb dX6_echelon_93 (by decide) ?_
        exact hk39 q76 H locs x1 x2 q83 (x4 + 1) (x5 + 1) ls hP hS (lv_sub hl [4, 5, 6, 2, 1, 0] rfl) h
set_option maxHeartbeats 4000000 in
set_option maxRecDepth 100000 in
theorem wk_X6_echelon_39 {p : Program} {l : Launch} {e : Env} {s : State} {m : MethodId} {args : Array Value} {below : List Frame} {meth : Method} {c : Code} {D : va_G} {ca : Nat → ClassId} {a : Nat → Nat} {tw : Nat} {tt : Nat → Nat} (C0 : Cx p s m args meth c cX6_echelon (some .int) 7 wsX6_echelon RX6) (hap : ap_ok 9 a) (hK : va_K D vwCl (tys3 ca) s) (hT0 : tW tw tt (ad_of 9 a) s s.heap) {q : Int32 × XS} : ∀ (n : Nat) (v : XS) (H : Heap) (locs : List Loc) (x1 : Int32) (x2 : Int32) (x3 : Int32) (x4 : Int32) (x5 : Int32) (ls : Array Slot) (hP : va_P D vwCl (XW ca a v) H) (hS : va_S (ad_of 9 a) s.heap H locs) (hl : lv_has ls 7 [(0, .ref (a 0)), (1, .int x1), (2, .int x2), (3, .int x3), (4, .int x4), (5, .int x5)]) (h : fn_X6_echelon_39 n v x1 x2 x3 x4 x5 = some q), W p l e rm_X6_echelon s m args below meth c H locs 0 0 (MQ below (PQ (some (.int q.1)) (fun H => va_P D vwCl (XW ca a q.2) H) (ad_of 9 a)) args s 0 0 (ad_of 9 a)) (F0 m 39 ls []) := by
  intro n
  induction n with
  | zero => intro v H locs x1 x2 x3 x4 x5 ls hP hS hl h; unfold fn_X6_echelon_39 at h; cases h
  | succ n ih => intro v H locs x1 x2 x3 x4 x5 ls hP hS hl h; exact wk_X6_echelon_39_body C0 hap hK hT0 (k39 := fn_X6_echelon_39 n) (hk39 := ih) (hl := hl) (hP := hP) (hS := hS) (h := h)
set_option maxHeartbeats 4000000 in
set_option maxRecDepth 100000 in
theorem wk_X6_echelon {p : Program} {l : Launch} {e : Env} {s : State} {m : MethodId} {args : Array Value} {below : List Frame} {meth : Method} {c : Code} {D : va_G} {ca : Nat → ClassId} {a : Nat → Nat} {tw : Nat} {tt : Nat → Nat} (C0 : Cx p s m args meth c cX6_echelon (some .int) 7 wsX6_echelon RX6) (hap : ap_ok 9 a) (hK : va_K D vwCl (tys3 ca) s) (hT0 : tW tw tt (ad_of 9 a) s s.heap) {q : Int32 × XS} (v : XS) (H : Heap) (locs : List Loc) (x1 : Int32) (x2 : Int32) (ls : Array Slot) (hP : va_P D vwCl (XW ca a v) H) (hS : va_S (ad_of 9 a) s.heap H locs) (hl : lv_has ls 7 [(0, .ref (a 0)), (1, .int x1), (2, .int x2)]) (h : fn_X6_echelon v x1 x2 = some q) : W p l e rm_X6_echelon s m args below meth c H locs 0 0 (MQ below (PQ (some (.int q.1)) (fun H => va_P D vwCl (XW ca a q.2) H) (ad_of 9 a)) args s 0 0 (ad_of 9 a)) (F0 m 0 ls []) := by
  obtain ⟨hx, hb, hr, hml, hown, hts, hlocks⟩ := id C0
  have hD0 := fun v => XW_D (ca := ca) hap v
  unfold fn_X6_echelon at h
  refine lv_iload_n hx hb dX6_echelon_0 rfl (lv_at hl 1 rfl) ?_
  obtain ⟨q1, e1, h⟩ := Option.bind_eq_some_iff.mp h
  refine hp_S (As := [.int x1]) (rest := []) ⟨hx, hb, hml, hown, hts⟩ (ct_X6_isSet l tw tt x1 e1) (va_cwS 1 hts gX6_echelon_X6_isSet rfl rfl rfl (by decide +kernel) ⟨Nat.le_of_ble_eq_true rfl, Nat.le_of_ble_eq_true rfl⟩) GP.mv (GP.from hT0 hS) rfl hl.1 rfl (Nat.le_of_ble_eq_true rfl) dX6_echelon_1 ⟨Nat.zero_le _, Nat.zero_le _⟩ ?_
  refine W.eq (g2 := F0 m 4 ls [.int q1]) rfl ?_
  refine lv_if_eq (tgt := 14) hx hb dX6_echelon_4 (by decide) (fun c4 => ?_) (fun c4 => ?_)
  · replace h := ite_t h c4
    refine lv_iconst (v := (-1)) hx hb dX6_echelon_14 (by decide) ?_
    obtain rfl := Option.some.inj h
    exact mp_iret hx hb hr hlocks hP hS dX6_echelon_15
  · replace h := ite_f h c4
    refine lv_iload_n hx hb dX6_echelon_7 rfl (lv_at hl 2 rfl) ?_
    obtain ⟨q8, e8, h⟩ := Option.bind_eq_some_iff.mp h
    refine hp_S (As := [.int x2]) (rest := []) ⟨hx, hb, hml, hown, hts⟩ (ct_X6_isOrder l tw tt x2 e8) (va_cwS 1 hts gX6_echelon_X6_isOrder rfl rfl rfl (by decide +kernel) ⟨Nat.le_of_ble_eq_true rfl, Nat.le_of_ble_eq_true rfl⟩) GP.mv (GP.from hT0 hS) rfl hl.1 rfl (Nat.le_of_ble_eq_true rfl) dX6_echelon_8 ⟨Nat.zero_le _, Nat.zero_le _⟩ ?_
    refine W.eq (g2 := F0 m 11 ls [.int q8]) rfl ?_
    refine lv_if_ne (tgt := 16) hx hb dX6_echelon_11 (by decide) (fun c11 => ?_) (fun c11 => ?_)
    · replace h := ite_f h c11
      refine lv_aload_n hx hb dX6_echelon_16 rfl (lv_at hl 0 rfl) ?_
      refine va_get (D := D) (ci := 3) (v := .ref (a 3)) (C := RX6) (T := TX6) (N := 6) hx hb hts ly_X6_echelon_X6 hown hK hP 0 rfl rfl 2 (by decide) (hts _ lk_X6_echelon_f20) (fun _ h9 => h9) rfl dX6_echelon_17 ?_
      refine lv_aload_n hx hb dX6_echelon_20 rfl (lv_at hl 0 rfl) ?_
      refine va_get (D := D) (ci := 3) (v := .ref (a 1)) (C := RX6) (T := TX6) (N := 6) hx hb hts ly_X6_echelon_X6 hown hK hP 0 rfl rfl 0 (by decide) (hts _ lk_X6_echelon_f9) (fun _ h9 => h9) rfl dX6_echelon_21 ?_
      obtain ⟨q24, e24, h⟩ := Option.bind_eq_some_iff.mp h
      refine mp_V (As := [.ref (a 1)]) (rest := []) (b := (a 3)) ⟨hx, hb, hml, hown, hts⟩ (ct_X1_keep l D ca a tw tt hap v  e24) (cwV 1 hts gX6_echelon_X1_keep rfl rfl rfl (by decide +kernel) ⟨Nat.le_of_ble_eq_true rfl, Nat.le_of_ble_eq_true rfl⟩) (va_recv hK hP (ci := 1) (q0 := 3) rfl rfl) GW.mv (GW.from hP hK hT0 hS) hS rfl hl.1 rfl (Nat.le_of_ble_eq_true rfl) dX6_echelon_24 ⟨Nat.zero_le _, Nat.zero_le _⟩ (fun H locs hP hS => ?_)
      refine W.eq (g2 := F0 m 27 ls []) rfl ?_
      refine lv_iload_n hx hb dX6_echelon_27 rfl (lv_at hl 1 rfl) ?_
      refine lv_iconst (v := 0) hx hb dX6_echelon_28 (by decide) ?_
      obtain ⟨q29, e29, h⟩ := Option.bind_eq_some_iff.mp h
      refine hp_S (As := [.int x1, .int 0]) (rest := []) ⟨hx, hb, hml, hown, hts⟩ (ct_X6_nextOf l tw tt x1 0 e29) (va_cwS 2 hts gX6_echelon_X6_nextOf rfl rfl rfl (by decide +kernel) ⟨Nat.le_of_ble_eq_true rfl, Nat.le_of_ble_eq_true rfl⟩) GP.mv (GP.from hT0 hS) rfl hl.1 rfl (Nat.le_of_ble_eq_true rfl) dX6_echelon_29 ⟨Nat.zero_le _, Nat.zero_le _⟩ ?_
      refine W.eq (g2 := F0 m 32 ls [.int q29]) rfl ?_
      refine lv_istore_n (lv' := [(3, .int q29), (0, .ref (a 0)), (1, .int x1), (2, .int x2)]) hx hb dX6_echelon_32 rfl hl (by decide) rfl (fun ls hl => ?_)
      refine lv_iconst (v := 0) hx hb dX6_echelon_33 (by decide) ?_
      refine lv_istore (lv' := [(4, .int 0), (3, .int q29), (0, .ref (a 0)), (1, .int x1), (2, .int x2)]) hx hb dX6_echelon_34 hl (by decide) rfl (fun ls hl => ?_)
      refine lv_iconst (v := 0) hx hb dX6_echelon_36 (by decide) ?_
      refine lv_istore (lv' := [(5, .int 0), (4, .int 0), (3, .int q29), (0, .ref (a 0)), (1, .int x1), (2, .int x2)]) hx hb dX6_echelon_37 hl (by decide) rfl (fun ls hl => ?_)
      exact wk_X6_echelon_39 C0 hap hK hT0  FU q24 H locs x1 x2 q29 0 0 ls hP hS (lv_sub hl [3, 4, 5, 2, 1, 0] rfl) h
    · replace h := ite_t h c11
      refine lv_iconst (v := (-1)) hx hb dX6_echelon_14 (by decide) ?_
      obtain rfl := Option.some.inj h
      exact mp_iret hx hb hr hlocks hP hS dX6_echelon_15
theorem ct_X6_echelon (l : Launch) (D : va_G) (ca : Nat → ClassId) (a : Nat → Nat) (tw : Nat) (tt : Nat → Nat) (hap : ap_ok 9 a) (v : XS) (x1 : Int32) (x2 : Int32) {q : Int32 × XS} (h : fn_X6_echelon v x1 x2 = some q) : Mp l yX6_echelon wsX6_echelon rm_X6_echelon [.ref (a 0), .int x1, .int x2] (GW D ca tw tt (ad_of 9 a) (XW ca a v)) (some (.int q.1)) (fun H => va_P D vwCl (XW ca a q.2) H) (ad_of 9 a) := by
  refine Mp.of (cc := cX6_echelon) (nL := 7) (ret := (some .int)) (own := RX6) (by decide) rfl rfl (Nat.le_of_ble_eq_true rfl) ?_
  intro p e s m below meth c ls C0 hB hl
  exact wk_X6_echelon C0 hap hB.2.1 hB.2.2 (hP := hB.1) (hS := va_S.rf) (hl := hl) (h := h)
abbrev rm_X6_allPoints : Room := { frames := 0, cells := 0, slots := 0, locals := 0 }
theorem lk_X6_allPoints_f38 : Cond.fieldLink RX6 38 "BooleanRing" "n" "I" ∈ wsX6_allPoints := by decide +kernel
theorem lk_X6_allPoints_c180 : Cond.constantLong RX6 180 (-1) ∈ wsX6_allPoints := by decide +kernel
theorem ly_X6_allPoints_X6 : ∀ w ∈ wsX60, w ∈ wsX6_allPoints := by decide +kernel
set_option maxHeartbeats 4000000 in
set_option maxRecDepth 100000 in
theorem wk_X6_allPoints {p : Program} {l : Launch} {e : Env} {s : State} {m : MethodId} {args : Array Value} {below : List Frame} {meth : Method} {c : Code} {D : va_G} {ca : Nat → ClassId} {a : Nat → Nat} {tw : Nat} {tt : Nat → Nat} (C0 : Cx p s m args meth c cX6_allPoints (some .long) 1 wsX6_allPoints RX6) (hK : va_K D vwCl (tys3 ca) s) (hT0 : tW tw tt (ad_of 9 a) s s.heap) (v : XS) (hP : va_P D vwCl (XW ca a v) s.heap) {q : Int64} (ls : Array Slot) (hl : lv_has ls 1 [(0, .ref (a 0))]) (h : fn_X6_allPoints v  = some q) : W p l e rm_X6_allPoints s m args below meth c s.heap [] 0 0 (MQ below (HQ (some (.long q))) args s 0 0 (fun _ => False)) (F0 m 0 ls []) := by
  obtain ⟨hx, hb, hr, hml, hown, hts, hlocks⟩ := id C0
  have hS : va_S (ad_of 9 a) s.heap s.heap [] := va_S.rf
  unfold fn_X6_allPoints at h
  refine lv_aload_n hx hb dX6_allPoints_0 rfl (lv_at hl 0 rfl) ?_
  refine va_get (D := D) (ci := 3) (v := .int (x_n v)) (C := RX6) (T := TX6) (N := 6) hx hb hts ly_X6_allPoints_X6 hown hK hP 0 rfl rfl 5 (by decide) (hts _ lk_X6_allPoints_f38) (fun _ h9 => h9) rfl dX6_allPoints_1 ?_
  refine lv_bipush (v := 6) hx hb dX6_allPoints_4 (by decide) ?_
  refine lv_icmp_lt (tgt := 15) hx hb dX6_allPoints_6 (by decide) (fun c6 => ?_) (fun c6 => ?_)
  · replace h := ite_t h c6
    refine lv_lconst (v := 1) hx hb dX6_allPoints_15 (by decide) ?_
    refine lv_iconst (v := 1) hx hb dX6_allPoints_16 (by decide) ?_
    refine lv_aload_n hx hb dX6_allPoints_17 rfl (lv_at hl 0 rfl) ?_
    refine va_get (D := D) (ci := 3) (v := .int (x_n v)) (C := RX6) (T := TX6) (N := 6) hx hb hts ly_X6_allPoints_X6 hown hK hP 0 rfl rfl 5 (by decide) (hts _ lk_X6_allPoints_f38) (fun _ h9 => h9) rfl dX6_allPoints_18 ?_
    refine lv_ishl hx hb dX6_allPoints_21 ?_
    refine lv_lshl (v := (lsh 1 (ish 1 (x_n v)))) hx hb dX6_allPoints_22 rfl ?_
    refine lv_lconst (v := 1) hx hb dX6_allPoints_23 (by decide) ?_
    refine lv_lsub hx hb dX6_allPoints_24 ?_
    obtain rfl := Option.some.inj h
    exact hp_lret hx hb hr hlocks dX6_allPoints_25
  · replace h := ite_f h c6
    refine lv_ldc2 (v := (-1)) hx hb hown (hts _ lk_X6_allPoints_c180) dX6_allPoints_9 ?_
    refine lv_goto (tgt := 25) hx hb dX6_allPoints_12 (by decide) ?_
    obtain rfl := Option.some.inj h
    exact hp_lret hx hb hr hlocks dX6_allPoints_25
theorem ct_X6_allPoints (l : Launch) (D : va_G) (ca : Nat → ClassId) (a : Nat → Nat) (tw : Nat) (tt : Nat → Nat) (v : XS) {q : Int64} (h : fn_X6_allPoints v  = some q) : Hp l yX6_allPoints wsX6_allPoints rm_X6_allPoints [.ref (a 0)] (GW D ca tw tt (ad_of 9 a) (XW ca a v)) (some (.long q)) := by
  refine Hp.of (cc := cX6_allPoints) (nL := 1) (ret := (some .long)) (own := RX6) (by decide) rfl rfl (Nat.le_of_ble_eq_true rfl) ?_
  intro p e s m below meth c ls C0 hB hl
  exact wk_X6_allPoints C0 hB.2.1 hB.2.2 v hB.1 (hl := hl) (h := h)
abbrev rm_X6_nonZeros : Room := { frames := 3, cells := 0, slots := 0, locals := 67 }
theorem lk_X6_nonZeros_f9 : Cond.fieldLink RX6 9 "BooleanRing" "registers" "[J" ∈ wsX6_nonZeros := by decide +kernel
theorem lk_X6_nonZeros_f38 : Cond.fieldLink RX6 38 "BooleanRing" "n" "I" ∈ wsX6_nonZeros := by decide +kernel
theorem ly_X6_nonZeros_X6 : ∀ w ∈ wsX60, w ∈ wsX6_nonZeros := by decide +kernel
set_option maxHeartbeats 4000000 in
set_option maxRecDepth 100000 in
theorem wk_X6_nonZeros_5_body {p : Program} {l : Launch} {e : Env} {s : State} {m : MethodId} {args : Array Value} {below : List Frame} {meth : Method} {c : Code} {D : va_G} {ca : Nat → ClassId} {a : Nat → Nat} {tw : Nat} {tt : Nat → Nat} (C0 : Cx p s m args meth c cX6_nonZeros (some .long) 5 wsX6_nonZeros RX6) (hK : va_K D vwCl (tys3 ca) s) (hT0 : tW tw tt (ad_of 9 a) s s.heap) (v : XS) (hP : va_P D vwCl (XW ca a v) s.heap) {q : Int64} (k5 : Int32 → Int64 → Int32 → Option (Int64)) (hk5 : ∀ (x1 : Int32) (x2 : Int64) (x4 : Int32) (ls : Array Slot) (hl : lv_has ls 5 [(0, .ref (a 0)), (1, .int x1), (2, .long x2), (4, .int x4)]) (h : k5 x1 x2 x4 = some q), W p l e rm_X6_nonZeros s m args below meth c s.heap [] 0 0 (MQ below (HQ (some (.long q))) args s 0 0 (fun _ => False)) (F0 m 5 ls [])) (x1 : Int32) (x2 : Int64) (x4 : Int32) (ls : Array Slot) (hl : lv_has ls 5 [(0, .ref (a 0)), (1, .int x1), (2, .long x2), (4, .int x4)]) (h : fn_X6_nonZeros_5_body v k5 x1 x2 x4 = some q) : W p l e rm_X6_nonZeros s m args below meth c s.heap [] 0 0 (MQ below (HQ (some (.long q))) args s 0 0 (fun _ => False)) (F0 m 5 ls []) := by
  obtain ⟨hx, hb, hr, hml, hown, hts, hlocks⟩ := id C0
  have hS : va_S (ad_of 9 a) s.heap s.heap [] := va_S.rf
  unfold fn_X6_nonZeros_5_body at h
  refine lv_iload hx hb dX6_nonZeros_5 (lv_at hl 3 rfl) ?_
  refine lv_bipush (v := 8) hx hb dX6_nonZeros_7 (by decide) ?_
  refine lv_icmp_ge (tgt := 44) hx hb dX6_nonZeros_9 (by decide) (fun c9 => ?_) (fun c9 => ?_)
  · replace h := ite_t h c9
    refine lv_lload_n hx hb dX6_nonZeros_44 rfl (lv_at hl 2 rfl) ?_
    obtain rfl := Option.some.inj h
    exact hp_lret hx hb hr hlocks dX6_nonZeros_45
  · replace h := ite_f h c9
    refine lv_iload_n hx hb dX6_nonZeros_12 rfl (lv_at hl 1 rfl) ?_
    refine lv_iload hx hb dX6_nonZeros_13 (lv_at hl 3 rfl) ?_
    obtain ⟨q15, e15, h⟩ := Option.bind_eq_some_iff.mp h
    refine hp_S (As := [.int x1, .int x4]) (rest := []) ⟨hx, hb, hml, hown, hts⟩ (ct_X6_isIn l tw tt x1 x4 e15) (va_cwS 2 hts gX6_nonZeros_X6_isIn rfl rfl rfl (by decide +kernel) ⟨Nat.le_of_ble_eq_true rfl, Nat.le_of_ble_eq_true rfl⟩) GP.mv (GP.from hT0 hS) rfl hl.1 rfl (Nat.le_of_ble_eq_true rfl) dX6_nonZeros_15 ⟨Nat.zero_le _, Nat.zero_le _⟩ ?_
    refine W.eq (g2 := F0 m 18 ls [.int q15]) rfl ?_
    refine lv_if_eq (tgt := 38) hx hb dX6_nonZeros_18 (by decide) (fun c18 => ?_) (fun c18 => ?_)
    · replace h := ite_t h c18
      refine lv_iinc (v := (x4 + 1)) (lv' := [(4, .int (x4 + 1)), (0, .ref (a 0)), (1, .int x1), (2, .long x2)]) hx hb dX6_nonZeros_38 hl (k := 3) rfl rfl (by decide) rfl (fun ls hl => ?_)
      refine lv_goto (tgt := 5) hx hb dX6_nonZeros_41 (by decide) ?_
      exact hk5 x1 x2 (x4 + 1) ls (lv_sub hl [1, 2, 3, 0] rfl) h
    · replace h := ite_f h c18
      refine lv_lload_n hx hb dX6_nonZeros_21 rfl (lv_at hl 2 rfl) ?_
      refine lv_aload_n hx hb dX6_nonZeros_22 rfl (lv_at hl 0 rfl) ?_
      refine va_get (D := D) (ci := 3) (v := .ref (a 1)) (C := RX6) (T := TX6) (N := 6) hx hb hts ly_X6_nonZeros_X6 hown hK hP 0 rfl rfl 0 (by decide) (hts _ lk_X6_nonZeros_f9) (fun _ h9 => h9) rfl dX6_nonZeros_23 ?_
      refine lv_iload hx hb dX6_nonZeros_26 (lv_at hl 3 rfl) ?_
      obtain ⟨q28, e28, h⟩ := Option.bind_eq_some_iff.mp h
      refine rd_lald hx hb hK hP 1 0 e28 rfl rfl dX6_nonZeros_28 ?_
      refine lv_aload_n hx hb dX6_nonZeros_29 rfl (lv_at hl 0 rfl) ?_
      refine va_get (D := D) (ci := 3) (v := .int (x_n v)) (C := RX6) (T := TX6) (N := 6) hx hb hts ly_X6_nonZeros_X6 hown hK hP 0 rfl rfl 5 (by decide) (hts _ lk_X6_nonZeros_f38) (fun _ h9 => h9) rfl dX6_nonZeros_30 ?_
      obtain ⟨q33, e33, h⟩ := Option.bind_eq_some_iff.mp h
      refine hp_S (As := [.long q28, .int (x_n v)]) (rest := [.long x2]) ⟨hx, hb, hml, hown, hts⟩ (ct_X3_transformed l tw tt q28 (x_n v) e33) (va_cwS 2 hts gX6_nonZeros_X3_transformed rfl rfl rfl (by decide +kernel) ⟨Nat.le_of_ble_eq_true rfl, Nat.le_of_ble_eq_true rfl⟩) GP.mv (GP.from hT0 hS) rfl hl.1 rfl (Nat.le_of_ble_eq_true rfl) dX6_nonZeros_33 ⟨Nat.zero_le _, Nat.zero_le _⟩ ?_
      refine W.eq (g2 := F0 m 36 ls [.long q33, .long x2]) rfl ?_
      refine lv_lor hx hb dX6_nonZeros_36 ?_
      refine lv_lstore_n (lv' := [(2, .long (x2 ||| q33)), (0, .ref (a 0)), (1, .int x1), (4, .int x4)]) hx hb dX6_nonZeros_37 rfl hl (by decide) rfl (fun ls hl => ?_)
      refine lv_iinc (v := (x4 + 1)) (lv' := [(4, .int (x4 + 1)), (2, .long (x2 ||| q33)), (0, .ref (a 0)), (1, .int x1)]) hx hb dX6_nonZeros_38 hl (k := 3) rfl rfl (by decide) rfl (fun ls hl => ?_)
      refine lv_goto (tgt := 5) hx hb dX6_nonZeros_41 (by decide) ?_
      exact hk5 x1 (x2 ||| q33) (x4 + 1) ls (lv_sub hl [2, 3, 1, 0] rfl) h
set_option maxHeartbeats 4000000 in
set_option maxRecDepth 100000 in
theorem wk_X6_nonZeros_5 {p : Program} {l : Launch} {e : Env} {s : State} {m : MethodId} {args : Array Value} {below : List Frame} {meth : Method} {c : Code} {D : va_G} {ca : Nat → ClassId} {a : Nat → Nat} {tw : Nat} {tt : Nat → Nat} (C0 : Cx p s m args meth c cX6_nonZeros (some .long) 5 wsX6_nonZeros RX6) (hK : va_K D vwCl (tys3 ca) s) (hT0 : tW tw tt (ad_of 9 a) s s.heap) (v : XS) (hP : va_P D vwCl (XW ca a v) s.heap) {q : Int64} : ∀ (n : Nat) (x1 : Int32) (x2 : Int64) (x4 : Int32) (ls : Array Slot) (hl : lv_has ls 5 [(0, .ref (a 0)), (1, .int x1), (2, .long x2), (4, .int x4)]) (h : fn_X6_nonZeros_5 v n x1 x2 x4 = some q), W p l e rm_X6_nonZeros s m args below meth c s.heap [] 0 0 (MQ below (HQ (some (.long q))) args s 0 0 (fun _ => False)) (F0 m 5 ls []) := by
  intro n
  induction n with
  | zero => intro x1 x2 x4 ls hl h; unfold fn_X6_nonZeros_5 at h; cases h
  | succ n ih => intro x1 x2 x4 ls hl h; exact wk_X6_nonZeros_5_body C0 hK hT0 v hP (k5 := fn_X6_nonZeros_5 v n) (hk5 := ih) (hl := hl) (h := h)
set_option maxHeartbeats 4000000 in
set_option maxRecDepth 100000 in
theorem wk_X6_nonZeros {p : Program} {l : Launch} {e : Env} {s : State} {m : MethodId} {args : Array Value} {below : List Frame} {meth : Method} {c : Code} {D : va_G} {ca : Nat → ClassId} {a : Nat → Nat} {tw : Nat} {tt : Nat → Nat} (C0 : Cx p s m args meth c cX6_nonZeros (some .long) 5 wsX6_nonZeros RX6) (hK : va_K D vwCl (tys3 ca) s) (hT0 : tW tw tt (ad_of 9 a) s s.heap) (v : XS) (hP : va_P D vwCl (XW ca a v) s.heap) {q : Int64} (x1 : Int32) (ls : Array Slot) (hl : lv_has ls 5 [(0, .ref (a 0)), (1, .int x1)]) (h : fn_X6_nonZeros v x1 = some q) : W p l e rm_X6_nonZeros s m args below meth c s.heap [] 0 0 (MQ below (HQ (some (.long q))) args s 0 0 (fun _ => False)) (F0 m 0 ls []) := by
  obtain ⟨hx, hb, hr, hml, hown, hts, hlocks⟩ := id C0
  have hS : va_S (ad_of 9 a) s.heap s.heap [] := va_S.rf
  unfold fn_X6_nonZeros at h
  refine lv_lconst (v := 0) hx hb dX6_nonZeros_0 (by decide) ?_
  refine lv_lstore_n (lv' := [(2, .long 0), (0, .ref (a 0)), (1, .int x1)]) hx hb dX6_nonZeros_1 rfl hl (by decide) rfl (fun ls hl => ?_)
  refine lv_iconst (v := 0) hx hb dX6_nonZeros_2 (by decide) ?_
  refine lv_istore (lv' := [(4, .int 0), (2, .long 0), (0, .ref (a 0)), (1, .int x1)]) hx hb dX6_nonZeros_3 hl (by decide) rfl (fun ls hl => ?_)
  exact wk_X6_nonZeros_5 C0 hK hT0 v hP  FU x1 0 0 ls (lv_sub hl [2, 3, 1, 0] rfl) h
theorem ct_X6_nonZeros (l : Launch) (D : va_G) (ca : Nat → ClassId) (a : Nat → Nat) (tw : Nat) (tt : Nat → Nat) (v : XS) (x1 : Int32) {q : Int64} (h : fn_X6_nonZeros v x1 = some q) : Hp l yX6_nonZeros wsX6_nonZeros rm_X6_nonZeros [.ref (a 0), .int x1] (GW D ca tw tt (ad_of 9 a) (XW ca a v)) (some (.long q)) := by
  refine Hp.of (cc := cX6_nonZeros) (nL := 5) (ret := (some .long)) (own := RX6) (by decide) rfl rfl (Nat.le_of_ble_eq_true rfl) ?_
  intro p e s m below meth c ls C0 hB hl
  exact wk_X6_nonZeros C0 hB.2.1 hB.2.2 v hB.1 (hl := hl) (h := h)
abbrev rm_X6_commonZeros : Room := { frames := 4, cells := 0, slots := 0, locals := 91 }
theorem lk_X6_commonZeros_c180 : Cond.constantLong RX6 180 (-1) ∈ wsX6_commonZeros := by decide +kernel
set_option maxHeartbeats 4000000 in
set_option maxRecDepth 100000 in
theorem wk_X6_commonZeros {p : Program} {l : Launch} {e : Env} {s : State} {m : MethodId} {args : Array Value} {below : List Frame} {meth : Method} {c : Code} {D : va_G} {ca : Nat → ClassId} {a : Nat → Nat} {tw : Nat} {tt : Nat → Nat} (C0 : Cx p s m args meth c cX6_commonZeros (some .long) 2 wsX6_commonZeros RX6) (hK : va_K D vwCl (tys3 ca) s) (hT0 : tW tw tt (ad_of 9 a) s s.heap) (v : XS) (hP : va_P D vwCl (XW ca a v) s.heap) {q : Int64} (x1 : Int32) (ls : Array Slot) (hl : lv_has ls 2 [(0, .ref (a 0)), (1, .int x1)]) (h : fn_X6_commonZeros v x1 = some q) : W p l e rm_X6_commonZeros s m args below meth c s.heap [] 0 0 (MQ below (HQ (some (.long q))) args s 0 0 (fun _ => False)) (F0 m 0 ls []) := by
  obtain ⟨hx, hb, hr, hml, hown, hts, hlocks⟩ := id C0
  have hS : va_S (ad_of 9 a) s.heap s.heap [] := va_S.rf
  unfold fn_X6_commonZeros at h
  refine lv_aload_n hx hb dX6_commonZeros_0 rfl (lv_at hl 0 rfl) ?_
  obtain ⟨q1, e1, h⟩ := Option.bind_eq_some_iff.mp h
  refine hp_V (As := []) (rest := []) (b := (a 0)) ⟨hx, hb, hml, hown, hts⟩ (ct_X6_allPoints l D ca a tw tt v  e1) (cwV 0 hts gX6_commonZeros_X6_allPoints rfl rfl rfl (by decide +kernel) ⟨Nat.le_of_ble_eq_true rfl, Nat.le_of_ble_eq_true rfl⟩) (va_recv hK hP (ci := 3) (q0 := 0) rfl rfl) GW.mv (GW.from hP hK hT0 hS) rfl hl.1 rfl (Nat.le_of_ble_eq_true rfl) dX6_commonZeros_1 ⟨Nat.zero_le _, Nat.zero_le _⟩ ?_
  refine W.eq (g2 := F0 m 4 ls [.long q1]) rfl ?_
  refine lv_aload_n hx hb dX6_commonZeros_4 rfl (lv_at hl 0 rfl) ?_
  refine lv_iload_n hx hb dX6_commonZeros_5 rfl (lv_at hl 1 rfl) ?_
  obtain ⟨q6, e6, h⟩ := Option.bind_eq_some_iff.mp h
  refine hp_V (As := [.int x1]) (rest := [.long q1]) (b := (a 0)) ⟨hx, hb, hml, hown, hts⟩ (ct_X6_nonZeros l D ca a tw tt v x1 e6) (cwV 1 hts gX6_commonZeros_X6_nonZeros rfl rfl rfl (by decide +kernel) ⟨Nat.le_of_ble_eq_true rfl, Nat.le_of_ble_eq_true rfl⟩) (va_recv hK hP (ci := 3) (q0 := 0) rfl rfl) GW.mv (GW.from hP hK hT0 hS) rfl hl.1 rfl (Nat.le_of_ble_eq_true rfl) dX6_commonZeros_6 ⟨Nat.zero_le _, Nat.zero_le _⟩ ?_
  refine W.eq (g2 := F0 m 9 ls [.long q6, .long q1]) rfl ?_
  refine lv_ldc2 (v := (-1)) hx hb hown (hts _ lk_X6_commonZeros_c180) dX6_commonZeros_9 ?_
  refine lv_lxor hx hb dX6_commonZeros_12 ?_
  refine lv_land hx hb dX6_commonZeros_13 ?_
  obtain rfl := Option.some.inj h
  exact hp_lret hx hb hr hlocks dX6_commonZeros_14
theorem ct_X6_commonZeros (l : Launch) (D : va_G) (ca : Nat → ClassId) (a : Nat → Nat) (tw : Nat) (tt : Nat → Nat) (v : XS) (x1 : Int32) {q : Int64} (h : fn_X6_commonZeros v x1 = some q) : Hp l yX6_commonZeros wsX6_commonZeros rm_X6_commonZeros [.ref (a 0), .int x1] (GW D ca tw tt (ad_of 9 a) (XW ca a v)) (some (.long q)) := by
  refine Hp.of (cc := cX6_commonZeros) (nL := 2) (ret := (some .long)) (own := RX6) (by decide) rfl rfl (Nat.le_of_ble_eq_true rfl) ?_
  intro p e s m below meth c ls C0 hB hl
  exact wk_X6_commonZeros C0 hB.2.1 hB.2.2 v hB.1 (hl := hl) (h := h)
abbrev rm_X6_zeros : Room := { frames := 5, cells := 0, slots := 0, locals := 112 }
set_option maxHeartbeats 4000000 in
set_option maxRecDepth 100000 in
theorem wk_X6_zeros {p : Program} {l : Launch} {e : Env} {s : State} {m : MethodId} {args : Array Value} {below : List Frame} {meth : Method} {c : Code} {D : va_G} {ca : Nat → ClassId} {a : Nat → Nat} {tw : Nat} {tt : Nat → Nat} (C0 : Cx p s m args meth c cX6_zeros (some .int) 2 wsX6_zeros RX6) (hK : va_K D vwCl (tys3 ca) s) (hT0 : tW tw tt (ad_of 9 a) s s.heap) (v : XS) (hP : va_P D vwCl (XW ca a v) s.heap) {q : Int32} (x1 : Int32) (ls : Array Slot) (hl : lv_has ls 2 [(0, .ref (a 0)), (1, .int x1)]) (h : fn_X6_zeros v x1 = some q) : W p l e rm_X6_zeros s m args below meth c s.heap [] 0 0 (MQ below (HQ (some (.int q))) args s 0 0 (fun _ => False)) (F0 m 0 ls []) := by
  obtain ⟨hx, hb, hr, hml, hown, hts, hlocks⟩ := id C0
  have hS : va_S (ad_of 9 a) s.heap s.heap [] := va_S.rf
  unfold fn_X6_zeros at h
  refine lv_iload_n hx hb dX6_zeros_0 rfl (lv_at hl 1 rfl) ?_
  obtain ⟨q1, e1, h⟩ := Option.bind_eq_some_iff.mp h
  refine hp_S (As := [.int x1]) (rest := []) ⟨hx, hb, hml, hown, hts⟩ (ct_X6_isSet l tw tt x1 e1) (va_cwS 1 hts gX6_zeros_X6_isSet rfl rfl rfl (by decide +kernel) ⟨Nat.le_of_ble_eq_true rfl, Nat.le_of_ble_eq_true rfl⟩) GP.mv (GP.from hT0 hS) rfl hl.1 rfl (Nat.le_of_ble_eq_true rfl) dX6_zeros_1 ⟨Nat.zero_le _, Nat.zero_le _⟩ ?_
  refine W.eq (g2 := F0 m 4 ls [.int q1]) rfl ?_
  refine lv_if_ne (tgt := 9) hx hb dX6_zeros_4 (by decide) (fun c4 => ?_) (fun c4 => ?_)
  · replace h := ite_f h c4
    refine lv_aload_n hx hb dX6_zeros_9 rfl (lv_at hl 0 rfl) ?_
    refine lv_iload_n hx hb dX6_zeros_10 rfl (lv_at hl 1 rfl) ?_
    obtain ⟨q11, e11, h⟩ := Option.bind_eq_some_iff.mp h
    refine hp_V (As := [.int x1]) (rest := []) (b := (a 0)) ⟨hx, hb, hml, hown, hts⟩ (ct_X6_commonZeros l D ca a tw tt v x1 e11) (cwV 1 hts gX6_zeros_X6_commonZeros rfl rfl rfl (by decide +kernel) ⟨Nat.le_of_ble_eq_true rfl, Nat.le_of_ble_eq_true rfl⟩) (va_recv hK hP (ci := 3) (q0 := 0) rfl rfl) GW.mv (GW.from hP hK hT0 hS) rfl hl.1 rfl (Nat.le_of_ble_eq_true rfl) dX6_zeros_11 ⟨Nat.zero_le _, Nat.zero_le _⟩ ?_
    refine W.eq (g2 := F0 m 14 ls [.long q11]) rfl ?_
    obtain ⟨q14, e14, h⟩ := Option.bind_eq_some_iff.mp h
    refine hp_S (As := [.long q11]) (rest := []) ⟨hx, hb, hml, hown, hts⟩ (ct_J13_bitCount_95d88 l tw tt q11 e14) (va_cwS 1 hts gX6_zeros_J13_bitCount_95d88 rfl rfl rfl (by decide +kernel) ⟨Nat.le_of_ble_eq_true rfl, Nat.le_of_ble_eq_true rfl⟩) GP.mv (GP.from hT0 hS) rfl hl.1 rfl (Nat.le_of_ble_eq_true rfl) dX6_zeros_14 ⟨Nat.zero_le _, Nat.zero_le _⟩ ?_
    refine W.eq (g2 := F0 m 17 ls [.int q14]) rfl ?_
    obtain rfl := Option.some.inj h
    exact hp_iret hx hb hr hlocks dX6_zeros_17
  · replace h := ite_t h c4
    refine lv_iconst (v := (-1)) hx hb dX6_zeros_7 (by decide) ?_
    obtain rfl := Option.some.inj h
    exact hp_iret hx hb hr hlocks dX6_zeros_8
theorem ct_X6_zeros (l : Launch) (D : va_G) (ca : Nat → ClassId) (a : Nat → Nat) (tw : Nat) (tt : Nat → Nat) (v : XS) (x1 : Int32) {q : Int32} (h : fn_X6_zeros v x1 = some q) : Hp l yX6_zeros wsX6_zeros rm_X6_zeros [.ref (a 0), .int x1] (GW D ca tw tt (ad_of 9 a) (XW ca a v)) (some (.int q)) := by
  refine Hp.of (cc := cX6_zeros) (nL := 2) (ret := (some .int)) (own := RX6) (by decide) rfl rfl (Nat.le_of_ble_eq_true rfl) ?_
  intro p e s m below meth c ls C0 hB hl
  exact wk_X6_zeros C0 hB.2.1 hB.2.2 v hB.1 (hl := hl) (h := h)
