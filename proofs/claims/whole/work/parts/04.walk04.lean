/-! by program (gen.py): the machine does what the functions say -/
abbrev rm_X6_zeroAt : Room := { frames := 5, cells := 0, slots := 0, locals := 112 }
set_option maxHeartbeats 4000000 in
set_option maxRecDepth 100000 in
theorem wk_X6_zeroAt_25_body {p : Program} {l : Launch} {e : Env} {s : State} {m : MethodId} {args : Array Value} {below : List Frame} {meth : Method} {c : Code} {D : va_G} {ca : Nat → ClassId} {a : Nat → Nat} {tw : Nat} {tt : Nat → Nat} (C0 : Cx p s m args meth c cX6_zeroAt (some .int) 7 wsX6_zeroAt RX6) (hK : va_K D vwCl (tys3 ca) s) (hT0 : tW tw tt (ad_of 9 a) s s.heap) (v : XS) (hP : va_P D vwCl (XW ca a v) s.heap) {q : Int32} (k25 : Int64 → Int32 → Int32 → Option (Int32)) (hk25 : ∀ (x3 : Int64) (x5 : Int32) (x6 : Int32) (ls : Array Slot) (hl : lv_has ls 7 [(3, .long x3), (5, .int x5), (6, .int x6)]) (h : k25 x3 x5 x6 = some q), W p l e rm_X6_zeroAt s m args below meth c s.heap [] 0 0 (MQ below (HQ (some (.int q))) args s 0 0 (fun _ => False)) (F0 m 25 ls [])) (x3 : Int64) (x5 : Int32) (x6 : Int32) (ls : Array Slot) (hl : lv_has ls 7 [(3, .long x3), (5, .int x5), (6, .int x6)]) (h : fn_X6_zeroAt_25_body v k25 x3 x5 x6 = some q) : W p l e rm_X6_zeroAt s m args below meth c s.heap [] 0 0 (MQ below (HQ (some (.int q))) args s 0 0 (fun _ => False)) (F0 m 25 ls []) := by
  obtain ⟨hx, hb, hr, hml, hown, hts, hlocks⟩ := id C0
  have hS : va_S (ad_of 9 a) s.heap s.heap [] := va_S.rf
  unfold fn_X6_zeroAt_25_body at h
  refine lv_iload hx hb dX6_zeroAt_25 (lv_at hl 2 rfl) ?_
  refine lv_bipush (v := 64) hx hb dX6_zeroAt_27 (by decide) ?_
  refine lv_icmp_ge (tgt := 59) hx hb dX6_zeroAt_29 (by decide) (fun c29 => ?_) (fun c29 => ?_)
  · replace h := ite_t h c29
    refine lv_bipush (v := (-4)) hx hb dX6_zeroAt_59 (by decide) ?_
    obtain rfl := Option.some.inj h
    exact hp_iret hx hb hr hlocks dX6_zeroAt_61
  · replace h := ite_f h c29
    refine lv_lload_n hx hb dX6_zeroAt_32 rfl (lv_at hl 0 rfl) ?_
    refine lv_iload hx hb dX6_zeroAt_33 (lv_at hl 2 rfl) ?_
    obtain ⟨q35, e35, h⟩ := Option.bind_eq_some_iff.mp h
    refine hp_S (As := [.long x3, .int x6]) (rest := []) ⟨hx, hb, hml, hown, hts⟩ (ct_X3_bit l tw tt x3 x6 e35) (va_cwS 2 hts gX6_zeroAt_X3_bit rfl rfl rfl (by decide +kernel) ⟨Nat.le_of_ble_eq_true rfl, Nat.le_of_ble_eq_true rfl⟩) GP.mv (GP.from hT0 hS) rfl hl.1 rfl (Nat.le_of_ble_eq_true rfl) dX6_zeroAt_35 ⟨Nat.zero_le _, Nat.zero_le _⟩ ?_
    refine W.eq (g2 := F0 m 38 ls [.int q35]) rfl ?_
    refine lv_iconst (v := 1) hx hb dX6_zeroAt_38 (by decide) ?_
    refine lv_icmp_ne (tgt := 53) hx hb dX6_zeroAt_39 (by decide) (fun c39 => ?_) (fun c39 => ?_)
    · replace h := ite_f h c39
      refine lv_iinc (v := (x6 + 1)) (lv' := [(6, .int (x6 + 1)), (3, .long x3), (5, .int x5)]) hx hb dX6_zeroAt_53 hl (k := 2) rfl rfl (by decide) rfl (fun ls hl => ?_)
      refine lv_goto (tgt := 25) hx hb dX6_zeroAt_56 (by decide) ?_
      exact hk25 x3 x5 (x6 + 1) ls (lv_sub hl [1, 2, 0] rfl) h
    · replace h := ite_t h c39
      refine lv_iload hx hb dX6_zeroAt_42 (lv_at hl 1 rfl) ?_
      refine lv_if_ne (tgt := 50) hx hb dX6_zeroAt_44 (by decide) (fun c44 => ?_) (fun c44 => ?_)
      · replace h := ite_f h c44
        refine lv_iinc (v := (x5 + (-1))) (lv' := [(5, .int (x5 + (-1))), (3, .long x3), (6, .int x6)]) hx hb dX6_zeroAt_50 hl (k := 1) rfl rfl (by decide) rfl (fun ls hl => ?_)
        refine lv_iinc (v := (x6 + 1)) (lv' := [(6, .int (x6 + 1)), (5, .int (x5 + (-1))), (3, .long x3)]) hx hb dX6_zeroAt_53 hl (k := 2) rfl rfl (by decide) rfl (fun ls hl => ?_)
        refine lv_goto (tgt := 25) hx hb dX6_zeroAt_56 (by decide) ?_
        exact hk25 x3 (x5 + (-1)) (x6 + 1) ls (lv_sub hl [2, 1, 0] rfl) h
      · replace h := ite_t h c44
        refine lv_iload hx hb dX6_zeroAt_47 (lv_at hl 2 rfl) ?_
        obtain rfl := Option.some.inj h
        exact hp_iret hx hb hr hlocks dX6_zeroAt_49
set_option maxHeartbeats 4000000 in
set_option maxRecDepth 100000 in
theorem wk_X6_zeroAt_25 {p : Program} {l : Launch} {e : Env} {s : State} {m : MethodId} {args : Array Value} {below : List Frame} {meth : Method} {c : Code} {D : va_G} {ca : Nat → ClassId} {a : Nat → Nat} {tw : Nat} {tt : Nat → Nat} (C0 : Cx p s m args meth c cX6_zeroAt (some .int) 7 wsX6_zeroAt RX6) (hK : va_K D vwCl (tys3 ca) s) (hT0 : tW tw tt (ad_of 9 a) s s.heap) (v : XS) (hP : va_P D vwCl (XW ca a v) s.heap) {q : Int32} : ∀ (n : Nat) (x3 : Int64) (x5 : Int32) (x6 : Int32) (ls : Array Slot) (hl : lv_has ls 7 [(3, .long x3), (5, .int x5), (6, .int x6)]) (h : fn_X6_zeroAt_25 v n x3 x5 x6 = some q), W p l e rm_X6_zeroAt s m args below meth c s.heap [] 0 0 (MQ below (HQ (some (.int q))) args s 0 0 (fun _ => False)) (F0 m 25 ls []) := by
  intro n
  induction n with
  | zero => intro x3 x5 x6 ls hl h; unfold fn_X6_zeroAt_25 at h; cases h
  | succ n ih => intro x3 x5 x6 ls hl h; exact wk_X6_zeroAt_25_body C0 hK hT0 v hP (k25 := fn_X6_zeroAt_25 v n) (hk25 := ih) (hl := hl) (h := h)
set_option maxHeartbeats 4000000 in
set_option maxRecDepth 100000 in
theorem wk_X6_zeroAt {p : Program} {l : Launch} {e : Env} {s : State} {m : MethodId} {args : Array Value} {below : List Frame} {meth : Method} {c : Code} {D : va_G} {ca : Nat → ClassId} {a : Nat → Nat} {tw : Nat} {tt : Nat → Nat} (C0 : Cx p s m args meth c cX6_zeroAt (some .int) 7 wsX6_zeroAt RX6) (hK : va_K D vwCl (tys3 ca) s) (hT0 : tW tw tt (ad_of 9 a) s s.heap) (v : XS) (hP : va_P D vwCl (XW ca a v) s.heap) {q : Int32} (x1 : Int32) (x2 : Int32) (ls : Array Slot) (hl : lv_has ls 7 [(0, .ref (a 0)), (1, .int x1), (2, .int x2)]) (h : fn_X6_zeroAt v x1 x2 = some q) : W p l e rm_X6_zeroAt s m args below meth c s.heap [] 0 0 (MQ below (HQ (some (.int q))) args s 0 0 (fun _ => False)) (F0 m 0 ls []) := by
  obtain ⟨hx, hb, hr, hml, hown, hts, hlocks⟩ := id C0
  have hS : va_S (ad_of 9 a) s.heap s.heap [] := va_S.rf
  unfold fn_X6_zeroAt at h
  refine lv_iload_n hx hb dX6_zeroAt_0 rfl (lv_at hl 1 rfl) ?_
  obtain ⟨q1, e1, h⟩ := Option.bind_eq_some_iff.mp h
  refine hp_S (As := [.int x1]) (rest := []) ⟨hx, hb, hml, hown, hts⟩ (ct_X6_isSet l tw tt x1 e1) (va_cwS 1 hts gX6_zeroAt_X6_isSet rfl rfl rfl (by decide +kernel) ⟨Nat.le_of_ble_eq_true rfl, Nat.le_of_ble_eq_true rfl⟩) GP.mv (GP.from hT0 hS) rfl hl.1 rfl (Nat.le_of_ble_eq_true rfl) dX6_zeroAt_1 ⟨Nat.zero_le _, Nat.zero_le _⟩ ?_
  refine W.eq (g2 := F0 m 4 ls [.int q1]) rfl ?_
  refine lv_if_eq (tgt := 11) hx hb dX6_zeroAt_4 (by decide) (fun c4 => ?_) (fun c4 => ?_)
  · replace h := ite_t h c4
    refine lv_iconst (v := (-1)) hx hb dX6_zeroAt_11 (by decide) ?_
    obtain rfl := Option.some.inj h
    exact hp_iret hx hb hr hlocks dX6_zeroAt_12
  · replace h := ite_f h c4
    refine lv_iload_n hx hb dX6_zeroAt_7 rfl (lv_at hl 2 rfl) ?_
    refine lv_if_ge (tgt := 13) hx hb dX6_zeroAt_8 (by decide) (fun c8 => ?_) (fun c8 => ?_)
    · replace h := ite_t h c8
      refine lv_aload_n hx hb dX6_zeroAt_13 rfl (lv_at hl 0 rfl) ?_
      refine lv_iload_n hx hb dX6_zeroAt_14 rfl (lv_at hl 1 rfl) ?_
      obtain ⟨q15, e15, h⟩ := Option.bind_eq_some_iff.mp h
      refine hp_V (As := [.int x1]) (rest := []) (b := (a 0)) ⟨hx, hb, hml, hown, hts⟩ (ct_X6_commonZeros l D ca a tw tt v x1 e15) (cwV 1 hts gX6_zeroAt_X6_commonZeros rfl rfl rfl (by decide +kernel) ⟨Nat.le_of_ble_eq_true rfl, Nat.le_of_ble_eq_true rfl⟩) (va_recv hK hP (ci := 3) (q0 := 0) rfl rfl) GW.mv (GW.from hP hK hT0 hS) rfl hl.1 rfl (Nat.le_of_ble_eq_true rfl) dX6_zeroAt_15 ⟨Nat.zero_le _, Nat.zero_le _⟩ ?_
      refine W.eq (g2 := F0 m 18 ls [.long q15]) rfl ?_
      refine lv_lstore_n (lv' := [(3, .long q15), (0, .ref (a 0)), (1, .int x1), (2, .int x2)]) hx hb dX6_zeroAt_18 rfl hl (by decide) rfl (fun ls hl => ?_)
      refine lv_iload_n hx hb dX6_zeroAt_19 rfl (lv_at hl 3 rfl) ?_
      refine lv_istore (lv' := [(5, .int x2), (3, .long q15), (0, .ref (a 0)), (1, .int x1), (2, .int x2)]) hx hb dX6_zeroAt_20 hl (by decide) rfl (fun ls hl => ?_)
      refine lv_iconst (v := 0) hx hb dX6_zeroAt_22 (by decide) ?_
      refine lv_istore (lv' := [(6, .int 0), (5, .int x2), (3, .long q15), (0, .ref (a 0)), (1, .int x1), (2, .int x2)]) hx hb dX6_zeroAt_23 hl (by decide) rfl (fun ls hl => ?_)
      exact wk_X6_zeroAt_25 C0 hK hT0 v hP  FU q15 x2 0 ls (lv_sub hl [2, 1, 0] rfl) h
    · replace h := ite_f h c8
      refine lv_iconst (v := (-1)) hx hb dX6_zeroAt_11 (by decide) ?_
      obtain rfl := Option.some.inj h
      exact hp_iret hx hb hr hlocks dX6_zeroAt_12
theorem ct_X6_zeroAt (l : Launch) (D : va_G) (ca : Nat → ClassId) (a : Nat → Nat) (tw : Nat) (tt : Nat → Nat) (v : XS) (x1 : Int32) (x2 : Int32) {q : Int32} (h : fn_X6_zeroAt v x1 x2 = some q) : Hp l yX6_zeroAt wsX6_zeroAt rm_X6_zeroAt [.ref (a 0), .int x1, .int x2] (GW D ca tw tt (ad_of 9 a) (XW ca a v)) (some (.int q)) := by
  refine Hp.of (cc := cX6_zeroAt) (nL := 7) (ret := (some .int)) (own := RX6) (by decide) rfl rfl (Nat.le_of_ble_eq_true rfl) ?_
  intro p e s m below meth c ls C0 hB hl
  exact wk_X6_zeroAt C0 hB.2.1 hB.2.2 v hB.1 (hl := hl) (h := h)
abbrev rm_X6_combine : Room := { frames := 4, cells := 0, slots := 0, locals := 91 }
theorem lk_X6_combine_f38 : Cond.fieldLink RX6 38 "BooleanRing" "n" "I" ∈ wsX6_combine := by decide +kernel
theorem ly_X6_combine_X6 : ∀ w ∈ wsX60, w ∈ wsX6_combine := by decide +kernel
set_option maxHeartbeats 4000000 in
set_option maxRecDepth 100000 in
theorem wk_X6_combine {p : Program} {l : Launch} {e : Env} {s : State} {m : MethodId} {args : Array Value} {below : List Frame} {meth : Method} {c : Code} {D : va_G} {ca : Nat → ClassId} {a : Nat → Nat} {tw : Nat} {tt : Nat → Nat} (C0 : Cx p s m args meth c cX6_combine (some .int) 3 wsX6_combine RX6) (hap : ap_ok 9 a) (hK : va_K D vwCl (tys3 ca) s) (hT0 : tW tw tt (ad_of 9 a) s s.heap) {q : Int32 × XS} (v : XS) (H : Heap) (locs : List Loc) (x1 : Int32) (x2 : Int32) (ls : Array Slot) (hP : va_P D vwCl (XW ca a v) H) (hS : va_S (ad_of 9 a) s.heap H locs) (hl : lv_has ls 3 [(0, .ref (a 0)), (1, .int x1), (2, .int x2)]) (h : fn_X6_combine v x1 x2 = some q) : W p l e rm_X6_combine s m args below meth c H locs 0 0 (MQ below (PQ (some (.int q.1)) (fun H => va_P D vwCl (XW ca a q.2) H) (ad_of 9 a)) args s 0 0 (ad_of 9 a)) (F0 m 0 ls []) := by
  obtain ⟨hx, hb, hr, hml, hown, hts, hlocks⟩ := id C0
  have hD0 := fun v => XW_D (ca := ca) hap v
  unfold fn_X6_combine at h
  refine lv_iload_n hx hb dX6_combine_0 rfl (lv_at hl 1 rfl) ?_
  obtain ⟨q1, e1, h⟩ := Option.bind_eq_some_iff.mp h
  refine hp_S (As := [.int x1]) (rest := []) ⟨hx, hb, hml, hown, hts⟩ (ct_X6_isSet l tw tt x1 e1) (va_cwS 1 hts gX6_combine_X6_isSet rfl rfl rfl (by decide +kernel) ⟨Nat.le_of_ble_eq_true rfl, Nat.le_of_ble_eq_true rfl⟩) GP.mv (GP.from hT0 hS) rfl hl.1 rfl (Nat.le_of_ble_eq_true rfl) dX6_combine_1 ⟨Nat.zero_le _, Nat.zero_le _⟩ ?_
  refine W.eq (g2 := F0 m 4 ls [.int q1]) rfl ?_
  refine lv_if_eq (tgt := 14) hx hb dX6_combine_4 (by decide) (fun c4 => ?_) (fun c4 => ?_)
  · replace h := ite_t h c4
    refine lv_iconst (v := (-1)) hx hb dX6_combine_14 (by decide) ?_
    obtain rfl := Option.some.inj h
    exact mp_iret hx hb hr hlocks hP hS dX6_combine_15
  · replace h := ite_f h c4
    refine lv_iload_n hx hb dX6_combine_7 rfl (lv_at hl 2 rfl) ?_
    obtain ⟨q8, e8, h⟩ := Option.bind_eq_some_iff.mp h
    refine hp_S (As := [.int x2]) (rest := []) ⟨hx, hb, hml, hown, hts⟩ (ct_X6_isRegister l tw tt x2 e8) (va_cwS 1 hts gX6_combine_X6_isRegister rfl rfl rfl (by decide +kernel) ⟨Nat.le_of_ble_eq_true rfl, Nat.le_of_ble_eq_true rfl⟩) GP.mv (GP.from hT0 hS) rfl hl.1 rfl (Nat.le_of_ble_eq_true rfl) dX6_combine_8 ⟨Nat.zero_le _, Nat.zero_le _⟩ ?_
    refine W.eq (g2 := F0 m 11 ls [.int q8]) rfl ?_
    refine lv_if_ne (tgt := 16) hx hb dX6_combine_11 (by decide) (fun c11 => ?_) (fun c11 => ?_)
    · replace h := ite_f h c11
      refine lv_aload_n hx hb dX6_combine_16 rfl (lv_at hl 0 rfl) ?_
      refine lv_iload_n hx hb dX6_combine_17 rfl (lv_at hl 2 rfl) ?_
      refine lv_aload_n hx hb dX6_combine_18 rfl (lv_at hl 0 rfl) ?_
      refine lv_iload_n hx hb dX6_combine_19 rfl (lv_at hl 1 rfl) ?_
      obtain ⟨q20, e20, h⟩ := Option.bind_eq_some_iff.mp h
      refine hp_V (As := [.int x1]) (rest := [.int x2, .ref (a 0)]) (b := (a 0)) ⟨hx, hb, hml, hown, hts⟩ (ct_X6_nonZeros l D ca a tw tt v x1 e20) (cwV 1 hts gX6_combine_X6_nonZeros rfl rfl rfl (by decide +kernel) ⟨Nat.le_of_ble_eq_true rfl, Nat.le_of_ble_eq_true rfl⟩) (va_recv hK hP (ci := 3) (q0 := 0) rfl rfl) GW.mv (GW.from hP hK hT0 hS) rfl hl.1 rfl (Nat.le_of_ble_eq_true rfl) dX6_combine_20 ⟨Nat.zero_le _, Nat.zero_le _⟩ ?_
      refine W.eq (g2 := F0 m 23 ls [.long q20, .int x2, .ref (a 0)]) rfl ?_
      refine lv_aload_n hx hb dX6_combine_23 rfl (lv_at hl 0 rfl) ?_
      refine va_get (D := D) (ci := 3) (v := .int (x_n v)) (C := RX6) (T := TX6) (N := 6) hx hb hts ly_X6_combine_X6 hown hK hP 0 rfl rfl 5 (by decide) (hts _ lk_X6_combine_f38) (fun _ h9 => h9) rfl dX6_combine_24 ?_
      obtain ⟨q27, e27, h⟩ := Option.bind_eq_some_iff.mp h
      refine hp_S (As := [.long q20, .int (x_n v)]) (rest := [.int x2, .ref (a 0)]) ⟨hx, hb, hml, hown, hts⟩ (ct_X3_transformed l tw tt q20 (x_n v) e27) (va_cwS 2 hts gX6_combine_X3_transformed rfl rfl rfl (by decide +kernel) ⟨Nat.le_of_ble_eq_true rfl, Nat.le_of_ble_eq_true rfl⟩) GP.mv (GP.from hT0 hS) rfl hl.1 rfl (Nat.le_of_ble_eq_true rfl) dX6_combine_27 ⟨Nat.zero_le _, Nat.zero_le _⟩ ?_
      refine W.eq (g2 := F0 m 30 ls [.long q27, .int x2, .ref (a 0)]) rfl ?_
      obtain ⟨q30, e30, h⟩ := Option.bind_eq_some_iff.mp h
      refine mp_V (As := [.int x2, .long q27]) (rest := []) (b := (a 0)) ⟨hx, hb, hml, hown, hts⟩ (ct_X6_put l D ca a tw tt hap v x2 q27 e30) (cwV 2 hts gX6_combine_X6_put rfl rfl rfl (by decide +kernel) ⟨Nat.le_of_ble_eq_true rfl, Nat.le_of_ble_eq_true rfl⟩) (va_recv hK hP (ci := 3) (q0 := 0) rfl rfl) GW.mv (GW.from hP hK hT0 hS) hS rfl hl.1 rfl (Nat.le_of_ble_eq_true rfl) dX6_combine_30 ⟨Nat.zero_le _, Nat.zero_le _⟩ (fun H locs hP hS => ?_)
      refine W.eq (g2 := F0 m 33 ls [.int q30.1]) rfl ?_
      obtain rfl := Option.some.inj h
      exact mp_iret hx hb hr hlocks hP hS dX6_combine_33
    · replace h := ite_t h c11
      refine lv_iconst (v := (-1)) hx hb dX6_combine_14 (by decide) ?_
      obtain rfl := Option.some.inj h
      exact mp_iret hx hb hr hlocks hP hS dX6_combine_15
theorem ct_X6_combine (l : Launch) (D : va_G) (ca : Nat → ClassId) (a : Nat → Nat) (tw : Nat) (tt : Nat → Nat) (hap : ap_ok 9 a) (v : XS) (x1 : Int32) (x2 : Int32) {q : Int32 × XS} (h : fn_X6_combine v x1 x2 = some q) : Mp l yX6_combine wsX6_combine rm_X6_combine [.ref (a 0), .int x1, .int x2] (GW D ca tw tt (ad_of 9 a) (XW ca a v)) (some (.int q.1)) (fun H => va_P D vwCl (XW ca a q.2) H) (ad_of 9 a) := by
  refine Mp.of (cc := cX6_combine) (nL := 3) (ret := (some .int)) (own := RX6) (by decide) rfl rfl (Nat.le_of_ble_eq_true rfl) ?_
  intro p e s m below meth c ls C0 hB hl
  exact wk_X6_combine C0 hap hB.2.1 hB.2.2 (hP := hB.1) (hS := va_S.rf) (hl := hl) (h := h)
abbrev rm_X6_eliminate : Room := { frames := 4, cells := 0, slots := 0, locals := 91 }
theorem lk_X6_eliminate_f38 : Cond.fieldLink RX6 38 "BooleanRing" "n" "I" ∈ wsX6_eliminate := by decide +kernel
theorem ly_X6_eliminate_X6 : ∀ w ∈ wsX60, w ∈ wsX6_eliminate := by decide +kernel
set_option maxHeartbeats 4000000 in
set_option maxRecDepth 100000 in
theorem wk_X6_eliminate {p : Program} {l : Launch} {e : Env} {s : State} {m : MethodId} {args : Array Value} {below : List Frame} {meth : Method} {c : Code} {D : va_G} {ca : Nat → ClassId} {a : Nat → Nat} {tw : Nat} {tt : Nat → Nat} (C0 : Cx p s m args meth c cX6_eliminate (some .int) 10 wsX6_eliminate RX6) (hap : ap_ok 9 a) (hK : va_K D vwCl (tys3 ca) s) (hT0 : tW tw tt (ad_of 9 a) s s.heap) {q : Int32 × XS} (v : XS) (H : Heap) (locs : List Loc) (x1 : Int32) (x2 : Int32) (x3 : Int32) (ls : Array Slot) (hP : va_P D vwCl (XW ca a v) H) (hS : va_S (ad_of 9 a) s.heap H locs) (hl : lv_has ls 10 [(0, .ref (a 0)), (1, .int x1), (2, .int x2), (3, .int x3)]) (h : fn_X6_eliminate v x1 x2 x3 = some q) : W p l e rm_X6_eliminate s m args below meth c H locs 0 0 (MQ below (PQ (some (.int q.1)) (fun H => va_P D vwCl (XW ca a q.2) H) (ad_of 9 a)) args s 0 0 (ad_of 9 a)) (F0 m 0 ls []) := by
  obtain ⟨hx, hb, hr, hml, hown, hts, hlocks⟩ := id C0
  have hD0 := fun v => XW_D (ca := ca) hap v
  unfold fn_X6_eliminate at h
  refine lv_iload_n hx hb dX6_eliminate_0 rfl (lv_at hl 1 rfl) ?_
  obtain ⟨q1, e1, h⟩ := Option.bind_eq_some_iff.mp h
  refine hp_S (As := [.int x1]) (rest := []) ⟨hx, hb, hml, hown, hts⟩ (ct_X6_isSet l tw tt x1 e1) (va_cwS 1 hts gX6_eliminate_X6_isSet rfl rfl rfl (by decide +kernel) ⟨Nat.le_of_ble_eq_true rfl, Nat.le_of_ble_eq_true rfl⟩) GP.mv (GP.from hT0 hS) rfl hl.1 rfl (Nat.le_of_ble_eq_true rfl) dX6_eliminate_1 ⟨Nat.zero_le _, Nat.zero_le _⟩ ?_
  refine W.eq (g2 := F0 m 4 ls [.int q1]) rfl ?_
  refine lv_if_eq (tgt := 22) hx hb dX6_eliminate_4 (by decide) (fun c4 => ?_) (fun c4 => ?_)
  · replace h := ite_t h c4
    refine lv_iconst (v := (-1)) hx hb dX6_eliminate_22 (by decide) ?_
    obtain rfl := Option.some.inj h
    exact mp_iret hx hb hr hlocks hP hS dX6_eliminate_23
  · replace h := ite_f h c4
    refine lv_aload_n hx hb dX6_eliminate_7 rfl (lv_at hl 0 rfl) ?_
    refine lv_iload_n hx hb dX6_eliminate_8 rfl (lv_at hl 2 rfl) ?_
    obtain ⟨q9, e9, h⟩ := Option.bind_eq_some_iff.mp h
    refine hp_V (As := [.int x2]) (rest := []) (b := (a 0)) ⟨hx, hb, hml, hown, hts⟩ (ct_X6_isVariable l D ca a tw tt v x2 e9) (cwV 1 hts gX6_eliminate_X6_isVariable rfl rfl rfl (by decide +kernel) ⟨Nat.le_of_ble_eq_true rfl, Nat.le_of_ble_eq_true rfl⟩) (va_recv hK hP (ci := 3) (q0 := 0) rfl rfl) GW.mv (GW.from hP hK hT0 hS) rfl hl.1 rfl (Nat.le_of_ble_eq_true rfl) dX6_eliminate_9 ⟨Nat.zero_le _, Nat.zero_le _⟩ ?_
    refine W.eq (g2 := F0 m 12 ls [.int q9]) rfl ?_
    refine lv_if_eq (tgt := 22) hx hb dX6_eliminate_12 (by decide) (fun c12 => ?_) (fun c12 => ?_)
    · replace h := ite_t h c12
      refine lv_iconst (v := (-1)) hx hb dX6_eliminate_22 (by decide) ?_
      obtain rfl := Option.some.inj h
      exact mp_iret hx hb hr hlocks hP hS dX6_eliminate_23
    · replace h := ite_f h c12
      refine lv_iload_n hx hb dX6_eliminate_15 rfl (lv_at hl 3 rfl) ?_
      obtain ⟨q16, e16, h⟩ := Option.bind_eq_some_iff.mp h
      refine hp_S (As := [.int x3]) (rest := []) ⟨hx, hb, hml, hown, hts⟩ (ct_X6_isRegister l tw tt x3 e16) (va_cwS 1 hts gX6_eliminate_X6_isRegister rfl rfl rfl (by decide +kernel) ⟨Nat.le_of_ble_eq_true rfl, Nat.le_of_ble_eq_true rfl⟩) GP.mv (GP.from hT0 hS) rfl hl.1 rfl (Nat.le_of_ble_eq_true rfl) dX6_eliminate_16 ⟨Nat.zero_le _, Nat.zero_le _⟩ ?_
      refine W.eq (g2 := F0 m 19 ls [.int q16]) rfl ?_
      refine lv_if_ne (tgt := 24) hx hb dX6_eliminate_19 (by decide) (fun c19 => ?_) (fun c19 => ?_)
      · replace h := ite_f h c19
        refine lv_aload_n hx hb dX6_eliminate_24 rfl (lv_at hl 0 rfl) ?_
        refine lv_iload_n hx hb dX6_eliminate_25 rfl (lv_at hl 1 rfl) ?_
        obtain ⟨q26, e26, h⟩ := Option.bind_eq_some_iff.mp h
        refine hp_V (As := [.int x1]) (rest := []) (b := (a 0)) ⟨hx, hb, hml, hown, hts⟩ (ct_X6_nonZeros l D ca a tw tt v x1 e26) (cwV 1 hts gX6_eliminate_X6_nonZeros rfl rfl rfl (by decide +kernel) ⟨Nat.le_of_ble_eq_true rfl, Nat.le_of_ble_eq_true rfl⟩) (va_recv hK hP (ci := 3) (q0 := 0) rfl rfl) GW.mv (GW.from hP hK hT0 hS) rfl hl.1 rfl (Nat.le_of_ble_eq_true rfl) dX6_eliminate_26 ⟨Nat.zero_le _, Nat.zero_le _⟩ ?_
        refine W.eq (g2 := F0 m 29 ls [.long q26]) rfl ?_
        refine lv_lstore (lv' := [(4, .long q26), (0, .ref (a 0)), (1, .int x1), (2, .int x2), (3, .int x3)]) hx hb dX6_eliminate_29 hl (by decide) rfl (fun ls hl => ?_)
        refine lv_lload hx hb dX6_eliminate_31 (lv_at hl 0 rfl) ?_
        refine lv_iload_n hx hb dX6_eliminate_33 rfl (lv_at hl 3 rfl) ?_
        obtain ⟨q34, e34, h⟩ := Option.bind_eq_some_iff.mp h
        refine hp_S (As := [.long q26, .int x2]) (rest := []) ⟨hx, hb, hml, hown, hts⟩ (ct_X3_lowerHalf l tw tt q26 x2 e34) (va_cwS 2 hts gX6_eliminate_X3_lowerHalf rfl rfl rfl (by decide +kernel) ⟨Nat.le_of_ble_eq_true rfl, Nat.le_of_ble_eq_true rfl⟩) GP.mv (GP.from hT0 hS) rfl hl.1 rfl (Nat.le_of_ble_eq_true rfl) dX6_eliminate_34 ⟨Nat.zero_le _, Nat.zero_le _⟩ ?_
        refine W.eq (g2 := F0 m 37 ls [.long q34]) rfl ?_
        refine lv_lload hx hb dX6_eliminate_37 (lv_at hl 0 rfl) ?_
        refine lv_iload_n hx hb dX6_eliminate_39 rfl (lv_at hl 3 rfl) ?_
        obtain ⟨q40, e40, h⟩ := Option.bind_eq_some_iff.mp h
        refine hp_S (As := [.long q26, .int x2]) (rest := [.long q34]) ⟨hx, hb, hml, hown, hts⟩ (ct_X3_upperHalf l tw tt q26 x2 e40) (va_cwS 2 hts gX6_eliminate_X3_upperHalf rfl rfl rfl (by decide +kernel) ⟨Nat.le_of_ble_eq_true rfl, Nat.le_of_ble_eq_true rfl⟩) GP.mv (GP.from hT0 hS) rfl hl.1 rfl (Nat.le_of_ble_eq_true rfl) dX6_eliminate_40 ⟨Nat.zero_le _, Nat.zero_le _⟩ ?_
        refine W.eq (g2 := F0 m 43 ls [.long q40, .long q34]) rfl ?_
        refine lv_land hx hb dX6_eliminate_43 ?_
        refine lv_lstore (lv' := [(6, .long (q34 &&& q40)), (4, .long q26), (0, .ref (a 0)), (1, .int x1), (2, .int x2), (3, .int x3)]) hx hb dX6_eliminate_44 hl (by decide) rfl (fun ls hl => ?_)
        refine lv_lload hx hb dX6_eliminate_46 (lv_at hl 0 rfl) ?_
        refine lv_lload hx hb dX6_eliminate_48 (lv_at hl 0 rfl) ?_
        refine lv_iload_n hx hb dX6_eliminate_50 rfl (lv_at hl 4 rfl) ?_
        obtain ⟨q51, e51, h⟩ := Option.bind_eq_some_iff.mp h
        refine hp_S (As := [.long (q34 &&& q40), .int x2]) (rest := [.long (q34 &&& q40)]) ⟨hx, hb, hml, hown, hts⟩ (ct_X3_raised l tw tt (q34 &&& q40) x2 e51) (va_cwS 2 hts gX6_eliminate_X3_raised rfl rfl rfl (by decide +kernel) ⟨Nat.le_of_ble_eq_true rfl, Nat.le_of_ble_eq_true rfl⟩) GP.mv (GP.from hT0 hS) rfl hl.1 rfl (Nat.le_of_ble_eq_true rfl) dX6_eliminate_51 ⟨Nat.zero_le _, Nat.zero_le _⟩ ?_
        refine W.eq (g2 := F0 m 54 ls [.long q51, .long (q34 &&& q40)]) rfl ?_
        refine lv_lor hx hb dX6_eliminate_54 ?_
        refine lv_lstore (lv' := [(8, .long ((q34 &&& q40) ||| q51)), (6, .long (q34 &&& q40)), (4, .long q26), (0, .ref (a 0)), (1, .int x1), (2, .int x2), (3, .int x3)]) hx hb dX6_eliminate_55 hl (by decide) rfl (fun ls hl => ?_)
        refine lv_aload_n hx hb dX6_eliminate_57 rfl (lv_at hl 3 rfl) ?_
        refine lv_iload_n hx hb dX6_eliminate_58 rfl (lv_at hl 6 rfl) ?_
        refine lv_lload hx hb dX6_eliminate_59 (lv_at hl 0 rfl) ?_
        refine lv_aload_n hx hb dX6_eliminate_61 rfl (lv_at hl 3 rfl) ?_
        refine va_get (D := D) (ci := 3) (v := .int (x_n v)) (C := RX6) (T := TX6) (N := 6) hx hb hts ly_X6_eliminate_X6 hown hK hP 0 rfl rfl 5 (by decide) (hts _ lk_X6_eliminate_f38) (fun _ h9 => h9) rfl dX6_eliminate_62 ?_
        obtain ⟨q65, e65, h⟩ := Option.bind_eq_some_iff.mp h
        refine hp_S (As := [.long ((q34 &&& q40) ||| q51), .int (x_n v)]) (rest := [.int x3, .ref (a 0)]) ⟨hx, hb, hml, hown, hts⟩ (ct_X3_transformed l tw tt ((q34 &&& q40) ||| q51) (x_n v) e65) (va_cwS 2 hts gX6_eliminate_X3_transformed rfl rfl rfl (by decide +kernel) ⟨Nat.le_of_ble_eq_true rfl, Nat.le_of_ble_eq_true rfl⟩) GP.mv (GP.from hT0 hS) rfl hl.1 rfl (Nat.le_of_ble_eq_true rfl) dX6_eliminate_65 ⟨Nat.zero_le _, Nat.zero_le _⟩ ?_
        refine W.eq (g2 := F0 m 68 ls [.long q65, .int x3, .ref (a 0)]) rfl ?_
        obtain ⟨q68, e68, h⟩ := Option.bind_eq_some_iff.mp h
        refine mp_V (As := [.int x3, .long q65]) (rest := []) (b := (a 0)) ⟨hx, hb, hml, hown, hts⟩ (ct_X6_put l D ca a tw tt hap v x3 q65 e68) (cwV 2 hts gX6_eliminate_X6_put rfl rfl rfl (by decide +kernel) ⟨Nat.le_of_ble_eq_true rfl, Nat.le_of_ble_eq_true rfl⟩) (va_recv hK hP (ci := 3) (q0 := 0) rfl rfl) GW.mv (GW.from hP hK hT0 hS) hS rfl hl.1 rfl (Nat.le_of_ble_eq_true rfl) dX6_eliminate_68 ⟨Nat.zero_le _, Nat.zero_le _⟩ (fun H locs hP hS => ?_)
        refine W.eq (g2 := F0 m 71 ls [.int q68.1]) rfl ?_
        obtain rfl := Option.some.inj h
        exact mp_iret hx hb hr hlocks hP hS dX6_eliminate_71
      · replace h := ite_t h c19
        refine lv_iconst (v := (-1)) hx hb dX6_eliminate_22 (by decide) ?_
        obtain rfl := Option.some.inj h
        exact mp_iret hx hb hr hlocks hP hS dX6_eliminate_23
theorem ct_X6_eliminate (l : Launch) (D : va_G) (ca : Nat → ClassId) (a : Nat → Nat) (tw : Nat) (tt : Nat → Nat) (hap : ap_ok 9 a) (v : XS) (x1 : Int32) (x2 : Int32) (x3 : Int32) {q : Int32 × XS} (h : fn_X6_eliminate v x1 x2 x3 = some q) : Mp l yX6_eliminate wsX6_eliminate rm_X6_eliminate [.ref (a 0), .int x1, .int x2, .int x3] (GW D ca tw tt (ad_of 9 a) (XW ca a v)) (some (.int q.1)) (fun H => va_P D vwCl (XW ca a q.2) H) (ad_of 9 a) := by
  refine Mp.of (cc := cX6_eliminate) (nL := 10) (ret := (some .int)) (own := RX6) (by decide) rfl rfl (Nat.le_of_ble_eq_true rfl) ?_
  intro p e s m below meth c ls C0 hB hl
  exact wk_X6_eliminate C0 hap hB.2.1 hB.2.2 (hP := hB.1) (hS := va_S.rf) (hl := hl) (h := h)
abbrev rm_X6_fibres : Room := { frames := 5, cells := 0, slots := 0, locals := 112 }
theorem lk_X6_fibres_c180 : Cond.constantLong RX6 180 (-1) ∈ wsX6_fibres := by decide +kernel
set_option maxHeartbeats 4000000 in
set_option maxRecDepth 100000 in
theorem wk_X6_fibres {p : Program} {l : Launch} {e : Env} {s : State} {m : MethodId} {args : Array Value} {below : List Frame} {meth : Method} {c : Code} {D : va_G} {ca : Nat → ClassId} {a : Nat → Nat} {tw : Nat} {tt : Nat → Nat} (C0 : Cx p s m args meth c cX6_fibres (some .int) 10 wsX6_fibres RX6) (hK : va_K D vwCl (tys3 ca) s) (hT0 : tW tw tt (ad_of 9 a) s s.heap) (v : XS) (hP : va_P D vwCl (XW ca a v) s.heap) {q : Int32} (x1 : Int32) (x2 : Int32) (x3 : Int32) (ls : Array Slot) (hl : lv_has ls 10 [(0, .ref (a 0)), (1, .int x1), (2, .int x2), (3, .int x3)]) (h : fn_X6_fibres v x1 x2 x3 = some q) : W p l e rm_X6_fibres s m args below meth c s.heap [] 0 0 (MQ below (HQ (some (.int q))) args s 0 0 (fun _ => False)) (F0 m 0 ls []) := by
  obtain ⟨hx, hb, hr, hml, hown, hts, hlocks⟩ := id C0
  have hS : va_S (ad_of 9 a) s.heap s.heap [] := va_S.rf
  unfold fn_X6_fibres at h
  refine lv_iload_n hx hb dX6_fibres_0 rfl (lv_at hl 1 rfl) ?_
  obtain ⟨q1, e1, h⟩ := Option.bind_eq_some_iff.mp h
  refine hp_S (As := [.int x1]) (rest := []) ⟨hx, hb, hml, hown, hts⟩ (ct_X6_isSet l tw tt x1 e1) (va_cwS 1 hts gX6_fibres_X6_isSet rfl rfl rfl (by decide +kernel) ⟨Nat.le_of_ble_eq_true rfl, Nat.le_of_ble_eq_true rfl⟩) GP.mv (GP.from hT0 hS) rfl hl.1 rfl (Nat.le_of_ble_eq_true rfl) dX6_fibres_1 ⟨Nat.zero_le _, Nat.zero_le _⟩ ?_
  refine W.eq (g2 := F0 m 4 ls [.int q1]) rfl ?_
  refine lv_if_eq (tgt := 24) hx hb dX6_fibres_4 (by decide) (fun c4 => ?_) (fun c4 => ?_)
  · replace h := ite_t h c4
    refine lv_iconst (v := (-1)) hx hb dX6_fibres_24 (by decide) ?_
    obtain rfl := Option.some.inj h
    exact hp_iret hx hb hr hlocks dX6_fibres_25
  · replace h := ite_f h c4
    refine lv_aload_n hx hb dX6_fibres_7 rfl (lv_at hl 0 rfl) ?_
    refine lv_iload_n hx hb dX6_fibres_8 rfl (lv_at hl 2 rfl) ?_
    obtain ⟨q9, e9, h⟩ := Option.bind_eq_some_iff.mp h
    refine hp_V (As := [.int x2]) (rest := []) (b := (a 0)) ⟨hx, hb, hml, hown, hts⟩ (ct_X6_isVariable l D ca a tw tt v x2 e9) (cwV 1 hts gX6_fibres_X6_isVariable rfl rfl rfl (by decide +kernel) ⟨Nat.le_of_ble_eq_true rfl, Nat.le_of_ble_eq_true rfl⟩) (va_recv hK hP (ci := 3) (q0 := 0) rfl rfl) GW.mv (GW.from hP hK hT0 hS) rfl hl.1 rfl (Nat.le_of_ble_eq_true rfl) dX6_fibres_9 ⟨Nat.zero_le _, Nat.zero_le _⟩ ?_
    refine W.eq (g2 := F0 m 12 ls [.int q9]) rfl ?_
    refine lv_if_eq (tgt := 24) hx hb dX6_fibres_12 (by decide) (fun c12 => ?_) (fun c12 => ?_)
    · replace h := ite_t h c12
      refine lv_iconst (v := (-1)) hx hb dX6_fibres_24 (by decide) ?_
      obtain rfl := Option.some.inj h
      exact hp_iret hx hb hr hlocks dX6_fibres_25
    · replace h := ite_f h c12
      refine lv_iload_n hx hb dX6_fibres_15 rfl (lv_at hl 3 rfl) ?_
      refine lv_if_lt (tgt := 24) hx hb dX6_fibres_16 (by decide) (fun c16 => ?_) (fun c16 => ?_)
      · replace h := ite_t h c16
        refine lv_iconst (v := (-1)) hx hb dX6_fibres_24 (by decide) ?_
        obtain rfl := Option.some.inj h
        exact hp_iret hx hb hr hlocks dX6_fibres_25
      · replace h := ite_f h c16
        refine lv_iload_n hx hb dX6_fibres_19 rfl (lv_at hl 3 rfl) ?_
        refine lv_iconst (v := 2) hx hb dX6_fibres_20 (by decide) ?_
        refine lv_icmp_le (tgt := 26) hx hb dX6_fibres_21 (by decide) (fun c21 => ?_) (fun c21 => ?_)
        · replace h := ite_t h c21
          refine lv_aload_n hx hb dX6_fibres_26 rfl (lv_at hl 0 rfl) ?_
          refine lv_iload_n hx hb dX6_fibres_27 rfl (lv_at hl 1 rfl) ?_
          obtain ⟨q28, e28, h⟩ := Option.bind_eq_some_iff.mp h
          refine hp_V (As := [.int x1]) (rest := []) (b := (a 0)) ⟨hx, hb, hml, hown, hts⟩ (ct_X6_commonZeros l D ca a tw tt v x1 e28) (cwV 1 hts gX6_fibres_X6_commonZeros rfl rfl rfl (by decide +kernel) ⟨Nat.le_of_ble_eq_true rfl, Nat.le_of_ble_eq_true rfl⟩) (va_recv hK hP (ci := 3) (q0 := 0) rfl rfl) GW.mv (GW.from hP hK hT0 hS) rfl hl.1 rfl (Nat.le_of_ble_eq_true rfl) dX6_fibres_28 ⟨Nat.zero_le _, Nat.zero_le _⟩ ?_
          refine W.eq (g2 := F0 m 31 ls [.long q28]) rfl ?_
          refine lv_lstore (lv' := [(4, .long q28), (0, .ref (a 0)), (1, .int x1), (2, .int x2), (3, .int x3)]) hx hb dX6_fibres_31 hl (by decide) rfl (fun ls hl => ?_)
          refine lv_lload hx hb dX6_fibres_33 (lv_at hl 0 rfl) ?_
          refine lv_iload_n hx hb dX6_fibres_35 rfl (lv_at hl 3 rfl) ?_
          obtain ⟨q36, e36, h⟩ := Option.bind_eq_some_iff.mp h
          refine hp_S (As := [.long q28, .int x2]) (rest := []) ⟨hx, hb, hml, hown, hts⟩ (ct_X3_lowerHalf l tw tt q28 x2 e36) (va_cwS 2 hts gX6_fibres_X3_lowerHalf rfl rfl rfl (by decide +kernel) ⟨Nat.le_of_ble_eq_true rfl, Nat.le_of_ble_eq_true rfl⟩) GP.mv (GP.from hT0 hS) rfl hl.1 rfl (Nat.le_of_ble_eq_true rfl) dX6_fibres_36 ⟨Nat.zero_le _, Nat.zero_le _⟩ ?_
          refine W.eq (g2 := F0 m 39 ls [.long q36]) rfl ?_
          refine lv_lstore (lv' := [(6, .long q36), (4, .long q28), (0, .ref (a 0)), (1, .int x1), (2, .int x2), (3, .int x3)]) hx hb dX6_fibres_39 hl (by decide) rfl (fun ls hl => ?_)
          refine lv_lload hx hb dX6_fibres_41 (lv_at hl 1 rfl) ?_
          refine lv_iload_n hx hb dX6_fibres_43 rfl (lv_at hl 4 rfl) ?_
          obtain ⟨q44, e44, h⟩ := Option.bind_eq_some_iff.mp h
          refine hp_S (As := [.long q28, .int x2]) (rest := []) ⟨hx, hb, hml, hown, hts⟩ (ct_X3_upperHalf l tw tt q28 x2 e44) (va_cwS 2 hts gX6_fibres_X3_upperHalf rfl rfl rfl (by decide +kernel) ⟨Nat.le_of_ble_eq_true rfl, Nat.le_of_ble_eq_true rfl⟩) GP.mv (GP.from hT0 hS) rfl hl.1 rfl (Nat.le_of_ble_eq_true rfl) dX6_fibres_44 ⟨Nat.zero_le _, Nat.zero_le _⟩ ?_
          refine W.eq (g2 := F0 m 47 ls [.long q44]) rfl ?_
          refine lv_lstore (lv' := [(8, .long q44), (6, .long q36), (4, .long q28), (0, .ref (a 0)), (1, .int x1), (2, .int x2), (3, .int x3)]) hx hb dX6_fibres_47 hl (by decide) rfl (fun ls hl => ?_)
          refine lv_iload_n hx hb dX6_fibres_49 rfl (lv_at hl 6 rfl) ?_
          refine lv_iconst (v := 2) hx hb dX6_fibres_50 (by decide) ?_
          refine lv_icmp_ne (tgt := 63) hx hb dX6_fibres_51 (by decide) (fun c51 => ?_) (fun c51 => ?_)
          · replace h := ite_f h c51
            refine lv_iload_n hx hb dX6_fibres_63 rfl (lv_at hl 6 rfl) ?_
            refine lv_iconst (v := 1) hx hb dX6_fibres_64 (by decide) ?_
            refine lv_icmp_ne (tgt := 77) hx hb dX6_fibres_65 (by decide) (fun c65 => ?_) (fun c65 => ?_)
            · replace h := ite_f h c65
              refine lv_aload_n hx hb dX6_fibres_77 rfl (lv_at hl 3 rfl) ?_
              obtain ⟨q78, e78, h⟩ := Option.bind_eq_some_iff.mp h
              refine hp_V (As := []) (rest := []) (b := (a 0)) ⟨hx, hb, hml, hown, hts⟩ (ct_X6_allPoints l D ca a tw tt v  e78) (cwV 0 hts gX6_fibres_X6_allPoints rfl rfl rfl (by decide +kernel) ⟨Nat.le_of_ble_eq_true rfl, Nat.le_of_ble_eq_true rfl⟩) (va_recv hK hP (ci := 3) (q0 := 0) rfl rfl) GW.mv (GW.from hP hK hT0 hS) rfl hl.1 rfl (Nat.le_of_ble_eq_true rfl) dX6_fibres_78 ⟨Nat.zero_le _, Nat.zero_le _⟩ ?_
              refine W.eq (g2 := F0 m 81 ls [.long q78]) rfl ?_
              refine lv_iload_n hx hb dX6_fibres_81 rfl (lv_at hl 5 rfl) ?_
              obtain ⟨q82, e82, h⟩ := Option.bind_eq_some_iff.mp h
              refine hp_S (As := [.long q78, .int x2]) (rest := []) ⟨hx, hb, hml, hown, hts⟩ (ct_X3_lowerHalf l tw tt q78 x2 e82) (va_cwS 2 hts gX6_fibres_X3_lowerHalf rfl rfl rfl (by decide +kernel) ⟨Nat.le_of_ble_eq_true rfl, Nat.le_of_ble_eq_true rfl⟩) GP.mv (GP.from hT0 hS) rfl hl.1 rfl (Nat.le_of_ble_eq_true rfl) dX6_fibres_82 ⟨Nat.zero_le _, Nat.zero_le _⟩ ?_
              refine W.eq (g2 := F0 m 85 ls [.long q82]) rfl ?_
              refine lv_lload hx hb dX6_fibres_85 (lv_at hl 1 rfl) ?_
              refine lv_lload hx hb dX6_fibres_87 (lv_at hl 0 rfl) ?_
              refine lv_lor hx hb dX6_fibres_89 ?_
              refine lv_ldc2 (v := (-1)) hx hb hown (hts _ lk_X6_fibres_c180) dX6_fibres_90 ?_
              refine lv_lxor hx hb dX6_fibres_93 ?_
              refine lv_land hx hb dX6_fibres_94 ?_
              obtain ⟨q95, e95, h⟩ := Option.bind_eq_some_iff.mp h
              refine hp_S (As := [.long (q82 &&& ((q36 ||| q44) ^^^ (-1)))]) (rest := []) ⟨hx, hb, hml, hown, hts⟩ (ct_J13_bitCount_95d88 l tw tt (q82 &&& ((q36 ||| q44) ^^^ (-1))) e95) (va_cwS 1 hts gX6_fibres_J13_bitCount_95d88 rfl rfl rfl (by decide +kernel) ⟨Nat.le_of_ble_eq_true rfl, Nat.le_of_ble_eq_true rfl⟩) GP.mv (GP.from hT0 hS) rfl hl.1 rfl (Nat.le_of_ble_eq_true rfl) dX6_fibres_95 ⟨Nat.zero_le _, Nat.zero_le _⟩ ?_
              refine W.eq (g2 := F0 m 98 ls [.int q95]) rfl ?_
              obtain rfl := Option.some.inj h
              exact hp_iret hx hb hr hlocks dX6_fibres_98
            · replace h := ite_t h c65
              refine lv_lload hx hb dX6_fibres_68 (lv_at hl 1 rfl) ?_
              refine lv_lload hx hb dX6_fibres_70 (lv_at hl 0 rfl) ?_
              refine lv_lxor hx hb dX6_fibres_72 ?_
              obtain ⟨q73, e73, h⟩ := Option.bind_eq_some_iff.mp h
              refine hp_S (As := [.long (q36 ^^^ q44)]) (rest := []) ⟨hx, hb, hml, hown, hts⟩ (ct_J13_bitCount_95d88 l tw tt (q36 ^^^ q44) e73) (va_cwS 1 hts gX6_fibres_J13_bitCount_95d88 rfl rfl rfl (by decide +kernel) ⟨Nat.le_of_ble_eq_true rfl, Nat.le_of_ble_eq_true rfl⟩) GP.mv (GP.from hT0 hS) rfl hl.1 rfl (Nat.le_of_ble_eq_true rfl) dX6_fibres_73 ⟨Nat.zero_le _, Nat.zero_le _⟩ ?_
              refine W.eq (g2 := F0 m 76 ls [.int q73]) rfl ?_
              obtain rfl := Option.some.inj h
              exact hp_iret hx hb hr hlocks dX6_fibres_76
          · replace h := ite_t h c51
            refine lv_lload hx hb dX6_fibres_54 (lv_at hl 1 rfl) ?_
            refine lv_lload hx hb dX6_fibres_56 (lv_at hl 0 rfl) ?_
            refine lv_land hx hb dX6_fibres_58 ?_
            obtain ⟨q59, e59, h⟩ := Option.bind_eq_some_iff.mp h
            refine hp_S (As := [.long (q36 &&& q44)]) (rest := []) ⟨hx, hb, hml, hown, hts⟩ (ct_J13_bitCount_95d88 l tw tt (q36 &&& q44) e59) (va_cwS 1 hts gX6_fibres_J13_bitCount_95d88 rfl rfl rfl (by decide +kernel) ⟨Nat.le_of_ble_eq_true rfl, Nat.le_of_ble_eq_true rfl⟩) GP.mv (GP.from hT0 hS) rfl hl.1 rfl (Nat.le_of_ble_eq_true rfl) dX6_fibres_59 ⟨Nat.zero_le _, Nat.zero_le _⟩ ?_
            refine W.eq (g2 := F0 m 62 ls [.int q59]) rfl ?_
            obtain rfl := Option.some.inj h
            exact hp_iret hx hb hr hlocks dX6_fibres_62
        · replace h := ite_f h c21
          refine lv_iconst (v := (-1)) hx hb dX6_fibres_24 (by decide) ?_
          obtain rfl := Option.some.inj h
          exact hp_iret hx hb hr hlocks dX6_fibres_25
theorem ct_X6_fibres (l : Launch) (D : va_G) (ca : Nat → ClassId) (a : Nat → Nat) (tw : Nat) (tt : Nat → Nat) (v : XS) (x1 : Int32) (x2 : Int32) (x3 : Int32) {q : Int32} (h : fn_X6_fibres v x1 x2 x3 = some q) : Hp l yX6_fibres wsX6_fibres rm_X6_fibres [.ref (a 0), .int x1, .int x2, .int x3] (GW D ca tw tt (ad_of 9 a) (XW ca a v)) (some (.int q)) := by
  refine Hp.of (cc := cX6_fibres) (nL := 10) (ret := (some .int)) (own := RX6) (by decide) rfl rfl (Nat.le_of_ble_eq_true rfl) ?_
  intro p e s m below meth c ls C0 hB hl
  exact wk_X6_fibres C0 hB.2.1 hB.2.2 v hB.1 (hl := hl) (h := h)
abbrev rm_X6_isMember : Room := { frames := 5, cells := 0, slots := 0, locals := 112 }
theorem lk_X6_isMember_f9 : Cond.fieldLink RX6 9 "BooleanRing" "registers" "[J" ∈ wsX6_isMember := by decide +kernel
theorem lk_X6_isMember_f38 : Cond.fieldLink RX6 38 "BooleanRing" "n" "I" ∈ wsX6_isMember := by decide +kernel
theorem ly_X6_isMember_X6 : ∀ w ∈ wsX60, w ∈ wsX6_isMember := by decide +kernel
set_option maxHeartbeats 4000000 in
set_option maxRecDepth 100000 in
theorem wk_X6_isMember {p : Program} {l : Launch} {e : Env} {s : State} {m : MethodId} {args : Array Value} {below : List Frame} {meth : Method} {c : Code} {D : va_G} {ca : Nat → ClassId} {a : Nat → Nat} {tw : Nat} {tt : Nat → Nat} (C0 : Cx p s m args meth c cX6_isMember (some .int) 5 wsX6_isMember RX6) (hK : va_K D vwCl (tys3 ca) s) (hT0 : tW tw tt (ad_of 9 a) s s.heap) (v : XS) (hP : va_P D vwCl (XW ca a v) s.heap) {q : Int32} (x1 : Int32) (x2 : Int32) (ls : Array Slot) (hl : lv_has ls 5 [(0, .ref (a 0)), (1, .int x1), (2, .int x2)]) (h : fn_X6_isMember v x1 x2 = some q) : W p l e rm_X6_isMember s m args below meth c s.heap [] 0 0 (MQ below (HQ (some (.int q))) args s 0 0 (fun _ => False)) (F0 m 0 ls []) := by
  obtain ⟨hx, hb, hr, hml, hown, hts, hlocks⟩ := id C0
  have hS : va_S (ad_of 9 a) s.heap s.heap [] := va_S.rf
  unfold fn_X6_isMember at h
  refine lv_iload_n hx hb dX6_isMember_0 rfl (lv_at hl 1 rfl) ?_
  obtain ⟨q1, e1, h⟩ := Option.bind_eq_some_iff.mp h
  refine hp_S (As := [.int x1]) (rest := []) ⟨hx, hb, hml, hown, hts⟩ (ct_X6_isRegister l tw tt x1 e1) (va_cwS 1 hts gX6_isMember_X6_isRegister rfl rfl rfl (by decide +kernel) ⟨Nat.le_of_ble_eq_true rfl, Nat.le_of_ble_eq_true rfl⟩) GP.mv (GP.from hT0 hS) rfl hl.1 rfl (Nat.le_of_ble_eq_true rfl) dX6_isMember_1 ⟨Nat.zero_le _, Nat.zero_le _⟩ ?_
  refine W.eq (g2 := F0 m 4 ls [.int q1]) rfl ?_
  refine lv_if_eq (tgt := 14) hx hb dX6_isMember_4 (by decide) (fun c4 => ?_) (fun c4 => ?_)
  · replace h := ite_t h c4
    refine lv_iconst (v := (-1)) hx hb dX6_isMember_14 (by decide) ?_
    obtain rfl := Option.some.inj h
    exact hp_iret hx hb hr hlocks dX6_isMember_15
  · replace h := ite_f h c4
    refine lv_iload_n hx hb dX6_isMember_7 rfl (lv_at hl 2 rfl) ?_
    obtain ⟨q8, e8, h⟩ := Option.bind_eq_some_iff.mp h
    refine hp_S (As := [.int x2]) (rest := []) ⟨hx, hb, hml, hown, hts⟩ (ct_X6_isSet l tw tt x2 e8) (va_cwS 1 hts gX6_isMember_X6_isSet rfl rfl rfl (by decide +kernel) ⟨Nat.le_of_ble_eq_true rfl, Nat.le_of_ble_eq_true rfl⟩) GP.mv (GP.from hT0 hS) rfl hl.1 rfl (Nat.le_of_ble_eq_true rfl) dX6_isMember_8 ⟨Nat.zero_le _, Nat.zero_le _⟩ ?_
    refine W.eq (g2 := F0 m 11 ls [.int q8]) rfl ?_
    refine lv_if_ne (tgt := 16) hx hb dX6_isMember_11 (by decide) (fun c11 => ?_) (fun c11 => ?_)
    · replace h := ite_f h c11
      refine lv_aload_n hx hb dX6_isMember_16 rfl (lv_at hl 0 rfl) ?_
      refine va_get (D := D) (ci := 3) (v := .ref (a 1)) (C := RX6) (T := TX6) (N := 6) hx hb hts ly_X6_isMember_X6 hown hK hP 0 rfl rfl 0 (by decide) (hts _ lk_X6_isMember_f9) (fun _ h9 => h9) rfl dX6_isMember_17 ?_
      refine lv_iload_n hx hb dX6_isMember_20 rfl (lv_at hl 1 rfl) ?_
      obtain ⟨q21, e21, h⟩ := Option.bind_eq_some_iff.mp h
      refine rd_lald hx hb hK hP 1 0 e21 rfl rfl dX6_isMember_21 ?_
      refine lv_aload_n hx hb dX6_isMember_22 rfl (lv_at hl 0 rfl) ?_
      refine va_get (D := D) (ci := 3) (v := .int (x_n v)) (C := RX6) (T := TX6) (N := 6) hx hb hts ly_X6_isMember_X6 hown hK hP 0 rfl rfl 5 (by decide) (hts _ lk_X6_isMember_f38) (fun _ h9 => h9) rfl dX6_isMember_23 ?_
      obtain ⟨q26, e26, h⟩ := Option.bind_eq_some_iff.mp h
      refine hp_S (As := [.long q21, .int (x_n v)]) (rest := []) ⟨hx, hb, hml, hown, hts⟩ (ct_X3_transformed l tw tt q21 (x_n v) e26) (va_cwS 2 hts gX6_isMember_X3_transformed rfl rfl rfl (by decide +kernel) ⟨Nat.le_of_ble_eq_true rfl, Nat.le_of_ble_eq_true rfl⟩) GP.mv (GP.from hT0 hS) rfl hl.1 rfl (Nat.le_of_ble_eq_true rfl) dX6_isMember_26 ⟨Nat.zero_le _, Nat.zero_le _⟩ ?_
      refine W.eq (g2 := F0 m 29 ls [.long q26]) rfl ?_
      refine lv_lstore_n (lv' := [(3, .long q26), (0, .ref (a 0)), (1, .int x1), (2, .int x2)]) hx hb dX6_isMember_29 rfl hl (by decide) rfl (fun ls hl => ?_)
      refine lv_lload_n hx hb dX6_isMember_30 rfl (lv_at hl 0 rfl) ?_
      refine lv_aload_n hx hb dX6_isMember_31 rfl (lv_at hl 1 rfl) ?_
      refine lv_iload_n hx hb dX6_isMember_32 rfl (lv_at hl 3 rfl) ?_
      obtain ⟨q33, e33, h⟩ := Option.bind_eq_some_iff.mp h
      refine hp_V (As := [.int x2]) (rest := [.long q26]) (b := (a 0)) ⟨hx, hb, hml, hown, hts⟩ (ct_X6_commonZeros l D ca a tw tt v x2 e33) (cwV 1 hts gX6_isMember_X6_commonZeros rfl rfl rfl (by decide +kernel) ⟨Nat.le_of_ble_eq_true rfl, Nat.le_of_ble_eq_true rfl⟩) (va_recv hK hP (ci := 3) (q0 := 0) rfl rfl) GW.mv (GW.from hP hK hT0 hS) rfl hl.1 rfl (Nat.le_of_ble_eq_true rfl) dX6_isMember_33 ⟨Nat.zero_le _, Nat.zero_le _⟩ ?_
      refine W.eq (g2 := F0 m 36 ls [.long q33, .long q26]) rfl ?_
      refine lv_land hx hb dX6_isMember_36 ?_
      refine lv_lconst (v := 0) hx hb dX6_isMember_37 (by decide) ?_
      refine wl_ne (tgt := 46) hx hb dX6_isMember_38 dX6_isMember_39 (by decide) (fun c38 => ?_) (fun c38 => ?_)
      · replace h := ite_f h c38
        refine lv_iconst (v := 0) hx hb dX6_isMember_46 (by decide) ?_
        obtain rfl := Option.some.inj h
        exact hp_iret hx hb hr hlocks dX6_isMember_47
      · replace h := ite_t h c38
        refine lv_iconst (v := 1) hx hb dX6_isMember_42 (by decide) ?_
        refine lv_goto (tgt := 47) hx hb dX6_isMember_43 (by decide) ?_
        obtain rfl := Option.some.inj h
        exact hp_iret hx hb hr hlocks dX6_isMember_47
    · replace h := ite_t h c11
      refine lv_iconst (v := (-1)) hx hb dX6_isMember_14 (by decide) ?_
      obtain rfl := Option.some.inj h
      exact hp_iret hx hb hr hlocks dX6_isMember_15
theorem ct_X6_isMember (l : Launch) (D : va_G) (ca : Nat → ClassId) (a : Nat → Nat) (tw : Nat) (tt : Nat → Nat) (v : XS) (x1 : Int32) (x2 : Int32) {q : Int32} (h : fn_X6_isMember v x1 x2 = some q) : Hp l yX6_isMember wsX6_isMember rm_X6_isMember [.ref (a 0), .int x1, .int x2] (GW D ca tw tt (ad_of 9 a) (XW ca a v)) (some (.int q)) := by
  refine Hp.of (cc := cX6_isMember) (nL := 5) (ret := (some .int)) (own := RX6) (by decide) rfl rfl (Nat.le_of_ble_eq_true rfl) ?_
  intro p e s m below meth c ls C0 hB hl
  exact wk_X6_isMember C0 hB.2.1 hB.2.2 v hB.1 (hl := hl) (h := h)
abbrev rm_X6_isSameIdeal : Room := { frames := 4, cells := 0, slots := 0, locals := 91 }
set_option maxHeartbeats 4000000 in
set_option maxRecDepth 100000 in
theorem wk_X6_isSameIdeal {p : Program} {l : Launch} {e : Env} {s : State} {m : MethodId} {args : Array Value} {below : List Frame} {meth : Method} {c : Code} {D : va_G} {ca : Nat → ClassId} {a : Nat → Nat} {tw : Nat} {tt : Nat → Nat} (C0 : Cx p s m args meth c cX6_isSameIdeal (some .int) 3 wsX6_isSameIdeal RX6) (hK : va_K D vwCl (tys3 ca) s) (hT0 : tW tw tt (ad_of 9 a) s s.heap) (v : XS) (hP : va_P D vwCl (XW ca a v) s.heap) {q : Int32} (x1 : Int32) (x2 : Int32) (ls : Array Slot) (hl : lv_has ls 3 [(0, .ref (a 0)), (1, .int x1), (2, .int x2)]) (h : fn_X6_isSameIdeal v x1 x2 = some q) : W p l e rm_X6_isSameIdeal s m args below meth c s.heap [] 0 0 (MQ below (HQ (some (.int q))) args s 0 0 (fun _ => False)) (F0 m 0 ls []) := by
  obtain ⟨hx, hb, hr, hml, hown, hts, hlocks⟩ := id C0
  have hS : va_S (ad_of 9 a) s.heap s.heap [] := va_S.rf
  unfold fn_X6_isSameIdeal at h
  refine lv_iload_n hx hb dX6_isSameIdeal_0 rfl (lv_at hl 1 rfl) ?_
  obtain ⟨q1, e1, h⟩ := Option.bind_eq_some_iff.mp h
  refine hp_S (As := [.int x1]) (rest := []) ⟨hx, hb, hml, hown, hts⟩ (ct_X6_isSet l tw tt x1 e1) (va_cwS 1 hts gX6_isSameIdeal_X6_isSet rfl rfl rfl (by decide +kernel) ⟨Nat.le_of_ble_eq_true rfl, Nat.le_of_ble_eq_true rfl⟩) GP.mv (GP.from hT0 hS) rfl hl.1 rfl (Nat.le_of_ble_eq_true rfl) dX6_isSameIdeal_1 ⟨Nat.zero_le _, Nat.zero_le _⟩ ?_
  refine W.eq (g2 := F0 m 4 ls [.int q1]) rfl ?_
  refine lv_if_eq (tgt := 14) hx hb dX6_isSameIdeal_4 (by decide) (fun c4 => ?_) (fun c4 => ?_)
  · replace h := ite_t h c4
    refine lv_iconst (v := (-1)) hx hb dX6_isSameIdeal_14 (by decide) ?_
    obtain rfl := Option.some.inj h
    exact hp_iret hx hb hr hlocks dX6_isSameIdeal_15
  · replace h := ite_f h c4
    refine lv_iload_n hx hb dX6_isSameIdeal_7 rfl (lv_at hl 2 rfl) ?_
    obtain ⟨q8, e8, h⟩ := Option.bind_eq_some_iff.mp h
    refine hp_S (As := [.int x2]) (rest := []) ⟨hx, hb, hml, hown, hts⟩ (ct_X6_isSet l tw tt x2 e8) (va_cwS 1 hts gX6_isSameIdeal_X6_isSet rfl rfl rfl (by decide +kernel) ⟨Nat.le_of_ble_eq_true rfl, Nat.le_of_ble_eq_true rfl⟩) GP.mv (GP.from hT0 hS) rfl hl.1 rfl (Nat.le_of_ble_eq_true rfl) dX6_isSameIdeal_8 ⟨Nat.zero_le _, Nat.zero_le _⟩ ?_
    refine W.eq (g2 := F0 m 11 ls [.int q8]) rfl ?_
    refine lv_if_ne (tgt := 16) hx hb dX6_isSameIdeal_11 (by decide) (fun c11 => ?_) (fun c11 => ?_)
    · replace h := ite_f h c11
      refine lv_aload_n hx hb dX6_isSameIdeal_16 rfl (lv_at hl 0 rfl) ?_
      refine lv_iload_n hx hb dX6_isSameIdeal_17 rfl (lv_at hl 1 rfl) ?_
      obtain ⟨q18, e18, h⟩ := Option.bind_eq_some_iff.mp h
      refine hp_V (As := [.int x1]) (rest := []) (b := (a 0)) ⟨hx, hb, hml, hown, hts⟩ (ct_X6_nonZeros l D ca a tw tt v x1 e18) (cwV 1 hts gX6_isSameIdeal_X6_nonZeros rfl rfl rfl (by decide +kernel) ⟨Nat.le_of_ble_eq_true rfl, Nat.le_of_ble_eq_true rfl⟩) (va_recv hK hP (ci := 3) (q0 := 0) rfl rfl) GW.mv (GW.from hP hK hT0 hS) rfl hl.1 rfl (Nat.le_of_ble_eq_true rfl) dX6_isSameIdeal_18 ⟨Nat.zero_le _, Nat.zero_le _⟩ ?_
      refine W.eq (g2 := F0 m 21 ls [.long q18]) rfl ?_
      refine lv_aload_n hx hb dX6_isSameIdeal_21 rfl (lv_at hl 0 rfl) ?_
      refine lv_iload_n hx hb dX6_isSameIdeal_22 rfl (lv_at hl 2 rfl) ?_
      obtain ⟨q23, e23, h⟩ := Option.bind_eq_some_iff.mp h
      refine hp_V (As := [.int x2]) (rest := [.long q18]) (b := (a 0)) ⟨hx, hb, hml, hown, hts⟩ (ct_X6_nonZeros l D ca a tw tt v x2 e23) (cwV 1 hts gX6_isSameIdeal_X6_nonZeros rfl rfl rfl (by decide +kernel) ⟨Nat.le_of_ble_eq_true rfl, Nat.le_of_ble_eq_true rfl⟩) (va_recv hK hP (ci := 3) (q0 := 0) rfl rfl) GW.mv (GW.from hP hK hT0 hS) rfl hl.1 rfl (Nat.le_of_ble_eq_true rfl) dX6_isSameIdeal_23 ⟨Nat.zero_le _, Nat.zero_le _⟩ ?_
      refine W.eq (g2 := F0 m 26 ls [.long q23, .long q18]) rfl ?_
      refine wl_ne (tgt := 34) hx hb dX6_isSameIdeal_26 dX6_isSameIdeal_27 (by decide) (fun c26 => ?_) (fun c26 => ?_)
      · replace h := ite_f h c26
        refine lv_iconst (v := 0) hx hb dX6_isSameIdeal_34 (by decide) ?_
        obtain rfl := Option.some.inj h
        exact hp_iret hx hb hr hlocks dX6_isSameIdeal_35
      · replace h := ite_t h c26
        refine lv_iconst (v := 1) hx hb dX6_isSameIdeal_30 (by decide) ?_
        refine lv_goto (tgt := 35) hx hb dX6_isSameIdeal_31 (by decide) ?_
        obtain rfl := Option.some.inj h
        exact hp_iret hx hb hr hlocks dX6_isSameIdeal_35
    · replace h := ite_t h c11
      refine lv_iconst (v := (-1)) hx hb dX6_isSameIdeal_14 (by decide) ?_
      obtain rfl := Option.some.inj h
      exact hp_iret hx hb hr hlocks dX6_isSameIdeal_15
theorem ct_X6_isSameIdeal (l : Launch) (D : va_G) (ca : Nat → ClassId) (a : Nat → Nat) (tw : Nat) (tt : Nat → Nat) (v : XS) (x1 : Int32) (x2 : Int32) {q : Int32} (h : fn_X6_isSameIdeal v x1 x2 = some q) : Hp l yX6_isSameIdeal wsX6_isSameIdeal rm_X6_isSameIdeal [.ref (a 0), .int x1, .int x2] (GW D ca tw tt (ad_of 9 a) (XW ca a v)) (some (.int q)) := by
  refine Hp.of (cc := cX6_isSameIdeal) (nL := 3) (ret := (some .int)) (own := RX6) (by decide) rfl rfl (Nat.le_of_ble_eq_true rfl) ?_
  intro p e s m below meth c ls C0 hB hl
  exact wk_X6_isSameIdeal C0 hB.2.1 hB.2.2 v hB.1 (hl := hl) (h := h)
abbrev rm_X6_fixedVariables : Room := { frames := 5, cells := 0, slots := 0, locals := 112 }
theorem lk_X6_fixedVariables_f38 : Cond.fieldLink RX6 38 "BooleanRing" "n" "I" ∈ wsX6_fixedVariables := by decide +kernel
theorem ly_X6_fixedVariables_X6 : ∀ w ∈ wsX60, w ∈ wsX6_fixedVariables := by decide +kernel
set_option maxHeartbeats 4000000 in
set_option maxRecDepth 100000 in
theorem wk_X6_fixedVariables_30_body {p : Program} {l : Launch} {e : Env} {s : State} {m : MethodId} {args : Array Value} {below : List Frame} {meth : Method} {c : Code} {D : va_G} {ca : Nat → ClassId} {a : Nat → Nat} {tw : Nat} {tt : Nat → Nat} (C0 : Cx p s m args meth c cX6_fixedVariables (some .int) 6 wsX6_fixedVariables RX6) (hK : va_K D vwCl (tys3 ca) s) (hT0 : tW tw tt (ad_of 9 a) s s.heap) (v : XS) (hP : va_P D vwCl (XW ca a v) s.heap) {q : Int32} (k30 : Int64 → Int32 → Int32 → Option (Int32)) (hk30 : ∀ (x2 : Int64) (x4 : Int32) (x5 : Int32) (ls : Array Slot) (hl : lv_has ls 6 [(0, .ref (a 0)), (2, .long x2), (4, .int x4), (5, .int x5)]) (h : k30 x2 x4 x5 = some q), W p l e rm_X6_fixedVariables s m args below meth c s.heap [] 0 0 (MQ below (HQ (some (.int q))) args s 0 0 (fun _ => False)) (F0 m 30 ls [])) (x2 : Int64) (x4 : Int32) (x5 : Int32) (ls : Array Slot) (hl : lv_has ls 6 [(0, .ref (a 0)), (2, .long x2), (4, .int x4), (5, .int x5)]) (h : fn_X6_fixedVariables_30_body v k30 x2 x4 x5 = some q) : W p l e rm_X6_fixedVariables s m args below meth c s.heap [] 0 0 (MQ below (HQ (some (.int q))) args s 0 0 (fun _ => False)) (F0 m 30 ls []) := by
  obtain ⟨hx, hb, hr, hml, hown, hts, hlocks⟩ := id C0
  have hS : va_S (ad_of 9 a) s.heap s.heap [] := va_S.rf
  unfold fn_X6_fixedVariables_30_body at h
  refine lv_iload hx hb dX6_fixedVariables_30 (lv_at hl 3 rfl) ?_
  refine lv_aload_n hx hb dX6_fixedVariables_32 rfl (lv_at hl 0 rfl) ?_
  refine va_get (D := D) (ci := 3) (v := .int (x_n v)) (C := RX6) (T := TX6) (N := 6) hx hb hts ly_X6_fixedVariables_X6 hown hK hP 0 rfl rfl 5 (by decide) (hts _ lk_X6_fixedVariables_f38) (fun _ h9 => h9) rfl dX6_fixedVariables_33 ?_
  refine lv_icmp_ge (tgt := 70) hx hb dX6_fixedVariables_36 (by decide) (fun c36 => ?_) (fun c36 => ?_)
  · replace h := ite_t h c36
    refine lv_iload hx hb dX6_fixedVariables_70 (lv_at hl 2 rfl) ?_
    obtain rfl := Option.some.inj h
    exact hp_iret hx hb hr hlocks dX6_fixedVariables_72
  · replace h := ite_f h c36
    refine lv_lload_n hx hb dX6_fixedVariables_39 rfl (lv_at hl 1 rfl) ?_
    refine lv_iload hx hb dX6_fixedVariables_40 (lv_at hl 3 rfl) ?_
    obtain ⟨q42, e42, h⟩ := Option.bind_eq_some_iff.mp h
    refine hp_S (As := [.long x2, .int x5]) (rest := []) ⟨hx, hb, hml, hown, hts⟩ (ct_X3_lowerHalf l tw tt x2 x5 e42) (va_cwS 2 hts gX6_fixedVariables_X3_lowerHalf rfl rfl rfl (by decide +kernel) ⟨Nat.le_of_ble_eq_true rfl, Nat.le_of_ble_eq_true rfl⟩) GP.mv (GP.from hT0 hS) rfl hl.1 rfl (Nat.le_of_ble_eq_true rfl) dX6_fixedVariables_42 ⟨Nat.zero_le _, Nat.zero_le _⟩ ?_
    refine W.eq (g2 := F0 m 45 ls [.long q42]) rfl ?_
    refine lv_lconst (v := 0) hx hb dX6_fixedVariables_45 (by decide) ?_
    refine wl_eq (tgt := 61) hx hb dX6_fixedVariables_46 dX6_fixedVariables_47 (by decide) (fun c46 => ?_) (fun c46 => ?_)
    · replace h := ite_t h c46
      refine lv_iinc (v := (x4 + 1)) (lv' := [(4, .int (x4 + 1)), (0, .ref (a 0)), (2, .long x2), (5, .int x5)]) hx hb dX6_fixedVariables_61 hl (k := 2) rfl rfl (by decide) rfl (fun ls hl => ?_)
      refine lv_iinc (v := (x5 + 1)) (lv' := [(5, .int (x5 + 1)), (4, .int (x4 + 1)), (0, .ref (a 0)), (2, .long x2)]) hx hb dX6_fixedVariables_64 hl (k := 3) rfl rfl (by decide) rfl (fun ls hl => ?_)
      refine lv_goto (tgt := 30) hx hb dX6_fixedVariables_67 (by decide) ?_
      exact hk30 x2 (x4 + 1) (x5 + 1) ls (lv_sub hl [2, 3, 1, 0] rfl) h
    · replace h := ite_f h c46
      refine lv_lload_n hx hb dX6_fixedVariables_50 rfl (lv_at hl 1 rfl) ?_
      refine lv_iload hx hb dX6_fixedVariables_51 (lv_at hl 3 rfl) ?_
      obtain ⟨q53, e53, h⟩ := Option.bind_eq_some_iff.mp h
      refine hp_S (As := [.long x2, .int x5]) (rest := []) ⟨hx, hb, hml, hown, hts⟩ (ct_X3_upperHalf l tw tt x2 x5 e53) (va_cwS 2 hts gX6_fixedVariables_X3_upperHalf rfl rfl rfl (by decide +kernel) ⟨Nat.le_of_ble_eq_true rfl, Nat.le_of_ble_eq_true rfl⟩) GP.mv (GP.from hT0 hS) rfl hl.1 rfl (Nat.le_of_ble_eq_true rfl) dX6_fixedVariables_53 ⟨Nat.zero_le _, Nat.zero_le _⟩ ?_
      refine W.eq (g2 := F0 m 56 ls [.long q53]) rfl ?_
      refine lv_lconst (v := 0) hx hb dX6_fixedVariables_56 (by decide) ?_
      refine wl_ne (tgt := 64) hx hb dX6_fixedVariables_57 dX6_fixedVariables_58 (by decide) (fun c57 => ?_) (fun c57 => ?_)
      · replace h := ite_f h c57
        refine lv_iinc (v := (x5 + 1)) (lv' := [(5, .int (x5 + 1)), (0, .ref (a 0)), (2, .long x2), (4, .int x4)]) hx hb dX6_fixedVariables_64 hl (k := 3) rfl rfl (by decide) rfl (fun ls hl => ?_)
        refine lv_goto (tgt := 30) hx hb dX6_fixedVariables_67 (by decide) ?_
        exact hk30 x2 x4 (x5 + 1) ls (lv_sub hl [1, 2, 3, 0] rfl) h
      · replace h := ite_t h c57
        refine lv_iinc (v := (x4 + 1)) (lv' := [(4, .int (x4 + 1)), (0, .ref (a 0)), (2, .long x2), (5, .int x5)]) hx hb dX6_fixedVariables_61 hl (k := 2) rfl rfl (by decide) rfl (fun ls hl => ?_)
        refine lv_iinc (v := (x5 + 1)) (lv' := [(5, .int (x5 + 1)), (4, .int (x4 + 1)), (0, .ref (a 0)), (2, .long x2)]) hx hb dX6_fixedVariables_64 hl (k := 3) rfl rfl (by decide) rfl (fun ls hl => ?_)
        refine lv_goto (tgt := 30) hx hb dX6_fixedVariables_67 (by decide) ?_
        exact hk30 x2 (x4 + 1) (x5 + 1) ls (lv_sub hl [2, 3, 1, 0] rfl) h
set_option maxHeartbeats 4000000 in
set_option maxRecDepth 100000 in
theorem wk_X6_fixedVariables_30 {p : Program} {l : Launch} {e : Env} {s : State} {m : MethodId} {args : Array Value} {below : List Frame} {meth : Method} {c : Code} {D : va_G} {ca : Nat → ClassId} {a : Nat → Nat} {tw : Nat} {tt : Nat → Nat} (C0 : Cx p s m args meth c cX6_fixedVariables (some .int) 6 wsX6_fixedVariables RX6) (hK : va_K D vwCl (tys3 ca) s) (hT0 : tW tw tt (ad_of 9 a) s s.heap) (v : XS) (hP : va_P D vwCl (XW ca a v) s.heap) {q : Int32} : ∀ (n : Nat) (x2 : Int64) (x4 : Int32) (x5 : Int32) (ls : Array Slot) (hl : lv_has ls 6 [(0, .ref (a 0)), (2, .long x2), (4, .int x4), (5, .int x5)]) (h : fn_X6_fixedVariables_30 v n x2 x4 x5 = some q), W p l e rm_X6_fixedVariables s m args below meth c s.heap [] 0 0 (MQ below (HQ (some (.int q))) args s 0 0 (fun _ => False)) (F0 m 30 ls []) := by
  intro n
  induction n with
  | zero => intro x2 x4 x5 ls hl h; unfold fn_X6_fixedVariables_30 at h; cases h
  | succ n ih => intro x2 x4 x5 ls hl h; exact wk_X6_fixedVariables_30_body C0 hK hT0 v hP (k30 := fn_X6_fixedVariables_30 v n) (hk30 := ih) (hl := hl) (h := h)
set_option maxHeartbeats 4000000 in
set_option maxRecDepth 100000 in
theorem wk_X6_fixedVariables {p : Program} {l : Launch} {e : Env} {s : State} {m : MethodId} {args : Array Value} {below : List Frame} {meth : Method} {c : Code} {D : va_G} {ca : Nat → ClassId} {a : Nat → Nat} {tw : Nat} {tt : Nat → Nat} (C0 : Cx p s m args meth c cX6_fixedVariables (some .int) 6 wsX6_fixedVariables RX6) (hK : va_K D vwCl (tys3 ca) s) (hT0 : tW tw tt (ad_of 9 a) s s.heap) (v : XS) (hP : va_P D vwCl (XW ca a v) s.heap) {q : Int32} (x1 : Int32) (ls : Array Slot) (hl : lv_has ls 6 [(0, .ref (a 0)), (1, .int x1)]) (h : fn_X6_fixedVariables v x1 = some q) : W p l e rm_X6_fixedVariables s m args below meth c s.heap [] 0 0 (MQ below (HQ (some (.int q))) args s 0 0 (fun _ => False)) (F0 m 0 ls []) := by
  obtain ⟨hx, hb, hr, hml, hown, hts, hlocks⟩ := id C0
  have hS : va_S (ad_of 9 a) s.heap s.heap [] := va_S.rf
  unfold fn_X6_fixedVariables at h
  refine lv_iload_n hx hb dX6_fixedVariables_0 rfl (lv_at hl 1 rfl) ?_
  obtain ⟨q1, e1, h⟩ := Option.bind_eq_some_iff.mp h
  refine hp_S (As := [.int x1]) (rest := []) ⟨hx, hb, hml, hown, hts⟩ (ct_X6_isSet l tw tt x1 e1) (va_cwS 1 hts gX6_fixedVariables_X6_isSet rfl rfl rfl (by decide +kernel) ⟨Nat.le_of_ble_eq_true rfl, Nat.le_of_ble_eq_true rfl⟩) GP.mv (GP.from hT0 hS) rfl hl.1 rfl (Nat.le_of_ble_eq_true rfl) dX6_fixedVariables_1 ⟨Nat.zero_le _, Nat.zero_le _⟩ ?_
  refine W.eq (g2 := F0 m 4 ls [.int q1]) rfl ?_
  refine lv_if_ne (tgt := 9) hx hb dX6_fixedVariables_4 (by decide) (fun c4 => ?_) (fun c4 => ?_)
  · replace h := ite_f h c4
    refine lv_aload_n hx hb dX6_fixedVariables_9 rfl (lv_at hl 0 rfl) ?_
    refine lv_iload_n hx hb dX6_fixedVariables_10 rfl (lv_at hl 1 rfl) ?_
    obtain ⟨q11, e11, h⟩ := Option.bind_eq_some_iff.mp h
    refine hp_V (As := [.int x1]) (rest := []) (b := (a 0)) ⟨hx, hb, hml, hown, hts⟩ (ct_X6_commonZeros l D ca a tw tt v x1 e11) (cwV 1 hts gX6_fixedVariables_X6_commonZeros rfl rfl rfl (by decide +kernel) ⟨Nat.le_of_ble_eq_true rfl, Nat.le_of_ble_eq_true rfl⟩) (va_recv hK hP (ci := 3) (q0 := 0) rfl rfl) GW.mv (GW.from hP hK hT0 hS) rfl hl.1 rfl (Nat.le_of_ble_eq_true rfl) dX6_fixedVariables_11 ⟨Nat.zero_le _, Nat.zero_le _⟩ ?_
    refine W.eq (g2 := F0 m 14 ls [.long q11]) rfl ?_
    refine lv_lstore_n (lv' := [(2, .long q11), (0, .ref (a 0)), (1, .int x1)]) hx hb dX6_fixedVariables_14 rfl hl (by decide) rfl (fun ls hl => ?_)
    refine lv_lload_n hx hb dX6_fixedVariables_15 rfl (lv_at hl 0 rfl) ?_
    refine lv_lconst (v := 0) hx hb dX6_fixedVariables_16 (by decide) ?_
    refine wl_ne (tgt := 24) hx hb dX6_fixedVariables_17 dX6_fixedVariables_18 (by decide) (fun c17 => ?_) (fun c17 => ?_)
    · replace h := ite_f h c17
      refine lv_iconst (v := 0) hx hb dX6_fixedVariables_24 (by decide) ?_
      refine lv_istore (lv' := [(4, .int 0), (2, .long q11), (0, .ref (a 0)), (1, .int x1)]) hx hb dX6_fixedVariables_25 hl (by decide) rfl (fun ls hl => ?_)
      refine lv_iconst (v := 0) hx hb dX6_fixedVariables_27 (by decide) ?_
      refine lv_istore (lv' := [(5, .int 0), (4, .int 0), (2, .long q11), (0, .ref (a 0)), (1, .int x1)]) hx hb dX6_fixedVariables_28 hl (by decide) rfl (fun ls hl => ?_)
      exact wk_X6_fixedVariables_30 C0 hK hT0 v hP  FU q11 0 0 ls (lv_sub hl [3, 2, 1, 0] rfl) h
    · replace h := ite_t h c17
      refine lv_bipush (v := (-4)) hx hb dX6_fixedVariables_21 (by decide) ?_
      obtain rfl := Option.some.inj h
      exact hp_iret hx hb hr hlocks dX6_fixedVariables_23
  · replace h := ite_t h c4
    refine lv_iconst (v := (-1)) hx hb dX6_fixedVariables_7 (by decide) ?_
    obtain rfl := Option.some.inj h
    exact hp_iret hx hb hr hlocks dX6_fixedVariables_8
theorem ct_X6_fixedVariables (l : Launch) (D : va_G) (ca : Nat → ClassId) (a : Nat → Nat) (tw : Nat) (tt : Nat → Nat) (v : XS) (x1 : Int32) {q : Int32} (h : fn_X6_fixedVariables v x1 = some q) : Hp l yX6_fixedVariables wsX6_fixedVariables rm_X6_fixedVariables [.ref (a 0), .int x1] (GW D ca tw tt (ad_of 9 a) (XW ca a v)) (some (.int q)) := by
  refine Hp.of (cc := cX6_fixedVariables) (nL := 6) (ret := (some .int)) (own := RX6) (by decide) rfl rfl (Nat.le_of_ble_eq_true rfl) ?_
  intro p e s m below meth c ls C0 hB hl
  exact wk_X6_fixedVariables C0 hB.2.1 hB.2.2 v hB.1 (hl := hl) (h := h)
abbrev rm_X6_type : Room := { frames := 1, cells := 0, slots := 0, locals := 21 }
theorem lk_X6_type_f34 : Cond.fieldLink RX6 34 "BooleanRing" "typed" "LBooleanRing$Typed;" ∈ wsX6_type := by decide +kernel
theorem ly_X6_type_X6 : ∀ w ∈ wsX60, w ∈ wsX6_type := by decide +kernel
set_option maxHeartbeats 4000000 in
set_option maxRecDepth 100000 in
theorem wk_X6_type {p : Program} {l : Launch} {e : Env} {s : State} {m : MethodId} {args : Array Value} {below : List Frame} {meth : Method} {c : Code} {D : va_G} {ca : Nat → ClassId} {a : Nat → Nat} {tw : Nat} {tt : Nat → Nat} (C0 : Cx p s m args meth c cX6_type (some .int) 2 wsX6_type RX6) (hap : ap_ok 9 a) (hK : va_K D vwCl (tys3 ca) s) (hT0 : tW tw tt (ad_of 9 a) s s.heap) {q : Int32 × XS} (v : XS) (H : Heap) (locs : List Loc) (x1 : Int32) (ls : Array Slot) (hP : va_P D vwCl (XW ca a v) H) (hS : va_S (ad_of 9 a) s.heap H locs) (hl : lv_has ls 2 [(0, .ref (a 0)), (1, .int x1)]) (h : fn_X6_type v x1 = some q) : W p l e rm_X6_type s m args below meth c H locs 0 0 (MQ below (PQ (some (.int q.1)) (fun H => va_P D vwCl (XW ca a q.2) H) (ad_of 9 a)) args s 0 0 (ad_of 9 a)) (F0 m 0 ls []) := by
  obtain ⟨hx, hb, hr, hml, hown, hts, hlocks⟩ := id C0
  have hD0 := fun v => XW_D (ca := ca) hap v
  unfold fn_X6_type at h
  refine lv_iload_n hx hb dX6_type_0 rfl (lv_at hl 1 rfl) ?_
  refine lv_bipush (v := 32) hx hb dX6_type_1 (by decide) ?_
  refine lv_icmp_lt (tgt := 12) hx hb dX6_type_3 (by decide) (fun c3 => ?_) (fun c3 => ?_)
  · replace h := ite_t h c3
    refine lv_iconst (v := (-1)) hx hb dX6_type_12 (by decide) ?_
    obtain rfl := Option.some.inj h
    exact mp_iret hx hb hr hlocks hP hS dX6_type_13
  · replace h := ite_f h c3
    refine lv_iload_n hx hb dX6_type_6 rfl (lv_at hl 1 rfl) ?_
    refine lv_bipush (v := 126) hx hb dX6_type_7 (by decide) ?_
    refine lv_icmp_le (tgt := 14) hx hb dX6_type_9 (by decide) (fun c9 => ?_) (fun c9 => ?_)
    · replace h := ite_t h c9
      refine lv_aload_n hx hb dX6_type_14 rfl (lv_at hl 0 rfl) ?_
      refine va_get (D := D) (ci := 3) (v := .ref (a 7)) (C := RX6) (T := TX6) (N := 6) hx hb hts ly_X6_type_X6 hown hK hP 0 rfl rfl 4 (by decide) (hts _ lk_X6_type_f34) (fun _ h9 => h9) rfl dX6_type_15 ?_
      refine lv_iload_n hx hb dX6_type_18 rfl (lv_at hl 1 rfl) ?_
      refine lv_i2c (v := (tch x1)) hx hb dX6_type_19 rfl ?_
      obtain ⟨q20, e20, h⟩ := Option.bind_eq_some_iff.mp h
      refine mp_V (As := [.int (tch x1)]) (rest := []) (b := (a 7)) ⟨hx, hb, hml, hown, hts⟩ (ct_X5_append l D ca a tw tt hap v (tch x1) e20) (cwV 1 hts gX6_type_X5_append rfl rfl rfl (by decide +kernel) ⟨Nat.le_of_ble_eq_true rfl, Nat.le_of_ble_eq_true rfl⟩) (va_recv hK hP (ci := 2) (q0 := 7) rfl rfl) GW.mv (GW.from hP hK hT0 hS) hS rfl hl.1 rfl (Nat.le_of_ble_eq_true rfl) dX6_type_20 ⟨Nat.zero_le _, Nat.zero_le _⟩ (fun H locs hP hS => ?_)
      refine W.eq (g2 := F0 m 23 ls [.int q20.1]) rfl ?_
      obtain rfl := Option.some.inj h
      exact mp_iret hx hb hr hlocks hP hS dX6_type_23
    · replace h := ite_f h c9
      refine lv_iconst (v := (-1)) hx hb dX6_type_12 (by decide) ?_
      obtain rfl := Option.some.inj h
      exact mp_iret hx hb hr hlocks hP hS dX6_type_13
theorem ct_X6_type (l : Launch) (D : va_G) (ca : Nat → ClassId) (a : Nat → Nat) (tw : Nat) (tt : Nat → Nat) (hap : ap_ok 9 a) (v : XS) (x1 : Int32) {q : Int32 × XS} (h : fn_X6_type v x1 = some q) : Mp l yX6_type wsX6_type rm_X6_type [.ref (a 0), .int x1] (GW D ca tw tt (ad_of 9 a) (XW ca a v)) (some (.int q.1)) (fun H => va_P D vwCl (XW ca a q.2) H) (ad_of 9 a) := by
  refine Mp.of (cc := cX6_type) (nL := 2) (ret := (some .int)) (own := RX6) (by decide) rfl rfl (Nat.le_of_ble_eq_true rfl) ?_
  intro p e s m below meth c ls C0 hB hl
  exact wk_X6_type C0 hap hB.2.1 hB.2.2 (hP := hB.1) (hS := va_S.rf) (hl := hl) (h := h)
abbrev rm_X6_clearText : Room := { frames := 1, cells := 0, slots := 0, locals := 21 }
theorem lk_X6_clearText_f34 : Cond.fieldLink RX6 34 "BooleanRing" "typed" "LBooleanRing$Typed;" ∈ wsX6_clearText := by decide +kernel
theorem ly_X6_clearText_X6 : ∀ w ∈ wsX60, w ∈ wsX6_clearText := by decide +kernel
set_option maxHeartbeats 4000000 in
set_option maxRecDepth 100000 in
theorem wk_X6_clearText {p : Program} {l : Launch} {e : Env} {s : State} {m : MethodId} {args : Array Value} {below : List Frame} {meth : Method} {c : Code} {D : va_G} {ca : Nat → ClassId} {a : Nat → Nat} {tw : Nat} {tt : Nat → Nat} (C0 : Cx p s m args meth c cX6_clearText (some .int) 1 wsX6_clearText RX6) (hap : ap_ok 9 a) (hK : va_K D vwCl (tys3 ca) s) (hT0 : tW tw tt (ad_of 9 a) s s.heap) {q : Int32 × XS} (v : XS) (H : Heap) (locs : List Loc) (ls : Array Slot) (hP : va_P D vwCl (XW ca a v) H) (hS : va_S (ad_of 9 a) s.heap H locs) (hl : lv_has ls 1 [(0, .ref (a 0))]) (h : fn_X6_clearText v  = some q) : W p l e rm_X6_clearText s m args below meth c H locs 0 0 (MQ below (PQ (some (.int q.1)) (fun H => va_P D vwCl (XW ca a q.2) H) (ad_of 9 a)) args s 0 0 (ad_of 9 a)) (F0 m 0 ls []) := by
  obtain ⟨hx, hb, hr, hml, hown, hts, hlocks⟩ := id C0
  have hD0 := fun v => XW_D (ca := ca) hap v
  unfold fn_X6_clearText at h
  refine lv_aload_n hx hb dX6_clearText_0 rfl (lv_at hl 0 rfl) ?_
  refine va_get (D := D) (ci := 3) (v := .ref (a 7)) (C := RX6) (T := TX6) (N := 6) hx hb hts ly_X6_clearText_X6 hown hK hP 0 rfl rfl 4 (by decide) (hts _ lk_X6_clearText_f34) (fun _ h9 => h9) rfl dX6_clearText_1 ?_
  obtain ⟨q4, e4, h⟩ := Option.bind_eq_some_iff.mp h
  refine mp_V (As := []) (rest := []) (b := (a 7)) ⟨hx, hb, hml, hown, hts⟩ (ct_X5_empty l D ca a tw tt hap v  e4) (cwV 0 hts gX6_clearText_X5_empty rfl rfl rfl (by decide +kernel) ⟨Nat.le_of_ble_eq_true rfl, Nat.le_of_ble_eq_true rfl⟩) (va_recv hK hP (ci := 2) (q0 := 7) rfl rfl) GW.mv (GW.from hP hK hT0 hS) hS rfl hl.1 rfl (Nat.le_of_ble_eq_true rfl) dX6_clearText_4 ⟨Nat.zero_le _, Nat.zero_le _⟩ (fun H locs hP hS => ?_)
  refine W.eq (g2 := F0 m 7 ls [.int q4.1]) rfl ?_
  obtain rfl := Option.some.inj h
  exact mp_iret hx hb hr hlocks hP hS dX6_clearText_7
theorem ct_X6_clearText (l : Launch) (D : va_G) (ca : Nat → ClassId) (a : Nat → Nat) (tw : Nat) (tt : Nat → Nat) (hap : ap_ok 9 a) (v : XS) {q : Int32 × XS} (h : fn_X6_clearText v  = some q) : Mp l yX6_clearText wsX6_clearText rm_X6_clearText [.ref (a 0)] (GW D ca tw tt (ad_of 9 a) (XW ca a v)) (some (.int q.1)) (fun H => va_P D vwCl (XW ca a q.2) H) (ad_of 9 a) := by
  refine Mp.of (cc := cX6_clearText) (nL := 1) (ret := (some .int)) (own := RX6) (by decide) rfl rfl (Nat.le_of_ble_eq_true rfl) ?_
  intro p e s m below meth c ls C0 hB hl
  exact wk_X6_clearText C0 hap hB.2.1 hB.2.2 (hP := hB.1) (hS := va_S.rf) (hl := hl) (h := h)
abbrev rm_X6_fault : Room := { frames := 2, cells := 0, slots := 0, locals := 46 }
theorem lk_X6_fault_f34 : Cond.fieldLink RX6 34 "BooleanRing" "typed" "LBooleanRing$Typed;" ∈ wsX6_fault := by decide +kernel
theorem lk_X6_fault_f38 : Cond.fieldLink RX6 38 "BooleanRing" "n" "I" ∈ wsX6_fault := by decide +kernel
theorem ly_X6_fault_X6 : ∀ w ∈ wsX60, w ∈ wsX6_fault := by decide +kernel
set_option maxHeartbeats 4000000 in
set_option maxRecDepth 100000 in
theorem wk_X6_fault {p : Program} {l : Launch} {e : Env} {s : State} {m : MethodId} {args : Array Value} {below : List Frame} {meth : Method} {c : Code} {D : va_G} {ca : Nat → ClassId} {a : Nat → Nat} {tw : Nat} {tt : Nat → Nat} (C0 : Cx p s m args meth c cX6_fault (some .int) 1 wsX6_fault RX6) (hK : va_K D vwCl (tys3 ca) s) (hT0 : tW tw tt (ad_of 9 a) s s.heap) (v : XS) (hP : va_P D vwCl (XW ca a v) s.heap) {q : Int32} (ls : Array Slot) (hl : lv_has ls 1 [(0, .ref (a 0))]) (h : fn_X6_fault v  = some q) : W p l e rm_X6_fault s m args below meth c s.heap [] 0 0 (MQ below (HQ (some (.int q))) args s 0 0 (fun _ => False)) (F0 m 0 ls []) := by
  obtain ⟨hx, hb, hr, hml, hown, hts, hlocks⟩ := id C0
  have hS : va_S (ad_of 9 a) s.heap s.heap [] := va_S.rf
  unfold fn_X6_fault at h
  refine lv_aload_n hx hb dX6_fault_0 rfl (lv_at hl 0 rfl) ?_
  refine va_get (D := D) (ci := 3) (v := .ref (a 7)) (C := RX6) (T := TX6) (N := 6) hx hb hts ly_X6_fault_X6 hown hK hP 0 rfl rfl 4 (by decide) (hts _ lk_X6_fault_f34) (fun _ h9 => h9) rfl dX6_fault_1 ?_
  refine lv_aload_n hx hb dX6_fault_4 rfl (lv_at hl 0 rfl) ?_
  refine va_get (D := D) (ci := 3) (v := .int (x_n v)) (C := RX6) (T := TX6) (N := 6) hx hb hts ly_X6_fault_X6 hown hK hP 0 rfl rfl 5 (by decide) (hts _ lk_X6_fault_f38) (fun _ h9 => h9) rfl dX6_fault_5 ?_
  obtain ⟨q8, e8, h⟩ := Option.bind_eq_some_iff.mp h
  refine hp_V (As := [.int (x_n v)]) (rest := []) (b := (a 7)) ⟨hx, hb, hml, hown, hts⟩ (ct_X5_firstFault l D ca a tw tt v (x_n v) e8) (cwV 1 hts gX6_fault_X5_firstFault rfl rfl rfl (by decide +kernel) ⟨Nat.le_of_ble_eq_true rfl, Nat.le_of_ble_eq_true rfl⟩) (va_recv hK hP (ci := 2) (q0 := 7) rfl rfl) GW.mv (GW.from hP hK hT0 hS) rfl hl.1 rfl (Nat.le_of_ble_eq_true rfl) dX6_fault_8 ⟨Nat.zero_le _, Nat.zero_le _⟩ ?_
  refine W.eq (g2 := F0 m 11 ls [.int q8]) rfl ?_
  obtain rfl := Option.some.inj h
  exact hp_iret hx hb hr hlocks dX6_fault_11
theorem ct_X6_fault (l : Launch) (D : va_G) (ca : Nat → ClassId) (a : Nat → Nat) (tw : Nat) (tt : Nat → Nat) (v : XS) {q : Int32} (h : fn_X6_fault v  = some q) : Hp l yX6_fault wsX6_fault rm_X6_fault [.ref (a 0)] (GW D ca tw tt (ad_of 9 a) (XW ca a v)) (some (.int q)) := by
  refine Hp.of (cc := cX6_fault) (nL := 1) (ret := (some .int)) (own := RX6) (by decide) rfl rfl (Nat.le_of_ble_eq_true rfl) ?_
  intro p e s m below meth c ls C0 hB hl
  exact wk_X6_fault C0 hB.2.1 hB.2.2 v hB.1 (hl := hl) (h := h)
abbrev rm_X6_read : Room := { frames := 3, cells := 0, slots := 0, locals := 70 }
theorem lk_X6_read_f34 : Cond.fieldLink RX6 34 "BooleanRing" "typed" "LBooleanRing$Typed;" ∈ wsX6_read := by decide +kernel
theorem lk_X6_read_f38 : Cond.fieldLink RX6 38 "BooleanRing" "n" "I" ∈ wsX6_read := by decide +kernel
theorem ly_X6_read_X6 : ∀ w ∈ wsX60, w ∈ wsX6_read := by decide +kernel
set_option maxHeartbeats 4000000 in
set_option maxRecDepth 100000 in
theorem wk_X6_read {p : Program} {l : Launch} {e : Env} {s : State} {m : MethodId} {args : Array Value} {below : List Frame} {meth : Method} {c : Code} {D : va_G} {ca : Nat → ClassId} {a : Nat → Nat} {tw : Nat} {tt : Nat → Nat} (C0 : Cx p s m args meth c cX6_read (some .int) 2 wsX6_read RX6) (hap : ap_ok 9 a) (hK : va_K D vwCl (tys3 ca) s) (hT0 : tW tw tt (ad_of 9 a) s s.heap) {q : Int32 × XS} (v : XS) (H : Heap) (locs : List Loc) (x1 : Int32) (ls : Array Slot) (hP : va_P D vwCl (XW ca a v) H) (hS : va_S (ad_of 9 a) s.heap H locs) (hl : lv_has ls 2 [(0, .ref (a 0)), (1, .int x1)]) (h : fn_X6_read v x1 = some q) : W p l e rm_X6_read s m args below meth c H locs 0 0 (MQ below (PQ (some (.int q.1)) (fun H => va_P D vwCl (XW ca a q.2) H) (ad_of 9 a)) args s 0 0 (ad_of 9 a)) (F0 m 0 ls []) := by
  obtain ⟨hx, hb, hr, hml, hown, hts, hlocks⟩ := id C0
  have hD0 := fun v => XW_D (ca := ca) hap v
  unfold fn_X6_read at h
  refine lv_iload_n hx hb dX6_read_0 rfl (lv_at hl 1 rfl) ?_
  obtain ⟨q1, e1, h⟩ := Option.bind_eq_some_iff.mp h
  refine hp_S (As := [.int x1]) (rest := []) ⟨hx, hb, hml, hown, hts⟩ (ct_X6_isRegister l tw tt x1 e1) (va_cwS 1 hts gX6_read_X6_isRegister rfl rfl rfl (by decide +kernel) ⟨Nat.le_of_ble_eq_true rfl, Nat.le_of_ble_eq_true rfl⟩) GP.mv (GP.from hT0 hS) rfl hl.1 rfl (Nat.le_of_ble_eq_true rfl) dX6_read_1 ⟨Nat.zero_le _, Nat.zero_le _⟩ ?_
  refine W.eq (g2 := F0 m 4 ls [.int q1]) rfl ?_
  refine lv_if_ne (tgt := 9) hx hb dX6_read_4 (by decide) (fun c4 => ?_) (fun c4 => ?_)
  · replace h := ite_f h c4
    refine lv_aload_n hx hb dX6_read_9 rfl (lv_at hl 0 rfl) ?_
    refine va_get (D := D) (ci := 3) (v := .ref (a 7)) (C := RX6) (T := TX6) (N := 6) hx hb hts ly_X6_read_X6 hown hK hP 0 rfl rfl 4 (by decide) (hts _ lk_X6_read_f34) (fun _ h9 => h9) rfl dX6_read_10 ?_
    refine lv_aload_n hx hb dX6_read_13 rfl (lv_at hl 0 rfl) ?_
    refine va_get (D := D) (ci := 3) (v := .int (x_n v)) (C := RX6) (T := TX6) (N := 6) hx hb hts ly_X6_read_X6 hown hK hP 0 rfl rfl 5 (by decide) (hts _ lk_X6_read_f38) (fun _ h9 => h9) rfl dX6_read_14 ?_
    obtain ⟨q17, e17, h⟩ := Option.bind_eq_some_iff.mp h
    refine hp_V (As := [.int (x_n v)]) (rest := []) (b := (a 7)) ⟨hx, hb, hml, hown, hts⟩ (ct_X5_firstFault l D ca a tw tt v (x_n v) e17) (cwV 1 hts gX6_read_X5_firstFault rfl rfl rfl (by decide +kernel) ⟨Nat.le_of_ble_eq_true rfl, Nat.le_of_ble_eq_true rfl⟩) (va_recv hK hP (ci := 2) (q0 := 7) rfl rfl) GW.mv (GW.from hP hK hT0 hS) rfl hl.1 rfl (Nat.le_of_ble_eq_true rfl) dX6_read_17 ⟨Nat.zero_le _, Nat.zero_le _⟩ ?_
    refine W.eq (g2 := F0 m 20 ls [.int q17]) rfl ?_
    refine lv_bipush (v := (-4)) hx hb dX6_read_20 (by decide) ?_
    refine lv_icmp_eq (tgt := 28) hx hb dX6_read_22 (by decide) (fun c22 => ?_) (fun c22 => ?_)
    · replace h := ite_t h c22
      refine lv_aload_n hx hb dX6_read_28 rfl (lv_at hl 0 rfl) ?_
      refine lv_iload_n hx hb dX6_read_29 rfl (lv_at hl 1 rfl) ?_
      refine lv_aload_n hx hb dX6_read_30 rfl (lv_at hl 0 rfl) ?_
      refine va_get (D := D) (ci := 3) (v := .ref (a 7)) (C := RX6) (T := TX6) (N := 6) hx hb hts ly_X6_read_X6 hown hK hP 0 rfl rfl 4 (by decide) (hts _ lk_X6_read_f34) (fun _ h9 => h9) rfl dX6_read_31 ?_
      obtain ⟨q34, e34, h⟩ := Option.bind_eq_some_iff.mp h
      refine hp_V (As := []) (rest := [.int x1, .ref (a 0)]) (b := (a 7)) ⟨hx, hb, hml, hown, hts⟩ (ct_X5_polynomial l D ca a tw tt v  e34) (cwV 0 hts gX6_read_X5_polynomial rfl rfl rfl (by decide +kernel) ⟨Nat.le_of_ble_eq_true rfl, Nat.le_of_ble_eq_true rfl⟩) (va_recv hK hP (ci := 2) (q0 := 7) rfl rfl) GW.mv (GW.from hP hK hT0 hS) rfl hl.1 rfl (Nat.le_of_ble_eq_true rfl) dX6_read_34 ⟨Nat.zero_le _, Nat.zero_le _⟩ ?_
      refine W.eq (g2 := F0 m 37 ls [.long q34, .int x1, .ref (a 0)]) rfl ?_
      obtain ⟨q37, e37, h⟩ := Option.bind_eq_some_iff.mp h
      refine mp_V (As := [.int x1, .long q34]) (rest := []) (b := (a 0)) ⟨hx, hb, hml, hown, hts⟩ (ct_X6_put l D ca a tw tt hap v x1 q34 e37) (cwV 2 hts gX6_read_X6_put rfl rfl rfl (by decide +kernel) ⟨Nat.le_of_ble_eq_true rfl, Nat.le_of_ble_eq_true rfl⟩) (va_recv hK hP (ci := 3) (q0 := 0) rfl rfl) GW.mv (GW.from hP hK hT0 hS) hS rfl hl.1 rfl (Nat.le_of_ble_eq_true rfl) dX6_read_37 ⟨Nat.zero_le _, Nat.zero_le _⟩ (fun H locs hP hS => ?_)
      refine W.eq (g2 := F0 m 40 ls [.int q37.1]) rfl ?_
      obtain rfl := Option.some.inj h
      exact mp_iret hx hb hr hlocks hP hS dX6_read_40
    · replace h := ite_f h c22
      refine lv_bipush (v := (-2)) hx hb dX6_read_25 (by decide) ?_
      obtain rfl := Option.some.inj h
      exact mp_iret hx hb hr hlocks hP hS dX6_read_27
  · replace h := ite_t h c4
    refine lv_iconst (v := (-1)) hx hb dX6_read_7 (by decide) ?_
    obtain rfl := Option.some.inj h
    exact mp_iret hx hb hr hlocks hP hS dX6_read_8
theorem ct_X6_read (l : Launch) (D : va_G) (ca : Nat → ClassId) (a : Nat → Nat) (tw : Nat) (tt : Nat → Nat) (hap : ap_ok 9 a) (v : XS) (x1 : Int32) {q : Int32 × XS} (h : fn_X6_read v x1 = some q) : Mp l yX6_read wsX6_read rm_X6_read [.ref (a 0), .int x1] (GW D ca tw tt (ad_of 9 a) (XW ca a v)) (some (.int q.1)) (fun H => va_P D vwCl (XW ca a q.2) H) (ad_of 9 a) := by
  refine Mp.of (cc := cX6_read) (nL := 2) (ret := (some .int)) (own := RX6) (by decide) rfl rfl (Nat.le_of_ble_eq_true rfl) ?_
  intro p e s m below meth c ls C0 hB hl
  exact wk_X6_read C0 hap hB.2.1 hB.2.2 (hP := hB.1) (hS := va_S.rf) (hl := hl) (h := h)
abbrev rm_X6_textLength : Room := { frames := 3, cells := 0, slots := 0, locals := 63 }
theorem lk_X6_textLength_f9 : Cond.fieldLink RX6 9 "BooleanRing" "registers" "[J" ∈ wsX6_textLength := by decide +kernel
theorem ly_X6_textLength_X6 : ∀ w ∈ wsX60, w ∈ wsX6_textLength := by decide +kernel
set_option maxHeartbeats 4000000 in
set_option maxRecDepth 100000 in
theorem wk_X6_textLength {p : Program} {l : Launch} {e : Env} {s : State} {m : MethodId} {args : Array Value} {below : List Frame} {meth : Method} {c : Code} {D : va_G} {ca : Nat → ClassId} {a : Nat → Nat} {tw : Nat} {tt : Nat → Nat} (C0 : Cx p s m args meth c cX6_textLength (some .int) 2 wsX6_textLength RX6) (hK : va_K D vwCl (tys3 ca) s) (hT0 : tW tw tt (ad_of 9 a) s s.heap) (v : XS) (hP : va_P D vwCl (XW ca a v) s.heap) {q : Int32} (x1 : Int32) (ls : Array Slot) (hl : lv_has ls 2 [(0, .ref (a 0)), (1, .int x1)]) (h : fn_X6_textLength v x1 = some q) : W p l e rm_X6_textLength s m args below meth c s.heap [] 0 0 (MQ below (HQ (some (.int q))) args s 0 0 (fun _ => False)) (F0 m 0 ls []) := by
  obtain ⟨hx, hb, hr, hml, hown, hts, hlocks⟩ := id C0
  have hS : va_S (ad_of 9 a) s.heap s.heap [] := va_S.rf
  unfold fn_X6_textLength at h
  refine lv_iload_n hx hb dX6_textLength_0 rfl (lv_at hl 1 rfl) ?_
  obtain ⟨q1, e1, h⟩ := Option.bind_eq_some_iff.mp h
  refine hp_S (As := [.int x1]) (rest := []) ⟨hx, hb, hml, hown, hts⟩ (ct_X6_isRegister l tw tt x1 e1) (va_cwS 1 hts gX6_textLength_X6_isRegister rfl rfl rfl (by decide +kernel) ⟨Nat.le_of_ble_eq_true rfl, Nat.le_of_ble_eq_true rfl⟩) GP.mv (GP.from hT0 hS) rfl hl.1 rfl (Nat.le_of_ble_eq_true rfl) dX6_textLength_1 ⟨Nat.zero_le _, Nat.zero_le _⟩ ?_
  refine W.eq (g2 := F0 m 4 ls [.int q1]) rfl ?_
  refine lv_if_ne (tgt := 9) hx hb dX6_textLength_4 (by decide) (fun c4 => ?_) (fun c4 => ?_)
  · replace h := ite_f h c4
    refine lv_aload_n hx hb dX6_textLength_9 rfl (lv_at hl 0 rfl) ?_
    refine va_get (D := D) (ci := 3) (v := .ref (a 1)) (C := RX6) (T := TX6) (N := 6) hx hb hts ly_X6_textLength_X6 hown hK hP 0 rfl rfl 0 (by decide) (hts _ lk_X6_textLength_f9) (fun _ h9 => h9) rfl dX6_textLength_10 ?_
    refine lv_iload_n hx hb dX6_textLength_13 rfl (lv_at hl 1 rfl) ?_
    obtain ⟨q14, e14, h⟩ := Option.bind_eq_some_iff.mp h
    refine rd_lald hx hb hK hP 1 0 e14 rfl rfl dX6_textLength_14 ?_
    obtain ⟨q15, e15, h⟩ := Option.bind_eq_some_iff.mp h
    refine hp_S (As := [.long q14]) (rest := []) ⟨hx, hb, hml, hown, hts⟩ (ct_X4_lengthOf l tw tt q14 e15) (va_cwS 1 hts gX6_textLength_X4_lengthOf rfl rfl rfl (by decide +kernel) ⟨Nat.le_of_ble_eq_true rfl, Nat.le_of_ble_eq_true rfl⟩) GP.mv (GP.from hT0 hS) rfl hl.1 rfl (Nat.le_of_ble_eq_true rfl) dX6_textLength_15 ⟨Nat.zero_le _, Nat.zero_le _⟩ ?_
    refine W.eq (g2 := F0 m 18 ls [.int q15]) rfl ?_
    obtain rfl := Option.some.inj h
    exact hp_iret hx hb hr hlocks dX6_textLength_18
  · replace h := ite_t h c4
    refine lv_iconst (v := (-1)) hx hb dX6_textLength_7 (by decide) ?_
    obtain rfl := Option.some.inj h
    exact hp_iret hx hb hr hlocks dX6_textLength_8
theorem ct_X6_textLength (l : Launch) (D : va_G) (ca : Nat → ClassId) (a : Nat → Nat) (tw : Nat) (tt : Nat → Nat) (v : XS) (x1 : Int32) {q : Int32} (h : fn_X6_textLength v x1 = some q) : Hp l yX6_textLength wsX6_textLength rm_X6_textLength [.ref (a 0), .int x1] (GW D ca tw tt (ad_of 9 a) (XW ca a v)) (some (.int q)) := by
  refine Hp.of (cc := cX6_textLength) (nL := 2) (ret := (some .int)) (own := RX6) (by decide) rfl rfl (Nat.le_of_ble_eq_true rfl) ?_
  intro p e s m below meth c ls C0 hB hl
  exact wk_X6_textLength C0 hB.2.1 hB.2.2 v hB.1 (hl := hl) (h := h)
abbrev rm_X6_textAt : Room := { frames := 4, cells := 0, slots := 0, locals := 89 }
theorem lk_X6_textAt_f9 : Cond.fieldLink RX6 9 "BooleanRing" "registers" "[J" ∈ wsX6_textAt := by decide +kernel
theorem ly_X6_textAt_X6 : ∀ w ∈ wsX60, w ∈ wsX6_textAt := by decide +kernel
set_option maxHeartbeats 4000000 in
set_option maxRecDepth 100000 in
theorem wk_X6_textAt {p : Program} {l : Launch} {e : Env} {s : State} {m : MethodId} {args : Array Value} {below : List Frame} {meth : Method} {c : Code} {D : va_G} {ca : Nat → ClassId} {a : Nat → Nat} {tw : Nat} {tt : Nat → Nat} (C0 : Cx p s m args meth c cX6_textAt (some .int) 3 wsX6_textAt RX6) (hK : va_K D vwCl (tys3 ca) s) (hT0 : tW tw tt (ad_of 9 a) s s.heap) (v : XS) (hP : va_P D vwCl (XW ca a v) s.heap) {q : Int32} (x1 : Int32) (x2 : Int32) (ls : Array Slot) (hl : lv_has ls 3 [(0, .ref (a 0)), (1, .int x1), (2, .int x2)]) (h : fn_X6_textAt v x1 x2 = some q) : W p l e rm_X6_textAt s m args below meth c s.heap [] 0 0 (MQ below (HQ (some (.int q))) args s 0 0 (fun _ => False)) (F0 m 0 ls []) := by
  obtain ⟨hx, hb, hr, hml, hown, hts, hlocks⟩ := id C0
  have hS : va_S (ad_of 9 a) s.heap s.heap [] := va_S.rf
  unfold fn_X6_textAt at h
  refine lv_iload_n hx hb dX6_textAt_0 rfl (lv_at hl 1 rfl) ?_
  obtain ⟨q1, e1, h⟩ := Option.bind_eq_some_iff.mp h
  refine hp_S (As := [.int x1]) (rest := []) ⟨hx, hb, hml, hown, hts⟩ (ct_X6_isRegister l tw tt x1 e1) (va_cwS 1 hts gX6_textAt_X6_isRegister rfl rfl rfl (by decide +kernel) ⟨Nat.le_of_ble_eq_true rfl, Nat.le_of_ble_eq_true rfl⟩) GP.mv (GP.from hT0 hS) rfl hl.1 rfl (Nat.le_of_ble_eq_true rfl) dX6_textAt_1 ⟨Nat.zero_le _, Nat.zero_le _⟩ ?_
  refine W.eq (g2 := F0 m 4 ls [.int q1]) rfl ?_
  refine lv_if_eq (tgt := 11) hx hb dX6_textAt_4 (by decide) (fun c4 => ?_) (fun c4 => ?_)
  · replace h := ite_t h c4
    refine lv_iconst (v := (-1)) hx hb dX6_textAt_11 (by decide) ?_
    obtain rfl := Option.some.inj h
    exact hp_iret hx hb hr hlocks dX6_textAt_12
  · replace h := ite_f h c4
    refine lv_iload_n hx hb dX6_textAt_7 rfl (lv_at hl 2 rfl) ?_
    refine lv_if_ge (tgt := 13) hx hb dX6_textAt_8 (by decide) (fun c8 => ?_) (fun c8 => ?_)
    · replace h := ite_t h c8
      refine lv_aload_n hx hb dX6_textAt_13 rfl (lv_at hl 0 rfl) ?_
      refine va_get (D := D) (ci := 3) (v := .ref (a 1)) (C := RX6) (T := TX6) (N := 6) hx hb hts ly_X6_textAt_X6 hown hK hP 0 rfl rfl 0 (by decide) (hts _ lk_X6_textAt_f9) (fun _ h9 => h9) rfl dX6_textAt_14 ?_
      refine lv_iload_n hx hb dX6_textAt_17 rfl (lv_at hl 1 rfl) ?_
      obtain ⟨q18, e18, h⟩ := Option.bind_eq_some_iff.mp h
      refine rd_lald hx hb hK hP 1 0 e18 rfl rfl dX6_textAt_18 ?_
      refine lv_iload_n hx hb dX6_textAt_19 rfl (lv_at hl 2 rfl) ?_
      obtain ⟨q20, e20, h⟩ := Option.bind_eq_some_iff.mp h
      refine hp_S (As := [.long q18, .int x2]) (rest := []) ⟨hx, hb, hml, hown, hts⟩ (ct_X4_characterOf l tw tt q18 x2 e20) (va_cwS 2 hts gX6_textAt_X4_characterOf rfl rfl rfl (by decide +kernel) ⟨Nat.le_of_ble_eq_true rfl, Nat.le_of_ble_eq_true rfl⟩) GP.mv (GP.from hT0 hS) rfl hl.1 rfl (Nat.le_of_ble_eq_true rfl) dX6_textAt_20 ⟨Nat.zero_le _, Nat.zero_le _⟩ ?_
      refine W.eq (g2 := F0 m 23 ls [.int q20]) rfl ?_
      obtain rfl := Option.some.inj h
      exact hp_iret hx hb hr hlocks dX6_textAt_23
    · replace h := ite_f h c8
      refine lv_iconst (v := (-1)) hx hb dX6_textAt_11 (by decide) ?_
      obtain rfl := Option.some.inj h
      exact hp_iret hx hb hr hlocks dX6_textAt_12
theorem ct_X6_textAt (l : Launch) (D : va_G) (ca : Nat → ClassId) (a : Nat → Nat) (tw : Nat) (tt : Nat → Nat) (v : XS) (x1 : Int32) (x2 : Int32) {q : Int32} (h : fn_X6_textAt v x1 x2 = some q) : Hp l yX6_textAt wsX6_textAt rm_X6_textAt [.ref (a 0), .int x1, .int x2] (GW D ca tw tt (ad_of 9 a) (XW ca a v)) (some (.int q)) := by
  refine Hp.of (cc := cX6_textAt) (nL := 3) (ret := (some .int)) (own := RX6) (by decide) rfl rfl (Nat.le_of_ble_eq_true rfl) ?_
  intro p e s m below meth c ls C0 hB hl
  exact wk_X6_textAt C0 hB.2.1 hB.2.2 v hB.1 (hl := hl) (h := h)
abbrev rm_X7_in : Room := { frames := 0, cells := 0, slots := 0, locals := 0 }
set_option maxHeartbeats 4000000 in
set_option maxRecDepth 100000 in
theorem wk_X7_in {p : Program} {l : Launch} {e : Env} {s : State} {m : MethodId} {args : Array Value} {below : List Frame} {meth : Method} {c : Code} {tw : Nat} {tt : Nat → Nat} (C0 : Cx p s m args meth c cX7_in (some .boolean) 3 wsX7_in RX7) (hT0 : tW tw tt (fun _ => False) s s.heap) {q : Int32} (x0 : Int32) (x1 : Int32) (x2 : Int32) (ls : Array Slot) (hl : lv_has ls 3 [(0, .int x0), (1, .int x1), (2, .int x2)]) (h : fn_X7_in x0 x1 x2 = some q) : W p l e rm_X7_in s m args below meth c s.heap [] 0 0 (MQ below (HQ (some (.int q))) args s 0 0 (fun _ => False)) (F0 m 0 ls []) := by
  obtain ⟨hx, hb, hr, hml, hown, hts, hlocks⟩ := id C0
  have hS : va_S (fun _ => False) s.heap s.heap [] := va_S.rf
  unfold fn_X7_in at h
  refine lv_iload_n hx hb dX7_in_0 rfl (lv_at hl 0 rfl) ?_
  refine lv_iload_n hx hb dX7_in_1 rfl (lv_at hl 1 rfl) ?_
  refine lv_icmp_lt (tgt := 14) hx hb dX7_in_2 (by decide) (fun c2 => ?_) (fun c2 => ?_)
  · replace h := ite_t h c2
    refine lv_iconst (v := 0) hx hb dX7_in_14 (by decide) ?_
    obtain rfl := Option.some.inj h
    exact hp_zret hx hb hr hlocks rfl dX7_in_15
  · replace h := ite_f h c2
    refine lv_iload_n hx hb dX7_in_5 rfl (lv_at hl 0 rfl) ?_
    refine lv_iload_n hx hb dX7_in_6 rfl (lv_at hl 2 rfl) ?_
    refine lv_icmp_gt (tgt := 14) hx hb dX7_in_7 (by decide) (fun c7 => ?_) (fun c7 => ?_)
    · replace h := ite_t h c7
      refine lv_iconst (v := 0) hx hb dX7_in_14 (by decide) ?_
      obtain rfl := Option.some.inj h
      exact hp_zret hx hb hr hlocks rfl dX7_in_15
    · replace h := ite_f h c7
      refine lv_iconst (v := 1) hx hb dX7_in_10 (by decide) ?_
      refine lv_goto (tgt := 15) hx hb dX7_in_11 (by decide) ?_
      obtain rfl := Option.some.inj h
      exact hp_zret hx hb hr hlocks rfl dX7_in_15
theorem ct_X7_in (l : Launch) (tw : Nat) (tt : Nat → Nat) (x0 : Int32) (x1 : Int32) (x2 : Int32) {q : Int32} (h : fn_X7_in x0 x1 x2 = some q) : Hp l yX7_in wsX7_in rm_X7_in [.int x0, .int x1, .int x2] (GP tw tt) (some (.int q)) := by
  refine Hp.of (cc := cX7_in) (nL := 3) (ret := (some .boolean)) (own := RX7) (by decide) rfl rfl (Nat.le_of_ble_eq_true rfl) ?_
  intro p e s m below meth c ls C0 hB hl
  exact wk_X7_in C0 hB (hl := hl) (h := h)
abbrev rm_X7_isRegister : Room := { frames := 1, cells := 0, slots := 0, locals := 22 }
set_option maxHeartbeats 4000000 in
set_option maxRecDepth 100000 in
theorem wk_X7_isRegister {p : Program} {l : Launch} {e : Env} {s : State} {m : MethodId} {args : Array Value} {below : List Frame} {meth : Method} {c : Code} {tw : Nat} {tt : Nat → Nat} (C0 : Cx p s m args meth c cX7_isRegister (some .boolean) 1 wsX7_isRegister RX7) (hT0 : tW tw tt (fun _ => False) s s.heap) {q : Int32} (x0 : Int32) (ls : Array Slot) (hl : lv_has ls 1 [(0, .int x0)]) (h : fn_X7_isRegister x0 = some q) : W p l e rm_X7_isRegister s m args below meth c s.heap [] 0 0 (MQ below (HQ (some (.int q))) args s 0 0 (fun _ => False)) (F0 m 0 ls []) := by
  obtain ⟨hx, hb, hr, hml, hown, hts, hlocks⟩ := id C0
  have hS : va_S (fun _ => False) s.heap s.heap [] := va_S.rf
  unfold fn_X7_isRegister at h
  refine lv_iload_n hx hb dX7_isRegister_0 rfl (lv_at hl 0 rfl) ?_
  refine lv_iconst (v := 0) hx hb dX7_isRegister_1 (by decide) ?_
  refine lv_bipush (v := 7) hx hb dX7_isRegister_2 (by decide) ?_
  obtain ⟨q4, e4, h⟩ := Option.bind_eq_some_iff.mp h
  refine hp_S (As := [.int x0, .int 0, .int 7]) (rest := []) ⟨hx, hb, hml, hown, hts⟩ (ct_X7_in l tw tt x0 0 7 e4) (va_cwS 3 hts gX7_isRegister_X7_in rfl rfl rfl (by decide +kernel) ⟨Nat.le_of_ble_eq_true rfl, Nat.le_of_ble_eq_true rfl⟩) GP.mv (GP.from hT0 hS) rfl hl.1 rfl (Nat.le_of_ble_eq_true rfl) dX7_isRegister_4 ⟨Nat.zero_le _, Nat.zero_le _⟩ ?_
  refine W.eq (g2 := F0 m 7 ls [.int q4]) rfl ?_
  obtain ⟨z7, ez7, hh⟩ := Option.bind_eq_some_iff.mp h
  have hz7 := zb_some ez7
  rw [hz7.1] at hh
  obtain rfl := Option.some.inj hh
  exact hp_zret hx hb hr hlocks hz7.2 dX7_isRegister_7
theorem ct_X7_isRegister (l : Launch) (tw : Nat) (tt : Nat → Nat) (x0 : Int32) {q : Int32} (h : fn_X7_isRegister x0 = some q) : Hp l yX7_isRegister wsX7_isRegister rm_X7_isRegister [.int x0] (GP tw tt) (some (.int q)) := by
  refine Hp.of (cc := cX7_isRegister) (nL := 1) (ret := (some .boolean)) (own := RX7) (by decide) rfl rfl (Nat.le_of_ble_eq_true rfl) ?_
  intro p e s m below meth c ls C0 hB hl
  exact wk_X7_isRegister C0 hB (hl := hl) (h := h)
abbrev rm_X7_isVariable : Room := { frames := 1, cells := 0, slots := 0, locals := 22 }
theorem lk_X7_isVariable_f7 : Cond.fieldLink RX7 7 "BooleanRingModel" "n" "I" ∈ wsX7_isVariable := by decide +kernel
theorem ly_X7_isVariable_X7 : ∀ w ∈ wsX70, w ∈ wsX7_isVariable := by decide +kernel
set_option maxHeartbeats 4000000 in
set_option maxRecDepth 100000 in
theorem wk_X7_isVariable {p : Program} {l : Launch} {e : Env} {s : State} {m : MethodId} {args : Array Value} {below : List Frame} {meth : Method} {c : Code} {D : va_G} {ca : Nat → ClassId} {b : Nat → Nat} {tw : Nat} {tt : Nat → Nat} (C0 : Cx p s m args meth c cX7_isVariable (some .boolean) 2 wsX7_isVariable RX7) (hK : va_K D vwCl (tys3 ca) s) (hT0 : tW tw tt (ad_of 6 b) s s.heap) (v : YS) (hP : va_P D vwCl (YW ca b v) s.heap) {q : Int32} (x1 : Int32) (ls : Array Slot) (hl : lv_has ls 2 [(0, .ref (b 0)), (1, .int x1)]) (h : fn_X7_isVariable v x1 = some q) : W p l e rm_X7_isVariable s m args below meth c s.heap [] 0 0 (MQ below (HQ (some (.int q))) args s 0 0 (fun _ => False)) (F0 m 0 ls []) := by
  obtain ⟨hx, hb, hr, hml, hown, hts, hlocks⟩ := id C0
  have hS : va_S (ad_of 6 b) s.heap s.heap [] := va_S.rf
  unfold fn_X7_isVariable at h
  refine lv_iload_n hx hb dX7_isVariable_0 rfl (lv_at hl 1 rfl) ?_
  refine lv_iconst (v := 0) hx hb dX7_isVariable_1 (by decide) ?_
  refine lv_aload_n hx hb dX7_isVariable_2 rfl (lv_at hl 0 rfl) ?_
  refine va_get (D := D) (ci := 4) (v := .int (y_n v)) (C := RX7) (T := TX7) (N := 9) hx hb hts ly_X7_isVariable_X7 hown hK hP 0 rfl rfl 0 (by decide) (hts _ lk_X7_isVariable_f7) (fun _ h9 => h9) rfl dX7_isVariable_3 ?_
  refine lv_iconst (v := 1) hx hb dX7_isVariable_6 (by decide) ?_
  refine lv_isub hx hb dX7_isVariable_7 ?_
  obtain ⟨q8, e8, h⟩ := Option.bind_eq_some_iff.mp h
  refine hp_S (As := [.int x1, .int 0, .int ((y_n v) - 1)]) (rest := []) ⟨hx, hb, hml, hown, hts⟩ (ct_X7_in l tw tt x1 0 ((y_n v) - 1) e8) (va_cwS 3 hts gX7_isVariable_X7_in rfl rfl rfl (by decide +kernel) ⟨Nat.le_of_ble_eq_true rfl, Nat.le_of_ble_eq_true rfl⟩) GP.mv (GP.from hT0 hS) rfl hl.1 rfl (Nat.le_of_ble_eq_true rfl) dX7_isVariable_8 ⟨Nat.zero_le _, Nat.zero_le _⟩ ?_
  refine W.eq (g2 := F0 m 11 ls [.int q8]) rfl ?_
  obtain ⟨z11, ez11, hh⟩ := Option.bind_eq_some_iff.mp h
  have hz11 := zb_some ez11
  rw [hz11.1] at hh
  obtain rfl := Option.some.inj hh
  exact hp_zret hx hb hr hlocks hz11.2 dX7_isVariable_11
theorem ct_X7_isVariable (l : Launch) (D : va_G) (ca : Nat → ClassId) (b : Nat → Nat) (tw : Nat) (tt : Nat → Nat) (v : YS) (x1 : Int32) {q : Int32} (h : fn_X7_isVariable v x1 = some q) : Hp l yX7_isVariable wsX7_isVariable rm_X7_isVariable [.ref (b 0), .int x1] (GW D ca tw tt (ad_of 6 b) (YW ca b v)) (some (.int q)) := by
  refine Hp.of (cc := cX7_isVariable) (nL := 2) (ret := (some .boolean)) (own := RX7) (by decide) rfl rfl (Nat.le_of_ble_eq_true rfl) ?_
  intro p e s m below meth c ls C0 hB hl
  exact wk_X7_isVariable C0 hB.2.1 hB.2.2 v hB.1 (hl := hl) (h := h)
abbrev rm_X7_isMask : Room := { frames := 1, cells := 0, slots := 0, locals := 22 }
theorem lk_X7_isMask_f7 : Cond.fieldLink RX7 7 "BooleanRingModel" "n" "I" ∈ wsX7_isMask := by decide +kernel
theorem ly_X7_isMask_X7 : ∀ w ∈ wsX70, w ∈ wsX7_isMask := by decide +kernel
set_option maxHeartbeats 4000000 in
set_option maxRecDepth 100000 in
theorem wk_X7_isMask {p : Program} {l : Launch} {e : Env} {s : State} {m : MethodId} {args : Array Value} {below : List Frame} {meth : Method} {c : Code} {D : va_G} {ca : Nat → ClassId} {b : Nat → Nat} {tw : Nat} {tt : Nat → Nat} (C0 : Cx p s m args meth c cX7_isMask (some .boolean) 2 wsX7_isMask RX7) (hK : va_K D vwCl (tys3 ca) s) (hT0 : tW tw tt (ad_of 6 b) s s.heap) (v : YS) (hP : va_P D vwCl (YW ca b v) s.heap) {q : Int32} (x1 : Int32) (ls : Array Slot) (hl : lv_has ls 2 [(0, .ref (b 0)), (1, .int x1)]) (h : fn_X7_isMask v x1 = some q) : W p l e rm_X7_isMask s m args below meth c s.heap [] 0 0 (MQ below (HQ (some (.int q))) args s 0 0 (fun _ => False)) (F0 m 0 ls []) := by
  obtain ⟨hx, hb, hr, hml, hown, hts, hlocks⟩ := id C0
  have hS : va_S (ad_of 6 b) s.heap s.heap [] := va_S.rf
  unfold fn_X7_isMask at h
  refine lv_iload_n hx hb dX7_isMask_0 rfl (lv_at hl 1 rfl) ?_
  refine lv_iconst (v := 0) hx hb dX7_isMask_1 (by decide) ?_
  refine lv_iconst (v := 1) hx hb dX7_isMask_2 (by decide) ?_
  refine lv_aload_n hx hb dX7_isMask_3 rfl (lv_at hl 0 rfl) ?_
  refine va_get (D := D) (ci := 4) (v := .int (y_n v)) (C := RX7) (T := TX7) (N := 9) hx hb hts ly_X7_isMask_X7 hown hK hP 0 rfl rfl 0 (by decide) (hts _ lk_X7_isMask_f7) (fun _ h9 => h9) rfl dX7_isMask_4 ?_
  refine lv_ishl hx hb dX7_isMask_7 ?_
  refine lv_iconst (v := 1) hx hb dX7_isMask_8 (by decide) ?_
  refine lv_isub hx hb dX7_isMask_9 ?_
  obtain ⟨q10, e10, h⟩ := Option.bind_eq_some_iff.mp h
  refine hp_S (As := [.int x1, .int 0, .int ((ish 1 (y_n v)) - 1)]) (rest := []) ⟨hx, hb, hml, hown, hts⟩ (ct_X7_in l tw tt x1 0 ((ish 1 (y_n v)) - 1) e10) (va_cwS 3 hts gX7_isMask_X7_in rfl rfl rfl (by decide +kernel) ⟨Nat.le_of_ble_eq_true rfl, Nat.le_of_ble_eq_true rfl⟩) GP.mv (GP.from hT0 hS) rfl hl.1 rfl (Nat.le_of_ble_eq_true rfl) dX7_isMask_10 ⟨Nat.zero_le _, Nat.zero_le _⟩ ?_
  refine W.eq (g2 := F0 m 13 ls [.int q10]) rfl ?_
  obtain ⟨z13, ez13, hh⟩ := Option.bind_eq_some_iff.mp h
  have hz13 := zb_some ez13
  rw [hz13.1] at hh
  obtain rfl := Option.some.inj hh
  exact hp_zret hx hb hr hlocks hz13.2 dX7_isMask_13
theorem ct_X7_isMask (l : Launch) (D : va_G) (ca : Nat → ClassId) (b : Nat → Nat) (tw : Nat) (tt : Nat → Nat) (v : YS) (x1 : Int32) {q : Int32} (h : fn_X7_isMask v x1 = some q) : Hp l yX7_isMask wsX7_isMask rm_X7_isMask [.ref (b 0), .int x1] (GW D ca tw tt (ad_of 6 b) (YW ca b v)) (some (.int q)) := by
  refine Hp.of (cc := cX7_isMask) (nL := 2) (ret := (some .boolean)) (own := RX7) (by decide) rfl rfl (Nat.le_of_ble_eq_true rfl) ?_
  intro p e s m below meth c ls C0 hB hl
  exact wk_X7_isMask C0 hB.2.1 hB.2.2 v hB.1 (hl := hl) (h := h)
abbrev rm_X7_isOrder : Room := { frames := 1, cells := 0, slots := 0, locals := 22 }
set_option maxHeartbeats 4000000 in
set_option maxRecDepth 100000 in
theorem wk_X7_isOrder {p : Program} {l : Launch} {e : Env} {s : State} {m : MethodId} {args : Array Value} {below : List Frame} {meth : Method} {c : Code} {tw : Nat} {tt : Nat → Nat} (C0 : Cx p s m args meth c cX7_isOrder (some .boolean) 1 wsX7_isOrder RX7) (hT0 : tW tw tt (fun _ => False) s s.heap) {q : Int32} (x0 : Int32) (ls : Array Slot) (hl : lv_has ls 1 [(0, .int x0)]) (h : fn_X7_isOrder x0 = some q) : W p l e rm_X7_isOrder s m args below meth c s.heap [] 0 0 (MQ below (HQ (some (.int q))) args s 0 0 (fun _ => False)) (F0 m 0 ls []) := by
  obtain ⟨hx, hb, hr, hml, hown, hts, hlocks⟩ := id C0
  have hS : va_S (fun _ => False) s.heap s.heap [] := va_S.rf
  unfold fn_X7_isOrder at h
  refine lv_iload_n hx hb dX7_isOrder_0 rfl (lv_at hl 0 rfl) ?_
  refine lv_iconst (v := 0) hx hb dX7_isOrder_1 (by decide) ?_
  refine lv_iconst (v := 2) hx hb dX7_isOrder_2 (by decide) ?_
  obtain ⟨q3, e3, h⟩ := Option.bind_eq_some_iff.mp h
  refine hp_S (As := [.int x0, .int 0, .int 2]) (rest := []) ⟨hx, hb, hml, hown, hts⟩ (ct_X7_in l tw tt x0 0 2 e3) (va_cwS 3 hts gX7_isOrder_X7_in rfl rfl rfl (by decide +kernel) ⟨Nat.le_of_ble_eq_true rfl, Nat.le_of_ble_eq_true rfl⟩) GP.mv (GP.from hT0 hS) rfl hl.1 rfl (Nat.le_of_ble_eq_true rfl) dX7_isOrder_3 ⟨Nat.zero_le _, Nat.zero_le _⟩ ?_
  refine W.eq (g2 := F0 m 6 ls [.int q3]) rfl ?_
  obtain ⟨z6, ez6, hh⟩ := Option.bind_eq_some_iff.mp h
  have hz6 := zb_some ez6
  rw [hz6.1] at hh
  obtain rfl := Option.some.inj hh
  exact hp_zret hx hb hr hlocks hz6.2 dX7_isOrder_6
theorem ct_X7_isOrder (l : Launch) (tw : Nat) (tt : Nat → Nat) (x0 : Int32) {q : Int32} (h : fn_X7_isOrder x0 = some q) : Hp l yX7_isOrder wsX7_isOrder rm_X7_isOrder [.int x0] (GP tw tt) (some (.int q)) := by
  refine Hp.of (cc := cX7_isOrder) (nL := 1) (ret := (some .boolean)) (own := RX7) (by decide) rfl rfl (Nat.le_of_ble_eq_true rfl) ?_
  intro p e s m below meth c ls C0 hB hl
  exact wk_X7_isOrder C0 hB (hl := hl) (h := h)
abbrev rm_X7_isSet : Room := { frames := 1, cells := 0, slots := 0, locals := 22 }
set_option maxHeartbeats 4000000 in
set_option maxRecDepth 100000 in
theorem wk_X7_isSet {p : Program} {l : Launch} {e : Env} {s : State} {m : MethodId} {args : Array Value} {below : List Frame} {meth : Method} {c : Code} {tw : Nat} {tt : Nat → Nat} (C0 : Cx p s m args meth c cX7_isSet (some .boolean) 1 wsX7_isSet RX7) (hT0 : tW tw tt (fun _ => False) s s.heap) {q : Int32} (x0 : Int32) (ls : Array Slot) (hl : lv_has ls 1 [(0, .int x0)]) (h : fn_X7_isSet x0 = some q) : W p l e rm_X7_isSet s m args below meth c s.heap [] 0 0 (MQ below (HQ (some (.int q))) args s 0 0 (fun _ => False)) (F0 m 0 ls []) := by
  obtain ⟨hx, hb, hr, hml, hown, hts, hlocks⟩ := id C0
  have hS : va_S (fun _ => False) s.heap s.heap [] := va_S.rf
  unfold fn_X7_isSet at h
  refine lv_iload_n hx hb dX7_isSet_0 rfl (lv_at hl 0 rfl) ?_
  refine lv_iconst (v := 0) hx hb dX7_isSet_1 (by decide) ?_
  refine lv_sipush (v := 255) hx hb dX7_isSet_2 (by decide) ?_
  obtain ⟨q5, e5, h⟩ := Option.bind_eq_some_iff.mp h
  refine hp_S (As := [.int x0, .int 0, .int 255]) (rest := []) ⟨hx, hb, hml, hown, hts⟩ (ct_X7_in l tw tt x0 0 255 e5) (va_cwS 3 hts gX7_isSet_X7_in rfl rfl rfl (by decide +kernel) ⟨Nat.le_of_ble_eq_true rfl, Nat.le_of_ble_eq_true rfl⟩) GP.mv (GP.from hT0 hS) rfl hl.1 rfl (Nat.le_of_ble_eq_true rfl) dX7_isSet_5 ⟨Nat.zero_le _, Nat.zero_le _⟩ ?_
  refine W.eq (g2 := F0 m 8 ls [.int q5]) rfl ?_
  obtain ⟨z8, ez8, hh⟩ := Option.bind_eq_some_iff.mp h
  have hz8 := zb_some ez8
  rw [hz8.1] at hh
  obtain rfl := Option.some.inj hh
  exact hp_zret hx hb hr hlocks hz8.2 dX7_isSet_8
theorem ct_X7_isSet (l : Launch) (tw : Nat) (tt : Nat → Nat) (x0 : Int32) {q : Int32} (h : fn_X7_isSet x0 = some q) : Hp l yX7_isSet wsX7_isSet rm_X7_isSet [.int x0] (GP tw tt) (some (.int q)) := by
  refine Hp.of (cc := cX7_isSet) (nL := 1) (ret := (some .boolean)) (own := RX7) (by decide) rfl rfl (Nat.le_of_ble_eq_true rfl) ?_
  intro p e s m below meth c ls C0 hB hl
  exact wk_X7_isSet C0 hB (hl := hl) (h := h)
abbrev rm_X7_has1 : Room := { frames := 0, cells := 0, slots := 0, locals := 0 }
set_option maxHeartbeats 4000000 in
set_option maxRecDepth 100000 in
theorem wk_X7_has1 {p : Program} {l : Launch} {e : Env} {s : State} {m : MethodId} {args : Array Value} {below : List Frame} {meth : Method} {c : Code} {tw : Nat} {tt : Nat → Nat} (C0 : Cx p s m args meth c cX7_has1 (some .boolean) 3 wsX7_has1 RX7) (hT0 : tW tw tt (fun _ => False) s s.heap) {q : Int32} (x0 : Int64) (x2 : Int32) (ls : Array Slot) (hl : lv_has ls 3 [(0, .long x0), (2, .int x2)]) (h : fn_X7_has1 x0 x2 = some q) : W p l e rm_X7_has1 s m args below meth c s.heap [] 0 0 (MQ below (HQ (some (.int q))) args s 0 0 (fun _ => False)) (F0 m 0 ls []) := by
  obtain ⟨hx, hb, hr, hml, hown, hts, hlocks⟩ := id C0
  have hS : va_S (fun _ => False) s.heap s.heap [] := va_S.rf
  unfold fn_X7_has1 at h
  refine lv_lload_n hx hb dX7_has1_0 rfl (lv_at hl 0 rfl) ?_
  refine lv_iload_n hx hb dX7_has1_1 rfl (lv_at hl 1 rfl) ?_
  refine lv_lshr (v := (lsr x0 x2)) hx hb dX7_has1_2 rfl ?_
  refine lv_lconst (v := 1) hx hb dX7_has1_3 (by decide) ?_
  refine lv_land hx hb dX7_has1_4 ?_
  refine lv_lconst (v := 1) hx hb dX7_has1_5 (by decide) ?_
  refine wl_ne (tgt := 14) hx hb dX7_has1_6 dX7_has1_7 (by decide) (fun c6 => ?_) (fun c6 => ?_)
  · replace h := ite_f h c6
    refine lv_iconst (v := 0) hx hb dX7_has1_14 (by decide) ?_
    obtain rfl := Option.some.inj h
    exact hp_zret hx hb hr hlocks rfl dX7_has1_15
  · replace h := ite_t h c6
    refine lv_iconst (v := 1) hx hb dX7_has1_10 (by decide) ?_
    refine lv_goto (tgt := 15) hx hb dX7_has1_11 (by decide) ?_
    obtain rfl := Option.some.inj h
    exact hp_zret hx hb hr hlocks rfl dX7_has1_15
theorem ct_X7_has1 (l : Launch) (tw : Nat) (tt : Nat → Nat) (x0 : Int64) (x2 : Int32) {q : Int32} (h : fn_X7_has1 x0 x2 = some q) : Hp l yX7_has1 wsX7_has1 rm_X7_has1 [.long x0, .int x2] (GP tw tt) (some (.int q)) := by
  refine Hp.of (cc := cX7_has1) (nL := 3) (ret := (some .boolean)) (own := RX7) (by decide) rfl rfl (Nat.le_of_ble_eq_true rfl) ?_
  intro p e s m below meth c ls C0 hB hl
  exact wk_X7_has1 C0 hB (hl := hl) (h := h)
abbrev rm_X7_many : Room := { frames := 0, cells := 0, slots := 0, locals := 0 }
set_option maxHeartbeats 4000000 in
set_option maxRecDepth 100000 in
theorem wk_X7_many_4_body {p : Program} {l : Launch} {e : Env} {s : State} {m : MethodId} {args : Array Value} {below : List Frame} {meth : Method} {c : Code} {tw : Nat} {tt : Nat → Nat} (C0 : Cx p s m args meth c cX7_many (some .int) 5 wsX7_many RX7) (hT0 : tW tw tt (fun _ => False) s s.heap) {q : Int32} (k4 : Int32 → Int64 → Option (Int32)) (hk4 : ∀ (x2 : Int32) (x3 : Int64) (ls : Array Slot) (hl : lv_has ls 5 [(2, .int x2), (3, .long x3)]) (h : k4 x2 x3 = some q), W p l e rm_X7_many s m args below meth c s.heap [] 0 0 (MQ below (HQ (some (.int q))) args s 0 0 (fun _ => False)) (F0 m 4 ls [])) (x2 : Int32) (x3 : Int64) (ls : Array Slot) (hl : lv_has ls 5 [(2, .int x2), (3, .long x3)]) (h : fn_X7_many_4_body k4 x2 x3 = some q) : W p l e rm_X7_many s m args below meth c s.heap [] 0 0 (MQ below (HQ (some (.int q))) args s 0 0 (fun _ => False)) (F0 m 4 ls []) := by
  obtain ⟨hx, hb, hr, hml, hown, hts, hlocks⟩ := id C0
  have hS : va_S (fun _ => False) s.heap s.heap [] := va_S.rf
  unfold fn_X7_many_4_body at h
  refine lv_lload_n hx hb dX7_many_4 rfl (lv_at hl 1 rfl) ?_
  refine lv_lconst (v := 0) hx hb dX7_many_5 (by decide) ?_
  refine wl_eq (tgt := 22) hx hb dX7_many_6 dX7_many_7 (by decide) (fun c6 => ?_) (fun c6 => ?_)
  · replace h := ite_t h c6
    refine lv_iload_n hx hb dX7_many_22 rfl (lv_at hl 0 rfl) ?_
    obtain rfl := Option.some.inj h
    exact hp_iret hx hb hr hlocks dX7_many_23
  · replace h := ite_f h c6
    refine lv_iinc (v := (x2 + 1)) (lv' := [(2, .int (x2 + 1)), (3, .long x3)]) hx hb dX7_many_10 hl (k := 0) rfl rfl (by decide) rfl (fun ls hl => ?_)
    refine lv_lload_n hx hb dX7_many_13 rfl (lv_at hl 1 rfl) ?_
    refine lv_lload_n hx hb dX7_many_14 rfl (lv_at hl 1 rfl) ?_
    refine lv_lconst (v := 1) hx hb dX7_many_15 (by decide) ?_
    refine lv_lsub hx hb dX7_many_16 ?_
    refine lv_land hx hb dX7_many_17 ?_
    refine lv_lstore_n (lv' := [(3, .long (x3 &&& (x3 - 1))), (2, .int (x2 + 1))]) hx hb dX7_many_18 rfl hl (by decide) rfl (fun ls hl => ?_)
    refine lv_goto (tgt := 4) hx hb dX7_many_19 (by decide) ?_
    exact hk4 (x2 + 1) (x3 &&& (x3 - 1)) ls (lv_sub hl [1, 0] rfl) h
set_option maxHeartbeats 4000000 in
set_option maxRecDepth 100000 in
theorem wk_X7_many_4 {p : Program} {l : Launch} {e : Env} {s : State} {m : MethodId} {args : Array Value} {below : List Frame} {meth : Method} {c : Code} {tw : Nat} {tt : Nat → Nat} (C0 : Cx p s m args meth c cX7_many (some .int) 5 wsX7_many RX7) (hT0 : tW tw tt (fun _ => False) s s.heap) {q : Int32} : ∀ (n : Nat) (x2 : Int32) (x3 : Int64) (ls : Array Slot) (hl : lv_has ls 5 [(2, .int x2), (3, .long x3)]) (h : fn_X7_many_4 n x2 x3 = some q), W p l e rm_X7_many s m args below meth c s.heap [] 0 0 (MQ below (HQ (some (.int q))) args s 0 0 (fun _ => False)) (F0 m 4 ls []) := by
  intro n
  induction n with
  | zero => intro x2 x3 ls hl h; unfold fn_X7_many_4 at h; cases h
  | succ n ih => intro x2 x3 ls hl h; exact wk_X7_many_4_body C0 hT0 (k4 := fn_X7_many_4 n) (hk4 := ih) (hl := hl) (h := h)
set_option maxHeartbeats 4000000 in
set_option maxRecDepth 100000 in
theorem wk_X7_many {p : Program} {l : Launch} {e : Env} {s : State} {m : MethodId} {args : Array Value} {below : List Frame} {meth : Method} {c : Code} {tw : Nat} {tt : Nat → Nat} (C0 : Cx p s m args meth c cX7_many (some .int) 5 wsX7_many RX7) (hT0 : tW tw tt (fun _ => False) s s.heap) {q : Int32} (x0 : Int64) (ls : Array Slot) (hl : lv_has ls 5 [(0, .long x0)]) (h : fn_X7_many x0 = some q) : W p l e rm_X7_many s m args below meth c s.heap [] 0 0 (MQ below (HQ (some (.int q))) args s 0 0 (fun _ => False)) (F0 m 0 ls []) := by
  obtain ⟨hx, hb, hr, hml, hown, hts, hlocks⟩ := id C0
  have hS : va_S (fun _ => False) s.heap s.heap [] := va_S.rf
  unfold fn_X7_many at h
  refine lv_iconst (v := 0) hx hb dX7_many_0 (by decide) ?_
  refine lv_istore_n (lv' := [(2, .int 0), (0, .long x0)]) hx hb dX7_many_1 rfl hl (by decide) rfl (fun ls hl => ?_)
  refine lv_lload_n hx hb dX7_many_2 rfl (lv_at hl 1 rfl) ?_
  refine lv_lstore_n (lv' := [(3, .long x0), (2, .int 0), (0, .long x0)]) hx hb dX7_many_3 rfl hl (by decide) rfl (fun ls hl => ?_)
  exact wk_X7_many_4 C0 hT0  FU 0 x0 ls (lv_sub hl [1, 0] rfl) h
theorem ct_X7_many (l : Launch) (tw : Nat) (tt : Nat → Nat) (x0 : Int64) {q : Int32} (h : fn_X7_many x0 = some q) : Hp l yX7_many wsX7_many rm_X7_many [.long x0] (GP tw tt) (some (.int q)) := by
  refine Hp.of (cc := cX7_many) (nL := 5) (ret := (some .int)) (own := RX7) (by decide) rfl rfl (Nat.le_of_ble_eq_true rfl) ?_
  intro p e s m below meth c ls C0 hB hl
  exact wk_X7_many C0 hB (hl := hl) (h := h)
abbrev rm_X7_records : Room := { frames := 0, cells := 0, slots := 0, locals := 0 }
theorem lk_X7_records_f34 : Cond.fieldLink RX7 34 "BooleanRingModel" "states" "I" ∈ wsX7_records := by decide +kernel
theorem lk_X7_records_f17 : Cond.fieldLink RX7 17 "BooleanRingModel" "was" "[J" ∈ wsX7_records := by decide +kernel
theorem lk_X7_records_f13 : Cond.fieldLink RX7 13 "BooleanRingModel" "p" "[J" ∈ wsX7_records := by decide +kernel
theorem ly_X7_records_X7 : ∀ w ∈ wsX70, w ∈ wsX7_records := by decide +kernel
set_option maxHeartbeats 4000000 in
set_option maxRecDepth 100000 in
theorem wk_X7_records_50_body {p : Program} {l : Launch} {e : Env} {s : State} {m : MethodId} {args : Array Value} {below : List Frame} {meth : Method} {c : Code} {D : va_G} {ca : Nat → ClassId} {b : Nat → Nat} {tw : Nat} {tt : Nat → Nat} (C0 : Cx p s m args meth c cX7_records none 2 wsX7_records RX7) (hap : ap_ok 6 b) (hK : va_K D vwCl (tys3 ca) s) (hT0 : tW tw tt (ad_of 6 b) s s.heap) {q : YS} (k50 : YS → Int32 → Option (YS)) (hk50 : ∀ (v : YS) (H : Heap) (locs : List Loc) (x1 : Int32) (ls : Array Slot) (hP : va_P D vwCl (YW ca b v) H) (hS : va_S (ad_of 6 b) s.heap H locs) (hl : lv_has ls 2 [(0, .ref (b 0)), (1, .int x1)]) (h : k50 v x1 = some q), W p l e rm_X7_records s m args below meth c H locs 0 0 (MQ below (PQ none (fun H => va_P D vwCl (YW ca b q) H) (ad_of 6 b)) args s 0 0 (ad_of 6 b)) (F0 m 50 ls [])) (v : YS) (H : Heap) (locs : List Loc) (x1 : Int32) (ls : Array Slot) (hP : va_P D vwCl (YW ca b v) H) (hS : va_S (ad_of 6 b) s.heap H locs) (hl : lv_has ls 2 [(0, .ref (b 0)), (1, .int x1)]) (h : fn_X7_records_50_body k50 v x1 = some q) : W p l e rm_X7_records s m args below meth c H locs 0 0 (MQ below (PQ none (fun H => va_P D vwCl (YW ca b q) H) (ad_of 6 b)) args s 0 0 (ad_of 6 b)) (F0 m 50 ls []) := by
  obtain ⟨hx, hb, hr, hml, hown, hts, hlocks⟩ := id C0
  have hD0 := fun v => YW_D (ca := ca) hap v
  unfold fn_X7_records_50_body at h
  refine lv_iload_n hx hb dX7_records_50 rfl (lv_at hl 1 rfl) ?_
  refine lv_bipush (v := 8) hx hb dX7_records_51 (by decide) ?_
  refine lv_icmp_ge (tgt := 82) hx hb dX7_records_53 (by decide) (fun c53 => ?_) (fun c53 => ?_)
  · replace h := ite_t h c53
    refine lv_aload_n hx hb dX7_records_82 rfl (lv_at hl 0 rfl) ?_
    refine lv_dup hx hb dX7_records_83 rfl ?_
    refine va_get (D := D) (ci := 4) (v := .int (y_states v)) (C := RX7) (T := TX7) (N := 9) hx hb hts ly_X7_records_X7 hown hK hP 0 rfl rfl 3 (by decide) (hts _ lk_X7_records_f34) (fun _ h9 => h9) rfl dX7_records_84 ?_
    refine lv_iconst (v := 1) hx hb dX7_records_87 (by decide) ?_
    refine lv_iadd hx hb dX7_records_88 ?_
    refine va_put (D := D) (ci := 4) (v := .int ((y_states v) + 1)) (ty := .int) (C := RX7) (T := TX7) (N := 9) hx hb hts ly_X7_records_X7 tyX7 tyX7_ok nmX7 hown hK hP (hD0 v) hS 0 rfl rfl 3 (by decide) (hts _ lk_X7_records_f34) (fun _ h9 => h9) rfl (by decide +kernel) rfl rfl (Nat.le_of_ble_eq_true rfl) dX7_records_89 (fun H locs hP _ hS => ?_)
    have hP : va_P D vwCl (YW ca b (ys_states v ((y_states v) + 1))) H := hP
    obtain rfl := Option.some.inj h
    exact mp_vret hx hb hr hlocks hP hS dX7_records_92
  · replace h := ite_f h c53
    refine lv_aload_n hx hb dX7_records_56 rfl (lv_at hl 0 rfl) ?_
    refine va_get (D := D) (ci := 4) (v := .ref (b 2)) (C := RX7) (T := TX7) (N := 9) hx hb hts ly_X7_records_X7 hown hK hP 0 rfl rfl 2 (by decide) (hts _ lk_X7_records_f17) (fun _ h9 => h9) rfl dX7_records_57 ?_
    refine lv_bipush (v := 8) hx hb dX7_records_60 (by decide) ?_
    refine lv_aload_n hx hb dX7_records_62 rfl (lv_at hl 0 rfl) ?_
    refine va_get (D := D) (ci := 4) (v := .int (y_states v)) (C := RX7) (T := TX7) (N := 9) hx hb hts ly_X7_records_X7 hown hK hP 0 rfl rfl 3 (by decide) (hts _ lk_X7_records_f34) (fun _ h9 => h9) rfl dX7_records_63 ?_
    refine lv_imul hx hb dX7_records_66 ?_
    refine lv_iload_n hx hb dX7_records_67 rfl (lv_at hl 1 rfl) ?_
    refine lv_iadd hx hb dX7_records_68 ?_
    refine lv_aload_n hx hb dX7_records_69 rfl (lv_at hl 0 rfl) ?_
    refine va_get (D := D) (ci := 4) (v := .ref (b 1)) (C := RX7) (T := TX7) (N := 9) hx hb hts ly_X7_records_X7 hown hK hP 0 rfl rfl 1 (by decide) (hts _ lk_X7_records_f13) (fun _ h9 => h9) rfl dX7_records_70 ?_
    refine lv_iload_n hx hb dX7_records_73 rfl (lv_at hl 1 rfl) ?_
    obtain ⟨q74, e74, h⟩ := Option.bind_eq_some_iff.mp h
    refine rd_lald hx hb hK hP 1 0 e74 rfl rfl dX7_records_74 ?_
    obtain ⟨g75, e75, h⟩ := Option.bind_eq_some_iff.mp h
    refine wr_last hx hb hK hP (hD0 v) hS 2 0 e75 rfl rfl dX7_records_75 (fun H locs hP hS => ?_)
    have hP : va_P D vwCl (YW ca b (ys_was v g75)) H := hP
    refine lv_iinc (v := (x1 + 1)) (lv' := [(1, .int (x1 + 1)), (0, .ref (b 0))]) hx hb dX7_records_76 hl (k := 1) rfl rfl (by decide) rfl (fun ls hl => ?_)
    refine lv_goto (tgt := 50) hx hb dX7_records_79 (by decide) ?_
    exact hk50 (ys_was v g75) H locs (x1 + 1) ls hP hS (lv_sub hl [1, 0] rfl) h
set_option maxHeartbeats 4000000 in
set_option maxRecDepth 100000 in
theorem wk_X7_records_50 {p : Program} {l : Launch} {e : Env} {s : State} {m : MethodId} {args : Array Value} {below : List Frame} {meth : Method} {c : Code} {D : va_G} {ca : Nat → ClassId} {b : Nat → Nat} {tw : Nat} {tt : Nat → Nat} (C0 : Cx p s m args meth c cX7_records none 2 wsX7_records RX7) (hap : ap_ok 6 b) (hK : va_K D vwCl (tys3 ca) s) (hT0 : tW tw tt (ad_of 6 b) s s.heap) {q : YS} : ∀ (n : Nat) (v : YS) (H : Heap) (locs : List Loc) (x1 : Int32) (ls : Array Slot) (hP : va_P D vwCl (YW ca b v) H) (hS : va_S (ad_of 6 b) s.heap H locs) (hl : lv_has ls 2 [(0, .ref (b 0)), (1, .int x1)]) (h : fn_X7_records_50 n v x1 = some q), W p l e rm_X7_records s m args below meth c H locs 0 0 (MQ below (PQ none (fun H => va_P D vwCl (YW ca b q) H) (ad_of 6 b)) args s 0 0 (ad_of 6 b)) (F0 m 50 ls []) := by
  intro n
  induction n with
  | zero => intro v H locs x1 ls hP hS hl h; unfold fn_X7_records_50 at h; cases h
  | succ n ih => intro v H locs x1 ls hP hS hl h; exact wk_X7_records_50_body C0 hap hK hT0 (k50 := fn_X7_records_50 n) (hk50 := ih) (hl := hl) (hP := hP) (hS := hS) (h := h)
set_option maxHeartbeats 4000000 in
set_option maxRecDepth 100000 in
theorem wk_X7_records_48 {p : Program} {l : Launch} {e : Env} {s : State} {m : MethodId} {args : Array Value} {below : List Frame} {meth : Method} {c : Code} {D : va_G} {ca : Nat → ClassId} {b : Nat → Nat} {tw : Nat} {tt : Nat → Nat} (C0 : Cx p s m args meth c cX7_records none 2 wsX7_records RX7) (hap : ap_ok 6 b) (hK : va_K D vwCl (tys3 ca) s) (hT0 : tW tw tt (ad_of 6 b) s s.heap) {q : YS} (v : YS) (H : Heap) (locs : List Loc) (ls : Array Slot) (hP : va_P D vwCl (YW ca b v) H) (hS : va_S (ad_of 6 b) s.heap H locs) (hl : lv_has ls 2 [(0, .ref (b 0))]) (h : fn_X7_records_48 v  = some q) : W p l e rm_X7_records s m args below meth c H locs 0 0 (MQ below (PQ none (fun H => va_P D vwCl (YW ca b q) H) (ad_of 6 b)) args s 0 0 (ad_of 6 b)) (F0 m 48 ls []) := by
  obtain ⟨hx, hb, hr, hml, hown, hts, hlocks⟩ := id C0
  have hD0 := fun v => YW_D (ca := ca) hap v
  unfold fn_X7_records_48 at h
  refine lv_iconst (v := 0) hx hb dX7_records_48 (by decide) ?_
  refine lv_istore_n (lv' := [(1, .int 0), (0, .ref (b 0))]) hx hb dX7_records_49 rfl hl (by decide) rfl (fun ls hl => ?_)
  exact wk_X7_records_50 C0 hap hK hT0  FU v H locs 0 ls hP hS (lv_sub hl [1, 0] rfl) h
set_option maxHeartbeats 4000000 in
set_option maxRecDepth 100000 in
theorem wk_X7_records_11_body {p : Program} {l : Launch} {e : Env} {s : State} {m : MethodId} {args : Array Value} {below : List Frame} {meth : Method} {c : Code} {D : va_G} {ca : Nat → ClassId} {b : Nat → Nat} {tw : Nat} {tt : Nat → Nat} (C0 : Cx p s m args meth c cX7_records none 2 wsX7_records RX7) (hap : ap_ok 6 b) (hK : va_K D vwCl (tys3 ca) s) (hT0 : tW tw tt (ad_of 6 b) s s.heap) {q : YS} (k11 : YS → Int32 → Option (YS)) (hk11 : ∀ (v : YS) (H : Heap) (locs : List Loc) (x1 : Int32) (ls : Array Slot) (hP : va_P D vwCl (YW ca b v) H) (hS : va_S (ad_of 6 b) s.heap H locs) (hl : lv_has ls 2 [(0, .ref (b 0)), (1, .int x1)]) (h : k11 v x1 = some q), W p l e rm_X7_records s m args below meth c H locs 0 0 (MQ below (PQ none (fun H => va_P D vwCl (YW ca b q) H) (ad_of 6 b)) args s 0 0 (ad_of 6 b)) (F0 m 11 ls [])) (v : YS) (H : Heap) (locs : List Loc) (x1 : Int32) (ls : Array Slot) (hP : va_P D vwCl (YW ca b v) H) (hS : va_S (ad_of 6 b) s.heap H locs) (hl : lv_has ls 2 [(0, .ref (b 0)), (1, .int x1)]) (h : fn_X7_records_11_body k11 v x1 = some q) : W p l e rm_X7_records s m args below meth c H locs 0 0 (MQ below (PQ none (fun H => va_P D vwCl (YW ca b q) H) (ad_of 6 b)) args s 0 0 (ad_of 6 b)) (F0 m 11 ls []) := by
  obtain ⟨hx, hb, hr, hml, hown, hts, hlocks⟩ := id C0
  have hD0 := fun v => YW_D (ca := ca) hap v
  unfold fn_X7_records_11_body at h
  refine lv_iload_n hx hb dX7_records_11 rfl (lv_at hl 1 rfl) ?_
  refine lv_bipush (v := 40) hx hb dX7_records_12 (by decide) ?_
  refine lv_icmp_ge (tgt := 38) hx hb dX7_records_14 (by decide) (fun c14 => ?_) (fun c14 => ?_)
  · replace h := ite_t h c14
    refine lv_aload_n hx hb dX7_records_38 rfl (lv_at hl 0 rfl) ?_
    refine lv_dup hx hb dX7_records_39 rfl ?_
    refine va_get (D := D) (ci := 4) (v := .int (y_states v)) (C := RX7) (T := TX7) (N := 9) hx hb hts ly_X7_records_X7 hown hK hP 0 rfl rfl 3 (by decide) (hts _ lk_X7_records_f34) (fun _ h9 => h9) rfl dX7_records_40 ?_
    refine lv_iconst (v := 1) hx hb dX7_records_43 (by decide) ?_
    refine lv_isub hx hb dX7_records_44 ?_
    refine va_put (D := D) (ci := 4) (v := .int ((y_states v) - 1)) (ty := .int) (C := RX7) (T := TX7) (N := 9) hx hb hts ly_X7_records_X7 tyX7 tyX7_ok nmX7 hown hK hP (hD0 v) hS 0 rfl rfl 3 (by decide) (hts _ lk_X7_records_f34) (fun _ h9 => h9) rfl (by decide +kernel) rfl rfl (Nat.le_of_ble_eq_true rfl) dX7_records_45 (fun H locs hP _ hS => ?_)
    have hP : va_P D vwCl (YW ca b (ys_states v ((y_states v) - 1))) H := hP
    exact wk_X7_records_48 C0 hap hK hT0 (ls := ls) (hP := hP) (hS := hS) (hl := (lv_sub hl [0] rfl)) (h := h)
  · replace h := ite_f h c14
    refine lv_aload_n hx hb dX7_records_17 rfl (lv_at hl 0 rfl) ?_
    refine va_get (D := D) (ci := 4) (v := .ref (b 2)) (C := RX7) (T := TX7) (N := 9) hx hb hts ly_X7_records_X7 hown hK hP 0 rfl rfl 2 (by decide) (hts _ lk_X7_records_f17) (fun _ h9 => h9) rfl dX7_records_18 ?_
    refine lv_iload_n hx hb dX7_records_21 rfl (lv_at hl 1 rfl) ?_
    refine lv_aload_n hx hb dX7_records_22 rfl (lv_at hl 0 rfl) ?_
    refine va_get (D := D) (ci := 4) (v := .ref (b 2)) (C := RX7) (T := TX7) (N := 9) hx hb hts ly_X7_records_X7 hown hK hP 0 rfl rfl 2 (by decide) (hts _ lk_X7_records_f17) (fun _ h9 => h9) rfl dX7_records_23 ?_
    refine lv_iload_n hx hb dX7_records_26 rfl (lv_at hl 1 rfl) ?_
    refine lv_bipush (v := 8) hx hb dX7_records_27 (by decide) ?_
    refine lv_iadd hx hb dX7_records_29 ?_
    obtain ⟨q30, e30, h⟩ := Option.bind_eq_some_iff.mp h
    refine rd_lald hx hb hK hP 2 0 e30 rfl rfl dX7_records_30 ?_
    obtain ⟨g31, e31, h⟩ := Option.bind_eq_some_iff.mp h
    refine wr_last hx hb hK hP (hD0 v) hS 2 0 e31 rfl rfl dX7_records_31 (fun H locs hP hS => ?_)
    have hP : va_P D vwCl (YW ca b (ys_was v g31)) H := hP
    refine lv_iinc (v := (x1 + 1)) (lv' := [(1, .int (x1 + 1)), (0, .ref (b 0))]) hx hb dX7_records_32 hl (k := 1) rfl rfl (by decide) rfl (fun ls hl => ?_)
    refine lv_goto (tgt := 11) hx hb dX7_records_35 (by decide) ?_
    exact hk11 (ys_was v g31) H locs (x1 + 1) ls hP hS (lv_sub hl [1, 0] rfl) h
set_option maxHeartbeats 4000000 in
set_option maxRecDepth 100000 in
theorem wk_X7_records_11 {p : Program} {l : Launch} {e : Env} {s : State} {m : MethodId} {args : Array Value} {below : List Frame} {meth : Method} {c : Code} {D : va_G} {ca : Nat → ClassId} {b : Nat → Nat} {tw : Nat} {tt : Nat → Nat} (C0 : Cx p s m args meth c cX7_records none 2 wsX7_records RX7) (hap : ap_ok 6 b) (hK : va_K D vwCl (tys3 ca) s) (hT0 : tW tw tt (ad_of 6 b) s s.heap) {q : YS} : ∀ (n : Nat) (v : YS) (H : Heap) (locs : List Loc) (x1 : Int32) (ls : Array Slot) (hP : va_P D vwCl (YW ca b v) H) (hS : va_S (ad_of 6 b) s.heap H locs) (hl : lv_has ls 2 [(0, .ref (b 0)), (1, .int x1)]) (h : fn_X7_records_11 n v x1 = some q), W p l e rm_X7_records s m args below meth c H locs 0 0 (MQ below (PQ none (fun H => va_P D vwCl (YW ca b q) H) (ad_of 6 b)) args s 0 0 (ad_of 6 b)) (F0 m 11 ls []) := by
  intro n
  induction n with
  | zero => intro v H locs x1 ls hP hS hl h; unfold fn_X7_records_11 at h; cases h
  | succ n ih => intro v H locs x1 ls hP hS hl h; exact wk_X7_records_11_body C0 hap hK hT0 (k11 := fn_X7_records_11 n) (hk11 := ih) (hl := hl) (hP := hP) (hS := hS) (h := h)
set_option maxHeartbeats 4000000 in
set_option maxRecDepth 100000 in
theorem wk_X7_records {p : Program} {l : Launch} {e : Env} {s : State} {m : MethodId} {args : Array Value} {below : List Frame} {meth : Method} {c : Code} {D : va_G} {ca : Nat → ClassId} {b : Nat → Nat} {tw : Nat} {tt : Nat → Nat} (C0 : Cx p s m args meth c cX7_records none 2 wsX7_records RX7) (hap : ap_ok 6 b) (hK : va_K D vwCl (tys3 ca) s) (hT0 : tW tw tt (ad_of 6 b) s s.heap) {q : YS} (v : YS) (H : Heap) (locs : List Loc) (ls : Array Slot) (hP : va_P D vwCl (YW ca b v) H) (hS : va_S (ad_of 6 b) s.heap H locs) (hl : lv_has ls 2 [(0, .ref (b 0))]) (h : fn_X7_records v  = some q) : W p l e rm_X7_records s m args below meth c H locs 0 0 (MQ below (PQ none (fun H => va_P D vwCl (YW ca b q) H) (ad_of 6 b)) args s 0 0 (ad_of 6 b)) (F0 m 0 ls []) := by
  obtain ⟨hx, hb, hr, hml, hown, hts, hlocks⟩ := id C0
  have hD0 := fun v => YW_D (ca := ca) hap v
  unfold fn_X7_records at h
  refine lv_aload_n hx hb dX7_records_0 rfl (lv_at hl 0 rfl) ?_
  refine va_get (D := D) (ci := 4) (v := .int (y_states v)) (C := RX7) (T := TX7) (N := 9) hx hb hts ly_X7_records_X7 hown hK hP 0 rfl rfl 3 (by decide) (hts _ lk_X7_records_f34) (fun _ h9 => h9) rfl dX7_records_1 ?_
  refine lv_bipush (v := 6) hx hb dX7_records_4 (by decide) ?_
  refine lv_icmp_ne (tgt := 48) hx hb dX7_records_6 (by decide) (fun c6 => ?_) (fun c6 => ?_)
  · replace h := ite_f h c6
    exact wk_X7_records_48 C0 hap hK hT0 (ls := ls) (hP := hP) (hS := hS) (hl := (lv_sub hl [0] rfl)) (h := h)
  · replace h := ite_t h c6
    refine lv_iconst (v := 0) hx hb dX7_records_9 (by decide) ?_
    refine lv_istore_n (lv' := [(1, .int 0), (0, .ref (b 0))]) hx hb dX7_records_10 rfl hl (by decide) rfl (fun ls hl => ?_)
    exact wk_X7_records_11 C0 hap hK hT0  FU v H locs 0 ls hP hS (lv_sub hl [1, 0] rfl) h
theorem ct_X7_records (l : Launch) (D : va_G) (ca : Nat → ClassId) (b : Nat → Nat) (tw : Nat) (tt : Nat → Nat) (hap : ap_ok 6 b) (v : YS) {q : YS} (h : fn_X7_records v  = some q) : Mp l yX7_records wsX7_records rm_X7_records [.ref (b 0)] (GW D ca tw tt (ad_of 6 b) (YW ca b v)) none (fun H => va_P D vwCl (YW ca b q) H) (ad_of 6 b) := by
  refine Mp.of (cc := cX7_records) (nL := 2) (ret := none) (own := RX7) (by decide) rfl rfl (Nat.le_of_ble_eq_true rfl) ?_
  intro p e s m below meth c ls C0 hB hl
  exact wk_X7_records C0 hap hB.2.1 hB.2.2 (hP := hB.1) (hS := va_S.rf) (hl := hl) (h := h)
abbrev rm_X7_gets : Room := { frames := 1, cells := 0, slots := 0, locals := 24 }
theorem lk_X7_gets_f13 : Cond.fieldLink RX7 13 "BooleanRingModel" "p" "[J" ∈ wsX7_gets := by decide +kernel
theorem ly_X7_gets_X7 : ∀ w ∈ wsX70, w ∈ wsX7_gets := by decide +kernel
set_option maxHeartbeats 4000000 in
set_option maxRecDepth 100000 in
theorem wk_X7_gets {p : Program} {l : Launch} {e : Env} {s : State} {m : MethodId} {args : Array Value} {below : List Frame} {meth : Method} {c : Code} {D : va_G} {ca : Nat → ClassId} {b : Nat → Nat} {tw : Nat} {tt : Nat → Nat} (C0 : Cx p s m args meth c cX7_gets (some .int) 4 wsX7_gets RX7) (hap : ap_ok 6 b) (hK : va_K D vwCl (tys3 ca) s) (hT0 : tW tw tt (ad_of 6 b) s s.heap) {q : Int32 × YS} (v : YS) (H : Heap) (locs : List Loc) (x1 : Int32) (x2 : Int64) (ls : Array Slot) (hP : va_P D vwCl (YW ca b v) H) (hS : va_S (ad_of 6 b) s.heap H locs) (hl : lv_has ls 4 [(0, .ref (b 0)), (1, .int x1), (2, .long x2)]) (h : fn_X7_gets v x1 x2 = some q) : W p l e rm_X7_gets s m args below meth c H locs 0 0 (MQ below (PQ (some (.int q.1)) (fun H => va_P D vwCl (YW ca b q.2) H) (ad_of 6 b)) args s 0 0 (ad_of 6 b)) (F0 m 0 ls []) := by
  obtain ⟨hx, hb, hr, hml, hown, hts, hlocks⟩ := id C0
  have hD0 := fun v => YW_D (ca := ca) hap v
  unfold fn_X7_gets at h
  refine lv_aload_n hx hb dX7_gets_0 rfl (lv_at hl 0 rfl) ?_
  obtain ⟨q1, e1, h⟩ := Option.bind_eq_some_iff.mp h
  refine mp_V (As := []) (rest := []) (b := (b 0)) ⟨hx, hb, hml, hown, hts⟩ (ct_X7_records l D ca b tw tt hap v  e1) (cwV 0 hts gX7_gets_X7_records rfl rfl rfl (by decide +kernel) ⟨Nat.le_of_ble_eq_true rfl, Nat.le_of_ble_eq_true rfl⟩) (va_recv hK hP (ci := 4) (q0 := 0) rfl rfl) GW.mv (GW.from hP hK hT0 hS) hS rfl hl.1 rfl (Nat.le_of_ble_eq_true rfl) dX7_gets_1 ⟨Nat.zero_le _, Nat.zero_le _⟩ (fun H locs hP hS => ?_)
  refine W.eq (g2 := F0 m 4 ls []) rfl ?_
  refine lv_aload_n hx hb dX7_gets_4 rfl (lv_at hl 0 rfl) ?_
  refine va_get (D := D) (ci := 4) (v := .ref (b 1)) (C := RX7) (T := TX7) (N := 9) hx hb hts ly_X7_gets_X7 hown hK hP 0 rfl rfl 1 (by decide) (hts _ lk_X7_gets_f13) (fun _ h9 => h9) rfl dX7_gets_5 ?_
  refine lv_iload_n hx hb dX7_gets_8 rfl (lv_at hl 1 rfl) ?_
  refine lv_lload_n hx hb dX7_gets_9 rfl (lv_at hl 2 rfl) ?_
  obtain ⟨g10, e10, h⟩ := Option.bind_eq_some_iff.mp h
  refine wr_last hx hb hK hP (hD0 q1) hS 1 0 e10 rfl rfl dX7_gets_10 (fun H locs hP hS => ?_)
  have hP : va_P D vwCl (YW ca b (ys_p q1 g10)) H := hP
  refine lv_lload_n hx hb dX7_gets_11 rfl (lv_at hl 2 rfl) ?_
  obtain ⟨q12, e12, h⟩ := Option.bind_eq_some_iff.mp h
  refine hp_S (As := [.long x2]) (rest := []) ⟨hx, hb, hml, hown, hts⟩ (ct_X7_many l tw tt x2 e12) (va_cwS 1 hts gX7_gets_X7_many rfl rfl rfl (by decide +kernel) ⟨Nat.le_of_ble_eq_true rfl, Nat.le_of_ble_eq_true rfl⟩) GP.mv (GP.from hT0 hS) rfl hl.1 rfl (Nat.le_of_ble_eq_true rfl) dX7_gets_12 ⟨Nat.zero_le _, Nat.zero_le _⟩ ?_
  refine W.eq (g2 := F0 m 15 ls [.int q12]) rfl ?_
  obtain rfl := Option.some.inj h
  exact mp_iret hx hb hr hlocks hP hS dX7_gets_15
theorem ct_X7_gets (l : Launch) (D : va_G) (ca : Nat → ClassId) (b : Nat → Nat) (tw : Nat) (tt : Nat → Nat) (hap : ap_ok 6 b) (v : YS) (x1 : Int32) (x2 : Int64) {q : Int32 × YS} (h : fn_X7_gets v x1 x2 = some q) : Mp l yX7_gets wsX7_gets rm_X7_gets [.ref (b 0), .int x1, .long x2] (GW D ca tw tt (ad_of 6 b) (YW ca b v)) (some (.int q.1)) (fun H => va_P D vwCl (YW ca b q.2) H) (ad_of 6 b) := by
  refine Mp.of (cc := cX7_gets) (nL := 4) (ret := (some .int)) (own := RX7) (by decide) rfl rfl (Nat.le_of_ble_eq_true rfl) ?_
  intro p e s m below meth c ls C0 hB hl
  exact wk_X7_gets C0 hap hB.2.1 hB.2.2 (hP := hB.1) (hS := va_S.rf) (hl := hl) (h := h)
abbrev rm_X7_product1 : Room := { frames := 1, cells := 0, slots := 0, locals := 22 }
theorem lk_X7_product1_f7 : Cond.fieldLink RX7 7 "BooleanRingModel" "n" "I" ∈ wsX7_product1 := by decide +kernel
theorem ly_X7_product1_X7 : ∀ w ∈ wsX70, w ∈ wsX7_product1 := by decide +kernel
set_option maxHeartbeats 4000000 in
set_option maxRecDepth 100000 in
theorem wk_X7_product1_62 {p : Program} {l : Launch} {e : Env} {s : State} {m : MethodId} {args : Array Value} {below : List Frame} {meth : Method} {c : Code} {D : va_G} {ca : Nat → ClassId} {b : Nat → Nat} {tw : Nat} {tt : Nat → Nat} (C0 : Cx p s m args meth c cX7_product1 (some .long) 9 wsX7_product1 RX7) (hK : va_K D vwCl (tys3 ca) s) (hT0 : tW tw tt (ad_of 6 b) s s.heap) (v : YS) (hP : va_P D vwCl (YW ca b v) s.heap) {q : Int64} (k20 : Int64 → Int64 → Int64 → Int32 → Int32 → Option (Int64)) (hk20 : ∀ (x1 : Int64) (x3 : Int64) (x5 : Int64) (x7 : Int32) (x8 : Int32) (ls : Array Slot) (hl : lv_has ls 9 [(0, .ref (b 0)), (1, .long x1), (3, .long x3), (5, .long x5), (7, .int x7), (8, .int x8)]) (h : k20 x1 x3 x5 x7 x8 = some q), W p l e rm_X7_product1 s m args below meth c s.heap [] 0 0 (MQ below (HQ (some (.long q))) args s 0 0 (fun _ => False)) (F0 m 20 ls [])) (x1 : Int64) (x3 : Int64) (x7 : Int32) (x8 : Int32) (y0 : Int64) (y1 : Int64) (ls : Array Slot) (hl : lv_has ls 9 [(0, .ref (b 0)), (1, .long x1), (3, .long x3), (7, .int x7), (8, .int x8)]) (h : fn_X7_product1_62 v k20 x1 x3 x7 x8 y0 y1 = some q) : W p l e rm_X7_product1 s m args below meth c s.heap [] 0 0 (MQ below (HQ (some (.long q))) args s 0 0 (fun _ => False)) (F0 m 62 ls [.long y0, .long y1]) := by
  obtain ⟨hx, hb, hr, hml, hown, hts, hlocks⟩ := id C0
  have hS : va_S (ad_of 6 b) s.heap s.heap [] := va_S.rf
  unfold fn_X7_product1_62 at h
  refine lv_lxor hx hb dX7_product1_62 ?_
  refine lv_lstore (lv' := [(5, .long (y1 ^^^ y0)), (0, .ref (b 0)), (1, .long x1), (3, .long x3), (7, .int x7), (8, .int x8)]) hx hb dX7_product1_63 hl (by decide) rfl (fun ls hl => ?_)
  refine lv_iinc (v := (x8 + 1)) (lv' := [(8, .int (x8 + 1)), (5, .long (y1 ^^^ y0)), (0, .ref (b 0)), (1, .long x1), (3, .long x3), (7, .int x7)]) hx hb dX7_product1_65 hl (k := 5) rfl rfl (by decide) rfl (fun ls hl => ?_)
  refine lv_goto (tgt := 20) hx hb dX7_product1_68 (by decide) ?_
  exact hk20 x1 x3 (y1 ^^^ y0) x7 (x8 + 1) ls (lv_sub hl [2, 3, 4, 1, 5, 0] rfl) h
set_option maxHeartbeats 4000000 in
set_option maxRecDepth 100000 in
theorem wk_X7_product1_20_body {p : Program} {l : Launch} {e : Env} {s : State} {m : MethodId} {args : Array Value} {below : List Frame} {meth : Method} {c : Code} {D : va_G} {ca : Nat → ClassId} {b : Nat → Nat} {tw : Nat} {tt : Nat → Nat} (C0 : Cx p s m args meth c cX7_product1 (some .long) 9 wsX7_product1 RX7) (hK : va_K D vwCl (tys3 ca) s) (hT0 : tW tw tt (ad_of 6 b) s s.heap) (v : YS) (hP : va_P D vwCl (YW ca b v) s.heap) {q : Int64} (k6 : Int64 → Int64 → Int64 → Int32 → Option (Int64)) (k20 : Int64 → Int64 → Int64 → Int32 → Int32 → Option (Int64)) (hk6 : ∀ (x1 : Int64) (x3 : Int64) (x5 : Int64) (x7 : Int32) (ls : Array Slot) (hl : lv_has ls 9 [(0, .ref (b 0)), (1, .long x1), (3, .long x3), (5, .long x5), (7, .int x7)]) (h : k6 x1 x3 x5 x7 = some q), W p l e rm_X7_product1 s m args below meth c s.heap [] 0 0 (MQ below (HQ (some (.long q))) args s 0 0 (fun _ => False)) (F0 m 6 ls [])) (hk20 : ∀ (x1 : Int64) (x3 : Int64) (x5 : Int64) (x7 : Int32) (x8 : Int32) (ls : Array Slot) (hl : lv_has ls 9 [(0, .ref (b 0)), (1, .long x1), (3, .long x3), (5, .long x5), (7, .int x7), (8, .int x8)]) (h : k20 x1 x3 x5 x7 x8 = some q), W p l e rm_X7_product1 s m args below meth c s.heap [] 0 0 (MQ below (HQ (some (.long q))) args s 0 0 (fun _ => False)) (F0 m 20 ls [])) (x1 : Int64) (x3 : Int64) (x5 : Int64) (x7 : Int32) (x8 : Int32) (ls : Array Slot) (hl : lv_has ls 9 [(0, .ref (b 0)), (1, .long x1), (3, .long x3), (5, .long x5), (7, .int x7), (8, .int x8)]) (h : fn_X7_product1_20_body v k6 k20 x1 x3 x5 x7 x8 = some q) : W p l e rm_X7_product1 s m args below meth c s.heap [] 0 0 (MQ below (HQ (some (.long q))) args s 0 0 (fun _ => False)) (F0 m 20 ls []) := by
  obtain ⟨hx, hb, hr, hml, hown, hts, hlocks⟩ := id C0
  have hS : va_S (ad_of 6 b) s.heap s.heap [] := va_S.rf
  unfold fn_X7_product1_20_body at h
  refine lv_iload hx hb dX7_product1_20 (lv_at hl 5 rfl) ?_
  refine lv_iconst (v := 1) hx hb dX7_product1_22 (by decide) ?_
  refine lv_aload_n hx hb dX7_product1_23 rfl (lv_at hl 0 rfl) ?_
  refine va_get (D := D) (ci := 4) (v := .int (y_n v)) (C := RX7) (T := TX7) (N := 9) hx hb hts ly_X7_product1_X7 hown hK hP 0 rfl rfl 0 (by decide) (hts _ lk_X7_product1_f7) (fun _ h9 => h9) rfl dX7_product1_24 ?_
  refine lv_ishl hx hb dX7_product1_27 ?_
  refine lv_icmp_ge (tgt := 71) hx hb dX7_product1_28 (by decide) (fun c28 => ?_) (fun c28 => ?_)
  · replace h := ite_t h c28
    refine lv_iinc (v := (x7 + 1)) (lv' := [(7, .int (x7 + 1)), (0, .ref (b 0)), (1, .long x1), (3, .long x3), (5, .long x5), (8, .int x8)]) hx hb dX7_product1_71 hl (k := 4) rfl rfl (by decide) rfl (fun ls hl => ?_)
    refine lv_goto (tgt := 6) hx hb dX7_product1_74 (by decide) ?_
    exact hk6 x1 x3 x5 (x7 + 1) ls (lv_sub hl [1, 2, 3, 4, 0] rfl) h
  · replace h := ite_f h c28
    refine lv_lload_n hx hb dX7_product1_31 rfl (lv_at hl 1 rfl) ?_
    refine lv_iload hx hb dX7_product1_32 (lv_at hl 4 rfl) ?_
    obtain ⟨q34, e34, h⟩ := Option.bind_eq_some_iff.mp h
    refine hp_S (As := [.long x1, .int x7]) (rest := []) ⟨hx, hb, hml, hown, hts⟩ (ct_X7_has1 l tw tt x1 x7 e34) (va_cwS 2 hts gX7_product1_X7_has1 rfl rfl rfl (by decide +kernel) ⟨Nat.le_of_ble_eq_true rfl, Nat.le_of_ble_eq_true rfl⟩) GP.mv (GP.from hT0 hS) rfl hl.1 rfl (Nat.le_of_ble_eq_true rfl) dX7_product1_34 ⟨Nat.zero_le _, Nat.zero_le _⟩ ?_
    refine W.eq (g2 := F0 m 37 ls [.int q34]) rfl ?_
    refine lv_if_eq (tgt := 71) hx hb dX7_product1_37 (by decide) (fun c37 => ?_) (fun c37 => ?_)
    · replace h := ite_t h c37
      refine lv_iinc (v := (x7 + 1)) (lv' := [(7, .int (x7 + 1)), (0, .ref (b 0)), (1, .long x1), (3, .long x3), (5, .long x5), (8, .int x8)]) hx hb dX7_product1_71 hl (k := 4) rfl rfl (by decide) rfl (fun ls hl => ?_)
      refine lv_goto (tgt := 6) hx hb dX7_product1_74 (by decide) ?_
      exact hk6 x1 x3 x5 (x7 + 1) ls (lv_sub hl [1, 2, 3, 4, 0] rfl) h
    · replace h := ite_f h c37
      refine lv_lload hx hb dX7_product1_40 (lv_at hl 3 rfl) ?_
      refine lv_lload_n hx hb dX7_product1_42 rfl (lv_at hl 2 rfl) ?_
      refine lv_iload hx hb dX7_product1_43 (lv_at hl 5 rfl) ?_
      obtain ⟨q45, e45, h⟩ := Option.bind_eq_some_iff.mp h
      refine hp_S (As := [.long x3, .int x8]) (rest := [.long x5]) ⟨hx, hb, hml, hown, hts⟩ (ct_X7_has1 l tw tt x3 x8 e45) (va_cwS 2 hts gX7_product1_X7_has1 rfl rfl rfl (by decide +kernel) ⟨Nat.le_of_ble_eq_true rfl, Nat.le_of_ble_eq_true rfl⟩) GP.mv (GP.from hT0 hS) rfl hl.1 rfl (Nat.le_of_ble_eq_true rfl) dX7_product1_45 ⟨Nat.zero_le _, Nat.zero_le _⟩ ?_
      refine W.eq (g2 := F0 m 48 ls [.int q45, .long x5]) rfl ?_
      refine lv_if_eq (tgt := 61) hx hb dX7_product1_48 (by decide) (fun c48 => ?_) (fun c48 => ?_)
      · replace h := ite_t h c48
        refine lv_lconst (v := 0) hx hb dX7_product1_61 (by decide) ?_
        exact wk_X7_product1_62 C0 hK hT0 v hP (k20 := k20) (hk20 := hk20) (ls := ls) (hl := (lv_sub hl [0, 1, 2, 4, 5] rfl)) (h := h)
      · replace h := ite_f h c48
        refine lv_lconst (v := 1) hx hb dX7_product1_51 (by decide) ?_
        refine lv_iload hx hb dX7_product1_52 (lv_at hl 4 rfl) ?_
        refine lv_iload hx hb dX7_product1_54 (lv_at hl 5 rfl) ?_
        refine lv_ior hx hb dX7_product1_56 ?_
        refine lv_lshl (v := (lsh 1 (x7 ||| x8))) hx hb dX7_product1_57 rfl ?_
        refine lv_goto (tgt := 62) hx hb dX7_product1_58 (by decide) ?_
        exact wk_X7_product1_62 C0 hK hT0 v hP (k20 := k20) (hk20 := hk20) (ls := ls) (hl := (lv_sub hl [0, 1, 2, 4, 5] rfl)) (h := h)
set_option maxHeartbeats 4000000 in
set_option maxRecDepth 100000 in
theorem wk_X7_product1_20 {p : Program} {l : Launch} {e : Env} {s : State} {m : MethodId} {args : Array Value} {below : List Frame} {meth : Method} {c : Code} {D : va_G} {ca : Nat → ClassId} {b : Nat → Nat} {tw : Nat} {tt : Nat → Nat} (C0 : Cx p s m args meth c cX7_product1 (some .long) 9 wsX7_product1 RX7) (hK : va_K D vwCl (tys3 ca) s) (hT0 : tW tw tt (ad_of 6 b) s s.heap) (v : YS) (hP : va_P D vwCl (YW ca b v) s.heap) {q : Int64} (k6 : Int64 → Int64 → Int64 → Int32 → Option (Int64)) (hk6 : ∀ (x1 : Int64) (x3 : Int64) (x5 : Int64) (x7 : Int32) (ls : Array Slot) (hl : lv_has ls 9 [(0, .ref (b 0)), (1, .long x1), (3, .long x3), (5, .long x5), (7, .int x7)]) (h : k6 x1 x3 x5 x7 = some q), W p l e rm_X7_product1 s m args below meth c s.heap [] 0 0 (MQ below (HQ (some (.long q))) args s 0 0 (fun _ => False)) (F0 m 6 ls [])) : ∀ (n : Nat) (x1 : Int64) (x3 : Int64) (x5 : Int64) (x7 : Int32) (x8 : Int32) (ls : Array Slot) (hl : lv_has ls 9 [(0, .ref (b 0)), (1, .long x1), (3, .long x3), (5, .long x5), (7, .int x7), (8, .int x8)]) (h : fn_X7_product1_20 v k6 n x1 x3 x5 x7 x8 = some q), W p l e rm_X7_product1 s m args below meth c s.heap [] 0 0 (MQ below (HQ (some (.long q))) args s 0 0 (fun _ => False)) (F0 m 20 ls []) := by
  intro n
  induction n with
  | zero => intro x1 x3 x5 x7 x8 ls hl h; unfold fn_X7_product1_20 at h; cases h
  | succ n ih => intro x1 x3 x5 x7 x8 ls hl h; exact wk_X7_product1_20_body C0 hK hT0 v hP (k6 := k6) (hk6 := hk6) (k20 := fn_X7_product1_20 v k6 n) (hk20 := ih) (hl := hl) (h := h)
set_option maxHeartbeats 4000000 in
set_option maxRecDepth 100000 in
theorem wk_X7_product1_6_body {p : Program} {l : Launch} {e : Env} {s : State} {m : MethodId} {args : Array Value} {below : List Frame} {meth : Method} {c : Code} {D : va_G} {ca : Nat → ClassId} {b : Nat → Nat} {tw : Nat} {tt : Nat → Nat} (C0 : Cx p s m args meth c cX7_product1 (some .long) 9 wsX7_product1 RX7) (hK : va_K D vwCl (tys3 ca) s) (hT0 : tW tw tt (ad_of 6 b) s s.heap) (v : YS) (hP : va_P D vwCl (YW ca b v) s.heap) {q : Int64} (k6 : Int64 → Int64 → Int64 → Int32 → Option (Int64)) (hk6 : ∀ (x1 : Int64) (x3 : Int64) (x5 : Int64) (x7 : Int32) (ls : Array Slot) (hl : lv_has ls 9 [(0, .ref (b 0)), (1, .long x1), (3, .long x3), (5, .long x5), (7, .int x7)]) (h : k6 x1 x3 x5 x7 = some q), W p l e rm_X7_product1 s m args below meth c s.heap [] 0 0 (MQ below (HQ (some (.long q))) args s 0 0 (fun _ => False)) (F0 m 6 ls [])) (x1 : Int64) (x3 : Int64) (x5 : Int64) (x7 : Int32) (ls : Array Slot) (hl : lv_has ls 9 [(0, .ref (b 0)), (1, .long x1), (3, .long x3), (5, .long x5), (7, .int x7)]) (h : fn_X7_product1_6_body v k6 x1 x3 x5 x7 = some q) : W p l e rm_X7_product1 s m args below meth c s.heap [] 0 0 (MQ below (HQ (some (.long q))) args s 0 0 (fun _ => False)) (F0 m 6 ls []) := by
  obtain ⟨hx, hb, hr, hml, hown, hts, hlocks⟩ := id C0
  have hS : va_S (ad_of 6 b) s.heap s.heap [] := va_S.rf
  unfold fn_X7_product1_6_body at h
  refine lv_iload hx hb dX7_product1_6 (lv_at hl 4 rfl) ?_
  refine lv_iconst (v := 1) hx hb dX7_product1_8 (by decide) ?_
  refine lv_aload_n hx hb dX7_product1_9 rfl (lv_at hl 0 rfl) ?_
  refine va_get (D := D) (ci := 4) (v := .int (y_n v)) (C := RX7) (T := TX7) (N := 9) hx hb hts ly_X7_product1_X7 hown hK hP 0 rfl rfl 0 (by decide) (hts _ lk_X7_product1_f7) (fun _ h9 => h9) rfl dX7_product1_10 ?_
  refine lv_ishl hx hb dX7_product1_13 ?_
  refine lv_icmp_ge (tgt := 77) hx hb dX7_product1_14 (by decide) (fun c14 => ?_) (fun c14 => ?_)
  · replace h := ite_t h c14
    refine lv_lload hx hb dX7_product1_77 (lv_at hl 3 rfl) ?_
    obtain rfl := Option.some.inj h
    exact hp_lret hx hb hr hlocks dX7_product1_79
  · replace h := ite_f h c14
    refine lv_iconst (v := 0) hx hb dX7_product1_17 (by decide) ?_
    refine lv_istore (lv' := [(8, .int 0), (0, .ref (b 0)), (1, .long x1), (3, .long x3), (5, .long x5), (7, .int x7)]) hx hb dX7_product1_18 hl (by decide) rfl (fun ls hl => ?_)
    exact wk_X7_product1_20 C0 hK hT0 v hP (k6 := k6) (hk6 := hk6)  FU x1 x3 x5 x7 0 ls (lv_sub hl [1, 2, 3, 4, 5, 0] rfl) h
set_option maxHeartbeats 4000000 in
set_option maxRecDepth 100000 in
theorem wk_X7_product1_6 {p : Program} {l : Launch} {e : Env} {s : State} {m : MethodId} {args : Array Value} {below : List Frame} {meth : Method} {c : Code} {D : va_G} {ca : Nat → ClassId} {b : Nat → Nat} {tw : Nat} {tt : Nat → Nat} (C0 : Cx p s m args meth c cX7_product1 (some .long) 9 wsX7_product1 RX7) (hK : va_K D vwCl (tys3 ca) s) (hT0 : tW tw tt (ad_of 6 b) s s.heap) (v : YS) (hP : va_P D vwCl (YW ca b v) s.heap) {q : Int64} : ∀ (n : Nat) (x1 : Int64) (x3 : Int64) (x5 : Int64) (x7 : Int32) (ls : Array Slot) (hl : lv_has ls 9 [(0, .ref (b 0)), (1, .long x1), (3, .long x3), (5, .long x5), (7, .int x7)]) (h : fn_X7_product1_6 v n x1 x3 x5 x7 = some q), W p l e rm_X7_product1 s m args below meth c s.heap [] 0 0 (MQ below (HQ (some (.long q))) args s 0 0 (fun _ => False)) (F0 m 6 ls []) := by
  intro n
  induction n with
  | zero => intro x1 x3 x5 x7 ls hl h; unfold fn_X7_product1_6 at h; cases h
  | succ n ih => intro x1 x3 x5 x7 ls hl h; exact wk_X7_product1_6_body C0 hK hT0 v hP (k6 := fn_X7_product1_6 v n) (hk6 := ih) (hl := hl) (h := h)
set_option maxHeartbeats 4000000 in
set_option maxRecDepth 100000 in
theorem wk_X7_product1 {p : Program} {l : Launch} {e : Env} {s : State} {m : MethodId} {args : Array Value} {below : List Frame} {meth : Method} {c : Code} {D : va_G} {ca : Nat → ClassId} {b : Nat → Nat} {tw : Nat} {tt : Nat → Nat} (C0 : Cx p s m args meth c cX7_product1 (some .long) 9 wsX7_product1 RX7) (hK : va_K D vwCl (tys3 ca) s) (hT0 : tW tw tt (ad_of 6 b) s s.heap) (v : YS) (hP : va_P D vwCl (YW ca b v) s.heap) {q : Int64} (x1 : Int64) (x3 : Int64) (ls : Array Slot) (hl : lv_has ls 9 [(0, .ref (b 0)), (1, .long x1), (3, .long x3)]) (h : fn_X7_product1 v x1 x3 = some q) : W p l e rm_X7_product1 s m args below meth c s.heap [] 0 0 (MQ below (HQ (some (.long q))) args s 0 0 (fun _ => False)) (F0 m 0 ls []) := by
  obtain ⟨hx, hb, hr, hml, hown, hts, hlocks⟩ := id C0
  have hS : va_S (ad_of 6 b) s.heap s.heap [] := va_S.rf
  unfold fn_X7_product1 at h
  refine lv_lconst (v := 0) hx hb dX7_product1_0 (by decide) ?_
  refine lv_lstore (lv' := [(5, .long 0), (0, .ref (b 0)), (1, .long x1), (3, .long x3)]) hx hb dX7_product1_1 hl (by decide) rfl (fun ls hl => ?_)
  refine lv_iconst (v := 0) hx hb dX7_product1_3 (by decide) ?_
  refine lv_istore (lv' := [(7, .int 0), (5, .long 0), (0, .ref (b 0)), (1, .long x1), (3, .long x3)]) hx hb dX7_product1_4 hl (by decide) rfl (fun ls hl => ?_)
  exact wk_X7_product1_6 C0 hK hT0 v hP  FU x1 x3 0 0 ls (lv_sub hl [2, 3, 4, 1, 0] rfl) h
theorem ct_X7_product1 (l : Launch) (D : va_G) (ca : Nat → ClassId) (b : Nat → Nat) (tw : Nat) (tt : Nat → Nat) (v : YS) (x1 : Int64) (x3 : Int64) {q : Int64} (h : fn_X7_product1 v x1 x3 = some q) : Hp l yX7_product1 wsX7_product1 rm_X7_product1 [.ref (b 0), .long x1, .long x3] (GW D ca tw tt (ad_of 6 b) (YW ca b v)) (some (.long q)) := by
  refine Hp.of (cc := cX7_product1) (nL := 9) (ret := (some .long)) (own := RX7) (by decide) rfl rfl (Nat.le_of_ble_eq_true rfl) ?_
  intro p e s m below meth c ls C0 hB hl
  exact wk_X7_product1 C0 hB.2.1 hB.2.2 v hB.1 (hl := hl) (h := h)
abbrev rm_X7_upper : Room := { frames := 1, cells := 0, slots := 0, locals := 22 }
theorem lk_X7_upper_f7 : Cond.fieldLink RX7 7 "BooleanRingModel" "n" "I" ∈ wsX7_upper := by decide +kernel
theorem ly_X7_upper_X7 : ∀ w ∈ wsX70, w ∈ wsX7_upper := by decide +kernel
set_option maxHeartbeats 4000000 in
set_option maxRecDepth 100000 in
theorem wk_X7_upper_50 {p : Program} {l : Launch} {e : Env} {s : State} {m : MethodId} {args : Array Value} {below : List Frame} {meth : Method} {c : Code} {D : va_G} {ca : Nat → ClassId} {b : Nat → Nat} {tw : Nat} {tt : Nat → Nat} (C0 : Cx p s m args meth c cX7_upper (some .long) 7 wsX7_upper RX7) (hK : va_K D vwCl (tys3 ca) s) (hT0 : tW tw tt (ad_of 6 b) s s.heap) (v : YS) (hP : va_P D vwCl (YW ca b v) s.heap) {q : Int64} (k6 : Int64 → Int32 → Int64 → Int32 → Option (Int64)) (hk6 : ∀ (x1 : Int64) (x3 : Int32) (x4 : Int64) (x6 : Int32) (ls : Array Slot) (hl : lv_has ls 7 [(0, .ref (b 0)), (1, .long x1), (3, .int x3), (4, .long x4), (6, .int x6)]) (h : k6 x1 x3 x4 x6 = some q), W p l e rm_X7_upper s m args below meth c s.heap [] 0 0 (MQ below (HQ (some (.long q))) args s 0 0 (fun _ => False)) (F0 m 6 ls [])) (x1 : Int64) (x3 : Int32) (x6 : Int32) (y0 : Int64) (y1 : Int64) (ls : Array Slot) (hl : lv_has ls 7 [(0, .ref (b 0)), (1, .long x1), (3, .int x3), (6, .int x6)]) (h : fn_X7_upper_50 v k6 x1 x3 x6 y0 y1 = some q) : W p l e rm_X7_upper s m args below meth c s.heap [] 0 0 (MQ below (HQ (some (.long q))) args s 0 0 (fun _ => False)) (F0 m 50 ls [.long y0, .long y1]) := by
  obtain ⟨hx, hb, hr, hml, hown, hts, hlocks⟩ := id C0
  have hS : va_S (ad_of 6 b) s.heap s.heap [] := va_S.rf
  unfold fn_X7_upper_50 at h
  refine lv_lor hx hb dX7_upper_50 ?_
  refine lv_lstore (lv' := [(4, .long (y1 ||| y0)), (0, .ref (b 0)), (1, .long x1), (3, .int x3), (6, .int x6)]) hx hb dX7_upper_51 hl (by decide) rfl (fun ls hl => ?_)
  refine lv_iinc (v := (x6 + 1)) (lv' := [(6, .int (x6 + 1)), (4, .long (y1 ||| y0)), (0, .ref (b 0)), (1, .long x1), (3, .int x3)]) hx hb dX7_upper_53 hl (k := 4) rfl rfl (by decide) rfl (fun ls hl => ?_)
  refine lv_goto (tgt := 6) hx hb dX7_upper_56 (by decide) ?_
  exact hk6 x1 x3 (y1 ||| y0) (x6 + 1) ls (lv_sub hl [2, 3, 4, 1, 0] rfl) h
set_option maxHeartbeats 4000000 in
set_option maxRecDepth 100000 in
theorem wk_X7_upper_49 {p : Program} {l : Launch} {e : Env} {s : State} {m : MethodId} {args : Array Value} {below : List Frame} {meth : Method} {c : Code} {D : va_G} {ca : Nat → ClassId} {b : Nat → Nat} {tw : Nat} {tt : Nat → Nat} (C0 : Cx p s m args meth c cX7_upper (some .long) 7 wsX7_upper RX7) (hK : va_K D vwCl (tys3 ca) s) (hT0 : tW tw tt (ad_of 6 b) s s.heap) (v : YS) (hP : va_P D vwCl (YW ca b v) s.heap) {q : Int64} (k6 : Int64 → Int32 → Int64 → Int32 → Option (Int64)) (hk6 : ∀ (x1 : Int64) (x3 : Int32) (x4 : Int64) (x6 : Int32) (ls : Array Slot) (hl : lv_has ls 7 [(0, .ref (b 0)), (1, .long x1), (3, .int x3), (4, .long x4), (6, .int x6)]) (h : k6 x1 x3 x4 x6 = some q), W p l e rm_X7_upper s m args below meth c s.heap [] 0 0 (MQ below (HQ (some (.long q))) args s 0 0 (fun _ => False)) (F0 m 6 ls [])) (x1 : Int64) (x3 : Int32) (x6 : Int32) (y0 : Int64) (ls : Array Slot) (hl : lv_has ls 7 [(0, .ref (b 0)), (1, .long x1), (3, .int x3), (6, .int x6)]) (h : fn_X7_upper_49 v k6 x1 x3 x6 y0 = some q) : W p l e rm_X7_upper s m args below meth c s.heap [] 0 0 (MQ below (HQ (some (.long q))) args s 0 0 (fun _ => False)) (F0 m 49 ls [.long y0]) := by
  obtain ⟨hx, hb, hr, hml, hown, hts, hlocks⟩ := id C0
  have hS : va_S (ad_of 6 b) s.heap s.heap [] := va_S.rf
  unfold fn_X7_upper_49 at h
  refine lv_lconst (v := 0) hx hb dX7_upper_49 (by decide) ?_
  exact wk_X7_upper_50 C0 hK hT0 v hP (k6 := k6) (hk6 := hk6) (ls := ls) (hl := (lv_sub hl [0, 1, 2, 3] rfl)) (h := h)
set_option maxHeartbeats 4000000 in
set_option maxRecDepth 100000 in
theorem wk_X7_upper_6_body {p : Program} {l : Launch} {e : Env} {s : State} {m : MethodId} {args : Array Value} {below : List Frame} {meth : Method} {c : Code} {D : va_G} {ca : Nat → ClassId} {b : Nat → Nat} {tw : Nat} {tt : Nat → Nat} (C0 : Cx p s m args meth c cX7_upper (some .long) 7 wsX7_upper RX7) (hK : va_K D vwCl (tys3 ca) s) (hT0 : tW tw tt (ad_of 6 b) s s.heap) (v : YS) (hP : va_P D vwCl (YW ca b v) s.heap) {q : Int64} (k6 : Int64 → Int32 → Int64 → Int32 → Option (Int64)) (hk6 : ∀ (x1 : Int64) (x3 : Int32) (x4 : Int64) (x6 : Int32) (ls : Array Slot) (hl : lv_has ls 7 [(0, .ref (b 0)), (1, .long x1), (3, .int x3), (4, .long x4), (6, .int x6)]) (h : k6 x1 x3 x4 x6 = some q), W p l e rm_X7_upper s m args below meth c s.heap [] 0 0 (MQ below (HQ (some (.long q))) args s 0 0 (fun _ => False)) (F0 m 6 ls [])) (x1 : Int64) (x3 : Int32) (x4 : Int64) (x6 : Int32) (ls : Array Slot) (hl : lv_has ls 7 [(0, .ref (b 0)), (1, .long x1), (3, .int x3), (4, .long x4), (6, .int x6)]) (h : fn_X7_upper_6_body v k6 x1 x3 x4 x6 = some q) : W p l e rm_X7_upper s m args below meth c s.heap [] 0 0 (MQ below (HQ (some (.long q))) args s 0 0 (fun _ => False)) (F0 m 6 ls []) := by
  obtain ⟨hx, hb, hr, hml, hown, hts, hlocks⟩ := id C0
  have hS : va_S (ad_of 6 b) s.heap s.heap [] := va_S.rf
  unfold fn_X7_upper_6_body at h
  refine lv_iload hx hb dX7_upper_6 (lv_at hl 4 rfl) ?_
  refine lv_iconst (v := 1) hx hb dX7_upper_8 (by decide) ?_
  refine lv_aload_n hx hb dX7_upper_9 rfl (lv_at hl 0 rfl) ?_
  refine va_get (D := D) (ci := 4) (v := .int (y_n v)) (C := RX7) (T := TX7) (N := 9) hx hb hts ly_X7_upper_X7 hown hK hP 0 rfl rfl 0 (by decide) (hts _ lk_X7_upper_f7) (fun _ h9 => h9) rfl dX7_upper_10 ?_
  refine lv_ishl hx hb dX7_upper_13 ?_
  refine lv_icmp_ge (tgt := 59) hx hb dX7_upper_14 (by decide) (fun c14 => ?_) (fun c14 => ?_)
  · replace h := ite_t h c14
    refine lv_lload hx hb dX7_upper_59 (lv_at hl 3 rfl) ?_
    obtain rfl := Option.some.inj h
    exact hp_lret hx hb hr hlocks dX7_upper_61
  · replace h := ite_f h c14
    refine lv_lload hx hb dX7_upper_17 (lv_at hl 3 rfl) ?_
    refine lv_lload_n hx hb dX7_upper_19 rfl (lv_at hl 1 rfl) ?_
    refine lv_iload hx hb dX7_upper_20 (lv_at hl 4 rfl) ?_
    obtain ⟨q22, e22, h⟩ := Option.bind_eq_some_iff.mp h
    refine hp_S (As := [.long x1, .int x6]) (rest := [.long x4]) ⟨hx, hb, hml, hown, hts⟩ (ct_X7_has1 l tw tt x1 x6 e22) (va_cwS 2 hts gX7_upper_X7_has1 rfl rfl rfl (by decide +kernel) ⟨Nat.le_of_ble_eq_true rfl, Nat.le_of_ble_eq_true rfl⟩) GP.mv (GP.from hT0 hS) rfl hl.1 rfl (Nat.le_of_ble_eq_true rfl) dX7_upper_22 ⟨Nat.zero_le _, Nat.zero_le _⟩ ?_
    refine W.eq (g2 := F0 m 25 ls [.int q22, .long x4]) rfl ?_
    refine lv_if_eq (tgt := 49) hx hb dX7_upper_25 (by decide) (fun c25 => ?_) (fun c25 => ?_)
    · replace h := ite_t h c25
      exact wk_X7_upper_49 C0 hK hT0 v hP (k6 := k6) (hk6 := hk6) (ls := ls) (hl := (lv_sub hl [0, 1, 2, 4] rfl)) (h := h)
    · replace h := ite_f h c25
      refine lv_iload hx hb dX7_upper_28 (lv_at hl 4 rfl) ?_
      refine lv_iload_n hx hb dX7_upper_30 rfl (lv_at hl 2 rfl) ?_
      refine lv_ishr hx hb dX7_upper_31 ?_
      refine lv_iconst (v := 1) hx hb dX7_upper_32 (by decide) ?_
      refine lv_iand hx hb dX7_upper_33 ?_
      refine lv_iconst (v := 1) hx hb dX7_upper_34 (by decide) ?_
      refine lv_icmp_ne (tgt := 49) hx hb dX7_upper_35 (by decide) (fun c35 => ?_) (fun c35 => ?_)
      · replace h := ite_f h c35
        exact wk_X7_upper_49 C0 hK hT0 v hP (k6 := k6) (hk6 := hk6) (ls := ls) (hl := (lv_sub hl [0, 1, 2, 4] rfl)) (h := h)
      · replace h := ite_t h c35
        refine lv_lconst (v := 1) hx hb dX7_upper_38 (by decide) ?_
        refine lv_iload hx hb dX7_upper_39 (lv_at hl 4 rfl) ?_
        refine lv_iconst (v := 1) hx hb dX7_upper_41 (by decide) ?_
        refine lv_iload_n hx hb dX7_upper_42 rfl (lv_at hl 2 rfl) ?_
        refine lv_ishl hx hb dX7_upper_43 ?_
        refine lv_isub hx hb dX7_upper_44 ?_
        refine lv_lshl (v := (lsh 1 (x6 - (ish 1 x3)))) hx hb dX7_upper_45 rfl ?_
        refine lv_goto (tgt := 50) hx hb dX7_upper_46 (by decide) ?_
        exact wk_X7_upper_50 C0 hK hT0 v hP (k6 := k6) (hk6 := hk6) (ls := ls) (hl := (lv_sub hl [0, 1, 2, 4] rfl)) (h := h)
set_option maxHeartbeats 4000000 in
set_option maxRecDepth 100000 in
theorem wk_X7_upper_6 {p : Program} {l : Launch} {e : Env} {s : State} {m : MethodId} {args : Array Value} {below : List Frame} {meth : Method} {c : Code} {D : va_G} {ca : Nat → ClassId} {b : Nat → Nat} {tw : Nat} {tt : Nat → Nat} (C0 : Cx p s m args meth c cX7_upper (some .long) 7 wsX7_upper RX7) (hK : va_K D vwCl (tys3 ca) s) (hT0 : tW tw tt (ad_of 6 b) s s.heap) (v : YS) (hP : va_P D vwCl (YW ca b v) s.heap) {q : Int64} : ∀ (n : Nat) (x1 : Int64) (x3 : Int32) (x4 : Int64) (x6 : Int32) (ls : Array Slot) (hl : lv_has ls 7 [(0, .ref (b 0)), (1, .long x1), (3, .int x3), (4, .long x4), (6, .int x6)]) (h : fn_X7_upper_6 v n x1 x3 x4 x6 = some q), W p l e rm_X7_upper s m args below meth c s.heap [] 0 0 (MQ below (HQ (some (.long q))) args s 0 0 (fun _ => False)) (F0 m 6 ls []) := by
  intro n
  induction n with
  | zero => intro x1 x3 x4 x6 ls hl h; unfold fn_X7_upper_6 at h; cases h
  | succ n ih => intro x1 x3 x4 x6 ls hl h; exact wk_X7_upper_6_body C0 hK hT0 v hP (k6 := fn_X7_upper_6 v n) (hk6 := ih) (hl := hl) (h := h)
set_option maxHeartbeats 4000000 in
set_option maxRecDepth 100000 in
theorem wk_X7_upper {p : Program} {l : Launch} {e : Env} {s : State} {m : MethodId} {args : Array Value} {below : List Frame} {meth : Method} {c : Code} {D : va_G} {ca : Nat → ClassId} {b : Nat → Nat} {tw : Nat} {tt : Nat → Nat} (C0 : Cx p s m args meth c cX7_upper (some .long) 7 wsX7_upper RX7) (hK : va_K D vwCl (tys3 ca) s) (hT0 : tW tw tt (ad_of 6 b) s s.heap) (v : YS) (hP : va_P D vwCl (YW ca b v) s.heap) {q : Int64} (x1 : Int64) (x3 : Int32) (ls : Array Slot) (hl : lv_has ls 7 [(0, .ref (b 0)), (1, .long x1), (3, .int x3)]) (h : fn_X7_upper v x1 x3 = some q) : W p l e rm_X7_upper s m args below meth c s.heap [] 0 0 (MQ below (HQ (some (.long q))) args s 0 0 (fun _ => False)) (F0 m 0 ls []) := by
  obtain ⟨hx, hb, hr, hml, hown, hts, hlocks⟩ := id C0
  have hS : va_S (ad_of 6 b) s.heap s.heap [] := va_S.rf
  unfold fn_X7_upper at h
  refine lv_lconst (v := 0) hx hb dX7_upper_0 (by decide) ?_
  refine lv_lstore (lv' := [(4, .long 0), (0, .ref (b 0)), (1, .long x1), (3, .int x3)]) hx hb dX7_upper_1 hl (by decide) rfl (fun ls hl => ?_)
  refine lv_iconst (v := 0) hx hb dX7_upper_3 (by decide) ?_
  refine lv_istore (lv' := [(6, .int 0), (4, .long 0), (0, .ref (b 0)), (1, .long x1), (3, .int x3)]) hx hb dX7_upper_4 hl (by decide) rfl (fun ls hl => ?_)
  exact wk_X7_upper_6 C0 hK hT0 v hP  FU x1 x3 0 0 ls (lv_sub hl [2, 3, 4, 1, 0] rfl) h
theorem ct_X7_upper (l : Launch) (D : va_G) (ca : Nat → ClassId) (b : Nat → Nat) (tw : Nat) (tt : Nat → Nat) (v : YS) (x1 : Int64) (x3 : Int32) {q : Int64} (h : fn_X7_upper v x1 x3 = some q) : Hp l yX7_upper wsX7_upper rm_X7_upper [.ref (b 0), .long x1, .int x3] (GW D ca tw tt (ad_of 6 b) (YW ca b v)) (some (.long q)) := by
  refine Hp.of (cc := cX7_upper) (nL := 7) (ret := (some .long)) (own := RX7) (by decide) rfl rfl (Nat.le_of_ble_eq_true rfl) ?_
  intro p e s m below meth c ls C0 hB hl
  exact wk_X7_upper C0 hB.2.1 hB.2.2 v hB.1 (hl := hl) (h := h)
abbrev rm_X7_lower : Room := { frames := 1, cells := 0, slots := 0, locals := 22 }
theorem lk_X7_lower_f7 : Cond.fieldLink RX7 7 "BooleanRingModel" "n" "I" ∈ wsX7_lower := by decide +kernel
theorem ly_X7_lower_X7 : ∀ w ∈ wsX70, w ∈ wsX7_lower := by decide +kernel
set_option maxHeartbeats 4000000 in
set_option maxRecDepth 100000 in
theorem wk_X7_lower_45 {p : Program} {l : Launch} {e : Env} {s : State} {m : MethodId} {args : Array Value} {below : List Frame} {meth : Method} {c : Code} {D : va_G} {ca : Nat → ClassId} {b : Nat → Nat} {tw : Nat} {tt : Nat → Nat} (C0 : Cx p s m args meth c cX7_lower (some .long) 7 wsX7_lower RX7) (hK : va_K D vwCl (tys3 ca) s) (hT0 : tW tw tt (ad_of 6 b) s s.heap) (v : YS) (hP : va_P D vwCl (YW ca b v) s.heap) {q : Int64} (k6 : Int64 → Int32 → Int64 → Int32 → Option (Int64)) (hk6 : ∀ (x1 : Int64) (x3 : Int32) (x4 : Int64) (x6 : Int32) (ls : Array Slot) (hl : lv_has ls 7 [(0, .ref (b 0)), (1, .long x1), (3, .int x3), (4, .long x4), (6, .int x6)]) (h : k6 x1 x3 x4 x6 = some q), W p l e rm_X7_lower s m args below meth c s.heap [] 0 0 (MQ below (HQ (some (.long q))) args s 0 0 (fun _ => False)) (F0 m 6 ls [])) (x1 : Int64) (x3 : Int32) (x6 : Int32) (y0 : Int64) (y1 : Int64) (ls : Array Slot) (hl : lv_has ls 7 [(0, .ref (b 0)), (1, .long x1), (3, .int x3), (6, .int x6)]) (h : fn_X7_lower_45 v k6 x1 x3 x6 y0 y1 = some q) : W p l e rm_X7_lower s m args below meth c s.heap [] 0 0 (MQ below (HQ (some (.long q))) args s 0 0 (fun _ => False)) (F0 m 45 ls [.long y0, .long y1]) := by
  obtain ⟨hx, hb, hr, hml, hown, hts, hlocks⟩ := id C0
  have hS : va_S (ad_of 6 b) s.heap s.heap [] := va_S.rf
  unfold fn_X7_lower_45 at h
  refine lv_lor hx hb dX7_lower_45 ?_
  refine lv_lstore (lv' := [(4, .long (y1 ||| y0)), (0, .ref (b 0)), (1, .long x1), (3, .int x3), (6, .int x6)]) hx hb dX7_lower_46 hl (by decide) rfl (fun ls hl => ?_)
  refine lv_iinc (v := (x6 + 1)) (lv' := [(6, .int (x6 + 1)), (4, .long (y1 ||| y0)), (0, .ref (b 0)), (1, .long x1), (3, .int x3)]) hx hb dX7_lower_48 hl (k := 4) rfl rfl (by decide) rfl (fun ls hl => ?_)
  refine lv_goto (tgt := 6) hx hb dX7_lower_51 (by decide) ?_
  exact hk6 x1 x3 (y1 ||| y0) (x6 + 1) ls (lv_sub hl [2, 3, 4, 1, 0] rfl) h
set_option maxHeartbeats 4000000 in
set_option maxRecDepth 100000 in
theorem wk_X7_lower_44 {p : Program} {l : Launch} {e : Env} {s : State} {m : MethodId} {args : Array Value} {below : List Frame} {meth : Method} {c : Code} {D : va_G} {ca : Nat → ClassId} {b : Nat → Nat} {tw : Nat} {tt : Nat → Nat} (C0 : Cx p s m args meth c cX7_lower (some .long) 7 wsX7_lower RX7) (hK : va_K D vwCl (tys3 ca) s) (hT0 : tW tw tt (ad_of 6 b) s s.heap) (v : YS) (hP : va_P D vwCl (YW ca b v) s.heap) {q : Int64} (k6 : Int64 → Int32 → Int64 → Int32 → Option (Int64)) (hk6 : ∀ (x1 : Int64) (x3 : Int32) (x4 : Int64) (x6 : Int32) (ls : Array Slot) (hl : lv_has ls 7 [(0, .ref (b 0)), (1, .long x1), (3, .int x3), (4, .long x4), (6, .int x6)]) (h : k6 x1 x3 x4 x6 = some q), W p l e rm_X7_lower s m args below meth c s.heap [] 0 0 (MQ below (HQ (some (.long q))) args s 0 0 (fun _ => False)) (F0 m 6 ls [])) (x1 : Int64) (x3 : Int32) (x6 : Int32) (y0 : Int64) (ls : Array Slot) (hl : lv_has ls 7 [(0, .ref (b 0)), (1, .long x1), (3, .int x3), (6, .int x6)]) (h : fn_X7_lower_44 v k6 x1 x3 x6 y0 = some q) : W p l e rm_X7_lower s m args below meth c s.heap [] 0 0 (MQ below (HQ (some (.long q))) args s 0 0 (fun _ => False)) (F0 m 44 ls [.long y0]) := by
  obtain ⟨hx, hb, hr, hml, hown, hts, hlocks⟩ := id C0
  have hS : va_S (ad_of 6 b) s.heap s.heap [] := va_S.rf
  unfold fn_X7_lower_44 at h
  refine lv_lconst (v := 0) hx hb dX7_lower_44 (by decide) ?_
  exact wk_X7_lower_45 C0 hK hT0 v hP (k6 := k6) (hk6 := hk6) (ls := ls) (hl := (lv_sub hl [0, 1, 2, 3] rfl)) (h := h)
set_option maxHeartbeats 4000000 in
set_option maxRecDepth 100000 in
theorem wk_X7_lower_6_body {p : Program} {l : Launch} {e : Env} {s : State} {m : MethodId} {args : Array Value} {below : List Frame} {meth : Method} {c : Code} {D : va_G} {ca : Nat → ClassId} {b : Nat → Nat} {tw : Nat} {tt : Nat → Nat} (C0 : Cx p s m args meth c cX7_lower (some .long) 7 wsX7_lower RX7) (hK : va_K D vwCl (tys3 ca) s) (hT0 : tW tw tt (ad_of 6 b) s s.heap) (v : YS) (hP : va_P D vwCl (YW ca b v) s.heap) {q : Int64} (k6 : Int64 → Int32 → Int64 → Int32 → Option (Int64)) (hk6 : ∀ (x1 : Int64) (x3 : Int32) (x4 : Int64) (x6 : Int32) (ls : Array Slot) (hl : lv_has ls 7 [(0, .ref (b 0)), (1, .long x1), (3, .int x3), (4, .long x4), (6, .int x6)]) (h : k6 x1 x3 x4 x6 = some q), W p l e rm_X7_lower s m args below meth c s.heap [] 0 0 (MQ below (HQ (some (.long q))) args s 0 0 (fun _ => False)) (F0 m 6 ls [])) (x1 : Int64) (x3 : Int32) (x4 : Int64) (x6 : Int32) (ls : Array Slot) (hl : lv_has ls 7 [(0, .ref (b 0)), (1, .long x1), (3, .int x3), (4, .long x4), (6, .int x6)]) (h : fn_X7_lower_6_body v k6 x1 x3 x4 x6 = some q) : W p l e rm_X7_lower s m args below meth c s.heap [] 0 0 (MQ below (HQ (some (.long q))) args s 0 0 (fun _ => False)) (F0 m 6 ls []) := by
  obtain ⟨hx, hb, hr, hml, hown, hts, hlocks⟩ := id C0
  have hS : va_S (ad_of 6 b) s.heap s.heap [] := va_S.rf
  unfold fn_X7_lower_6_body at h
  refine lv_iload hx hb dX7_lower_6 (lv_at hl 4 rfl) ?_
  refine lv_iconst (v := 1) hx hb dX7_lower_8 (by decide) ?_
  refine lv_aload_n hx hb dX7_lower_9 rfl (lv_at hl 0 rfl) ?_
  refine va_get (D := D) (ci := 4) (v := .int (y_n v)) (C := RX7) (T := TX7) (N := 9) hx hb hts ly_X7_lower_X7 hown hK hP 0 rfl rfl 0 (by decide) (hts _ lk_X7_lower_f7) (fun _ h9 => h9) rfl dX7_lower_10 ?_
  refine lv_ishl hx hb dX7_lower_13 ?_
  refine lv_icmp_ge (tgt := 54) hx hb dX7_lower_14 (by decide) (fun c14 => ?_) (fun c14 => ?_)
  · replace h := ite_t h c14
    refine lv_lload hx hb dX7_lower_54 (lv_at hl 3 rfl) ?_
    obtain rfl := Option.some.inj h
    exact hp_lret hx hb hr hlocks dX7_lower_56
  · replace h := ite_f h c14
    refine lv_lload hx hb dX7_lower_17 (lv_at hl 3 rfl) ?_
    refine lv_lload_n hx hb dX7_lower_19 rfl (lv_at hl 1 rfl) ?_
    refine lv_iload hx hb dX7_lower_20 (lv_at hl 4 rfl) ?_
    obtain ⟨q22, e22, h⟩ := Option.bind_eq_some_iff.mp h
    refine hp_S (As := [.long x1, .int x6]) (rest := [.long x4]) ⟨hx, hb, hml, hown, hts⟩ (ct_X7_has1 l tw tt x1 x6 e22) (va_cwS 2 hts gX7_lower_X7_has1 rfl rfl rfl (by decide +kernel) ⟨Nat.le_of_ble_eq_true rfl, Nat.le_of_ble_eq_true rfl⟩) GP.mv (GP.from hT0 hS) rfl hl.1 rfl (Nat.le_of_ble_eq_true rfl) dX7_lower_22 ⟨Nat.zero_le _, Nat.zero_le _⟩ ?_
    refine W.eq (g2 := F0 m 25 ls [.int q22, .long x4]) rfl ?_
    refine lv_if_eq (tgt := 44) hx hb dX7_lower_25 (by decide) (fun c25 => ?_) (fun c25 => ?_)
    · replace h := ite_t h c25
      exact wk_X7_lower_44 C0 hK hT0 v hP (k6 := k6) (hk6 := hk6) (ls := ls) (hl := (lv_sub hl [0, 1, 2, 4] rfl)) (h := h)
    · replace h := ite_f h c25
      refine lv_iload hx hb dX7_lower_28 (lv_at hl 4 rfl) ?_
      refine lv_iload_n hx hb dX7_lower_30 rfl (lv_at hl 2 rfl) ?_
      refine lv_ishr hx hb dX7_lower_31 ?_
      refine lv_iconst (v := 1) hx hb dX7_lower_32 (by decide) ?_
      refine lv_iand hx hb dX7_lower_33 ?_
      refine lv_if_ne (tgt := 44) hx hb dX7_lower_34 (by decide) (fun c34 => ?_) (fun c34 => ?_)
      · replace h := ite_f h c34
        exact wk_X7_lower_44 C0 hK hT0 v hP (k6 := k6) (hk6 := hk6) (ls := ls) (hl := (lv_sub hl [0, 1, 2, 4] rfl)) (h := h)
      · replace h := ite_t h c34
        refine lv_lconst (v := 1) hx hb dX7_lower_37 (by decide) ?_
        refine lv_iload hx hb dX7_lower_38 (lv_at hl 4 rfl) ?_
        refine lv_lshl (v := (lsh 1 x6)) hx hb dX7_lower_40 rfl ?_
        refine lv_goto (tgt := 45) hx hb dX7_lower_41 (by decide) ?_
        exact wk_X7_lower_45 C0 hK hT0 v hP (k6 := k6) (hk6 := hk6) (ls := ls) (hl := (lv_sub hl [0, 1, 2, 4] rfl)) (h := h)
set_option maxHeartbeats 4000000 in
set_option maxRecDepth 100000 in
theorem wk_X7_lower_6 {p : Program} {l : Launch} {e : Env} {s : State} {m : MethodId} {args : Array Value} {below : List Frame} {meth : Method} {c : Code} {D : va_G} {ca : Nat → ClassId} {b : Nat → Nat} {tw : Nat} {tt : Nat → Nat} (C0 : Cx p s m args meth c cX7_lower (some .long) 7 wsX7_lower RX7) (hK : va_K D vwCl (tys3 ca) s) (hT0 : tW tw tt (ad_of 6 b) s s.heap) (v : YS) (hP : va_P D vwCl (YW ca b v) s.heap) {q : Int64} : ∀ (n : Nat) (x1 : Int64) (x3 : Int32) (x4 : Int64) (x6 : Int32) (ls : Array Slot) (hl : lv_has ls 7 [(0, .ref (b 0)), (1, .long x1), (3, .int x3), (4, .long x4), (6, .int x6)]) (h : fn_X7_lower_6 v n x1 x3 x4 x6 = some q), W p l e rm_X7_lower s m args below meth c s.heap [] 0 0 (MQ below (HQ (some (.long q))) args s 0 0 (fun _ => False)) (F0 m 6 ls []) := by
  intro n
  induction n with
  | zero => intro x1 x3 x4 x6 ls hl h; unfold fn_X7_lower_6 at h; cases h
  | succ n ih => intro x1 x3 x4 x6 ls hl h; exact wk_X7_lower_6_body C0 hK hT0 v hP (k6 := fn_X7_lower_6 v n) (hk6 := ih) (hl := hl) (h := h)
set_option maxHeartbeats 4000000 in
set_option maxRecDepth 100000 in
theorem wk_X7_lower {p : Program} {l : Launch} {e : Env} {s : State} {m : MethodId} {args : Array Value} {below : List Frame} {meth : Method} {c : Code} {D : va_G} {ca : Nat → ClassId} {b : Nat → Nat} {tw : Nat} {tt : Nat → Nat} (C0 : Cx p s m args meth c cX7_lower (some .long) 7 wsX7_lower RX7) (hK : va_K D vwCl (tys3 ca) s) (hT0 : tW tw tt (ad_of 6 b) s s.heap) (v : YS) (hP : va_P D vwCl (YW ca b v) s.heap) {q : Int64} (x1 : Int64) (x3 : Int32) (ls : Array Slot) (hl : lv_has ls 7 [(0, .ref (b 0)), (1, .long x1), (3, .int x3)]) (h : fn_X7_lower v x1 x3 = some q) : W p l e rm_X7_lower s m args below meth c s.heap [] 0 0 (MQ below (HQ (some (.long q))) args s 0 0 (fun _ => False)) (F0 m 0 ls []) := by
  obtain ⟨hx, hb, hr, hml, hown, hts, hlocks⟩ := id C0
  have hS : va_S (ad_of 6 b) s.heap s.heap [] := va_S.rf
  unfold fn_X7_lower at h
  refine lv_lconst (v := 0) hx hb dX7_lower_0 (by decide) ?_
  refine lv_lstore (lv' := [(4, .long 0), (0, .ref (b 0)), (1, .long x1), (3, .int x3)]) hx hb dX7_lower_1 hl (by decide) rfl (fun ls hl => ?_)
  refine lv_iconst (v := 0) hx hb dX7_lower_3 (by decide) ?_
  refine lv_istore (lv' := [(6, .int 0), (4, .long 0), (0, .ref (b 0)), (1, .long x1), (3, .int x3)]) hx hb dX7_lower_4 hl (by decide) rfl (fun ls hl => ?_)
  exact wk_X7_lower_6 C0 hK hT0 v hP  FU x1 x3 0 0 ls (lv_sub hl [2, 3, 4, 1, 0] rfl) h
theorem ct_X7_lower (l : Launch) (D : va_G) (ca : Nat → ClassId) (b : Nat → Nat) (tw : Nat) (tt : Nat → Nat) (v : YS) (x1 : Int64) (x3 : Int32) {q : Int64} (h : fn_X7_lower v x1 x3 = some q) : Hp l yX7_lower wsX7_lower rm_X7_lower [.ref (b 0), .long x1, .int x3] (GW D ca tw tt (ad_of 6 b) (YW ca b v)) (some (.long q)) := by
  refine Hp.of (cc := cX7_lower) (nL := 7) (ret := (some .long)) (own := RX7) (by decide) rfl rfl (Nat.le_of_ble_eq_true rfl) ?_
  intro p e s m below meth c ls C0 hB hl
  exact wk_X7_lower C0 hB.2.1 hB.2.2 v hB.1 (hl := hl) (h := h)
