/-! by program (gen.py): the machine does what the functions say -/
abbrev rm_X7_values : Room := { frames := 1, cells := 0, slots := 0, locals := 22 }
theorem lk_X7_values_f7 : Cond.fieldLink RX7 7 "BooleanRingModel" "n" "I" ∈ wsX7_values := by decide +kernel
theorem ly_X7_values_X7 : ∀ w ∈ wsX70, w ∈ wsX7_values := by decide +kernel
set_option maxHeartbeats 4000000 in
set_option maxRecDepth 100000 in
theorem wk_X7_values_17_body {p : Program} {l : Launch} {e : Env} {s : State} {m : MethodId} {args : Array Value} {below : List Frame} {meth : Method} {c : Code} {D : va_G} {ca : Nat → ClassId} {b : Nat → Nat} {tw : Nat} {tt : Nat → Nat} (C0 : Cx p s m args meth c cX7_values (some .long) 7 wsX7_values RX7) (hK : va_K D vwCl (tys3 ca) s) (hT0 : tW tw tt (ad_of 6 b) s s.heap) (v : YS) (hP : va_P D vwCl (YW ca b v) s.heap) {q : Int64} (k5 : Int64 → Int32 → Option (Int64)) (k17 : Int64 → Int32 → Int32 → Option (Int64)) (hk5 : ∀ (x3 : Int64) (x5 : Int32) (ls : Array Slot) (hl : lv_has ls 7 [(0, .ref (b 0)), (3, .long x3), (5, .int x5)]) (h : k5 x3 x5 = some q), W p l e rm_X7_values s m args below meth c s.heap [] 0 0 (MQ below (HQ (some (.long q))) args s 0 0 (fun _ => False)) (F0 m 5 ls [])) (hk17 : ∀ (x3 : Int64) (x5 : Int32) (x6 : Int32) (ls : Array Slot) (hl : lv_has ls 7 [(0, .ref (b 0)), (3, .long x3), (5, .int x5), (6, .int x6)]) (h : k17 x3 x5 x6 = some q), W p l e rm_X7_values s m args below meth c s.heap [] 0 0 (MQ below (HQ (some (.long q))) args s 0 0 (fun _ => False)) (F0 m 17 ls [])) (x3 : Int64) (x5 : Int32) (x6 : Int32) (ls : Array Slot) (hl : lv_has ls 7 [(0, .ref (b 0)), (3, .long x3), (5, .int x5), (6, .int x6)]) (h : fn_X7_values_17_body v k5 k17 x3 x5 x6 = some q) : W p l e rm_X7_values s m args below meth c s.heap [] 0 0 (MQ below (HQ (some (.long q))) args s 0 0 (fun _ => False)) (F0 m 17 ls []) := by
  obtain ⟨hx, hb, hr, hml, hown, hts, hlocks⟩ := id C0
  have hS : va_S (ad_of 6 b) s.heap s.heap [] := va_S.rf
  unfold fn_X7_values_17_body at h
  refine lv_iload hx hb dX7_values_17 (lv_at hl 3 rfl) ?_
  refine lv_iconst (v := 1) hx hb dX7_values_19 (by decide) ?_
  refine lv_aload_n hx hb dX7_values_20 rfl (lv_at hl 0 rfl) ?_
  refine va_get (D := D) (ci := 4) (v := .int (y_n v)) (C := RX7) (T := TX7) (N := 9) hx hb hts ly_X7_values_X7 hown hK hP 0 rfl rfl 0 (by decide) (hts _ lk_X7_values_f7) (fun _ h9 => h9) rfl dX7_values_21 ?_
  refine lv_ishl hx hb dX7_values_24 ?_
  refine lv_icmp_ge (tgt := 66) hx hb dX7_values_25 (by decide) (fun c25 => ?_) (fun c25 => ?_)
  · replace h := ite_t h c25
    refine lv_iinc (v := (x5 + 1)) (lv' := [(5, .int (x5 + 1)), (0, .ref (b 0)), (3, .long x3), (6, .int x6)]) hx hb dX7_values_66 hl (k := 2) rfl rfl (by decide) rfl (fun ls hl => ?_)
    refine lv_goto (tgt := 5) hx hb dX7_values_69 (by decide) ?_
    exact hk5 x3 (x5 + 1) ls (lv_sub hl [1, 2, 0] rfl) h
  · replace h := ite_f h c25
    refine lv_iload hx hb dX7_values_28 (lv_at hl 3 rfl) ?_
    refine lv_iload hx hb dX7_values_30 (lv_at hl 2 rfl) ?_
    refine lv_ishr hx hb dX7_values_32 ?_
    refine lv_iconst (v := 1) hx hb dX7_values_33 (by decide) ?_
    refine lv_iand hx hb dX7_values_34 ?_
    refine lv_iconst (v := 1) hx hb dX7_values_35 (by decide) ?_
    refine lv_icmp_ne (tgt := 60) hx hb dX7_values_36 (by decide) (fun c36 => ?_) (fun c36 => ?_)
    · replace h := ite_f h c36
      refine lv_iinc (v := (x6 + 1)) (lv' := [(6, .int (x6 + 1)), (0, .ref (b 0)), (3, .long x3), (5, .int x5)]) hx hb dX7_values_60 hl (k := 3) rfl rfl (by decide) rfl (fun ls hl => ?_)
      refine lv_goto (tgt := 17) hx hb dX7_values_63 (by decide) ?_
      exact hk17 x3 x5 (x6 + 1) ls (lv_sub hl [1, 2, 3, 0] rfl) h
    · replace h := ite_t h c36
      refine lv_lload_n hx hb dX7_values_39 rfl (lv_at hl 1 rfl) ?_
      refine lv_iload hx hb dX7_values_40 (lv_at hl 3 rfl) ?_
      refine lv_iconst (v := 1) hx hb dX7_values_42 (by decide) ?_
      refine lv_iload hx hb dX7_values_43 (lv_at hl 2 rfl) ?_
      refine lv_ishl hx hb dX7_values_45 ?_
      refine lv_isub hx hb dX7_values_46 ?_
      obtain ⟨q47, e47, h⟩ := Option.bind_eq_some_iff.mp h
      refine hp_S (As := [.long x3, .int (x6 - (ish 1 x5))]) (rest := []) ⟨hx, hb, hml, hown, hts⟩ (ct_X7_has1 l tw tt x3 (x6 - (ish 1 x5)) e47) (va_cwS 2 hts gX7_values_X7_has1 rfl rfl rfl (by decide +kernel) ⟨Nat.le_of_ble_eq_true rfl, Nat.le_of_ble_eq_true rfl⟩) GP.mv (GP.from hT0 hS) rfl hl.1 rfl (Nat.le_of_ble_eq_true rfl) dX7_values_47 ⟨Nat.zero_le _, Nat.zero_le _⟩ ?_
      refine W.eq (g2 := F0 m 50 ls [.int q47]) rfl ?_
      refine lv_if_eq (tgt := 60) hx hb dX7_values_50 (by decide) (fun c50 => ?_) (fun c50 => ?_)
      · replace h := ite_t h c50
        refine lv_iinc (v := (x6 + 1)) (lv' := [(6, .int (x6 + 1)), (0, .ref (b 0)), (3, .long x3), (5, .int x5)]) hx hb dX7_values_60 hl (k := 3) rfl rfl (by decide) rfl (fun ls hl => ?_)
        refine lv_goto (tgt := 17) hx hb dX7_values_63 (by decide) ?_
        exact hk17 x3 x5 (x6 + 1) ls (lv_sub hl [1, 2, 3, 0] rfl) h
      · replace h := ite_f h c50
        refine lv_lload_n hx hb dX7_values_53 rfl (lv_at hl 1 rfl) ?_
        refine lv_lconst (v := 1) hx hb dX7_values_54 (by decide) ?_
        refine lv_iload hx hb dX7_values_55 (lv_at hl 3 rfl) ?_
        refine lv_lshl (v := (lsh 1 x6)) hx hb dX7_values_57 rfl ?_
        refine lv_lxor hx hb dX7_values_58 ?_
        refine lv_lstore_n (lv' := [(3, .long (x3 ^^^ (lsh 1 x6))), (0, .ref (b 0)), (5, .int x5), (6, .int x6)]) hx hb dX7_values_59 rfl hl (by decide) rfl (fun ls hl => ?_)
        refine lv_iinc (v := (x6 + 1)) (lv' := [(6, .int (x6 + 1)), (3, .long (x3 ^^^ (lsh 1 x6))), (0, .ref (b 0)), (5, .int x5)]) hx hb dX7_values_60 hl (k := 3) rfl rfl (by decide) rfl (fun ls hl => ?_)
        refine lv_goto (tgt := 17) hx hb dX7_values_63 (by decide) ?_
        exact hk17 (x3 ^^^ (lsh 1 x6)) x5 (x6 + 1) ls (lv_sub hl [2, 1, 3, 0] rfl) h
set_option maxHeartbeats 4000000 in
set_option maxRecDepth 100000 in
theorem wk_X7_values_17 {p : Program} {l : Launch} {e : Env} {s : State} {m : MethodId} {args : Array Value} {below : List Frame} {meth : Method} {c : Code} {D : va_G} {ca : Nat → ClassId} {b : Nat → Nat} {tw : Nat} {tt : Nat → Nat} (C0 : Cx p s m args meth c cX7_values (some .long) 7 wsX7_values RX7) (hK : va_K D vwCl (tys3 ca) s) (hT0 : tW tw tt (ad_of 6 b) s s.heap) (v : YS) (hP : va_P D vwCl (YW ca b v) s.heap) {q : Int64} (k5 : Int64 → Int32 → Option (Int64)) (hk5 : ∀ (x3 : Int64) (x5 : Int32) (ls : Array Slot) (hl : lv_has ls 7 [(0, .ref (b 0)), (3, .long x3), (5, .int x5)]) (h : k5 x3 x5 = some q), W p l e rm_X7_values s m args below meth c s.heap [] 0 0 (MQ below (HQ (some (.long q))) args s 0 0 (fun _ => False)) (F0 m 5 ls [])) : ∀ (n : Nat) (x3 : Int64) (x5 : Int32) (x6 : Int32) (ls : Array Slot) (hl : lv_has ls 7 [(0, .ref (b 0)), (3, .long x3), (5, .int x5), (6, .int x6)]) (h : fn_X7_values_17 v k5 n x3 x5 x6 = some q), W p l e rm_X7_values s m args below meth c s.heap [] 0 0 (MQ below (HQ (some (.long q))) args s 0 0 (fun _ => False)) (F0 m 17 ls []) := by
  intro n
  induction n with
  | zero => intro x3 x5 x6 ls hl h; unfold fn_X7_values_17 at h; cases h
  | succ n ih => intro x3 x5 x6 ls hl h; exact wk_X7_values_17_body C0 hK hT0 v hP (k5 := k5) (hk5 := hk5) (k17 := fn_X7_values_17 v k5 n) (hk17 := ih) (hl := hl) (h := h)
set_option maxHeartbeats 4000000 in
set_option maxRecDepth 100000 in
theorem wk_X7_values_5_body {p : Program} {l : Launch} {e : Env} {s : State} {m : MethodId} {args : Array Value} {below : List Frame} {meth : Method} {c : Code} {D : va_G} {ca : Nat → ClassId} {b : Nat → Nat} {tw : Nat} {tt : Nat → Nat} (C0 : Cx p s m args meth c cX7_values (some .long) 7 wsX7_values RX7) (hK : va_K D vwCl (tys3 ca) s) (hT0 : tW tw tt (ad_of 6 b) s s.heap) (v : YS) (hP : va_P D vwCl (YW ca b v) s.heap) {q : Int64} (k5 : Int64 → Int32 → Option (Int64)) (hk5 : ∀ (x3 : Int64) (x5 : Int32) (ls : Array Slot) (hl : lv_has ls 7 [(0, .ref (b 0)), (3, .long x3), (5, .int x5)]) (h : k5 x3 x5 = some q), W p l e rm_X7_values s m args below meth c s.heap [] 0 0 (MQ below (HQ (some (.long q))) args s 0 0 (fun _ => False)) (F0 m 5 ls [])) (x3 : Int64) (x5 : Int32) (ls : Array Slot) (hl : lv_has ls 7 [(0, .ref (b 0)), (3, .long x3), (5, .int x5)]) (h : fn_X7_values_5_body v k5 x3 x5 = some q) : W p l e rm_X7_values s m args below meth c s.heap [] 0 0 (MQ below (HQ (some (.long q))) args s 0 0 (fun _ => False)) (F0 m 5 ls []) := by
  obtain ⟨hx, hb, hr, hml, hown, hts, hlocks⟩ := id C0
  have hS : va_S (ad_of 6 b) s.heap s.heap [] := va_S.rf
  unfold fn_X7_values_5_body at h
  refine lv_iload hx hb dX7_values_5 (lv_at hl 2 rfl) ?_
  refine lv_aload_n hx hb dX7_values_7 rfl (lv_at hl 0 rfl) ?_
  refine va_get (D := D) (ci := 4) (v := .int (y_n v)) (C := RX7) (T := TX7) (N := 9) hx hb hts ly_X7_values_X7 hown hK hP 0 rfl rfl 0 (by decide) (hts _ lk_X7_values_f7) (fun _ h9 => h9) rfl dX7_values_8 ?_
  refine lv_icmp_ge (tgt := 72) hx hb dX7_values_11 (by decide) (fun c11 => ?_) (fun c11 => ?_)
  · replace h := ite_t h c11
    refine lv_lload_n hx hb dX7_values_72 rfl (lv_at hl 1 rfl) ?_
    obtain rfl := Option.some.inj h
    exact hp_lret hx hb hr hlocks dX7_values_73
  · replace h := ite_f h c11
    refine lv_iconst (v := 0) hx hb dX7_values_14 (by decide) ?_
    refine lv_istore (lv' := [(6, .int 0), (0, .ref (b 0)), (3, .long x3), (5, .int x5)]) hx hb dX7_values_15 hl (by decide) rfl (fun ls hl => ?_)
    exact wk_X7_values_17 C0 hK hT0 v hP (k5 := k5) (hk5 := hk5)  FU x3 x5 0 ls (lv_sub hl [1, 2, 3, 0] rfl) h
set_option maxHeartbeats 4000000 in
set_option maxRecDepth 100000 in
theorem wk_X7_values_5 {p : Program} {l : Launch} {e : Env} {s : State} {m : MethodId} {args : Array Value} {below : List Frame} {meth : Method} {c : Code} {D : va_G} {ca : Nat → ClassId} {b : Nat → Nat} {tw : Nat} {tt : Nat → Nat} (C0 : Cx p s m args meth c cX7_values (some .long) 7 wsX7_values RX7) (hK : va_K D vwCl (tys3 ca) s) (hT0 : tW tw tt (ad_of 6 b) s s.heap) (v : YS) (hP : va_P D vwCl (YW ca b v) s.heap) {q : Int64} : ∀ (n : Nat) (x3 : Int64) (x5 : Int32) (ls : Array Slot) (hl : lv_has ls 7 [(0, .ref (b 0)), (3, .long x3), (5, .int x5)]) (h : fn_X7_values_5 v n x3 x5 = some q), W p l e rm_X7_values s m args below meth c s.heap [] 0 0 (MQ below (HQ (some (.long q))) args s 0 0 (fun _ => False)) (F0 m 5 ls []) := by
  intro n
  induction n with
  | zero => intro x3 x5 ls hl h; unfold fn_X7_values_5 at h; cases h
  | succ n ih => intro x3 x5 ls hl h; exact wk_X7_values_5_body C0 hK hT0 v hP (k5 := fn_X7_values_5 v n) (hk5 := ih) (hl := hl) (h := h)
set_option maxHeartbeats 4000000 in
set_option maxRecDepth 100000 in
theorem wk_X7_values {p : Program} {l : Launch} {e : Env} {s : State} {m : MethodId} {args : Array Value} {below : List Frame} {meth : Method} {c : Code} {D : va_G} {ca : Nat → ClassId} {b : Nat → Nat} {tw : Nat} {tt : Nat → Nat} (C0 : Cx p s m args meth c cX7_values (some .long) 7 wsX7_values RX7) (hK : va_K D vwCl (tys3 ca) s) (hT0 : tW tw tt (ad_of 6 b) s s.heap) (v : YS) (hP : va_P D vwCl (YW ca b v) s.heap) {q : Int64} (x1 : Int64) (ls : Array Slot) (hl : lv_has ls 7 [(0, .ref (b 0)), (1, .long x1)]) (h : fn_X7_values v x1 = some q) : W p l e rm_X7_values s m args below meth c s.heap [] 0 0 (MQ below (HQ (some (.long q))) args s 0 0 (fun _ => False)) (F0 m 0 ls []) := by
  obtain ⟨hx, hb, hr, hml, hown, hts, hlocks⟩ := id C0
  have hS : va_S (ad_of 6 b) s.heap s.heap [] := va_S.rf
  unfold fn_X7_values at h
  refine lv_lload_n hx hb dX7_values_0 rfl (lv_at hl 1 rfl) ?_
  refine lv_lstore_n (lv' := [(3, .long x1), (0, .ref (b 0)), (1, .long x1)]) hx hb dX7_values_1 rfl hl (by decide) rfl (fun ls hl => ?_)
  refine lv_iconst (v := 0) hx hb dX7_values_2 (by decide) ?_
  refine lv_istore (lv' := [(5, .int 0), (3, .long x1), (0, .ref (b 0)), (1, .long x1)]) hx hb dX7_values_3 hl (by decide) rfl (fun ls hl => ?_)
  exact wk_X7_values_5 C0 hK hT0 v hP  FU x1 0 ls (lv_sub hl [2, 1, 0] rfl) h
theorem ct_X7_values (l : Launch) (D : va_G) (ca : Nat → ClassId) (b : Nat → Nat) (tw : Nat) (tt : Nat → Nat) (v : YS) (x1 : Int64) {q : Int64} (h : fn_X7_values v x1 = some q) : Hp l yX7_values wsX7_values rm_X7_values [.ref (b 0), .long x1] (GW D ca tw tt (ad_of 6 b) (YW ca b v)) (some (.long q)) := by
  refine Hp.of (cc := cX7_values) (nL := 7) (ret := (some .long)) (own := RX7) (by decide) rfl rfl (Nat.le_of_ble_eq_true rfl) ?_
  intro p e s m below meth c ls C0 hB hl
  exact wk_X7_values C0 hB.2.1 hB.2.2 v hB.1 (hl := hl) (h := h)
abbrev rm_X7_occurs : Room := { frames := 1, cells := 0, slots := 0, locals := 22 }
theorem lk_X7_occurs_f7 : Cond.fieldLink RX7 7 "BooleanRingModel" "n" "I" ∈ wsX7_occurs := by decide +kernel
theorem ly_X7_occurs_X7 : ∀ w ∈ wsX70, w ∈ wsX7_occurs := by decide +kernel
set_option maxHeartbeats 4000000 in
set_option maxRecDepth 100000 in
theorem wk_X7_occurs_32 {p : Program} {l : Launch} {e : Env} {s : State} {m : MethodId} {args : Array Value} {below : List Frame} {meth : Method} {c : Code} {D : va_G} {ca : Nat → ClassId} {b : Nat → Nat} {tw : Nat} {tt : Nat → Nat} (C0 : Cx p s m args meth c cX7_occurs (some .int) 5 wsX7_occurs RX7) (hK : va_K D vwCl (tys3 ca) s) (hT0 : tW tw tt (ad_of 6 b) s s.heap) (v : YS) (hP : va_P D vwCl (YW ca b v) s.heap) {q : Int32} (k5 : Int64 → Int32 → Int32 → Option (Int32)) (hk5 : ∀ (x1 : Int64) (x3 : Int32) (x4 : Int32) (ls : Array Slot) (hl : lv_has ls 5 [(0, .ref (b 0)), (1, .long x1), (3, .int x3), (4, .int x4)]) (h : k5 x1 x3 x4 = some q), W p l e rm_X7_occurs s m args below meth c s.heap [] 0 0 (MQ below (HQ (some (.int q))) args s 0 0 (fun _ => False)) (F0 m 5 ls [])) (x1 : Int64) (x4 : Int32) (y0 : Int32) (y1 : Int32) (ls : Array Slot) (hl : lv_has ls 5 [(0, .ref (b 0)), (1, .long x1), (4, .int x4)]) (h : fn_X7_occurs_32 v k5 x1 x4 y0 y1 = some q) : W p l e rm_X7_occurs s m args below meth c s.heap [] 0 0 (MQ below (HQ (some (.int q))) args s 0 0 (fun _ => False)) (F0 m 32 ls [.int y0, .int y1]) := by
  obtain ⟨hx, hb, hr, hml, hown, hts, hlocks⟩ := id C0
  have hS : va_S (ad_of 6 b) s.heap s.heap [] := va_S.rf
  unfold fn_X7_occurs_32 at h
  refine lv_ior hx hb dX7_occurs_32 ?_
  refine lv_istore_n (lv' := [(3, .int (y1 ||| y0)), (0, .ref (b 0)), (1, .long x1), (4, .int x4)]) hx hb dX7_occurs_33 rfl hl (by decide) rfl (fun ls hl => ?_)
  refine lv_iinc (v := (x4 + 1)) (lv' := [(4, .int (x4 + 1)), (3, .int (y1 ||| y0)), (0, .ref (b 0)), (1, .long x1)]) hx hb dX7_occurs_34 hl (k := 3) rfl rfl (by decide) rfl (fun ls hl => ?_)
  refine lv_goto (tgt := 5) hx hb dX7_occurs_37 (by decide) ?_
  exact hk5 x1 (y1 ||| y0) (x4 + 1) ls (lv_sub hl [2, 3, 1, 0] rfl) h
set_option maxHeartbeats 4000000 in
set_option maxRecDepth 100000 in
theorem wk_X7_occurs_5_body {p : Program} {l : Launch} {e : Env} {s : State} {m : MethodId} {args : Array Value} {below : List Frame} {meth : Method} {c : Code} {D : va_G} {ca : Nat → ClassId} {b : Nat → Nat} {tw : Nat} {tt : Nat → Nat} (C0 : Cx p s m args meth c cX7_occurs (some .int) 5 wsX7_occurs RX7) (hK : va_K D vwCl (tys3 ca) s) (hT0 : tW tw tt (ad_of 6 b) s s.heap) (v : YS) (hP : va_P D vwCl (YW ca b v) s.heap) {q : Int32} (k5 : Int64 → Int32 → Int32 → Option (Int32)) (hk5 : ∀ (x1 : Int64) (x3 : Int32) (x4 : Int32) (ls : Array Slot) (hl : lv_has ls 5 [(0, .ref (b 0)), (1, .long x1), (3, .int x3), (4, .int x4)]) (h : k5 x1 x3 x4 = some q), W p l e rm_X7_occurs s m args below meth c s.heap [] 0 0 (MQ below (HQ (some (.int q))) args s 0 0 (fun _ => False)) (F0 m 5 ls [])) (x1 : Int64) (x3 : Int32) (x4 : Int32) (ls : Array Slot) (hl : lv_has ls 5 [(0, .ref (b 0)), (1, .long x1), (3, .int x3), (4, .int x4)]) (h : fn_X7_occurs_5_body v k5 x1 x3 x4 = some q) : W p l e rm_X7_occurs s m args below meth c s.heap [] 0 0 (MQ below (HQ (some (.int q))) args s 0 0 (fun _ => False)) (F0 m 5 ls []) := by
  obtain ⟨hx, hb, hr, hml, hown, hts, hlocks⟩ := id C0
  have hS : va_S (ad_of 6 b) s.heap s.heap [] := va_S.rf
  unfold fn_X7_occurs_5_body at h
  refine lv_iload hx hb dX7_occurs_5 (lv_at hl 3 rfl) ?_
  refine lv_iconst (v := 1) hx hb dX7_occurs_7 (by decide) ?_
  refine lv_aload_n hx hb dX7_occurs_8 rfl (lv_at hl 0 rfl) ?_
  refine va_get (D := D) (ci := 4) (v := .int (y_n v)) (C := RX7) (T := TX7) (N := 9) hx hb hts ly_X7_occurs_X7 hown hK hP 0 rfl rfl 0 (by decide) (hts _ lk_X7_occurs_f7) (fun _ h9 => h9) rfl dX7_occurs_9 ?_
  refine lv_ishl hx hb dX7_occurs_12 ?_
  refine lv_icmp_ge (tgt := 40) hx hb dX7_occurs_13 (by decide) (fun c13 => ?_) (fun c13 => ?_)
  · replace h := ite_t h c13
    refine lv_iload_n hx hb dX7_occurs_40 rfl (lv_at hl 2 rfl) ?_
    obtain rfl := Option.some.inj h
    exact hp_iret hx hb hr hlocks dX7_occurs_41
  · replace h := ite_f h c13
    refine lv_iload_n hx hb dX7_occurs_16 rfl (lv_at hl 2 rfl) ?_
    refine lv_lload_n hx hb dX7_occurs_17 rfl (lv_at hl 1 rfl) ?_
    refine lv_iload hx hb dX7_occurs_18 (lv_at hl 3 rfl) ?_
    obtain ⟨q20, e20, h⟩ := Option.bind_eq_some_iff.mp h
    refine hp_S (As := [.long x1, .int x4]) (rest := [.int x3]) ⟨hx, hb, hml, hown, hts⟩ (ct_X7_has1 l tw tt x1 x4 e20) (va_cwS 2 hts gX7_occurs_X7_has1 rfl rfl rfl (by decide +kernel) ⟨Nat.le_of_ble_eq_true rfl, Nat.le_of_ble_eq_true rfl⟩) GP.mv (GP.from hT0 hS) rfl hl.1 rfl (Nat.le_of_ble_eq_true rfl) dX7_occurs_20 ⟨Nat.zero_le _, Nat.zero_le _⟩ ?_
    refine W.eq (g2 := F0 m 23 ls [.int q20, .int x3]) rfl ?_
    refine lv_if_eq (tgt := 31) hx hb dX7_occurs_23 (by decide) (fun c23 => ?_) (fun c23 => ?_)
    · replace h := ite_t h c23
      refine lv_iconst (v := 0) hx hb dX7_occurs_31 (by decide) ?_
      exact wk_X7_occurs_32 C0 hK hT0 v hP (k5 := k5) (hk5 := hk5) (ls := ls) (hl := (lv_sub hl [0, 1, 3] rfl)) (h := h)
    · replace h := ite_f h c23
      refine lv_iload hx hb dX7_occurs_26 (lv_at hl 3 rfl) ?_
      refine lv_goto (tgt := 32) hx hb dX7_occurs_28 (by decide) ?_
      exact wk_X7_occurs_32 C0 hK hT0 v hP (k5 := k5) (hk5 := hk5) (ls := ls) (hl := (lv_sub hl [0, 1, 3] rfl)) (h := h)
set_option maxHeartbeats 4000000 in
set_option maxRecDepth 100000 in
theorem wk_X7_occurs_5 {p : Program} {l : Launch} {e : Env} {s : State} {m : MethodId} {args : Array Value} {below : List Frame} {meth : Method} {c : Code} {D : va_G} {ca : Nat → ClassId} {b : Nat → Nat} {tw : Nat} {tt : Nat → Nat} (C0 : Cx p s m args meth c cX7_occurs (some .int) 5 wsX7_occurs RX7) (hK : va_K D vwCl (tys3 ca) s) (hT0 : tW tw tt (ad_of 6 b) s s.heap) (v : YS) (hP : va_P D vwCl (YW ca b v) s.heap) {q : Int32} : ∀ (n : Nat) (x1 : Int64) (x3 : Int32) (x4 : Int32) (ls : Array Slot) (hl : lv_has ls 5 [(0, .ref (b 0)), (1, .long x1), (3, .int x3), (4, .int x4)]) (h : fn_X7_occurs_5 v n x1 x3 x4 = some q), W p l e rm_X7_occurs s m args below meth c s.heap [] 0 0 (MQ below (HQ (some (.int q))) args s 0 0 (fun _ => False)) (F0 m 5 ls []) := by
  intro n
  induction n with
  | zero => intro x1 x3 x4 ls hl h; unfold fn_X7_occurs_5 at h; cases h
  | succ n ih => intro x1 x3 x4 ls hl h; exact wk_X7_occurs_5_body C0 hK hT0 v hP (k5 := fn_X7_occurs_5 v n) (hk5 := ih) (hl := hl) (h := h)
set_option maxHeartbeats 4000000 in
set_option maxRecDepth 100000 in
theorem wk_X7_occurs {p : Program} {l : Launch} {e : Env} {s : State} {m : MethodId} {args : Array Value} {below : List Frame} {meth : Method} {c : Code} {D : va_G} {ca : Nat → ClassId} {b : Nat → Nat} {tw : Nat} {tt : Nat → Nat} (C0 : Cx p s m args meth c cX7_occurs (some .int) 5 wsX7_occurs RX7) (hK : va_K D vwCl (tys3 ca) s) (hT0 : tW tw tt (ad_of 6 b) s s.heap) (v : YS) (hP : va_P D vwCl (YW ca b v) s.heap) {q : Int32} (x1 : Int64) (ls : Array Slot) (hl : lv_has ls 5 [(0, .ref (b 0)), (1, .long x1)]) (h : fn_X7_occurs v x1 = some q) : W p l e rm_X7_occurs s m args below meth c s.heap [] 0 0 (MQ below (HQ (some (.int q))) args s 0 0 (fun _ => False)) (F0 m 0 ls []) := by
  obtain ⟨hx, hb, hr, hml, hown, hts, hlocks⟩ := id C0
  have hS : va_S (ad_of 6 b) s.heap s.heap [] := va_S.rf
  unfold fn_X7_occurs at h
  refine lv_iconst (v := 0) hx hb dX7_occurs_0 (by decide) ?_
  refine lv_istore_n (lv' := [(3, .int 0), (0, .ref (b 0)), (1, .long x1)]) hx hb dX7_occurs_1 rfl hl (by decide) rfl (fun ls hl => ?_)
  refine lv_iconst (v := 0) hx hb dX7_occurs_2 (by decide) ?_
  refine lv_istore (lv' := [(4, .int 0), (3, .int 0), (0, .ref (b 0)), (1, .long x1)]) hx hb dX7_occurs_3 hl (by decide) rfl (fun ls hl => ?_)
  exact wk_X7_occurs_5 C0 hK hT0 v hP  FU x1 0 0 ls (lv_sub hl [2, 3, 1, 0] rfl) h
theorem ct_X7_occurs (l : Launch) (D : va_G) (ca : Nat → ClassId) (b : Nat → Nat) (tw : Nat) (tt : Nat → Nat) (v : YS) (x1 : Int64) {q : Int32} (h : fn_X7_occurs v x1 = some q) : Hp l yX7_occurs wsX7_occurs rm_X7_occurs [.ref (b 0), .long x1] (GW D ca tw tt (ad_of 6 b) (YW ca b v)) (some (.int q)) := by
  refine Hp.of (cc := cX7_occurs) (nL := 5) (ret := (some .int)) (own := RX7) (by decide) rfl rfl (Nat.le_of_ble_eq_true rfl) ?_
  intro p e s m below meth c ls C0 hB hl
  exact wk_X7_occurs C0 hB.2.1 hB.2.2 v hB.1 (hl := hl) (h := h)
abbrev rm_X7_reset : Room := { frames := 1, cells := 0, slots := 0, locals := 22 }
theorem lk_X7_reset_f7 : Cond.fieldLink RX7 7 "BooleanRingModel" "n" "I" ∈ wsX7_reset := by decide +kernel
theorem lk_X7_reset_f34 : Cond.fieldLink RX7 34 "BooleanRingModel" "states" "I" ∈ wsX7_reset := by decide +kernel
theorem lk_X7_reset_f13 : Cond.fieldLink RX7 13 "BooleanRingModel" "p" "[J" ∈ wsX7_reset := by decide +kernel
theorem ly_X7_reset_X7 : ∀ w ∈ wsX70, w ∈ wsX7_reset := by decide +kernel
set_option maxHeartbeats 4000000 in
set_option maxRecDepth 100000 in
theorem wk_X7_reset_29_body {p : Program} {l : Launch} {e : Env} {s : State} {m : MethodId} {args : Array Value} {below : List Frame} {meth : Method} {c : Code} {D : va_G} {ca : Nat → ClassId} {b : Nat → Nat} {tw : Nat} {tt : Nat → Nat} (C0 : Cx p s m args meth c cX7_reset (some .int) 4 wsX7_reset RX7) (hap : ap_ok 6 b) (hK : va_K D vwCl (tys3 ca) s) (hT0 : tW tw tt (ad_of 6 b) s s.heap) {q : Int32 × YS} (k29 : YS → Int32 → Int32 → Option (Int32 × YS)) (hk29 : ∀ (v : YS) (H : Heap) (locs : List Loc) (x2 : Int32) (x3 : Int32) (ls : Array Slot) (hP : va_P D vwCl (YW ca b v) H) (hS : va_S (ad_of 6 b) s.heap H locs) (hl : lv_has ls 4 [(0, .ref (b 0)), (2, .int x2), (3, .int x3)]) (h : k29 v x2 x3 = some q), W p l e rm_X7_reset s m args below meth c H locs 0 0 (MQ below (PQ (some (.int q.1)) (fun H => va_P D vwCl (YW ca b q.2) H) (ad_of 6 b)) args s 0 0 (ad_of 6 b)) (F0 m 29 ls [])) (v : YS) (H : Heap) (locs : List Loc) (x2 : Int32) (x3 : Int32) (ls : Array Slot) (hP : va_P D vwCl (YW ca b v) H) (hS : va_S (ad_of 6 b) s.heap H locs) (hl : lv_has ls 4 [(0, .ref (b 0)), (2, .int x2), (3, .int x3)]) (h : fn_X7_reset_29_body k29 v x2 x3 = some q) : W p l e rm_X7_reset s m args below meth c H locs 0 0 (MQ below (PQ (some (.int q.1)) (fun H => va_P D vwCl (YW ca b q.2) H) (ad_of 6 b)) args s 0 0 (ad_of 6 b)) (F0 m 29 ls []) := by
  obtain ⟨hx, hb, hr, hml, hown, hts, hlocks⟩ := id C0
  have hD0 := fun v => YW_D (ca := ca) hap v
  unfold fn_X7_reset_29_body at h
  refine lv_iload_n hx hb dX7_reset_29 rfl (lv_at hl 2 rfl) ?_
  refine lv_bipush (v := 8) hx hb dX7_reset_30 (by decide) ?_
  refine lv_icmp_ge (tgt := 48) hx hb dX7_reset_32 (by decide) (fun c32 => ?_) (fun c32 => ?_)
  · replace h := ite_t h c32
    refine lv_iload_n hx hb dX7_reset_48 rfl (lv_at hl 1 rfl) ?_
    obtain rfl := Option.some.inj h
    exact mp_iret hx hb hr hlocks hP hS dX7_reset_49
  · replace h := ite_f h c32
    refine lv_aload_n hx hb dX7_reset_35 rfl (lv_at hl 0 rfl) ?_
    refine va_get (D := D) (ci := 4) (v := .ref (b 1)) (C := RX7) (T := TX7) (N := 9) hx hb hts ly_X7_reset_X7 hown hK hP 0 rfl rfl 1 (by decide) (hts _ lk_X7_reset_f13) (fun _ h9 => h9) rfl dX7_reset_36 ?_
    refine lv_iload_n hx hb dX7_reset_39 rfl (lv_at hl 2 rfl) ?_
    refine lv_lconst (v := 0) hx hb dX7_reset_40 (by decide) ?_
    obtain ⟨g41, e41, h⟩ := Option.bind_eq_some_iff.mp h
    refine wr_last hx hb hK hP (hD0 v) hS 1 0 e41 rfl rfl dX7_reset_41 (fun H locs hP hS => ?_)
    have hP : va_P D vwCl (YW ca b (ys_p v g41)) H := hP
    refine lv_iinc (v := (x3 + 1)) (lv' := [(3, .int (x3 + 1)), (0, .ref (b 0)), (2, .int x2)]) hx hb dX7_reset_42 hl (k := 2) rfl rfl (by decide) rfl (fun ls hl => ?_)
    refine lv_goto (tgt := 29) hx hb dX7_reset_45 (by decide) ?_
    exact hk29 (ys_p v g41) H locs x2 (x3 + 1) ls hP hS (lv_sub hl [1, 2, 0] rfl) h
set_option maxHeartbeats 4000000 in
set_option maxRecDepth 100000 in
theorem wk_X7_reset_29 {p : Program} {l : Launch} {e : Env} {s : State} {m : MethodId} {args : Array Value} {below : List Frame} {meth : Method} {c : Code} {D : va_G} {ca : Nat → ClassId} {b : Nat → Nat} {tw : Nat} {tt : Nat → Nat} (C0 : Cx p s m args meth c cX7_reset (some .int) 4 wsX7_reset RX7) (hap : ap_ok 6 b) (hK : va_K D vwCl (tys3 ca) s) (hT0 : tW tw tt (ad_of 6 b) s s.heap) {q : Int32 × YS} : ∀ (n : Nat) (v : YS) (H : Heap) (locs : List Loc) (x2 : Int32) (x3 : Int32) (ls : Array Slot) (hP : va_P D vwCl (YW ca b v) H) (hS : va_S (ad_of 6 b) s.heap H locs) (hl : lv_has ls 4 [(0, .ref (b 0)), (2, .int x2), (3, .int x3)]) (h : fn_X7_reset_29 n v x2 x3 = some q), W p l e rm_X7_reset s m args below meth c H locs 0 0 (MQ below (PQ (some (.int q.1)) (fun H => va_P D vwCl (YW ca b q.2) H) (ad_of 6 b)) args s 0 0 (ad_of 6 b)) (F0 m 29 ls []) := by
  intro n
  induction n with
  | zero => intro v H locs x2 x3 ls hP hS hl h; unfold fn_X7_reset_29 at h; cases h
  | succ n ih => intro v H locs x2 x3 ls hP hS hl h; exact wk_X7_reset_29_body C0 hap hK hT0 (k29 := fn_X7_reset_29 n) (hk29 := ih) (hl := hl) (hP := hP) (hS := hS) (h := h)
set_option maxHeartbeats 4000000 in
set_option maxRecDepth 100000 in
theorem wk_X7_reset {p : Program} {l : Launch} {e : Env} {s : State} {m : MethodId} {args : Array Value} {below : List Frame} {meth : Method} {c : Code} {D : va_G} {ca : Nat → ClassId} {b : Nat → Nat} {tw : Nat} {tt : Nat → Nat} (C0 : Cx p s m args meth c cX7_reset (some .int) 4 wsX7_reset RX7) (hap : ap_ok 6 b) (hK : va_K D vwCl (tys3 ca) s) (hT0 : tW tw tt (ad_of 6 b) s s.heap) {q : Int32 × YS} (v : YS) (H : Heap) (locs : List Loc) (x1 : Int32) (ls : Array Slot) (hP : va_P D vwCl (YW ca b v) H) (hS : va_S (ad_of 6 b) s.heap H locs) (hl : lv_has ls 4 [(0, .ref (b 0)), (1, .int x1)]) (h : fn_X7_reset v x1 = some q) : W p l e rm_X7_reset s m args below meth c H locs 0 0 (MQ below (PQ (some (.int q.1)) (fun H => va_P D vwCl (YW ca b q.2) H) (ad_of 6 b)) args s 0 0 (ad_of 6 b)) (F0 m 0 ls []) := by
  obtain ⟨hx, hb, hr, hml, hown, hts, hlocks⟩ := id C0
  have hD0 := fun v => YW_D (ca := ca) hap v
  unfold fn_X7_reset at h
  refine lv_iload_n hx hb dX7_reset_0 rfl (lv_at hl 1 rfl) ?_
  refine lv_iconst (v := 1) hx hb dX7_reset_1 (by decide) ?_
  refine lv_bipush (v := 6) hx hb dX7_reset_2 (by decide) ?_
  obtain ⟨q4, e4, h⟩ := Option.bind_eq_some_iff.mp h
  refine hp_S (As := [.int x1, .int 1, .int 6]) (rest := []) ⟨hx, hb, hml, hown, hts⟩ (ct_X7_in l tw tt x1 1 6 e4) (va_cwS 3 hts gX7_reset_X7_in rfl rfl rfl (by decide +kernel) ⟨Nat.le_of_ble_eq_true rfl, Nat.le_of_ble_eq_true rfl⟩) GP.mv (GP.from hT0 hS) rfl hl.1 rfl (Nat.le_of_ble_eq_true rfl) dX7_reset_4 ⟨Nat.zero_le _, Nat.zero_le _⟩ ?_
  refine W.eq (g2 := F0 m 7 ls [.int q4]) rfl ?_
  refine lv_if_ne (tgt := 12) hx hb dX7_reset_7 (by decide) (fun c7 => ?_) (fun c7 => ?_)
  · replace h := ite_f h c7
    refine lv_aload_n hx hb dX7_reset_12 rfl (lv_at hl 0 rfl) ?_
    refine va_get (D := D) (ci := 4) (v := .int (y_n v)) (C := RX7) (T := TX7) (N := 9) hx hb hts ly_X7_reset_X7 hown hK hP 0 rfl rfl 0 (by decide) (hts _ lk_X7_reset_f7) (fun _ h9 => h9) rfl dX7_reset_13 ?_
    refine lv_istore_n (lv' := [(2, .int (y_n v)), (0, .ref (b 0)), (1, .int x1)]) hx hb dX7_reset_16 rfl hl (by decide) rfl (fun ls hl => ?_)
    refine lv_aload_n hx hb dX7_reset_17 rfl (lv_at hl 1 rfl) ?_
    refine lv_iload_n hx hb dX7_reset_18 rfl (lv_at hl 2 rfl) ?_
    refine va_put (D := D) (ci := 4) (v := .int x1) (ty := .int) (C := RX7) (T := TX7) (N := 9) hx hb hts ly_X7_reset_X7 tyX7 tyX7_ok nmX7 hown hK hP (hD0 v) hS 0 rfl rfl 0 (by decide) (hts _ lk_X7_reset_f7) (fun _ h9 => h9) rfl (by decide +kernel) rfl rfl (Nat.le_of_ble_eq_true rfl) dX7_reset_19 (fun H locs hP _ hS => ?_)
    have hP : va_P D vwCl (YW ca b (ys_n v x1)) H := hP
    refine lv_aload_n hx hb dX7_reset_22 rfl (lv_at hl 1 rfl) ?_
    refine lv_iconst (v := 0) hx hb dX7_reset_23 (by decide) ?_
    refine va_put (D := D) (ci := 4) (v := .int 0) (ty := .int) (C := RX7) (T := TX7) (N := 9) hx hb hts ly_X7_reset_X7 tyX7 tyX7_ok nmX7 hown hK hP (hD0 (ys_n v x1)) hS 0 rfl rfl 3 (by decide) (hts _ lk_X7_reset_f34) (fun _ h9 => h9) rfl (by decide +kernel) rfl rfl (Nat.le_of_ble_eq_true rfl) dX7_reset_24 (fun H locs hP _ hS => ?_)
    have hP : va_P D vwCl (YW ca b (ys_states (ys_n v x1) 0)) H := hP
    refine lv_iconst (v := 0) hx hb dX7_reset_27 (by decide) ?_
    refine lv_istore_n (lv' := [(3, .int 0), (2, .int (y_n v)), (0, .ref (b 0)), (1, .int x1)]) hx hb dX7_reset_28 rfl hl (by decide) rfl (fun ls hl => ?_)
    exact wk_X7_reset_29 C0 hap hK hT0  FU (ys_states (ys_n v x1) 0) H locs (y_n v) 0 ls hP hS (lv_sub hl [2, 1, 0] rfl) h
  · replace h := ite_t h c7
    refine lv_iconst (v := (-1)) hx hb dX7_reset_10 (by decide) ?_
    obtain rfl := Option.some.inj h
    exact mp_iret hx hb hr hlocks hP hS dX7_reset_11
theorem ct_X7_reset (l : Launch) (D : va_G) (ca : Nat → ClassId) (b : Nat → Nat) (tw : Nat) (tt : Nat → Nat) (hap : ap_ok 6 b) (v : YS) (x1 : Int32) {q : Int32 × YS} (h : fn_X7_reset v x1 = some q) : Mp l yX7_reset wsX7_reset rm_X7_reset [.ref (b 0), .int x1] (GW D ca tw tt (ad_of 6 b) (YW ca b v)) (some (.int q.1)) (fun H => va_P D vwCl (YW ca b q.2) H) (ad_of 6 b) := by
  refine Mp.of (cc := cX7_reset) (nL := 4) (ret := (some .int)) (own := RX7) (by decide) rfl rfl (Nat.le_of_ble_eq_true rfl) ?_
  intro p e s m below meth c ls C0 hB hl
  exact wk_X7_reset C0 hap hB.2.1 hB.2.2 (hP := hB.1) (hS := va_S.rf) (hl := hl) (h := h)
abbrev rm_X7_variables : Room := { frames := 0, cells := 0, slots := 0, locals := 0 }
theorem lk_X7_variables_f7 : Cond.fieldLink RX7 7 "BooleanRingModel" "n" "I" ∈ wsX7_variables := by decide +kernel
theorem ly_X7_variables_X7 : ∀ w ∈ wsX70, w ∈ wsX7_variables := by decide +kernel
set_option maxHeartbeats 4000000 in
set_option maxRecDepth 100000 in
theorem wk_X7_variables {p : Program} {l : Launch} {e : Env} {s : State} {m : MethodId} {args : Array Value} {below : List Frame} {meth : Method} {c : Code} {D : va_G} {ca : Nat → ClassId} {b : Nat → Nat} {tw : Nat} {tt : Nat → Nat} (C0 : Cx p s m args meth c cX7_variables (some .int) 1 wsX7_variables RX7) (hK : va_K D vwCl (tys3 ca) s) (hT0 : tW tw tt (ad_of 6 b) s s.heap) (v : YS) (hP : va_P D vwCl (YW ca b v) s.heap) {q : Int32} (ls : Array Slot) (hl : lv_has ls 1 [(0, .ref (b 0))]) (h : fn_X7_variables v  = some q) : W p l e rm_X7_variables s m args below meth c s.heap [] 0 0 (MQ below (HQ (some (.int q))) args s 0 0 (fun _ => False)) (F0 m 0 ls []) := by
  obtain ⟨hx, hb, hr, hml, hown, hts, hlocks⟩ := id C0
  have hS : va_S (ad_of 6 b) s.heap s.heap [] := va_S.rf
  unfold fn_X7_variables at h
  refine lv_aload_n hx hb dX7_variables_0 rfl (lv_at hl 0 rfl) ?_
  refine va_get (D := D) (ci := 4) (v := .int (y_n v)) (C := RX7) (T := TX7) (N := 9) hx hb hts ly_X7_variables_X7 hown hK hP 0 rfl rfl 0 (by decide) (hts _ lk_X7_variables_f7) (fun _ h9 => h9) rfl dX7_variables_1 ?_
  obtain rfl := Option.some.inj h
  exact hp_iret hx hb hr hlocks dX7_variables_4
theorem ct_X7_variables (l : Launch) (D : va_G) (ca : Nat → ClassId) (b : Nat → Nat) (tw : Nat) (tt : Nat → Nat) (v : YS) {q : Int32} (h : fn_X7_variables v  = some q) : Hp l yX7_variables wsX7_variables rm_X7_variables [.ref (b 0)] (GW D ca tw tt (ad_of 6 b) (YW ca b v)) (some (.int q)) := by
  refine Hp.of (cc := cX7_variables) (nL := 1) (ret := (some .int)) (own := RX7) (by decide) rfl rfl (Nat.le_of_ble_eq_true rfl) ?_
  intro p e s m below meth c ls C0 hB hl
  exact wk_X7_variables C0 hB.2.1 hB.2.2 v hB.1 (hl := hl) (h := h)
abbrev rm_X7_toggle : Room := { frames := 2, cells := 0, slots := 0, locals := 47 }
theorem lk_X7_toggle_f13 : Cond.fieldLink RX7 13 "BooleanRingModel" "p" "[J" ∈ wsX7_toggle := by decide +kernel
theorem ly_X7_toggle_X7 : ∀ w ∈ wsX70, w ∈ wsX7_toggle := by decide +kernel
set_option maxHeartbeats 4000000 in
set_option maxRecDepth 100000 in
theorem wk_X7_toggle {p : Program} {l : Launch} {e : Env} {s : State} {m : MethodId} {args : Array Value} {below : List Frame} {meth : Method} {c : Code} {D : va_G} {ca : Nat → ClassId} {b : Nat → Nat} {tw : Nat} {tt : Nat → Nat} (C0 : Cx p s m args meth c cX7_toggle (some .int) 3 wsX7_toggle RX7) (hap : ap_ok 6 b) (hK : va_K D vwCl (tys3 ca) s) (hT0 : tW tw tt (ad_of 6 b) s s.heap) {q : Int32 × YS} (v : YS) (H : Heap) (locs : List Loc) (x1 : Int32) (x2 : Int32) (ls : Array Slot) (hP : va_P D vwCl (YW ca b v) H) (hS : va_S (ad_of 6 b) s.heap H locs) (hl : lv_has ls 3 [(0, .ref (b 0)), (1, .int x1), (2, .int x2)]) (h : fn_X7_toggle v x1 x2 = some q) : W p l e rm_X7_toggle s m args below meth c H locs 0 0 (MQ below (PQ (some (.int q.1)) (fun H => va_P D vwCl (YW ca b q.2) H) (ad_of 6 b)) args s 0 0 (ad_of 6 b)) (F0 m 0 ls []) := by
  obtain ⟨hx, hb, hr, hml, hown, hts, hlocks⟩ := id C0
  have hD0 := fun v => YW_D (ca := ca) hap v
  unfold fn_X7_toggle at h
  refine lv_iload_n hx hb dX7_toggle_0 rfl (lv_at hl 1 rfl) ?_
  obtain ⟨q1, e1, h⟩ := Option.bind_eq_some_iff.mp h
  refine hp_S (As := [.int x1]) (rest := []) ⟨hx, hb, hml, hown, hts⟩ (ct_X7_isRegister l tw tt x1 e1) (va_cwS 1 hts gX7_toggle_X7_isRegister rfl rfl rfl (by decide +kernel) ⟨Nat.le_of_ble_eq_true rfl, Nat.le_of_ble_eq_true rfl⟩) GP.mv (GP.from hT0 hS) rfl hl.1 rfl (Nat.le_of_ble_eq_true rfl) dX7_toggle_1 ⟨Nat.zero_le _, Nat.zero_le _⟩ ?_
  refine W.eq (g2 := F0 m 4 ls [.int q1]) rfl ?_
  refine lv_if_eq (tgt := 33) hx hb dX7_toggle_4 (by decide) (fun c4 => ?_) (fun c4 => ?_)
  · replace h := ite_t h c4
    refine lv_iconst (v := (-1)) hx hb dX7_toggle_33 (by decide) ?_
    obtain rfl := Option.some.inj h
    exact mp_iret hx hb hr hlocks hP hS dX7_toggle_34
  · replace h := ite_f h c4
    refine lv_aload_n hx hb dX7_toggle_7 rfl (lv_at hl 0 rfl) ?_
    refine lv_iload_n hx hb dX7_toggle_8 rfl (lv_at hl 2 rfl) ?_
    obtain ⟨q9, e9, h⟩ := Option.bind_eq_some_iff.mp h
    refine hp_V (As := [.int x2]) (rest := []) (b := (b 0)) ⟨hx, hb, hml, hown, hts⟩ (ct_X7_isMask l D ca b tw tt v x2 e9) (cwV 1 hts gX7_toggle_X7_isMask rfl rfl rfl (by decide +kernel) ⟨Nat.le_of_ble_eq_true rfl, Nat.le_of_ble_eq_true rfl⟩) (va_recv hK hP (ci := 4) (q0 := 0) rfl rfl) GW.mv (GW.from hP hK hT0 hS) rfl hl.1 rfl (Nat.le_of_ble_eq_true rfl) dX7_toggle_9 ⟨Nat.zero_le _, Nat.zero_le _⟩ ?_
    refine W.eq (g2 := F0 m 12 ls [.int q9]) rfl ?_
    refine lv_if_eq (tgt := 33) hx hb dX7_toggle_12 (by decide) (fun c12 => ?_) (fun c12 => ?_)
    · replace h := ite_t h c12
      refine lv_iconst (v := (-1)) hx hb dX7_toggle_33 (by decide) ?_
      obtain rfl := Option.some.inj h
      exact mp_iret hx hb hr hlocks hP hS dX7_toggle_34
    · replace h := ite_f h c12
      refine lv_aload_n hx hb dX7_toggle_15 rfl (lv_at hl 0 rfl) ?_
      refine lv_iload_n hx hb dX7_toggle_16 rfl (lv_at hl 1 rfl) ?_
      refine lv_aload_n hx hb dX7_toggle_17 rfl (lv_at hl 0 rfl) ?_
      refine va_get (D := D) (ci := 4) (v := .ref (b 1)) (C := RX7) (T := TX7) (N := 9) hx hb hts ly_X7_toggle_X7 hown hK hP 0 rfl rfl 1 (by decide) (hts _ lk_X7_toggle_f13) (fun _ h9 => h9) rfl dX7_toggle_18 ?_
      refine lv_iload_n hx hb dX7_toggle_21 rfl (lv_at hl 1 rfl) ?_
      obtain ⟨q22, e22, h⟩ := Option.bind_eq_some_iff.mp h
      refine rd_lald hx hb hK hP 1 0 e22 rfl rfl dX7_toggle_22 ?_
      refine lv_lconst (v := 1) hx hb dX7_toggle_23 (by decide) ?_
      refine lv_iload_n hx hb dX7_toggle_24 rfl (lv_at hl 2 rfl) ?_
      refine lv_lshl (v := (lsh 1 x2)) hx hb dX7_toggle_25 rfl ?_
      refine lv_lxor hx hb dX7_toggle_26 ?_
      obtain ⟨q27, e27, h⟩ := Option.bind_eq_some_iff.mp h
      refine mp_V (As := [.int x1, .long (q22 ^^^ (lsh 1 x2))]) (rest := []) (b := (b 0)) ⟨hx, hb, hml, hown, hts⟩ (ct_X7_gets l D ca b tw tt hap v x1 (q22 ^^^ (lsh 1 x2)) e27) (cwV 2 hts gX7_toggle_X7_gets rfl rfl rfl (by decide +kernel) ⟨Nat.le_of_ble_eq_true rfl, Nat.le_of_ble_eq_true rfl⟩) (va_recv hK hP (ci := 4) (q0 := 0) rfl rfl) GW.mv (GW.from hP hK hT0 hS) hS rfl hl.1 rfl (Nat.le_of_ble_eq_true rfl) dX7_toggle_27 ⟨Nat.zero_le _, Nat.zero_le _⟩ (fun H locs hP hS => ?_)
      refine W.eq (g2 := F0 m 30 ls [.int q27.1]) rfl ?_
      refine lv_goto (tgt := 34) hx hb dX7_toggle_30 (by decide) ?_
      obtain rfl := Option.some.inj h
      exact mp_iret hx hb hr hlocks hP hS dX7_toggle_34
theorem ct_X7_toggle (l : Launch) (D : va_G) (ca : Nat → ClassId) (b : Nat → Nat) (tw : Nat) (tt : Nat → Nat) (hap : ap_ok 6 b) (v : YS) (x1 : Int32) (x2 : Int32) {q : Int32 × YS} (h : fn_X7_toggle v x1 x2 = some q) : Mp l yX7_toggle wsX7_toggle rm_X7_toggle [.ref (b 0), .int x1, .int x2] (GW D ca tw tt (ad_of 6 b) (YW ca b v)) (some (.int q.1)) (fun H => va_P D vwCl (YW ca b q.2) H) (ad_of 6 b) := by
  refine Mp.of (cc := cX7_toggle) (nL := 3) (ret := (some .int)) (own := RX7) (by decide) rfl rfl (Nat.le_of_ble_eq_true rfl) ?_
  intro p e s m below meth c ls C0 hB hl
  exact wk_X7_toggle C0 hap hB.2.1 hB.2.2 (hP := hB.1) (hS := va_S.rf) (hl := hl) (h := h)
abbrev rm_X7_copy : Room := { frames := 2, cells := 0, slots := 0, locals := 47 }
theorem lk_X7_copy_f13 : Cond.fieldLink RX7 13 "BooleanRingModel" "p" "[J" ∈ wsX7_copy := by decide +kernel
theorem ly_X7_copy_X7 : ∀ w ∈ wsX70, w ∈ wsX7_copy := by decide +kernel
set_option maxHeartbeats 4000000 in
set_option maxRecDepth 100000 in
theorem wk_X7_copy {p : Program} {l : Launch} {e : Env} {s : State} {m : MethodId} {args : Array Value} {below : List Frame} {meth : Method} {c : Code} {D : va_G} {ca : Nat → ClassId} {b : Nat → Nat} {tw : Nat} {tt : Nat → Nat} (C0 : Cx p s m args meth c cX7_copy (some .int) 3 wsX7_copy RX7) (hap : ap_ok 6 b) (hK : va_K D vwCl (tys3 ca) s) (hT0 : tW tw tt (ad_of 6 b) s s.heap) {q : Int32 × YS} (v : YS) (H : Heap) (locs : List Loc) (x1 : Int32) (x2 : Int32) (ls : Array Slot) (hP : va_P D vwCl (YW ca b v) H) (hS : va_S (ad_of 6 b) s.heap H locs) (hl : lv_has ls 3 [(0, .ref (b 0)), (1, .int x1), (2, .int x2)]) (h : fn_X7_copy v x1 x2 = some q) : W p l e rm_X7_copy s m args below meth c H locs 0 0 (MQ below (PQ (some (.int q.1)) (fun H => va_P D vwCl (YW ca b q.2) H) (ad_of 6 b)) args s 0 0 (ad_of 6 b)) (F0 m 0 ls []) := by
  obtain ⟨hx, hb, hr, hml, hown, hts, hlocks⟩ := id C0
  have hD0 := fun v => YW_D (ca := ca) hap v
  unfold fn_X7_copy at h
  refine lv_iload_n hx hb dX7_copy_0 rfl (lv_at hl 1 rfl) ?_
  obtain ⟨q1, e1, h⟩ := Option.bind_eq_some_iff.mp h
  refine hp_S (As := [.int x1]) (rest := []) ⟨hx, hb, hml, hown, hts⟩ (ct_X7_isRegister l tw tt x1 e1) (va_cwS 1 hts gX7_copy_X7_isRegister rfl rfl rfl (by decide +kernel) ⟨Nat.le_of_ble_eq_true rfl, Nat.le_of_ble_eq_true rfl⟩) GP.mv (GP.from hT0 hS) rfl hl.1 rfl (Nat.le_of_ble_eq_true rfl) dX7_copy_1 ⟨Nat.zero_le _, Nat.zero_le _⟩ ?_
  refine W.eq (g2 := F0 m 4 ls [.int q1]) rfl ?_
  refine lv_if_eq (tgt := 28) hx hb dX7_copy_4 (by decide) (fun c4 => ?_) (fun c4 => ?_)
  · replace h := ite_t h c4
    refine lv_iconst (v := (-1)) hx hb dX7_copy_28 (by decide) ?_
    obtain rfl := Option.some.inj h
    exact mp_iret hx hb hr hlocks hP hS dX7_copy_29
  · replace h := ite_f h c4
    refine lv_iload_n hx hb dX7_copy_7 rfl (lv_at hl 2 rfl) ?_
    obtain ⟨q8, e8, h⟩ := Option.bind_eq_some_iff.mp h
    refine hp_S (As := [.int x2]) (rest := []) ⟨hx, hb, hml, hown, hts⟩ (ct_X7_isRegister l tw tt x2 e8) (va_cwS 1 hts gX7_copy_X7_isRegister rfl rfl rfl (by decide +kernel) ⟨Nat.le_of_ble_eq_true rfl, Nat.le_of_ble_eq_true rfl⟩) GP.mv (GP.from hT0 hS) rfl hl.1 rfl (Nat.le_of_ble_eq_true rfl) dX7_copy_8 ⟨Nat.zero_le _, Nat.zero_le _⟩ ?_
    refine W.eq (g2 := F0 m 11 ls [.int q8]) rfl ?_
    refine lv_if_eq (tgt := 28) hx hb dX7_copy_11 (by decide) (fun c11 => ?_) (fun c11 => ?_)
    · replace h := ite_t h c11
      refine lv_iconst (v := (-1)) hx hb dX7_copy_28 (by decide) ?_
      obtain rfl := Option.some.inj h
      exact mp_iret hx hb hr hlocks hP hS dX7_copy_29
    · replace h := ite_f h c11
      refine lv_aload_n hx hb dX7_copy_14 rfl (lv_at hl 0 rfl) ?_
      refine lv_iload_n hx hb dX7_copy_15 rfl (lv_at hl 2 rfl) ?_
      refine lv_aload_n hx hb dX7_copy_16 rfl (lv_at hl 0 rfl) ?_
      refine va_get (D := D) (ci := 4) (v := .ref (b 1)) (C := RX7) (T := TX7) (N := 9) hx hb hts ly_X7_copy_X7 hown hK hP 0 rfl rfl 1 (by decide) (hts _ lk_X7_copy_f13) (fun _ h9 => h9) rfl dX7_copy_17 ?_
      refine lv_iload_n hx hb dX7_copy_20 rfl (lv_at hl 1 rfl) ?_
      obtain ⟨q21, e21, h⟩ := Option.bind_eq_some_iff.mp h
      refine rd_lald hx hb hK hP 1 0 e21 rfl rfl dX7_copy_21 ?_
      obtain ⟨q22, e22, h⟩ := Option.bind_eq_some_iff.mp h
      refine mp_V (As := [.int x2, .long q21]) (rest := []) (b := (b 0)) ⟨hx, hb, hml, hown, hts⟩ (ct_X7_gets l D ca b tw tt hap v x2 q21 e22) (cwV 2 hts gX7_copy_X7_gets rfl rfl rfl (by decide +kernel) ⟨Nat.le_of_ble_eq_true rfl, Nat.le_of_ble_eq_true rfl⟩) (va_recv hK hP (ci := 4) (q0 := 0) rfl rfl) GW.mv (GW.from hP hK hT0 hS) hS rfl hl.1 rfl (Nat.le_of_ble_eq_true rfl) dX7_copy_22 ⟨Nat.zero_le _, Nat.zero_le _⟩ (fun H locs hP hS => ?_)
      refine W.eq (g2 := F0 m 25 ls [.int q22.1]) rfl ?_
      refine lv_goto (tgt := 29) hx hb dX7_copy_25 (by decide) ?_
      obtain rfl := Option.some.inj h
      exact mp_iret hx hb hr hlocks hP hS dX7_copy_29
theorem ct_X7_copy (l : Launch) (D : va_G) (ca : Nat → ClassId) (b : Nat → Nat) (tw : Nat) (tt : Nat → Nat) (hap : ap_ok 6 b) (v : YS) (x1 : Int32) (x2 : Int32) {q : Int32 × YS} (h : fn_X7_copy v x1 x2 = some q) : Mp l yX7_copy wsX7_copy rm_X7_copy [.ref (b 0), .int x1, .int x2] (GW D ca tw tt (ad_of 6 b) (YW ca b v)) (some (.int q.1)) (fun H => va_P D vwCl (YW ca b q.2) H) (ad_of 6 b) := by
  refine Mp.of (cc := cX7_copy) (nL := 3) (ret := (some .int)) (own := RX7) (by decide) rfl rfl (Nat.le_of_ble_eq_true rfl) ?_
  intro p e s m below meth c ls C0 hB hl
  exact wk_X7_copy C0 hap hB.2.1 hB.2.2 (hP := hB.1) (hS := va_S.rf) (hl := hl) (h := h)
abbrev rm_X7_sum : Room := { frames := 2, cells := 0, slots := 0, locals := 47 }
theorem lk_X7_sum_f13 : Cond.fieldLink RX7 13 "BooleanRingModel" "p" "[J" ∈ wsX7_sum := by decide +kernel
theorem ly_X7_sum_X7 : ∀ w ∈ wsX70, w ∈ wsX7_sum := by decide +kernel
set_option maxHeartbeats 4000000 in
set_option maxRecDepth 100000 in
theorem wk_X7_sum {p : Program} {l : Launch} {e : Env} {s : State} {m : MethodId} {args : Array Value} {below : List Frame} {meth : Method} {c : Code} {D : va_G} {ca : Nat → ClassId} {b : Nat → Nat} {tw : Nat} {tt : Nat → Nat} (C0 : Cx p s m args meth c cX7_sum (some .int) 4 wsX7_sum RX7) (hap : ap_ok 6 b) (hK : va_K D vwCl (tys3 ca) s) (hT0 : tW tw tt (ad_of 6 b) s s.heap) {q : Int32 × YS} (v : YS) (H : Heap) (locs : List Loc) (x1 : Int32) (x2 : Int32) (x3 : Int32) (ls : Array Slot) (hP : va_P D vwCl (YW ca b v) H) (hS : va_S (ad_of 6 b) s.heap H locs) (hl : lv_has ls 4 [(0, .ref (b 0)), (1, .int x1), (2, .int x2), (3, .int x3)]) (h : fn_X7_sum v x1 x2 x3 = some q) : W p l e rm_X7_sum s m args below meth c H locs 0 0 (MQ below (PQ (some (.int q.1)) (fun H => va_P D vwCl (YW ca b q.2) H) (ad_of 6 b)) args s 0 0 (ad_of 6 b)) (F0 m 0 ls []) := by
  obtain ⟨hx, hb, hr, hml, hown, hts, hlocks⟩ := id C0
  have hD0 := fun v => YW_D (ca := ca) hap v
  unfold fn_X7_sum at h
  refine lv_iload_n hx hb dX7_sum_0 rfl (lv_at hl 1 rfl) ?_
  obtain ⟨q1, e1, h⟩ := Option.bind_eq_some_iff.mp h
  refine hp_S (As := [.int x1]) (rest := []) ⟨hx, hb, hml, hown, hts⟩ (ct_X7_isRegister l tw tt x1 e1) (va_cwS 1 hts gX7_sum_X7_isRegister rfl rfl rfl (by decide +kernel) ⟨Nat.le_of_ble_eq_true rfl, Nat.le_of_ble_eq_true rfl⟩) GP.mv (GP.from hT0 hS) rfl hl.1 rfl (Nat.le_of_ble_eq_true rfl) dX7_sum_1 ⟨Nat.zero_le _, Nat.zero_le _⟩ ?_
  refine W.eq (g2 := F0 m 4 ls [.int q1]) rfl ?_
  refine lv_if_eq (tgt := 42) hx hb dX7_sum_4 (by decide) (fun c4 => ?_) (fun c4 => ?_)
  · replace h := ite_t h c4
    refine lv_iconst (v := (-1)) hx hb dX7_sum_42 (by decide) ?_
    obtain rfl := Option.some.inj h
    exact mp_iret hx hb hr hlocks hP hS dX7_sum_43
  · replace h := ite_f h c4
    refine lv_iload_n hx hb dX7_sum_7 rfl (lv_at hl 2 rfl) ?_
    obtain ⟨q8, e8, h⟩ := Option.bind_eq_some_iff.mp h
    refine hp_S (As := [.int x2]) (rest := []) ⟨hx, hb, hml, hown, hts⟩ (ct_X7_isRegister l tw tt x2 e8) (va_cwS 1 hts gX7_sum_X7_isRegister rfl rfl rfl (by decide +kernel) ⟨Nat.le_of_ble_eq_true rfl, Nat.le_of_ble_eq_true rfl⟩) GP.mv (GP.from hT0 hS) rfl hl.1 rfl (Nat.le_of_ble_eq_true rfl) dX7_sum_8 ⟨Nat.zero_le _, Nat.zero_le _⟩ ?_
    refine W.eq (g2 := F0 m 11 ls [.int q8]) rfl ?_
    refine lv_if_eq (tgt := 42) hx hb dX7_sum_11 (by decide) (fun c11 => ?_) (fun c11 => ?_)
    · replace h := ite_t h c11
      refine lv_iconst (v := (-1)) hx hb dX7_sum_42 (by decide) ?_
      obtain rfl := Option.some.inj h
      exact mp_iret hx hb hr hlocks hP hS dX7_sum_43
    · replace h := ite_f h c11
      refine lv_iload_n hx hb dX7_sum_14 rfl (lv_at hl 3 rfl) ?_
      obtain ⟨q15, e15, h⟩ := Option.bind_eq_some_iff.mp h
      refine hp_S (As := [.int x3]) (rest := []) ⟨hx, hb, hml, hown, hts⟩ (ct_X7_isRegister l tw tt x3 e15) (va_cwS 1 hts gX7_sum_X7_isRegister rfl rfl rfl (by decide +kernel) ⟨Nat.le_of_ble_eq_true rfl, Nat.le_of_ble_eq_true rfl⟩) GP.mv (GP.from hT0 hS) rfl hl.1 rfl (Nat.le_of_ble_eq_true rfl) dX7_sum_15 ⟨Nat.zero_le _, Nat.zero_le _⟩ ?_
      refine W.eq (g2 := F0 m 18 ls [.int q15]) rfl ?_
      refine lv_if_eq (tgt := 42) hx hb dX7_sum_18 (by decide) (fun c18 => ?_) (fun c18 => ?_)
      · replace h := ite_t h c18
        refine lv_iconst (v := (-1)) hx hb dX7_sum_42 (by decide) ?_
        obtain rfl := Option.some.inj h
        exact mp_iret hx hb hr hlocks hP hS dX7_sum_43
      · replace h := ite_f h c18
        refine lv_aload_n hx hb dX7_sum_21 rfl (lv_at hl 0 rfl) ?_
        refine lv_iload_n hx hb dX7_sum_22 rfl (lv_at hl 3 rfl) ?_
        refine lv_aload_n hx hb dX7_sum_23 rfl (lv_at hl 0 rfl) ?_
        refine va_get (D := D) (ci := 4) (v := .ref (b 1)) (C := RX7) (T := TX7) (N := 9) hx hb hts ly_X7_sum_X7 hown hK hP 0 rfl rfl 1 (by decide) (hts _ lk_X7_sum_f13) (fun _ h9 => h9) rfl dX7_sum_24 ?_
        refine lv_iload_n hx hb dX7_sum_27 rfl (lv_at hl 1 rfl) ?_
        obtain ⟨q28, e28, h⟩ := Option.bind_eq_some_iff.mp h
        refine rd_lald hx hb hK hP 1 0 e28 rfl rfl dX7_sum_28 ?_
        refine lv_aload_n hx hb dX7_sum_29 rfl (lv_at hl 0 rfl) ?_
        refine va_get (D := D) (ci := 4) (v := .ref (b 1)) (C := RX7) (T := TX7) (N := 9) hx hb hts ly_X7_sum_X7 hown hK hP 0 rfl rfl 1 (by decide) (hts _ lk_X7_sum_f13) (fun _ h9 => h9) rfl dX7_sum_30 ?_
        refine lv_iload_n hx hb dX7_sum_33 rfl (lv_at hl 2 rfl) ?_
        obtain ⟨q34, e34, h⟩ := Option.bind_eq_some_iff.mp h
        refine rd_lald hx hb hK hP 1 0 e34 rfl rfl dX7_sum_34 ?_
        refine lv_lxor hx hb dX7_sum_35 ?_
        obtain ⟨q36, e36, h⟩ := Option.bind_eq_some_iff.mp h
        refine mp_V (As := [.int x3, .long (q28 ^^^ q34)]) (rest := []) (b := (b 0)) ⟨hx, hb, hml, hown, hts⟩ (ct_X7_gets l D ca b tw tt hap v x3 (q28 ^^^ q34) e36) (cwV 2 hts gX7_sum_X7_gets rfl rfl rfl (by decide +kernel) ⟨Nat.le_of_ble_eq_true rfl, Nat.le_of_ble_eq_true rfl⟩) (va_recv hK hP (ci := 4) (q0 := 0) rfl rfl) GW.mv (GW.from hP hK hT0 hS) hS rfl hl.1 rfl (Nat.le_of_ble_eq_true rfl) dX7_sum_36 ⟨Nat.zero_le _, Nat.zero_le _⟩ (fun H locs hP hS => ?_)
        refine W.eq (g2 := F0 m 39 ls [.int q36.1]) rfl ?_
        refine lv_goto (tgt := 43) hx hb dX7_sum_39 (by decide) ?_
        obtain rfl := Option.some.inj h
        exact mp_iret hx hb hr hlocks hP hS dX7_sum_43
theorem ct_X7_sum (l : Launch) (D : va_G) (ca : Nat → ClassId) (b : Nat → Nat) (tw : Nat) (tt : Nat → Nat) (hap : ap_ok 6 b) (v : YS) (x1 : Int32) (x2 : Int32) (x3 : Int32) {q : Int32 × YS} (h : fn_X7_sum v x1 x2 x3 = some q) : Mp l yX7_sum wsX7_sum rm_X7_sum [.ref (b 0), .int x1, .int x2, .int x3] (GW D ca tw tt (ad_of 6 b) (YW ca b v)) (some (.int q.1)) (fun H => va_P D vwCl (YW ca b q.2) H) (ad_of 6 b) := by
  refine Mp.of (cc := cX7_sum) (nL := 4) (ret := (some .int)) (own := RX7) (by decide) rfl rfl (Nat.le_of_ble_eq_true rfl) ?_
  intro p e s m below meth c ls C0 hB hl
  exact wk_X7_sum C0 hap hB.2.1 hB.2.2 (hP := hB.1) (hS := va_S.rf) (hl := hl) (h := h)
abbrev rm_X7_product : Room := { frames := 2, cells := 0, slots := 0, locals := 50 }
theorem lk_X7_product_f13 : Cond.fieldLink RX7 13 "BooleanRingModel" "p" "[J" ∈ wsX7_product := by decide +kernel
theorem ly_X7_product_X7 : ∀ w ∈ wsX70, w ∈ wsX7_product := by decide +kernel
set_option maxHeartbeats 4000000 in
set_option maxRecDepth 100000 in
theorem wk_X7_product {p : Program} {l : Launch} {e : Env} {s : State} {m : MethodId} {args : Array Value} {below : List Frame} {meth : Method} {c : Code} {D : va_G} {ca : Nat → ClassId} {b : Nat → Nat} {tw : Nat} {tt : Nat → Nat} (C0 : Cx p s m args meth c cX7_product (some .int) 4 wsX7_product RX7) (hap : ap_ok 6 b) (hK : va_K D vwCl (tys3 ca) s) (hT0 : tW tw tt (ad_of 6 b) s s.heap) {q : Int32 × YS} (v : YS) (H : Heap) (locs : List Loc) (x1 : Int32) (x2 : Int32) (x3 : Int32) (ls : Array Slot) (hP : va_P D vwCl (YW ca b v) H) (hS : va_S (ad_of 6 b) s.heap H locs) (hl : lv_has ls 4 [(0, .ref (b 0)), (1, .int x1), (2, .int x2), (3, .int x3)]) (h : fn_X7_product v x1 x2 x3 = some q) : W p l e rm_X7_product s m args below meth c H locs 0 0 (MQ below (PQ (some (.int q.1)) (fun H => va_P D vwCl (YW ca b q.2) H) (ad_of 6 b)) args s 0 0 (ad_of 6 b)) (F0 m 0 ls []) := by
  obtain ⟨hx, hb, hr, hml, hown, hts, hlocks⟩ := id C0
  have hD0 := fun v => YW_D (ca := ca) hap v
  unfold fn_X7_product at h
  refine lv_iload_n hx hb dX7_product_0 rfl (lv_at hl 1 rfl) ?_
  obtain ⟨q1, e1, h⟩ := Option.bind_eq_some_iff.mp h
  refine hp_S (As := [.int x1]) (rest := []) ⟨hx, hb, hml, hown, hts⟩ (ct_X7_isRegister l tw tt x1 e1) (va_cwS 1 hts gX7_product_X7_isRegister rfl rfl rfl (by decide +kernel) ⟨Nat.le_of_ble_eq_true rfl, Nat.le_of_ble_eq_true rfl⟩) GP.mv (GP.from hT0 hS) rfl hl.1 rfl (Nat.le_of_ble_eq_true rfl) dX7_product_1 ⟨Nat.zero_le _, Nat.zero_le _⟩ ?_
  refine W.eq (g2 := F0 m 4 ls [.int q1]) rfl ?_
  refine lv_if_eq (tgt := 45) hx hb dX7_product_4 (by decide) (fun c4 => ?_) (fun c4 => ?_)
  · replace h := ite_t h c4
    refine lv_iconst (v := (-1)) hx hb dX7_product_45 (by decide) ?_
    obtain rfl := Option.some.inj h
    exact mp_iret hx hb hr hlocks hP hS dX7_product_46
  · replace h := ite_f h c4
    refine lv_iload_n hx hb dX7_product_7 rfl (lv_at hl 2 rfl) ?_
    obtain ⟨q8, e8, h⟩ := Option.bind_eq_some_iff.mp h
    refine hp_S (As := [.int x2]) (rest := []) ⟨hx, hb, hml, hown, hts⟩ (ct_X7_isRegister l tw tt x2 e8) (va_cwS 1 hts gX7_product_X7_isRegister rfl rfl rfl (by decide +kernel) ⟨Nat.le_of_ble_eq_true rfl, Nat.le_of_ble_eq_true rfl⟩) GP.mv (GP.from hT0 hS) rfl hl.1 rfl (Nat.le_of_ble_eq_true rfl) dX7_product_8 ⟨Nat.zero_le _, Nat.zero_le _⟩ ?_
    refine W.eq (g2 := F0 m 11 ls [.int q8]) rfl ?_
    refine lv_if_eq (tgt := 45) hx hb dX7_product_11 (by decide) (fun c11 => ?_) (fun c11 => ?_)
    · replace h := ite_t h c11
      refine lv_iconst (v := (-1)) hx hb dX7_product_45 (by decide) ?_
      obtain rfl := Option.some.inj h
      exact mp_iret hx hb hr hlocks hP hS dX7_product_46
    · replace h := ite_f h c11
      refine lv_iload_n hx hb dX7_product_14 rfl (lv_at hl 3 rfl) ?_
      obtain ⟨q15, e15, h⟩ := Option.bind_eq_some_iff.mp h
      refine hp_S (As := [.int x3]) (rest := []) ⟨hx, hb, hml, hown, hts⟩ (ct_X7_isRegister l tw tt x3 e15) (va_cwS 1 hts gX7_product_X7_isRegister rfl rfl rfl (by decide +kernel) ⟨Nat.le_of_ble_eq_true rfl, Nat.le_of_ble_eq_true rfl⟩) GP.mv (GP.from hT0 hS) rfl hl.1 rfl (Nat.le_of_ble_eq_true rfl) dX7_product_15 ⟨Nat.zero_le _, Nat.zero_le _⟩ ?_
      refine W.eq (g2 := F0 m 18 ls [.int q15]) rfl ?_
      refine lv_if_eq (tgt := 45) hx hb dX7_product_18 (by decide) (fun c18 => ?_) (fun c18 => ?_)
      · replace h := ite_t h c18
        refine lv_iconst (v := (-1)) hx hb dX7_product_45 (by decide) ?_
        obtain rfl := Option.some.inj h
        exact mp_iret hx hb hr hlocks hP hS dX7_product_46
      · replace h := ite_f h c18
        refine lv_aload_n hx hb dX7_product_21 rfl (lv_at hl 0 rfl) ?_
        refine lv_iload_n hx hb dX7_product_22 rfl (lv_at hl 3 rfl) ?_
        refine lv_aload_n hx hb dX7_product_23 rfl (lv_at hl 0 rfl) ?_
        refine lv_aload_n hx hb dX7_product_24 rfl (lv_at hl 0 rfl) ?_
        refine va_get (D := D) (ci := 4) (v := .ref (b 1)) (C := RX7) (T := TX7) (N := 9) hx hb hts ly_X7_product_X7 hown hK hP 0 rfl rfl 1 (by decide) (hts _ lk_X7_product_f13) (fun _ h9 => h9) rfl dX7_product_25 ?_
        refine lv_iload_n hx hb dX7_product_28 rfl (lv_at hl 1 rfl) ?_
        obtain ⟨q29, e29, h⟩ := Option.bind_eq_some_iff.mp h
        refine rd_lald hx hb hK hP 1 0 e29 rfl rfl dX7_product_29 ?_
        refine lv_aload_n hx hb dX7_product_30 rfl (lv_at hl 0 rfl) ?_
        refine va_get (D := D) (ci := 4) (v := .ref (b 1)) (C := RX7) (T := TX7) (N := 9) hx hb hts ly_X7_product_X7 hown hK hP 0 rfl rfl 1 (by decide) (hts _ lk_X7_product_f13) (fun _ h9 => h9) rfl dX7_product_31 ?_
        refine lv_iload_n hx hb dX7_product_34 rfl (lv_at hl 2 rfl) ?_
        obtain ⟨q35, e35, h⟩ := Option.bind_eq_some_iff.mp h
        refine rd_lald hx hb hK hP 1 0 e35 rfl rfl dX7_product_35 ?_
        obtain ⟨q36, e36, h⟩ := Option.bind_eq_some_iff.mp h
        refine hp_V (As := [.long q29, .long q35]) (rest := [.int x3, .ref (b 0)]) (b := (b 0)) ⟨hx, hb, hml, hown, hts⟩ (ct_X7_product1 l D ca b tw tt v q29 q35 e36) (cwV 2 hts gX7_product_X7_product1 rfl rfl rfl (by decide +kernel) ⟨Nat.le_of_ble_eq_true rfl, Nat.le_of_ble_eq_true rfl⟩) (va_recv hK hP (ci := 4) (q0 := 0) rfl rfl) GW.mv (GW.from hP hK hT0 hS) rfl hl.1 rfl (Nat.le_of_ble_eq_true rfl) dX7_product_36 ⟨Nat.zero_le _, Nat.zero_le _⟩ ?_
        refine W.eq (g2 := F0 m 39 ls [.long q36, .int x3, .ref (b 0)]) rfl ?_
        obtain ⟨q39, e39, h⟩ := Option.bind_eq_some_iff.mp h
        refine mp_V (As := [.int x3, .long q36]) (rest := []) (b := (b 0)) ⟨hx, hb, hml, hown, hts⟩ (ct_X7_gets l D ca b tw tt hap v x3 q36 e39) (cwV 2 hts gX7_product_X7_gets rfl rfl rfl (by decide +kernel) ⟨Nat.le_of_ble_eq_true rfl, Nat.le_of_ble_eq_true rfl⟩) (va_recv hK hP (ci := 4) (q0 := 0) rfl rfl) GW.mv (GW.from hP hK hT0 hS) hS rfl hl.1 rfl (Nat.le_of_ble_eq_true rfl) dX7_product_39 ⟨Nat.zero_le _, Nat.zero_le _⟩ (fun H locs hP hS => ?_)
        refine W.eq (g2 := F0 m 42 ls [.int q39.1]) rfl ?_
        refine lv_goto (tgt := 46) hx hb dX7_product_42 (by decide) ?_
        obtain rfl := Option.some.inj h
        exact mp_iret hx hb hr hlocks hP hS dX7_product_46
theorem ct_X7_product (l : Launch) (D : va_G) (ca : Nat → ClassId) (b : Nat → Nat) (tw : Nat) (tt : Nat → Nat) (hap : ap_ok 6 b) (v : YS) (x1 : Int32) (x2 : Int32) (x3 : Int32) {q : Int32 × YS} (h : fn_X7_product v x1 x2 x3 = some q) : Mp l yX7_product wsX7_product rm_X7_product [.ref (b 0), .int x1, .int x2, .int x3] (GW D ca tw tt (ad_of 6 b) (YW ca b v)) (some (.int q.1)) (fun H => va_P D vwCl (YW ca b q.2) H) (ad_of 6 b) := by
  refine Mp.of (cc := cX7_product) (nL := 4) (ret := (some .int)) (own := RX7) (by decide) rfl rfl (Nat.le_of_ble_eq_true rfl) ?_
  intro p e s m below meth c ls C0 hB hl
  exact wk_X7_product C0 hap hB.2.1 hB.2.2 (hP := hB.1) (hS := va_S.rf) (hl := hl) (h := h)
abbrev rm_X7_times : Room := { frames := 2, cells := 0, slots := 0, locals := 50 }
theorem lk_X7_times_f13 : Cond.fieldLink RX7 13 "BooleanRingModel" "p" "[J" ∈ wsX7_times := by decide +kernel
theorem ly_X7_times_X7 : ∀ w ∈ wsX70, w ∈ wsX7_times := by decide +kernel
set_option maxHeartbeats 4000000 in
set_option maxRecDepth 100000 in
theorem wk_X7_times {p : Program} {l : Launch} {e : Env} {s : State} {m : MethodId} {args : Array Value} {below : List Frame} {meth : Method} {c : Code} {D : va_G} {ca : Nat → ClassId} {b : Nat → Nat} {tw : Nat} {tt : Nat → Nat} (C0 : Cx p s m args meth c cX7_times (some .int) 4 wsX7_times RX7) (hap : ap_ok 6 b) (hK : va_K D vwCl (tys3 ca) s) (hT0 : tW tw tt (ad_of 6 b) s s.heap) {q : Int32 × YS} (v : YS) (H : Heap) (locs : List Loc) (x1 : Int32) (x2 : Int32) (x3 : Int32) (ls : Array Slot) (hP : va_P D vwCl (YW ca b v) H) (hS : va_S (ad_of 6 b) s.heap H locs) (hl : lv_has ls 4 [(0, .ref (b 0)), (1, .int x1), (2, .int x2), (3, .int x3)]) (h : fn_X7_times v x1 x2 x3 = some q) : W p l e rm_X7_times s m args below meth c H locs 0 0 (MQ below (PQ (some (.int q.1)) (fun H => va_P D vwCl (YW ca b q.2) H) (ad_of 6 b)) args s 0 0 (ad_of 6 b)) (F0 m 0 ls []) := by
  obtain ⟨hx, hb, hr, hml, hown, hts, hlocks⟩ := id C0
  have hD0 := fun v => YW_D (ca := ca) hap v
  unfold fn_X7_times at h
  refine lv_iload_n hx hb dX7_times_0 rfl (lv_at hl 1 rfl) ?_
  obtain ⟨q1, e1, h⟩ := Option.bind_eq_some_iff.mp h
  refine hp_S (As := [.int x1]) (rest := []) ⟨hx, hb, hml, hown, hts⟩ (ct_X7_isRegister l tw tt x1 e1) (va_cwS 1 hts gX7_times_X7_isRegister rfl rfl rfl (by decide +kernel) ⟨Nat.le_of_ble_eq_true rfl, Nat.le_of_ble_eq_true rfl⟩) GP.mv (GP.from hT0 hS) rfl hl.1 rfl (Nat.le_of_ble_eq_true rfl) dX7_times_1 ⟨Nat.zero_le _, Nat.zero_le _⟩ ?_
  refine W.eq (g2 := F0 m 4 ls [.int q1]) rfl ?_
  refine lv_if_eq (tgt := 43) hx hb dX7_times_4 (by decide) (fun c4 => ?_) (fun c4 => ?_)
  · replace h := ite_t h c4
    refine lv_iconst (v := (-1)) hx hb dX7_times_43 (by decide) ?_
    obtain rfl := Option.some.inj h
    exact mp_iret hx hb hr hlocks hP hS dX7_times_44
  · replace h := ite_f h c4
    refine lv_aload_n hx hb dX7_times_7 rfl (lv_at hl 0 rfl) ?_
    refine lv_iload_n hx hb dX7_times_8 rfl (lv_at hl 2 rfl) ?_
    obtain ⟨q9, e9, h⟩ := Option.bind_eq_some_iff.mp h
    refine hp_V (As := [.int x2]) (rest := []) (b := (b 0)) ⟨hx, hb, hml, hown, hts⟩ (ct_X7_isMask l D ca b tw tt v x2 e9) (cwV 1 hts gX7_times_X7_isMask rfl rfl rfl (by decide +kernel) ⟨Nat.le_of_ble_eq_true rfl, Nat.le_of_ble_eq_true rfl⟩) (va_recv hK hP (ci := 4) (q0 := 0) rfl rfl) GW.mv (GW.from hP hK hT0 hS) rfl hl.1 rfl (Nat.le_of_ble_eq_true rfl) dX7_times_9 ⟨Nat.zero_le _, Nat.zero_le _⟩ ?_
    refine W.eq (g2 := F0 m 12 ls [.int q9]) rfl ?_
    refine lv_if_eq (tgt := 43) hx hb dX7_times_12 (by decide) (fun c12 => ?_) (fun c12 => ?_)
    · replace h := ite_t h c12
      refine lv_iconst (v := (-1)) hx hb dX7_times_43 (by decide) ?_
      obtain rfl := Option.some.inj h
      exact mp_iret hx hb hr hlocks hP hS dX7_times_44
    · replace h := ite_f h c12
      refine lv_iload_n hx hb dX7_times_15 rfl (lv_at hl 3 rfl) ?_
      obtain ⟨q16, e16, h⟩ := Option.bind_eq_some_iff.mp h
      refine hp_S (As := [.int x3]) (rest := []) ⟨hx, hb, hml, hown, hts⟩ (ct_X7_isRegister l tw tt x3 e16) (va_cwS 1 hts gX7_times_X7_isRegister rfl rfl rfl (by decide +kernel) ⟨Nat.le_of_ble_eq_true rfl, Nat.le_of_ble_eq_true rfl⟩) GP.mv (GP.from hT0 hS) rfl hl.1 rfl (Nat.le_of_ble_eq_true rfl) dX7_times_16 ⟨Nat.zero_le _, Nat.zero_le _⟩ ?_
      refine W.eq (g2 := F0 m 19 ls [.int q16]) rfl ?_
      refine lv_if_eq (tgt := 43) hx hb dX7_times_19 (by decide) (fun c19 => ?_) (fun c19 => ?_)
      · replace h := ite_t h c19
        refine lv_iconst (v := (-1)) hx hb dX7_times_43 (by decide) ?_
        obtain rfl := Option.some.inj h
        exact mp_iret hx hb hr hlocks hP hS dX7_times_44
      · replace h := ite_f h c19
        refine lv_aload_n hx hb dX7_times_22 rfl (lv_at hl 0 rfl) ?_
        refine lv_iload_n hx hb dX7_times_23 rfl (lv_at hl 3 rfl) ?_
        refine lv_aload_n hx hb dX7_times_24 rfl (lv_at hl 0 rfl) ?_
        refine lv_aload_n hx hb dX7_times_25 rfl (lv_at hl 0 rfl) ?_
        refine va_get (D := D) (ci := 4) (v := .ref (b 1)) (C := RX7) (T := TX7) (N := 9) hx hb hts ly_X7_times_X7 hown hK hP 0 rfl rfl 1 (by decide) (hts _ lk_X7_times_f13) (fun _ h9 => h9) rfl dX7_times_26 ?_
        refine lv_iload_n hx hb dX7_times_29 rfl (lv_at hl 1 rfl) ?_
        obtain ⟨q30, e30, h⟩ := Option.bind_eq_some_iff.mp h
        refine rd_lald hx hb hK hP 1 0 e30 rfl rfl dX7_times_30 ?_
        refine lv_lconst (v := 1) hx hb dX7_times_31 (by decide) ?_
        refine lv_iload_n hx hb dX7_times_32 rfl (lv_at hl 2 rfl) ?_
        refine lv_lshl (v := (lsh 1 x2)) hx hb dX7_times_33 rfl ?_
        obtain ⟨q34, e34, h⟩ := Option.bind_eq_some_iff.mp h
        refine hp_V (As := [.long q30, .long (lsh 1 x2)]) (rest := [.int x3, .ref (b 0)]) (b := (b 0)) ⟨hx, hb, hml, hown, hts⟩ (ct_X7_product1 l D ca b tw tt v q30 (lsh 1 x2) e34) (cwV 2 hts gX7_times_X7_product1 rfl rfl rfl (by decide +kernel) ⟨Nat.le_of_ble_eq_true rfl, Nat.le_of_ble_eq_true rfl⟩) (va_recv hK hP (ci := 4) (q0 := 0) rfl rfl) GW.mv (GW.from hP hK hT0 hS) rfl hl.1 rfl (Nat.le_of_ble_eq_true rfl) dX7_times_34 ⟨Nat.zero_le _, Nat.zero_le _⟩ ?_
        refine W.eq (g2 := F0 m 37 ls [.long q34, .int x3, .ref (b 0)]) rfl ?_
        obtain ⟨q37, e37, h⟩ := Option.bind_eq_some_iff.mp h
        refine mp_V (As := [.int x3, .long q34]) (rest := []) (b := (b 0)) ⟨hx, hb, hml, hown, hts⟩ (ct_X7_gets l D ca b tw tt hap v x3 q34 e37) (cwV 2 hts gX7_times_X7_gets rfl rfl rfl (by decide +kernel) ⟨Nat.le_of_ble_eq_true rfl, Nat.le_of_ble_eq_true rfl⟩) (va_recv hK hP (ci := 4) (q0 := 0) rfl rfl) GW.mv (GW.from hP hK hT0 hS) hS rfl hl.1 rfl (Nat.le_of_ble_eq_true rfl) dX7_times_37 ⟨Nat.zero_le _, Nat.zero_le _⟩ (fun H locs hP hS => ?_)
        refine W.eq (g2 := F0 m 40 ls [.int q37.1]) rfl ?_
        refine lv_goto (tgt := 44) hx hb dX7_times_40 (by decide) ?_
        obtain rfl := Option.some.inj h
        exact mp_iret hx hb hr hlocks hP hS dX7_times_44
theorem ct_X7_times (l : Launch) (D : va_G) (ca : Nat → ClassId) (b : Nat → Nat) (tw : Nat) (tt : Nat → Nat) (hap : ap_ok 6 b) (v : YS) (x1 : Int32) (x2 : Int32) (x3 : Int32) {q : Int32 × YS} (h : fn_X7_times v x1 x2 x3 = some q) : Mp l yX7_times wsX7_times rm_X7_times [.ref (b 0), .int x1, .int x2, .int x3] (GW D ca tw tt (ad_of 6 b) (YW ca b v)) (some (.int q.1)) (fun H => va_P D vwCl (YW ca b q.2) H) (ad_of 6 b) := by
  refine Mp.of (cc := cX7_times) (nL := 4) (ret := (some .int)) (own := RX7) (by decide) rfl rfl (Nat.le_of_ble_eq_true rfl) ?_
  intro p e s m below meth c ls C0 hB hl
  exact wk_X7_times C0 hap hB.2.1 hB.2.2 (hP := hB.1) (hS := va_S.rf) (hl := hl) (h := h)
abbrev rm_X7_restrict : Room := { frames := 2, cells := 0, slots := 0, locals := 48 }
theorem lk_X7_restrict_f13 : Cond.fieldLink RX7 13 "BooleanRingModel" "p" "[J" ∈ wsX7_restrict := by decide +kernel
theorem ly_X7_restrict_X7 : ∀ w ∈ wsX70, w ∈ wsX7_restrict := by decide +kernel
set_option maxHeartbeats 4000000 in
set_option maxRecDepth 100000 in
theorem wk_X7_restrict_68 {p : Program} {l : Launch} {e : Env} {s : State} {m : MethodId} {args : Array Value} {below : List Frame} {meth : Method} {c : Code} {D : va_G} {ca : Nat → ClassId} {b : Nat → Nat} {tw : Nat} {tt : Nat → Nat} (C0 : Cx p s m args meth c cX7_restrict (some .int) 5 wsX7_restrict RX7) (hap : ap_ok 6 b) (hK : va_K D vwCl (tys3 ca) s) (hT0 : tW tw tt (ad_of 6 b) s s.heap) {q : Int32 × YS} (v : YS) (H : Heap) (locs : List Loc) (y0 : Int64) (y1 : Int64) (y2 : Int32) (ls : Array Slot) (hP : va_P D vwCl (YW ca b v) H) (hS : va_S (ad_of 6 b) s.heap H locs) (hl : lv_has ls 5 []) (h : fn_X7_restrict_68 v y0 y1 y2 = some q) : W p l e rm_X7_restrict s m args below meth c H locs 0 0 (MQ below (PQ (some (.int q.1)) (fun H => va_P D vwCl (YW ca b q.2) H) (ad_of 6 b)) args s 0 0 (ad_of 6 b)) (F0 m 68 ls [.long y0, .long y1, .int y2, .ref (b 0)]) := by
  obtain ⟨hx, hb, hr, hml, hown, hts, hlocks⟩ := id C0
  have hD0 := fun v => YW_D (ca := ca) hap v
  unfold fn_X7_restrict_68 at h
  refine lv_lxor hx hb dX7_restrict_68 ?_
  obtain ⟨q69, e69, h⟩ := Option.bind_eq_some_iff.mp h
  refine mp_V (As := [.int y2, .long (y1 ^^^ y0)]) (rest := []) (b := (b 0)) ⟨hx, hb, hml, hown, hts⟩ (ct_X7_gets l D ca b tw tt hap v y2 (y1 ^^^ y0) e69) (cwV 2 hts gX7_restrict_X7_gets rfl rfl rfl (by decide +kernel) ⟨Nat.le_of_ble_eq_true rfl, Nat.le_of_ble_eq_true rfl⟩) (va_recv hK hP (ci := 4) (q0 := 0) rfl rfl) GW.mv (GW.from hP hK hT0 hS) hS rfl hl.1 rfl (Nat.le_of_ble_eq_true rfl) dX7_restrict_69 ⟨Nat.zero_le _, Nat.zero_le _⟩ (fun H locs hP hS => ?_)
  refine W.eq (g2 := F0 m 72 ls [.int q69.1]) rfl ?_
  obtain rfl := Option.some.inj h
  exact mp_iret hx hb hr hlocks hP hS dX7_restrict_72
set_option maxHeartbeats 4000000 in
set_option maxRecDepth 100000 in
theorem wk_X7_restrict {p : Program} {l : Launch} {e : Env} {s : State} {m : MethodId} {args : Array Value} {below : List Frame} {meth : Method} {c : Code} {D : va_G} {ca : Nat → ClassId} {b : Nat → Nat} {tw : Nat} {tt : Nat → Nat} (C0 : Cx p s m args meth c cX7_restrict (some .int) 5 wsX7_restrict RX7) (hap : ap_ok 6 b) (hK : va_K D vwCl (tys3 ca) s) (hT0 : tW tw tt (ad_of 6 b) s s.heap) {q : Int32 × YS} (v : YS) (H : Heap) (locs : List Loc) (x1 : Int32) (x2 : Int32) (x3 : Int32) (x4 : Int32) (ls : Array Slot) (hP : va_P D vwCl (YW ca b v) H) (hS : va_S (ad_of 6 b) s.heap H locs) (hl : lv_has ls 5 [(0, .ref (b 0)), (1, .int x1), (2, .int x2), (3, .int x3), (4, .int x4)]) (h : fn_X7_restrict v x1 x2 x3 x4 = some q) : W p l e rm_X7_restrict s m args below meth c H locs 0 0 (MQ below (PQ (some (.int q.1)) (fun H => va_P D vwCl (YW ca b q.2) H) (ad_of 6 b)) args s 0 0 (ad_of 6 b)) (F0 m 0 ls []) := by
  obtain ⟨hx, hb, hr, hml, hown, hts, hlocks⟩ := id C0
  have hD0 := fun v => YW_D (ca := ca) hap v
  unfold fn_X7_restrict at h
  refine lv_iload_n hx hb dX7_restrict_0 rfl (lv_at hl 1 rfl) ?_
  obtain ⟨q1, e1, h⟩ := Option.bind_eq_some_iff.mp h
  refine hp_S (As := [.int x1]) (rest := []) ⟨hx, hb, hml, hown, hts⟩ (ct_X7_isRegister l tw tt x1 e1) (va_cwS 1 hts gX7_restrict_X7_isRegister rfl rfl rfl (by decide +kernel) ⟨Nat.le_of_ble_eq_true rfl, Nat.le_of_ble_eq_true rfl⟩) GP.mv (GP.from hT0 hS) rfl hl.1 rfl (Nat.le_of_ble_eq_true rfl) dX7_restrict_1 ⟨Nat.zero_le _, Nat.zero_le _⟩ ?_
  refine W.eq (g2 := F0 m 4 ls [.int q1]) rfl ?_
  refine lv_if_eq (tgt := 32) hx hb dX7_restrict_4 (by decide) (fun c4 => ?_) (fun c4 => ?_)
  · replace h := ite_t h c4
    refine lv_iconst (v := (-1)) hx hb dX7_restrict_32 (by decide) ?_
    obtain rfl := Option.some.inj h
    exact mp_iret hx hb hr hlocks hP hS dX7_restrict_33
  · replace h := ite_f h c4
    refine lv_aload_n hx hb dX7_restrict_7 rfl (lv_at hl 0 rfl) ?_
    refine lv_iload_n hx hb dX7_restrict_8 rfl (lv_at hl 2 rfl) ?_
    obtain ⟨q9, e9, h⟩ := Option.bind_eq_some_iff.mp h
    refine hp_V (As := [.int x2]) (rest := []) (b := (b 0)) ⟨hx, hb, hml, hown, hts⟩ (ct_X7_isVariable l D ca b tw tt v x2 e9) (cwV 1 hts gX7_restrict_X7_isVariable rfl rfl rfl (by decide +kernel) ⟨Nat.le_of_ble_eq_true rfl, Nat.le_of_ble_eq_true rfl⟩) (va_recv hK hP (ci := 4) (q0 := 0) rfl rfl) GW.mv (GW.from hP hK hT0 hS) rfl hl.1 rfl (Nat.le_of_ble_eq_true rfl) dX7_restrict_9 ⟨Nat.zero_le _, Nat.zero_le _⟩ ?_
    refine W.eq (g2 := F0 m 12 ls [.int q9]) rfl ?_
    refine lv_if_eq (tgt := 32) hx hb dX7_restrict_12 (by decide) (fun c12 => ?_) (fun c12 => ?_)
    · replace h := ite_t h c12
      refine lv_iconst (v := (-1)) hx hb dX7_restrict_32 (by decide) ?_
      obtain rfl := Option.some.inj h
      exact mp_iret hx hb hr hlocks hP hS dX7_restrict_33
    · replace h := ite_f h c12
      refine lv_iload_n hx hb dX7_restrict_15 rfl (lv_at hl 3 rfl) ?_
      refine lv_iconst (v := 0) hx hb dX7_restrict_16 (by decide) ?_
      refine lv_iconst (v := 1) hx hb dX7_restrict_17 (by decide) ?_
      obtain ⟨q18, e18, h⟩ := Option.bind_eq_some_iff.mp h
      refine hp_S (As := [.int x3, .int 0, .int 1]) (rest := []) ⟨hx, hb, hml, hown, hts⟩ (ct_X7_in l tw tt x3 0 1 e18) (va_cwS 3 hts gX7_restrict_X7_in rfl rfl rfl (by decide +kernel) ⟨Nat.le_of_ble_eq_true rfl, Nat.le_of_ble_eq_true rfl⟩) GP.mv (GP.from hT0 hS) rfl hl.1 rfl (Nat.le_of_ble_eq_true rfl) dX7_restrict_18 ⟨Nat.zero_le _, Nat.zero_le _⟩ ?_
      refine W.eq (g2 := F0 m 21 ls [.int q18]) rfl ?_
      refine lv_if_eq (tgt := 32) hx hb dX7_restrict_21 (by decide) (fun c21 => ?_) (fun c21 => ?_)
      · replace h := ite_t h c21
        refine lv_iconst (v := (-1)) hx hb dX7_restrict_32 (by decide) ?_
        obtain rfl := Option.some.inj h
        exact mp_iret hx hb hr hlocks hP hS dX7_restrict_33
      · replace h := ite_f h c21
        refine lv_iload hx hb dX7_restrict_24 (lv_at hl 4 rfl) ?_
        obtain ⟨q26, e26, h⟩ := Option.bind_eq_some_iff.mp h
        refine hp_S (As := [.int x4]) (rest := []) ⟨hx, hb, hml, hown, hts⟩ (ct_X7_isRegister l tw tt x4 e26) (va_cwS 1 hts gX7_restrict_X7_isRegister rfl rfl rfl (by decide +kernel) ⟨Nat.le_of_ble_eq_true rfl, Nat.le_of_ble_eq_true rfl⟩) GP.mv (GP.from hT0 hS) rfl hl.1 rfl (Nat.le_of_ble_eq_true rfl) dX7_restrict_26 ⟨Nat.zero_le _, Nat.zero_le _⟩ ?_
        refine W.eq (g2 := F0 m 29 ls [.int q26]) rfl ?_
        refine lv_if_ne (tgt := 34) hx hb dX7_restrict_29 (by decide) (fun c29 => ?_) (fun c29 => ?_)
        · replace h := ite_f h c29
          refine lv_aload_n hx hb dX7_restrict_34 rfl (lv_at hl 0 rfl) ?_
          refine lv_iload hx hb dX7_restrict_35 (lv_at hl 4 rfl) ?_
          refine lv_aload_n hx hb dX7_restrict_37 rfl (lv_at hl 0 rfl) ?_
          refine lv_aload_n hx hb dX7_restrict_38 rfl (lv_at hl 0 rfl) ?_
          refine va_get (D := D) (ci := 4) (v := .ref (b 1)) (C := RX7) (T := TX7) (N := 9) hx hb hts ly_X7_restrict_X7 hown hK hP 0 rfl rfl 1 (by decide) (hts _ lk_X7_restrict_f13) (fun _ h9 => h9) rfl dX7_restrict_39 ?_
          refine lv_iload_n hx hb dX7_restrict_42 rfl (lv_at hl 1 rfl) ?_
          obtain ⟨q43, e43, h⟩ := Option.bind_eq_some_iff.mp h
          refine rd_lald hx hb hK hP 1 0 e43 rfl rfl dX7_restrict_43 ?_
          refine lv_iload_n hx hb dX7_restrict_44 rfl (lv_at hl 2 rfl) ?_
          obtain ⟨q45, e45, h⟩ := Option.bind_eq_some_iff.mp h
          refine hp_V (As := [.long q43, .int x2]) (rest := [.int x4, .ref (b 0)]) (b := (b 0)) ⟨hx, hb, hml, hown, hts⟩ (ct_X7_lower l D ca b tw tt v q43 x2 e45) (cwV 2 hts gX7_restrict_X7_lower rfl rfl rfl (by decide +kernel) ⟨Nat.le_of_ble_eq_true rfl, Nat.le_of_ble_eq_true rfl⟩) (va_recv hK hP (ci := 4) (q0 := 0) rfl rfl) GW.mv (GW.from hP hK hT0 hS) rfl hl.1 rfl (Nat.le_of_ble_eq_true rfl) dX7_restrict_45 ⟨Nat.zero_le _, Nat.zero_le _⟩ ?_
          refine W.eq (g2 := F0 m 48 ls [.long q45, .int x4, .ref (b 0)]) rfl ?_
          refine lv_iload_n hx hb dX7_restrict_48 rfl (lv_at hl 3 rfl) ?_
          refine lv_iconst (v := 1) hx hb dX7_restrict_49 (by decide) ?_
          refine lv_icmp_ne (tgt := 67) hx hb dX7_restrict_50 (by decide) (fun c50 => ?_) (fun c50 => ?_)
          · replace h := ite_f h c50
            refine lv_lconst (v := 0) hx hb dX7_restrict_67 (by decide) ?_
            exact wk_X7_restrict_68 C0 hap hK hT0 (ls := ls) (hP := hP) (hS := hS) (hl := (lv_sub hl [] rfl)) (h := h)
          · replace h := ite_t h c50
            refine lv_aload_n hx hb dX7_restrict_53 rfl (lv_at hl 0 rfl) ?_
            refine lv_aload_n hx hb dX7_restrict_54 rfl (lv_at hl 0 rfl) ?_
            refine va_get (D := D) (ci := 4) (v := .ref (b 1)) (C := RX7) (T := TX7) (N := 9) hx hb hts ly_X7_restrict_X7 hown hK hP 0 rfl rfl 1 (by decide) (hts _ lk_X7_restrict_f13) (fun _ h9 => h9) rfl dX7_restrict_55 ?_
            refine lv_iload_n hx hb dX7_restrict_58 rfl (lv_at hl 1 rfl) ?_
            obtain ⟨q59, e59, h⟩ := Option.bind_eq_some_iff.mp h
            refine rd_lald hx hb hK hP 1 0 e59 rfl rfl dX7_restrict_59 ?_
            refine lv_iload_n hx hb dX7_restrict_60 rfl (lv_at hl 2 rfl) ?_
            obtain ⟨q61, e61, h⟩ := Option.bind_eq_some_iff.mp h
            refine hp_V (As := [.long q59, .int x2]) (rest := [.long q45, .int x4, .ref (b 0)]) (b := (b 0)) ⟨hx, hb, hml, hown, hts⟩ (ct_X7_upper l D ca b tw tt v q59 x2 e61) (cwV 2 hts gX7_restrict_X7_upper rfl rfl rfl (by decide +kernel) ⟨Nat.le_of_ble_eq_true rfl, Nat.le_of_ble_eq_true rfl⟩) (va_recv hK hP (ci := 4) (q0 := 0) rfl rfl) GW.mv (GW.from hP hK hT0 hS) rfl hl.1 rfl (Nat.le_of_ble_eq_true rfl) dX7_restrict_61 ⟨Nat.zero_le _, Nat.zero_le _⟩ ?_
            refine W.eq (g2 := F0 m 64 ls [.long q61, .long q45, .int x4, .ref (b 0)]) rfl ?_
            refine lv_goto (tgt := 68) hx hb dX7_restrict_64 (by decide) ?_
            exact wk_X7_restrict_68 C0 hap hK hT0 (ls := ls) (hP := hP) (hS := hS) (hl := (lv_sub hl [] rfl)) (h := h)
        · replace h := ite_t h c29
          refine lv_iconst (v := (-1)) hx hb dX7_restrict_32 (by decide) ?_
          obtain rfl := Option.some.inj h
          exact mp_iret hx hb hr hlocks hP hS dX7_restrict_33
theorem ct_X7_restrict (l : Launch) (D : va_G) (ca : Nat → ClassId) (b : Nat → Nat) (tw : Nat) (tt : Nat → Nat) (hap : ap_ok 6 b) (v : YS) (x1 : Int32) (x2 : Int32) (x3 : Int32) (x4 : Int32) {q : Int32 × YS} (h : fn_X7_restrict v x1 x2 x3 x4 = some q) : Mp l yX7_restrict wsX7_restrict rm_X7_restrict [.ref (b 0), .int x1, .int x2, .int x3, .int x4] (GW D ca tw tt (ad_of 6 b) (YW ca b v)) (some (.int q.1)) (fun H => va_P D vwCl (YW ca b q.2) H) (ad_of 6 b) := by
  refine Mp.of (cc := cX7_restrict) (nL := 5) (ret := (some .int)) (own := RX7) (by decide) rfl rfl (Nat.le_of_ble_eq_true rfl) ?_
  intro p e s m below meth c ls C0 hB hl
  exact wk_X7_restrict C0 hap hB.2.1 hB.2.2 (hP := hB.1) (hS := va_S.rf) (hl := hl) (h := h)
abbrev rm_X7_substitute : Room := { frames := 2, cells := 0, slots := 0, locals := 50 }
theorem lk_X7_substitute_f13 : Cond.fieldLink RX7 13 "BooleanRingModel" "p" "[J" ∈ wsX7_substitute := by decide +kernel
theorem ly_X7_substitute_X7 : ∀ w ∈ wsX70, w ∈ wsX7_substitute := by decide +kernel
set_option maxHeartbeats 4000000 in
set_option maxRecDepth 100000 in
theorem wk_X7_substitute {p : Program} {l : Launch} {e : Env} {s : State} {m : MethodId} {args : Array Value} {below : List Frame} {meth : Method} {c : Code} {D : va_G} {ca : Nat → ClassId} {b : Nat → Nat} {tw : Nat} {tt : Nat → Nat} (C0 : Cx p s m args meth c cX7_substitute (some .int) 5 wsX7_substitute RX7) (hap : ap_ok 6 b) (hK : va_K D vwCl (tys3 ca) s) (hT0 : tW tw tt (ad_of 6 b) s s.heap) {q : Int32 × YS} (v : YS) (H : Heap) (locs : List Loc) (x1 : Int32) (x2 : Int32) (x3 : Int32) (x4 : Int32) (ls : Array Slot) (hP : va_P D vwCl (YW ca b v) H) (hS : va_S (ad_of 6 b) s.heap H locs) (hl : lv_has ls 5 [(0, .ref (b 0)), (1, .int x1), (2, .int x2), (3, .int x3), (4, .int x4)]) (h : fn_X7_substitute v x1 x2 x3 x4 = some q) : W p l e rm_X7_substitute s m args below meth c H locs 0 0 (MQ below (PQ (some (.int q.1)) (fun H => va_P D vwCl (YW ca b q.2) H) (ad_of 6 b)) args s 0 0 (ad_of 6 b)) (F0 m 0 ls []) := by
  obtain ⟨hx, hb, hr, hml, hown, hts, hlocks⟩ := id C0
  have hD0 := fun v => YW_D (ca := ca) hap v
  unfold fn_X7_substitute at h
  refine lv_iload_n hx hb dX7_substitute_0 rfl (lv_at hl 1 rfl) ?_
  obtain ⟨q1, e1, h⟩ := Option.bind_eq_some_iff.mp h
  refine hp_S (As := [.int x1]) (rest := []) ⟨hx, hb, hml, hown, hts⟩ (ct_X7_isRegister l tw tt x1 e1) (va_cwS 1 hts gX7_substitute_X7_isRegister rfl rfl rfl (by decide +kernel) ⟨Nat.le_of_ble_eq_true rfl, Nat.le_of_ble_eq_true rfl⟩) GP.mv (GP.from hT0 hS) rfl hl.1 rfl (Nat.le_of_ble_eq_true rfl) dX7_substitute_1 ⟨Nat.zero_le _, Nat.zero_le _⟩ ?_
  refine W.eq (g2 := F0 m 4 ls [.int q1]) rfl ?_
  refine lv_if_eq (tgt := 30) hx hb dX7_substitute_4 (by decide) (fun c4 => ?_) (fun c4 => ?_)
  · replace h := ite_t h c4
    refine lv_iconst (v := (-1)) hx hb dX7_substitute_30 (by decide) ?_
    obtain rfl := Option.some.inj h
    exact mp_iret hx hb hr hlocks hP hS dX7_substitute_31
  · replace h := ite_f h c4
    refine lv_aload_n hx hb dX7_substitute_7 rfl (lv_at hl 0 rfl) ?_
    refine lv_iload_n hx hb dX7_substitute_8 rfl (lv_at hl 2 rfl) ?_
    obtain ⟨q9, e9, h⟩ := Option.bind_eq_some_iff.mp h
    refine hp_V (As := [.int x2]) (rest := []) (b := (b 0)) ⟨hx, hb, hml, hown, hts⟩ (ct_X7_isVariable l D ca b tw tt v x2 e9) (cwV 1 hts gX7_substitute_X7_isVariable rfl rfl rfl (by decide +kernel) ⟨Nat.le_of_ble_eq_true rfl, Nat.le_of_ble_eq_true rfl⟩) (va_recv hK hP (ci := 4) (q0 := 0) rfl rfl) GW.mv (GW.from hP hK hT0 hS) rfl hl.1 rfl (Nat.le_of_ble_eq_true rfl) dX7_substitute_9 ⟨Nat.zero_le _, Nat.zero_le _⟩ ?_
    refine W.eq (g2 := F0 m 12 ls [.int q9]) rfl ?_
    refine lv_if_eq (tgt := 30) hx hb dX7_substitute_12 (by decide) (fun c12 => ?_) (fun c12 => ?_)
    · replace h := ite_t h c12
      refine lv_iconst (v := (-1)) hx hb dX7_substitute_30 (by decide) ?_
      obtain rfl := Option.some.inj h
      exact mp_iret hx hb hr hlocks hP hS dX7_substitute_31
    · replace h := ite_f h c12
      refine lv_iload_n hx hb dX7_substitute_15 rfl (lv_at hl 3 rfl) ?_
      obtain ⟨q16, e16, h⟩ := Option.bind_eq_some_iff.mp h
      refine hp_S (As := [.int x3]) (rest := []) ⟨hx, hb, hml, hown, hts⟩ (ct_X7_isRegister l tw tt x3 e16) (va_cwS 1 hts gX7_substitute_X7_isRegister rfl rfl rfl (by decide +kernel) ⟨Nat.le_of_ble_eq_true rfl, Nat.le_of_ble_eq_true rfl⟩) GP.mv (GP.from hT0 hS) rfl hl.1 rfl (Nat.le_of_ble_eq_true rfl) dX7_substitute_16 ⟨Nat.zero_le _, Nat.zero_le _⟩ ?_
      refine W.eq (g2 := F0 m 19 ls [.int q16]) rfl ?_
      refine lv_if_eq (tgt := 30) hx hb dX7_substitute_19 (by decide) (fun c19 => ?_) (fun c19 => ?_)
      · replace h := ite_t h c19
        refine lv_iconst (v := (-1)) hx hb dX7_substitute_30 (by decide) ?_
        obtain rfl := Option.some.inj h
        exact mp_iret hx hb hr hlocks hP hS dX7_substitute_31
      · replace h := ite_f h c19
        refine lv_iload hx hb dX7_substitute_22 (lv_at hl 4 rfl) ?_
        obtain ⟨q24, e24, h⟩ := Option.bind_eq_some_iff.mp h
        refine hp_S (As := [.int x4]) (rest := []) ⟨hx, hb, hml, hown, hts⟩ (ct_X7_isRegister l tw tt x4 e24) (va_cwS 1 hts gX7_substitute_X7_isRegister rfl rfl rfl (by decide +kernel) ⟨Nat.le_of_ble_eq_true rfl, Nat.le_of_ble_eq_true rfl⟩) GP.mv (GP.from hT0 hS) rfl hl.1 rfl (Nat.le_of_ble_eq_true rfl) dX7_substitute_24 ⟨Nat.zero_le _, Nat.zero_le _⟩ ?_
        refine W.eq (g2 := F0 m 27 ls [.int q24]) rfl ?_
        refine lv_if_ne (tgt := 32) hx hb dX7_substitute_27 (by decide) (fun c27 => ?_) (fun c27 => ?_)
        · replace h := ite_f h c27
          refine lv_aload_n hx hb dX7_substitute_32 rfl (lv_at hl 0 rfl) ?_
          refine lv_iload hx hb dX7_substitute_33 (lv_at hl 4 rfl) ?_
          refine lv_aload_n hx hb dX7_substitute_35 rfl (lv_at hl 0 rfl) ?_
          refine lv_aload_n hx hb dX7_substitute_36 rfl (lv_at hl 0 rfl) ?_
          refine va_get (D := D) (ci := 4) (v := .ref (b 1)) (C := RX7) (T := TX7) (N := 9) hx hb hts ly_X7_substitute_X7 hown hK hP 0 rfl rfl 1 (by decide) (hts _ lk_X7_substitute_f13) (fun _ h9 => h9) rfl dX7_substitute_37 ?_
          refine lv_iload_n hx hb dX7_substitute_40 rfl (lv_at hl 1 rfl) ?_
          obtain ⟨q41, e41, h⟩ := Option.bind_eq_some_iff.mp h
          refine rd_lald hx hb hK hP 1 0 e41 rfl rfl dX7_substitute_41 ?_
          refine lv_iload_n hx hb dX7_substitute_42 rfl (lv_at hl 2 rfl) ?_
          obtain ⟨q43, e43, h⟩ := Option.bind_eq_some_iff.mp h
          refine hp_V (As := [.long q41, .int x2]) (rest := [.int x4, .ref (b 0)]) (b := (b 0)) ⟨hx, hb, hml, hown, hts⟩ (ct_X7_lower l D ca b tw tt v q41 x2 e43) (cwV 2 hts gX7_substitute_X7_lower rfl rfl rfl (by decide +kernel) ⟨Nat.le_of_ble_eq_true rfl, Nat.le_of_ble_eq_true rfl⟩) (va_recv hK hP (ci := 4) (q0 := 0) rfl rfl) GW.mv (GW.from hP hK hT0 hS) rfl hl.1 rfl (Nat.le_of_ble_eq_true rfl) dX7_substitute_43 ⟨Nat.zero_le _, Nat.zero_le _⟩ ?_
          refine W.eq (g2 := F0 m 46 ls [.long q43, .int x4, .ref (b 0)]) rfl ?_
          refine lv_aload_n hx hb dX7_substitute_46 rfl (lv_at hl 0 rfl) ?_
          refine lv_aload_n hx hb dX7_substitute_47 rfl (lv_at hl 0 rfl) ?_
          refine lv_aload_n hx hb dX7_substitute_48 rfl (lv_at hl 0 rfl) ?_
          refine va_get (D := D) (ci := 4) (v := .ref (b 1)) (C := RX7) (T := TX7) (N := 9) hx hb hts ly_X7_substitute_X7 hown hK hP 0 rfl rfl 1 (by decide) (hts _ lk_X7_substitute_f13) (fun _ h9 => h9) rfl dX7_substitute_49 ?_
          refine lv_iload_n hx hb dX7_substitute_52 rfl (lv_at hl 1 rfl) ?_
          obtain ⟨q53, e53, h⟩ := Option.bind_eq_some_iff.mp h
          refine rd_lald hx hb hK hP 1 0 e53 rfl rfl dX7_substitute_53 ?_
          refine lv_iload_n hx hb dX7_substitute_54 rfl (lv_at hl 2 rfl) ?_
          obtain ⟨q55, e55, h⟩ := Option.bind_eq_some_iff.mp h
          refine hp_V (As := [.long q53, .int x2]) (rest := [.ref (b 0), .long q43, .int x4, .ref (b 0)]) (b := (b 0)) ⟨hx, hb, hml, hown, hts⟩ (ct_X7_upper l D ca b tw tt v q53 x2 e55) (cwV 2 hts gX7_substitute_X7_upper rfl rfl rfl (by decide +kernel) ⟨Nat.le_of_ble_eq_true rfl, Nat.le_of_ble_eq_true rfl⟩) (va_recv hK hP (ci := 4) (q0 := 0) rfl rfl) GW.mv (GW.from hP hK hT0 hS) rfl hl.1 rfl (Nat.le_of_ble_eq_true rfl) dX7_substitute_55 ⟨Nat.zero_le _, Nat.zero_le _⟩ ?_
          refine W.eq (g2 := F0 m 58 ls [.long q55, .ref (b 0), .long q43, .int x4, .ref (b 0)]) rfl ?_
          refine lv_aload_n hx hb dX7_substitute_58 rfl (lv_at hl 0 rfl) ?_
          refine va_get (D := D) (ci := 4) (v := .ref (b 1)) (C := RX7) (T := TX7) (N := 9) hx hb hts ly_X7_substitute_X7 hown hK hP 0 rfl rfl 1 (by decide) (hts _ lk_X7_substitute_f13) (fun _ h9 => h9) rfl dX7_substitute_59 ?_
          refine lv_iload_n hx hb dX7_substitute_62 rfl (lv_at hl 3 rfl) ?_
          obtain ⟨q63, e63, h⟩ := Option.bind_eq_some_iff.mp h
          refine rd_lald hx hb hK hP 1 0 e63 rfl rfl dX7_substitute_63 ?_
          obtain ⟨q64, e64, h⟩ := Option.bind_eq_some_iff.mp h
          refine hp_V (As := [.long q55, .long q63]) (rest := [.long q43, .int x4, .ref (b 0)]) (b := (b 0)) ⟨hx, hb, hml, hown, hts⟩ (ct_X7_product1 l D ca b tw tt v q55 q63 e64) (cwV 2 hts gX7_substitute_X7_product1 rfl rfl rfl (by decide +kernel) ⟨Nat.le_of_ble_eq_true rfl, Nat.le_of_ble_eq_true rfl⟩) (va_recv hK hP (ci := 4) (q0 := 0) rfl rfl) GW.mv (GW.from hP hK hT0 hS) rfl hl.1 rfl (Nat.le_of_ble_eq_true rfl) dX7_substitute_64 ⟨Nat.zero_le _, Nat.zero_le _⟩ ?_
          refine W.eq (g2 := F0 m 67 ls [.long q64, .long q43, .int x4, .ref (b 0)]) rfl ?_
          refine lv_lxor hx hb dX7_substitute_67 ?_
          obtain ⟨q68, e68, h⟩ := Option.bind_eq_some_iff.mp h
          refine mp_V (As := [.int x4, .long (q43 ^^^ q64)]) (rest := []) (b := (b 0)) ⟨hx, hb, hml, hown, hts⟩ (ct_X7_gets l D ca b tw tt hap v x4 (q43 ^^^ q64) e68) (cwV 2 hts gX7_substitute_X7_gets rfl rfl rfl (by decide +kernel) ⟨Nat.le_of_ble_eq_true rfl, Nat.le_of_ble_eq_true rfl⟩) (va_recv hK hP (ci := 4) (q0 := 0) rfl rfl) GW.mv (GW.from hP hK hT0 hS) hS rfl hl.1 rfl (Nat.le_of_ble_eq_true rfl) dX7_substitute_68 ⟨Nat.zero_le _, Nat.zero_le _⟩ (fun H locs hP hS => ?_)
          refine W.eq (g2 := F0 m 71 ls [.int q68.1]) rfl ?_
          obtain rfl := Option.some.inj h
          exact mp_iret hx hb hr hlocks hP hS dX7_substitute_71
        · replace h := ite_t h c27
          refine lv_iconst (v := (-1)) hx hb dX7_substitute_30 (by decide) ?_
          obtain rfl := Option.some.inj h
          exact mp_iret hx hb hr hlocks hP hS dX7_substitute_31
theorem ct_X7_substitute (l : Launch) (D : va_G) (ca : Nat → ClassId) (b : Nat → Nat) (tw : Nat) (tt : Nat → Nat) (hap : ap_ok 6 b) (v : YS) (x1 : Int32) (x2 : Int32) (x3 : Int32) (x4 : Int32) {q : Int32 × YS} (h : fn_X7_substitute v x1 x2 x3 x4 = some q) : Mp l yX7_substitute wsX7_substitute rm_X7_substitute [.ref (b 0), .int x1, .int x2, .int x3, .int x4] (GW D ca tw tt (ad_of 6 b) (YW ca b v)) (some (.int q.1)) (fun H => va_P D vwCl (YW ca b q.2) H) (ad_of 6 b) := by
  refine Mp.of (cc := cX7_substitute) (nL := 5) (ret := (some .int)) (own := RX7) (by decide) rfl rfl (Nat.le_of_ble_eq_true rfl) ?_
  intro p e s m below meth c ls C0 hB hl
  exact wk_X7_substitute C0 hap hB.2.1 hB.2.2 (hP := hB.1) (hS := va_S.rf) (hl := hl) (h := h)
abbrev rm_X7_derivative : Room := { frames := 2, cells := 0, slots := 0, locals := 48 }
theorem lk_X7_derivative_f13 : Cond.fieldLink RX7 13 "BooleanRingModel" "p" "[J" ∈ wsX7_derivative := by decide +kernel
theorem ly_X7_derivative_X7 : ∀ w ∈ wsX70, w ∈ wsX7_derivative := by decide +kernel
set_option maxHeartbeats 4000000 in
set_option maxRecDepth 100000 in
theorem wk_X7_derivative {p : Program} {l : Launch} {e : Env} {s : State} {m : MethodId} {args : Array Value} {below : List Frame} {meth : Method} {c : Code} {D : va_G} {ca : Nat → ClassId} {b : Nat → Nat} {tw : Nat} {tt : Nat → Nat} (C0 : Cx p s m args meth c cX7_derivative (some .int) 4 wsX7_derivative RX7) (hap : ap_ok 6 b) (hK : va_K D vwCl (tys3 ca) s) (hT0 : tW tw tt (ad_of 6 b) s s.heap) {q : Int32 × YS} (v : YS) (H : Heap) (locs : List Loc) (x1 : Int32) (x2 : Int32) (x3 : Int32) (ls : Array Slot) (hP : va_P D vwCl (YW ca b v) H) (hS : va_S (ad_of 6 b) s.heap H locs) (hl : lv_has ls 4 [(0, .ref (b 0)), (1, .int x1), (2, .int x2), (3, .int x3)]) (h : fn_X7_derivative v x1 x2 x3 = some q) : W p l e rm_X7_derivative s m args below meth c H locs 0 0 (MQ below (PQ (some (.int q.1)) (fun H => va_P D vwCl (YW ca b q.2) H) (ad_of 6 b)) args s 0 0 (ad_of 6 b)) (F0 m 0 ls []) := by
  obtain ⟨hx, hb, hr, hml, hown, hts, hlocks⟩ := id C0
  have hD0 := fun v => YW_D (ca := ca) hap v
  unfold fn_X7_derivative at h
  refine lv_iload_n hx hb dX7_derivative_0 rfl (lv_at hl 1 rfl) ?_
  obtain ⟨q1, e1, h⟩ := Option.bind_eq_some_iff.mp h
  refine hp_S (As := [.int x1]) (rest := []) ⟨hx, hb, hml, hown, hts⟩ (ct_X7_isRegister l tw tt x1 e1) (va_cwS 1 hts gX7_derivative_X7_isRegister rfl rfl rfl (by decide +kernel) ⟨Nat.le_of_ble_eq_true rfl, Nat.le_of_ble_eq_true rfl⟩) GP.mv (GP.from hT0 hS) rfl hl.1 rfl (Nat.le_of_ble_eq_true rfl) dX7_derivative_1 ⟨Nat.zero_le _, Nat.zero_le _⟩ ?_
  refine W.eq (g2 := F0 m 4 ls [.int q1]) rfl ?_
  refine lv_if_eq (tgt := 41) hx hb dX7_derivative_4 (by decide) (fun c4 => ?_) (fun c4 => ?_)
  · replace h := ite_t h c4
    refine lv_iconst (v := (-1)) hx hb dX7_derivative_41 (by decide) ?_
    obtain rfl := Option.some.inj h
    exact mp_iret hx hb hr hlocks hP hS dX7_derivative_42
  · replace h := ite_f h c4
    refine lv_aload_n hx hb dX7_derivative_7 rfl (lv_at hl 0 rfl) ?_
    refine lv_iload_n hx hb dX7_derivative_8 rfl (lv_at hl 2 rfl) ?_
    obtain ⟨q9, e9, h⟩ := Option.bind_eq_some_iff.mp h
    refine hp_V (As := [.int x2]) (rest := []) (b := (b 0)) ⟨hx, hb, hml, hown, hts⟩ (ct_X7_isVariable l D ca b tw tt v x2 e9) (cwV 1 hts gX7_derivative_X7_isVariable rfl rfl rfl (by decide +kernel) ⟨Nat.le_of_ble_eq_true rfl, Nat.le_of_ble_eq_true rfl⟩) (va_recv hK hP (ci := 4) (q0 := 0) rfl rfl) GW.mv (GW.from hP hK hT0 hS) rfl hl.1 rfl (Nat.le_of_ble_eq_true rfl) dX7_derivative_9 ⟨Nat.zero_le _, Nat.zero_le _⟩ ?_
    refine W.eq (g2 := F0 m 12 ls [.int q9]) rfl ?_
    refine lv_if_eq (tgt := 41) hx hb dX7_derivative_12 (by decide) (fun c12 => ?_) (fun c12 => ?_)
    · replace h := ite_t h c12
      refine lv_iconst (v := (-1)) hx hb dX7_derivative_41 (by decide) ?_
      obtain rfl := Option.some.inj h
      exact mp_iret hx hb hr hlocks hP hS dX7_derivative_42
    · replace h := ite_f h c12
      refine lv_iload_n hx hb dX7_derivative_15 rfl (lv_at hl 3 rfl) ?_
      obtain ⟨q16, e16, h⟩ := Option.bind_eq_some_iff.mp h
      refine hp_S (As := [.int x3]) (rest := []) ⟨hx, hb, hml, hown, hts⟩ (ct_X7_isRegister l tw tt x3 e16) (va_cwS 1 hts gX7_derivative_X7_isRegister rfl rfl rfl (by decide +kernel) ⟨Nat.le_of_ble_eq_true rfl, Nat.le_of_ble_eq_true rfl⟩) GP.mv (GP.from hT0 hS) rfl hl.1 rfl (Nat.le_of_ble_eq_true rfl) dX7_derivative_16 ⟨Nat.zero_le _, Nat.zero_le _⟩ ?_
      refine W.eq (g2 := F0 m 19 ls [.int q16]) rfl ?_
      refine lv_if_eq (tgt := 41) hx hb dX7_derivative_19 (by decide) (fun c19 => ?_) (fun c19 => ?_)
      · replace h := ite_t h c19
        refine lv_iconst (v := (-1)) hx hb dX7_derivative_41 (by decide) ?_
        obtain rfl := Option.some.inj h
        exact mp_iret hx hb hr hlocks hP hS dX7_derivative_42
      · replace h := ite_f h c19
        refine lv_aload_n hx hb dX7_derivative_22 rfl (lv_at hl 0 rfl) ?_
        refine lv_iload_n hx hb dX7_derivative_23 rfl (lv_at hl 3 rfl) ?_
        refine lv_aload_n hx hb dX7_derivative_24 rfl (lv_at hl 0 rfl) ?_
        refine lv_aload_n hx hb dX7_derivative_25 rfl (lv_at hl 0 rfl) ?_
        refine va_get (D := D) (ci := 4) (v := .ref (b 1)) (C := RX7) (T := TX7) (N := 9) hx hb hts ly_X7_derivative_X7 hown hK hP 0 rfl rfl 1 (by decide) (hts _ lk_X7_derivative_f13) (fun _ h9 => h9) rfl dX7_derivative_26 ?_
        refine lv_iload_n hx hb dX7_derivative_29 rfl (lv_at hl 1 rfl) ?_
        obtain ⟨q30, e30, h⟩ := Option.bind_eq_some_iff.mp h
        refine rd_lald hx hb hK hP 1 0 e30 rfl rfl dX7_derivative_30 ?_
        refine lv_iload_n hx hb dX7_derivative_31 rfl (lv_at hl 2 rfl) ?_
        obtain ⟨q32, e32, h⟩ := Option.bind_eq_some_iff.mp h
        refine hp_V (As := [.long q30, .int x2]) (rest := [.int x3, .ref (b 0)]) (b := (b 0)) ⟨hx, hb, hml, hown, hts⟩ (ct_X7_upper l D ca b tw tt v q30 x2 e32) (cwV 2 hts gX7_derivative_X7_upper rfl rfl rfl (by decide +kernel) ⟨Nat.le_of_ble_eq_true rfl, Nat.le_of_ble_eq_true rfl⟩) (va_recv hK hP (ci := 4) (q0 := 0) rfl rfl) GW.mv (GW.from hP hK hT0 hS) rfl hl.1 rfl (Nat.le_of_ble_eq_true rfl) dX7_derivative_32 ⟨Nat.zero_le _, Nat.zero_le _⟩ ?_
        refine W.eq (g2 := F0 m 35 ls [.long q32, .int x3, .ref (b 0)]) rfl ?_
        obtain ⟨q35, e35, h⟩ := Option.bind_eq_some_iff.mp h
        refine mp_V (As := [.int x3, .long q32]) (rest := []) (b := (b 0)) ⟨hx, hb, hml, hown, hts⟩ (ct_X7_gets l D ca b tw tt hap v x3 q32 e35) (cwV 2 hts gX7_derivative_X7_gets rfl rfl rfl (by decide +kernel) ⟨Nat.le_of_ble_eq_true rfl, Nat.le_of_ble_eq_true rfl⟩) (va_recv hK hP (ci := 4) (q0 := 0) rfl rfl) GW.mv (GW.from hP hK hT0 hS) hS rfl hl.1 rfl (Nat.le_of_ble_eq_true rfl) dX7_derivative_35 ⟨Nat.zero_le _, Nat.zero_le _⟩ (fun H locs hP hS => ?_)
        refine W.eq (g2 := F0 m 38 ls [.int q35.1]) rfl ?_
        refine lv_goto (tgt := 42) hx hb dX7_derivative_38 (by decide) ?_
        obtain rfl := Option.some.inj h
        exact mp_iret hx hb hr hlocks hP hS dX7_derivative_42
theorem ct_X7_derivative (l : Launch) (D : va_G) (ca : Nat → ClassId) (b : Nat → Nat) (tw : Nat) (tt : Nat → Nat) (hap : ap_ok 6 b) (v : YS) (x1 : Int32) (x2 : Int32) (x3 : Int32) {q : Int32 × YS} (h : fn_X7_derivative v x1 x2 x3 = some q) : Mp l yX7_derivative wsX7_derivative rm_X7_derivative [.ref (b 0), .int x1, .int x2, .int x3] (GW D ca tw tt (ad_of 6 b) (YW ca b v)) (some (.int q.1)) (fun H => va_P D vwCl (YW ca b q.2) H) (ad_of 6 b) := by
  refine Mp.of (cc := cX7_derivative) (nL := 4) (ret := (some .int)) (own := RX7) (by decide) rfl rfl (Nat.le_of_ble_eq_true rfl) ?_
  intro p e s m below meth c ls C0 hB hl
  exact wk_X7_derivative C0 hap hB.2.1 hB.2.2 (hP := hB.1) (hS := va_S.rf) (hl := hl) (h := h)
abbrev rm_X7_flip : Room := { frames := 2, cells := 0, slots := 0, locals := 48 }
theorem lk_X7_flip_f13 : Cond.fieldLink RX7 13 "BooleanRingModel" "p" "[J" ∈ wsX7_flip := by decide +kernel
theorem ly_X7_flip_X7 : ∀ w ∈ wsX70, w ∈ wsX7_flip := by decide +kernel
set_option maxHeartbeats 4000000 in
set_option maxRecDepth 100000 in
theorem wk_X7_flip {p : Program} {l : Launch} {e : Env} {s : State} {m : MethodId} {args : Array Value} {below : List Frame} {meth : Method} {c : Code} {D : va_G} {ca : Nat → ClassId} {b : Nat → Nat} {tw : Nat} {tt : Nat → Nat} (C0 : Cx p s m args meth c cX7_flip (some .int) 3 wsX7_flip RX7) (hap : ap_ok 6 b) (hK : va_K D vwCl (tys3 ca) s) (hT0 : tW tw tt (ad_of 6 b) s s.heap) {q : Int32 × YS} (v : YS) (H : Heap) (locs : List Loc) (x1 : Int32) (x2 : Int32) (ls : Array Slot) (hP : va_P D vwCl (YW ca b v) H) (hS : va_S (ad_of 6 b) s.heap H locs) (hl : lv_has ls 3 [(0, .ref (b 0)), (1, .int x1), (2, .int x2)]) (h : fn_X7_flip v x1 x2 = some q) : W p l e rm_X7_flip s m args below meth c H locs 0 0 (MQ below (PQ (some (.int q.1)) (fun H => va_P D vwCl (YW ca b q.2) H) (ad_of 6 b)) args s 0 0 (ad_of 6 b)) (F0 m 0 ls []) := by
  obtain ⟨hx, hb, hr, hml, hown, hts, hlocks⟩ := id C0
  have hD0 := fun v => YW_D (ca := ca) hap v
  unfold fn_X7_flip at h
  refine lv_iload_n hx hb dX7_flip_0 rfl (lv_at hl 1 rfl) ?_
  obtain ⟨q1, e1, h⟩ := Option.bind_eq_some_iff.mp h
  refine hp_S (As := [.int x1]) (rest := []) ⟨hx, hb, hml, hown, hts⟩ (ct_X7_isRegister l tw tt x1 e1) (va_cwS 1 hts gX7_flip_X7_isRegister rfl rfl rfl (by decide +kernel) ⟨Nat.le_of_ble_eq_true rfl, Nat.le_of_ble_eq_true rfl⟩) GP.mv (GP.from hT0 hS) rfl hl.1 rfl (Nat.le_of_ble_eq_true rfl) dX7_flip_1 ⟨Nat.zero_le _, Nat.zero_le _⟩ ?_
  refine W.eq (g2 := F0 m 4 ls [.int q1]) rfl ?_
  refine lv_if_eq (tgt := 15) hx hb dX7_flip_4 (by decide) (fun c4 => ?_) (fun c4 => ?_)
  · replace h := ite_t h c4
    refine lv_iconst (v := (-1)) hx hb dX7_flip_15 (by decide) ?_
    obtain rfl := Option.some.inj h
    exact mp_iret hx hb hr hlocks hP hS dX7_flip_16
  · replace h := ite_f h c4
    refine lv_aload_n hx hb dX7_flip_7 rfl (lv_at hl 0 rfl) ?_
    refine lv_iload_n hx hb dX7_flip_8 rfl (lv_at hl 2 rfl) ?_
    obtain ⟨q9, e9, h⟩ := Option.bind_eq_some_iff.mp h
    refine hp_V (As := [.int x2]) (rest := []) (b := (b 0)) ⟨hx, hb, hml, hown, hts⟩ (ct_X7_isMask l D ca b tw tt v x2 e9) (cwV 1 hts gX7_flip_X7_isMask rfl rfl rfl (by decide +kernel) ⟨Nat.le_of_ble_eq_true rfl, Nat.le_of_ble_eq_true rfl⟩) (va_recv hK hP (ci := 4) (q0 := 0) rfl rfl) GW.mv (GW.from hP hK hT0 hS) rfl hl.1 rfl (Nat.le_of_ble_eq_true rfl) dX7_flip_9 ⟨Nat.zero_le _, Nat.zero_le _⟩ ?_
    refine W.eq (g2 := F0 m 12 ls [.int q9]) rfl ?_
    refine lv_if_ne (tgt := 17) hx hb dX7_flip_12 (by decide) (fun c12 => ?_) (fun c12 => ?_)
    · replace h := ite_f h c12
      refine lv_aload_n hx hb dX7_flip_17 rfl (lv_at hl 0 rfl) ?_
      refine lv_iload_n hx hb dX7_flip_18 rfl (lv_at hl 1 rfl) ?_
      refine lv_aload_n hx hb dX7_flip_19 rfl (lv_at hl 0 rfl) ?_
      refine va_get (D := D) (ci := 4) (v := .ref (b 1)) (C := RX7) (T := TX7) (N := 9) hx hb hts ly_X7_flip_X7 hown hK hP 0 rfl rfl 1 (by decide) (hts _ lk_X7_flip_f13) (fun _ h9 => h9) rfl dX7_flip_20 ?_
      refine lv_iload_n hx hb dX7_flip_23 rfl (lv_at hl 1 rfl) ?_
      obtain ⟨q24, e24, h⟩ := Option.bind_eq_some_iff.mp h
      refine rd_lald hx hb hK hP 1 0 e24 rfl rfl dX7_flip_24 ?_
      refine lv_aload_n hx hb dX7_flip_25 rfl (lv_at hl 0 rfl) ?_
      refine lv_lconst (v := 1) hx hb dX7_flip_26 (by decide) ?_
      refine lv_iload_n hx hb dX7_flip_27 rfl (lv_at hl 2 rfl) ?_
      refine lv_lshl (v := (lsh 1 x2)) hx hb dX7_flip_28 rfl ?_
      obtain ⟨q29, e29, h⟩ := Option.bind_eq_some_iff.mp h
      refine hp_V (As := [.long (lsh 1 x2)]) (rest := [.long q24, .int x1, .ref (b 0)]) (b := (b 0)) ⟨hx, hb, hml, hown, hts⟩ (ct_X7_values l D ca b tw tt v (lsh 1 x2) e29) (cwV 1 hts gX7_flip_X7_values rfl rfl rfl (by decide +kernel) ⟨Nat.le_of_ble_eq_true rfl, Nat.le_of_ble_eq_true rfl⟩) (va_recv hK hP (ci := 4) (q0 := 0) rfl rfl) GW.mv (GW.from hP hK hT0 hS) rfl hl.1 rfl (Nat.le_of_ble_eq_true rfl) dX7_flip_29 ⟨Nat.zero_le _, Nat.zero_le _⟩ ?_
      refine W.eq (g2 := F0 m 32 ls [.long q29, .long q24, .int x1, .ref (b 0)]) rfl ?_
      refine lv_lxor hx hb dX7_flip_32 ?_
      obtain ⟨q33, e33, h⟩ := Option.bind_eq_some_iff.mp h
      refine mp_V (As := [.int x1, .long (q24 ^^^ q29)]) (rest := []) (b := (b 0)) ⟨hx, hb, hml, hown, hts⟩ (ct_X7_gets l D ca b tw tt hap v x1 (q24 ^^^ q29) e33) (cwV 2 hts gX7_flip_X7_gets rfl rfl rfl (by decide +kernel) ⟨Nat.le_of_ble_eq_true rfl, Nat.le_of_ble_eq_true rfl⟩) (va_recv hK hP (ci := 4) (q0 := 0) rfl rfl) GW.mv (GW.from hP hK hT0 hS) hS rfl hl.1 rfl (Nat.le_of_ble_eq_true rfl) dX7_flip_33 ⟨Nat.zero_le _, Nat.zero_le _⟩ (fun H locs hP hS => ?_)
      refine W.eq (g2 := F0 m 36 ls [.int q33.1]) rfl ?_
      obtain rfl := Option.some.inj h
      exact mp_iret hx hb hr hlocks hP hS dX7_flip_36
    · replace h := ite_t h c12
      refine lv_iconst (v := (-1)) hx hb dX7_flip_15 (by decide) ?_
      obtain rfl := Option.some.inj h
      exact mp_iret hx hb hr hlocks hP hS dX7_flip_16
theorem ct_X7_flip (l : Launch) (D : va_G) (ca : Nat → ClassId) (b : Nat → Nat) (tw : Nat) (tt : Nat → Nat) (hap : ap_ok 6 b) (v : YS) (x1 : Int32) (x2 : Int32) {q : Int32 × YS} (h : fn_X7_flip v x1 x2 = some q) : Mp l yX7_flip wsX7_flip rm_X7_flip [.ref (b 0), .int x1, .int x2] (GW D ca tw tt (ad_of 6 b) (YW ca b v)) (some (.int q.1)) (fun H => va_P D vwCl (YW ca b q.2) H) (ad_of 6 b) := by
  refine Mp.of (cc := cX7_flip) (nL := 3) (ret := (some .int)) (own := RX7) (by decide) rfl rfl (Nat.le_of_ble_eq_true rfl) ?_
  intro p e s m below meth c ls C0 hB hl
  exact wk_X7_flip C0 hap hB.2.1 hB.2.2 (hP := hB.1) (hS := va_S.rf) (hl := hl) (h := h)
abbrev rm_X7_exchange : Room := { frames := 2, cells := 0, slots := 0, locals := 47 }
theorem lk_X7_exchange_f7 : Cond.fieldLink RX7 7 "BooleanRingModel" "n" "I" ∈ wsX7_exchange := by decide +kernel
theorem lk_X7_exchange_f13 : Cond.fieldLink RX7 13 "BooleanRingModel" "p" "[J" ∈ wsX7_exchange := by decide +kernel
theorem ly_X7_exchange_X7 : ∀ w ∈ wsX70, w ∈ wsX7_exchange := by decide +kernel
set_option maxHeartbeats 4000000 in
set_option maxRecDepth 100000 in
theorem wk_X7_exchange_106 {p : Program} {l : Launch} {e : Env} {s : State} {m : MethodId} {args : Array Value} {below : List Frame} {meth : Method} {c : Code} {D : va_G} {ca : Nat → ClassId} {b : Nat → Nat} {tw : Nat} {tt : Nat → Nat} (C0 : Cx p s m args meth c cX7_exchange (some .int) 8 wsX7_exchange RX7) (hap : ap_ok 6 b) (hK : va_K D vwCl (tys3 ca) s) (hT0 : tW tw tt (ad_of 6 b) s s.heap) {q : Int32 × YS} (k31 : YS → Int32 → Int32 → Int32 → Int64 → Int32 → Option (Int32 × YS)) (hk31 : ∀ (v : YS) (H : Heap) (locs : List Loc) (x1 : Int32) (x2 : Int32) (x3 : Int32) (x4 : Int64) (x6 : Int32) (ls : Array Slot) (hP : va_P D vwCl (YW ca b v) H) (hS : va_S (ad_of 6 b) s.heap H locs) (hl : lv_has ls 8 [(0, .ref (b 0)), (1, .int x1), (2, .int x2), (3, .int x3), (4, .long x4), (6, .int x6)]) (h : k31 v x1 x2 x3 x4 x6 = some q), W p l e rm_X7_exchange s m args below meth c H locs 0 0 (MQ below (PQ (some (.int q.1)) (fun H => va_P D vwCl (YW ca b q.2) H) (ad_of 6 b)) args s 0 0 (ad_of 6 b)) (F0 m 31 ls [])) (v : YS) (H : Heap) (locs : List Loc) (x1 : Int32) (x2 : Int32) (x3 : Int32) (x6 : Int32) (y0 : Int64) (y1 : Int64) (ls : Array Slot) (hP : va_P D vwCl (YW ca b v) H) (hS : va_S (ad_of 6 b) s.heap H locs) (hl : lv_has ls 8 [(0, .ref (b 0)), (1, .int x1), (2, .int x2), (3, .int x3), (6, .int x6)]) (h : fn_X7_exchange_106 k31 v x1 x2 x3 x6 y0 y1 = some q) : W p l e rm_X7_exchange s m args below meth c H locs 0 0 (MQ below (PQ (some (.int q.1)) (fun H => va_P D vwCl (YW ca b q.2) H) (ad_of 6 b)) args s 0 0 (ad_of 6 b)) (F0 m 106 ls [.long y0, .long y1]) := by
  obtain ⟨hx, hb, hr, hml, hown, hts, hlocks⟩ := id C0
  have hD0 := fun v => YW_D (ca := ca) hap v
  unfold fn_X7_exchange_106 at h
  refine lv_lor hx hb dX7_exchange_106 ?_
  refine lv_lstore (lv' := [(4, .long (y1 ||| y0)), (0, .ref (b 0)), (1, .int x1), (2, .int x2), (3, .int x3), (6, .int x6)]) hx hb dX7_exchange_107 hl (by decide) rfl (fun ls hl => ?_)
  refine lv_iinc (v := (x6 + 1)) (lv' := [(6, .int (x6 + 1)), (4, .long (y1 ||| y0)), (0, .ref (b 0)), (1, .int x1), (2, .int x2), (3, .int x3)]) hx hb dX7_exchange_109 hl (k := 5) rfl rfl (by decide) rfl (fun ls hl => ?_)
  refine lv_goto (tgt := 31) hx hb dX7_exchange_112 (by decide) ?_
  exact hk31 v H locs x1 x2 x3 (y1 ||| y0) (x6 + 1) ls hP hS (lv_sub hl [2, 3, 4, 5, 1, 0] rfl) h
set_option maxHeartbeats 4000000 in
set_option maxRecDepth 100000 in
theorem wk_X7_exchange_62 {p : Program} {l : Launch} {e : Env} {s : State} {m : MethodId} {args : Array Value} {below : List Frame} {meth : Method} {c : Code} {D : va_G} {ca : Nat → ClassId} {b : Nat → Nat} {tw : Nat} {tt : Nat → Nat} (C0 : Cx p s m args meth c cX7_exchange (some .int) 8 wsX7_exchange RX7) (hap : ap_ok 6 b) (hK : va_K D vwCl (tys3 ca) s) (hT0 : tW tw tt (ad_of 6 b) s s.heap) {q : Int32 × YS} (k31 : YS → Int32 → Int32 → Int32 → Int64 → Int32 → Option (Int32 × YS)) (hk31 : ∀ (v : YS) (H : Heap) (locs : List Loc) (x1 : Int32) (x2 : Int32) (x3 : Int32) (x4 : Int64) (x6 : Int32) (ls : Array Slot) (hP : va_P D vwCl (YW ca b v) H) (hS : va_S (ad_of 6 b) s.heap H locs) (hl : lv_has ls 8 [(0, .ref (b 0)), (1, .int x1), (2, .int x2), (3, .int x3), (4, .long x4), (6, .int x6)]) (h : k31 v x1 x2 x3 x4 x6 = some q), W p l e rm_X7_exchange s m args below meth c H locs 0 0 (MQ below (PQ (some (.int q.1)) (fun H => va_P D vwCl (YW ca b q.2) H) (ad_of 6 b)) args s 0 0 (ad_of 6 b)) (F0 m 31 ls [])) (v : YS) (H : Heap) (locs : List Loc) (x1 : Int32) (x2 : Int32) (x3 : Int32) (x4 : Int64) (x6 : Int32) (y0 : Int32) (ls : Array Slot) (hP : va_P D vwCl (YW ca b v) H) (hS : va_S (ad_of 6 b) s.heap H locs) (hl : lv_has ls 8 [(0, .ref (b 0)), (1, .int x1), (2, .int x2), (3, .int x3), (4, .long x4), (6, .int x6)]) (h : fn_X7_exchange_62 k31 v x1 x2 x3 x4 x6 y0 = some q) : W p l e rm_X7_exchange s m args below meth c H locs 0 0 (MQ below (PQ (some (.int q.1)) (fun H => va_P D vwCl (YW ca b q.2) H) (ad_of 6 b)) args s 0 0 (ad_of 6 b)) (F0 m 62 ls [.int y0]) := by
  obtain ⟨hx, hb, hr, hml, hown, hts, hlocks⟩ := id C0
  have hD0 := fun v => YW_D (ca := ca) hap v
  unfold fn_X7_exchange_62 at h
  refine lv_istore (lv' := [(7, .int y0), (0, .ref (b 0)), (1, .int x1), (2, .int x2), (3, .int x3), (4, .long x4), (6, .int x6)]) hx hb dX7_exchange_62 hl (by decide) rfl (fun ls hl => ?_)
  refine lv_lload hx hb dX7_exchange_64 (lv_at hl 5 rfl) ?_
  refine lv_aload_n hx hb dX7_exchange_66 rfl (lv_at hl 1 rfl) ?_
  refine va_get (D := D) (ci := 4) (v := .ref (b 1)) (C := RX7) (T := TX7) (N := 9) hx hb hts ly_X7_exchange_X7 hown hK hP 0 rfl rfl 1 (by decide) (hts _ lk_X7_exchange_f13) (fun _ h9 => h9) rfl dX7_exchange_67 ?_
  refine lv_iload_n hx hb dX7_exchange_70 rfl (lv_at hl 2 rfl) ?_
  obtain ⟨q71, e71, h⟩ := Option.bind_eq_some_iff.mp h
  refine rd_lald hx hb hK hP 1 0 e71 rfl rfl dX7_exchange_71 ?_
  refine lv_iload hx hb dX7_exchange_72 (lv_at hl 6 rfl) ?_
  obtain ⟨q74, e74, h⟩ := Option.bind_eq_some_iff.mp h
  refine hp_S (As := [.long q71, .int x6]) (rest := [.long x4]) ⟨hx, hb, hml, hown, hts⟩ (ct_X7_has1 l tw tt q71 x6 e74) (va_cwS 2 hts gX7_exchange_X7_has1 rfl rfl rfl (by decide +kernel) ⟨Nat.le_of_ble_eq_true rfl, Nat.le_of_ble_eq_true rfl⟩) GP.mv (GP.from hT0 hS) rfl hl.1 rfl (Nat.le_of_ble_eq_true rfl) dX7_exchange_74 ⟨Nat.zero_le _, Nat.zero_le _⟩ ?_
  refine W.eq (g2 := F0 m 77 ls [.int q74, .long x4]) rfl ?_
  refine lv_if_eq (tgt := 105) hx hb dX7_exchange_77 (by decide) (fun c77 => ?_) (fun c77 => ?_)
  · replace h := ite_t h c77
    refine lv_lconst (v := 0) hx hb dX7_exchange_105 (by decide) ?_
    exact wk_X7_exchange_106 C0 hap hK hT0 (k31 := k31) (hk31 := hk31) (ls := ls) (hP := hP) (hS := hS) (hl := (lv_sub hl [1, 2, 3, 4, 6] rfl)) (h := h)
  · replace h := ite_f h c77
    refine lv_lconst (v := 1) hx hb dX7_exchange_80 (by decide) ?_
    refine lv_iload hx hb dX7_exchange_81 (lv_at hl 0 rfl) ?_
    refine lv_if_eq (tgt := 99) hx hb dX7_exchange_83 (by decide) (fun c83 => ?_) (fun c83 => ?_)
    · replace h := ite_t h c83
      refine lv_iload hx hb dX7_exchange_99 (lv_at hl 6 rfl) ?_
      refine lv_lshl (v := (lsh 1 x6)) hx hb dX7_exchange_101 rfl ?_
      refine lv_goto (tgt := 106) hx hb dX7_exchange_102 (by decide) ?_
      exact wk_X7_exchange_106 C0 hap hK hT0 (k31 := k31) (hk31 := hk31) (ls := ls) (hP := hP) (hS := hS) (hl := (lv_sub hl [1, 2, 3, 4, 6] rfl)) (h := h)
    · replace h := ite_f h c83
      refine lv_iload hx hb dX7_exchange_86 (lv_at hl 6 rfl) ?_
      refine lv_iconst (v := 1) hx hb dX7_exchange_88 (by decide) ?_
      refine lv_iload_n hx hb dX7_exchange_89 rfl (lv_at hl 3 rfl) ?_
      refine lv_ishl hx hb dX7_exchange_90 ?_
      refine lv_ixor hx hb dX7_exchange_91 ?_
      refine lv_iconst (v := 1) hx hb dX7_exchange_92 (by decide) ?_
      refine lv_iload_n hx hb dX7_exchange_93 rfl (lv_at hl 4 rfl) ?_
      refine lv_ishl hx hb dX7_exchange_94 ?_
      refine lv_ixor hx hb dX7_exchange_95 ?_
      refine lv_goto (tgt := 101) hx hb dX7_exchange_96 (by decide) ?_
      refine lv_lshl (v := (lsh 1 ((x6 ^^^ (ish 1 x2)) ^^^ (ish 1 x3)))) hx hb dX7_exchange_101 rfl ?_
      refine lv_goto (tgt := 106) hx hb dX7_exchange_102 (by decide) ?_
      exact wk_X7_exchange_106 C0 hap hK hT0 (k31 := k31) (hk31 := hk31) (ls := ls) (hP := hP) (hS := hS) (hl := (lv_sub hl [1, 2, 3, 4, 6] rfl)) (h := h)
set_option maxHeartbeats 4000000 in
set_option maxRecDepth 100000 in
theorem wk_X7_exchange_31_body {p : Program} {l : Launch} {e : Env} {s : State} {m : MethodId} {args : Array Value} {below : List Frame} {meth : Method} {c : Code} {D : va_G} {ca : Nat → ClassId} {b : Nat → Nat} {tw : Nat} {tt : Nat → Nat} (C0 : Cx p s m args meth c cX7_exchange (some .int) 8 wsX7_exchange RX7) (hap : ap_ok 6 b) (hK : va_K D vwCl (tys3 ca) s) (hT0 : tW tw tt (ad_of 6 b) s s.heap) {q : Int32 × YS} (k31 : YS → Int32 → Int32 → Int32 → Int64 → Int32 → Option (Int32 × YS)) (hk31 : ∀ (v : YS) (H : Heap) (locs : List Loc) (x1 : Int32) (x2 : Int32) (x3 : Int32) (x4 : Int64) (x6 : Int32) (ls : Array Slot) (hP : va_P D vwCl (YW ca b v) H) (hS : va_S (ad_of 6 b) s.heap H locs) (hl : lv_has ls 8 [(0, .ref (b 0)), (1, .int x1), (2, .int x2), (3, .int x3), (4, .long x4), (6, .int x6)]) (h : k31 v x1 x2 x3 x4 x6 = some q), W p l e rm_X7_exchange s m args below meth c H locs 0 0 (MQ below (PQ (some (.int q.1)) (fun H => va_P D vwCl (YW ca b q.2) H) (ad_of 6 b)) args s 0 0 (ad_of 6 b)) (F0 m 31 ls [])) (v : YS) (H : Heap) (locs : List Loc) (x1 : Int32) (x2 : Int32) (x3 : Int32) (x4 : Int64) (x6 : Int32) (ls : Array Slot) (hP : va_P D vwCl (YW ca b v) H) (hS : va_S (ad_of 6 b) s.heap H locs) (hl : lv_has ls 8 [(0, .ref (b 0)), (1, .int x1), (2, .int x2), (3, .int x3), (4, .long x4), (6, .int x6)]) (h : fn_X7_exchange_31_body k31 v x1 x2 x3 x4 x6 = some q) : W p l e rm_X7_exchange s m args below meth c H locs 0 0 (MQ below (PQ (some (.int q.1)) (fun H => va_P D vwCl (YW ca b q.2) H) (ad_of 6 b)) args s 0 0 (ad_of 6 b)) (F0 m 31 ls []) := by
  obtain ⟨hx, hb, hr, hml, hown, hts, hlocks⟩ := id C0
  have hD0 := fun v => YW_D (ca := ca) hap v
  unfold fn_X7_exchange_31_body at h
  refine lv_iload hx hb dX7_exchange_31 (lv_at hl 5 rfl) ?_
  refine lv_iconst (v := 1) hx hb dX7_exchange_33 (by decide) ?_
  refine lv_aload_n hx hb dX7_exchange_34 rfl (lv_at hl 0 rfl) ?_
  refine va_get (D := D) (ci := 4) (v := .int (y_n v)) (C := RX7) (T := TX7) (N := 9) hx hb hts ly_X7_exchange_X7 hown hK hP 0 rfl rfl 0 (by decide) (hts _ lk_X7_exchange_f7) (fun _ h9 => h9) rfl dX7_exchange_35 ?_
  refine lv_ishl hx hb dX7_exchange_38 ?_
  refine lv_icmp_ge (tgt := 115) hx hb dX7_exchange_39 (by decide) (fun c39 => ?_) (fun c39 => ?_)
  · replace h := ite_t h c39
    refine lv_aload_n hx hb dX7_exchange_115 rfl (lv_at hl 0 rfl) ?_
    refine lv_iload_n hx hb dX7_exchange_116 rfl (lv_at hl 1 rfl) ?_
    refine lv_lload hx hb dX7_exchange_117 (lv_at hl 4 rfl) ?_
    obtain ⟨q119, e119, h⟩ := Option.bind_eq_some_iff.mp h
    refine mp_V (As := [.int x1, .long x4]) (rest := []) (b := (b 0)) ⟨hx, hb, hml, hown, hts⟩ (ct_X7_gets l D ca b tw tt hap v x1 x4 e119) (cwV 2 hts gX7_exchange_X7_gets rfl rfl rfl (by decide +kernel) ⟨Nat.le_of_ble_eq_true rfl, Nat.le_of_ble_eq_true rfl⟩) (va_recv hK hP (ci := 4) (q0 := 0) rfl rfl) GW.mv (GW.from hP hK hT0 hS) hS rfl hl.1 rfl (Nat.le_of_ble_eq_true rfl) dX7_exchange_119 ⟨Nat.zero_le _, Nat.zero_le _⟩ (fun H locs hP hS => ?_)
    refine W.eq (g2 := F0 m 122 ls [.int q119.1]) rfl ?_
    obtain rfl := Option.some.inj h
    exact mp_iret hx hb hr hlocks hP hS dX7_exchange_122
  · replace h := ite_f h c39
    refine lv_iload hx hb dX7_exchange_42 (lv_at hl 5 rfl) ?_
    refine lv_iload_n hx hb dX7_exchange_44 rfl (lv_at hl 2 rfl) ?_
    refine lv_ishr hx hb dX7_exchange_45 ?_
    refine lv_iconst (v := 1) hx hb dX7_exchange_46 (by decide) ?_
    refine lv_iand hx hb dX7_exchange_47 ?_
    refine lv_iload hx hb dX7_exchange_48 (lv_at hl 5 rfl) ?_
    refine lv_iload_n hx hb dX7_exchange_50 rfl (lv_at hl 3 rfl) ?_
    refine lv_ishr hx hb dX7_exchange_51 ?_
    refine lv_iconst (v := 1) hx hb dX7_exchange_52 (by decide) ?_
    refine lv_iand hx hb dX7_exchange_53 ?_
    refine lv_icmp_eq (tgt := 61) hx hb dX7_exchange_54 (by decide) (fun c54 => ?_) (fun c54 => ?_)
    · replace h := ite_t h c54
      refine lv_iconst (v := 0) hx hb dX7_exchange_61 (by decide) ?_
      exact wk_X7_exchange_62 C0 hap hK hT0 (k31 := k31) (hk31 := hk31) (ls := ls) (hP := hP) (hS := hS) (hl := (lv_sub hl [0, 1, 2, 3, 4, 5] rfl)) (h := h)
    · replace h := ite_f h c54
      refine lv_iconst (v := 1) hx hb dX7_exchange_57 (by decide) ?_
      refine lv_goto (tgt := 62) hx hb dX7_exchange_58 (by decide) ?_
      exact wk_X7_exchange_62 C0 hap hK hT0 (k31 := k31) (hk31 := hk31) (ls := ls) (hP := hP) (hS := hS) (hl := (lv_sub hl [0, 1, 2, 3, 4, 5] rfl)) (h := h)
set_option maxHeartbeats 4000000 in
set_option maxRecDepth 100000 in
theorem wk_X7_exchange_31 {p : Program} {l : Launch} {e : Env} {s : State} {m : MethodId} {args : Array Value} {below : List Frame} {meth : Method} {c : Code} {D : va_G} {ca : Nat → ClassId} {b : Nat → Nat} {tw : Nat} {tt : Nat → Nat} (C0 : Cx p s m args meth c cX7_exchange (some .int) 8 wsX7_exchange RX7) (hap : ap_ok 6 b) (hK : va_K D vwCl (tys3 ca) s) (hT0 : tW tw tt (ad_of 6 b) s s.heap) {q : Int32 × YS} : ∀ (n : Nat) (v : YS) (H : Heap) (locs : List Loc) (x1 : Int32) (x2 : Int32) (x3 : Int32) (x4 : Int64) (x6 : Int32) (ls : Array Slot) (hP : va_P D vwCl (YW ca b v) H) (hS : va_S (ad_of 6 b) s.heap H locs) (hl : lv_has ls 8 [(0, .ref (b 0)), (1, .int x1), (2, .int x2), (3, .int x3), (4, .long x4), (6, .int x6)]) (h : fn_X7_exchange_31 n v x1 x2 x3 x4 x6 = some q), W p l e rm_X7_exchange s m args below meth c H locs 0 0 (MQ below (PQ (some (.int q.1)) (fun H => va_P D vwCl (YW ca b q.2) H) (ad_of 6 b)) args s 0 0 (ad_of 6 b)) (F0 m 31 ls []) := by
  intro n
  induction n with
  | zero => intro v H locs x1 x2 x3 x4 x6 ls hP hS hl h; unfold fn_X7_exchange_31 at h; cases h
  | succ n ih => intro v H locs x1 x2 x3 x4 x6 ls hP hS hl h; exact wk_X7_exchange_31_body C0 hap hK hT0 (k31 := fn_X7_exchange_31 n) (hk31 := ih) (hl := hl) (hP := hP) (hS := hS) (h := h)
set_option maxHeartbeats 4000000 in
set_option maxRecDepth 100000 in
theorem wk_X7_exchange {p : Program} {l : Launch} {e : Env} {s : State} {m : MethodId} {args : Array Value} {below : List Frame} {meth : Method} {c : Code} {D : va_G} {ca : Nat → ClassId} {b : Nat → Nat} {tw : Nat} {tt : Nat → Nat} (C0 : Cx p s m args meth c cX7_exchange (some .int) 8 wsX7_exchange RX7) (hap : ap_ok 6 b) (hK : va_K D vwCl (tys3 ca) s) (hT0 : tW tw tt (ad_of 6 b) s s.heap) {q : Int32 × YS} (v : YS) (H : Heap) (locs : List Loc) (x1 : Int32) (x2 : Int32) (x3 : Int32) (ls : Array Slot) (hP : va_P D vwCl (YW ca b v) H) (hS : va_S (ad_of 6 b) s.heap H locs) (hl : lv_has ls 8 [(0, .ref (b 0)), (1, .int x1), (2, .int x2), (3, .int x3)]) (h : fn_X7_exchange v x1 x2 x3 = some q) : W p l e rm_X7_exchange s m args below meth c H locs 0 0 (MQ below (PQ (some (.int q.1)) (fun H => va_P D vwCl (YW ca b q.2) H) (ad_of 6 b)) args s 0 0 (ad_of 6 b)) (F0 m 0 ls []) := by
  obtain ⟨hx, hb, hr, hml, hown, hts, hlocks⟩ := id C0
  have hD0 := fun v => YW_D (ca := ca) hap v
  unfold fn_X7_exchange at h
  refine lv_iload_n hx hb dX7_exchange_0 rfl (lv_at hl 1 rfl) ?_
  obtain ⟨q1, e1, h⟩ := Option.bind_eq_some_iff.mp h
  refine hp_S (As := [.int x1]) (rest := []) ⟨hx, hb, hml, hown, hts⟩ (ct_X7_isRegister l tw tt x1 e1) (va_cwS 1 hts gX7_exchange_X7_isRegister rfl rfl rfl (by decide +kernel) ⟨Nat.le_of_ble_eq_true rfl, Nat.le_of_ble_eq_true rfl⟩) GP.mv (GP.from hT0 hS) rfl hl.1 rfl (Nat.le_of_ble_eq_true rfl) dX7_exchange_1 ⟨Nat.zero_le _, Nat.zero_le _⟩ ?_
  refine W.eq (g2 := F0 m 4 ls [.int q1]) rfl ?_
  refine lv_if_eq (tgt := 23) hx hb dX7_exchange_4 (by decide) (fun c4 => ?_) (fun c4 => ?_)
  · replace h := ite_t h c4
    refine lv_iconst (v := (-1)) hx hb dX7_exchange_23 (by decide) ?_
    obtain rfl := Option.some.inj h
    exact mp_iret hx hb hr hlocks hP hS dX7_exchange_24
  · replace h := ite_f h c4
    refine lv_aload_n hx hb dX7_exchange_7 rfl (lv_at hl 0 rfl) ?_
    refine lv_iload_n hx hb dX7_exchange_8 rfl (lv_at hl 2 rfl) ?_
    obtain ⟨q9, e9, h⟩ := Option.bind_eq_some_iff.mp h
    refine hp_V (As := [.int x2]) (rest := []) (b := (b 0)) ⟨hx, hb, hml, hown, hts⟩ (ct_X7_isVariable l D ca b tw tt v x2 e9) (cwV 1 hts gX7_exchange_X7_isVariable rfl rfl rfl (by decide +kernel) ⟨Nat.le_of_ble_eq_true rfl, Nat.le_of_ble_eq_true rfl⟩) (va_recv hK hP (ci := 4) (q0 := 0) rfl rfl) GW.mv (GW.from hP hK hT0 hS) rfl hl.1 rfl (Nat.le_of_ble_eq_true rfl) dX7_exchange_9 ⟨Nat.zero_le _, Nat.zero_le _⟩ ?_
    refine W.eq (g2 := F0 m 12 ls [.int q9]) rfl ?_
    refine lv_if_eq (tgt := 23) hx hb dX7_exchange_12 (by decide) (fun c12 => ?_) (fun c12 => ?_)
    · replace h := ite_t h c12
      refine lv_iconst (v := (-1)) hx hb dX7_exchange_23 (by decide) ?_
      obtain rfl := Option.some.inj h
      exact mp_iret hx hb hr hlocks hP hS dX7_exchange_24
    · replace h := ite_f h c12
      refine lv_aload_n hx hb dX7_exchange_15 rfl (lv_at hl 0 rfl) ?_
      refine lv_iload_n hx hb dX7_exchange_16 rfl (lv_at hl 3 rfl) ?_
      obtain ⟨q17, e17, h⟩ := Option.bind_eq_some_iff.mp h
      refine hp_V (As := [.int x3]) (rest := []) (b := (b 0)) ⟨hx, hb, hml, hown, hts⟩ (ct_X7_isVariable l D ca b tw tt v x3 e17) (cwV 1 hts gX7_exchange_X7_isVariable rfl rfl rfl (by decide +kernel) ⟨Nat.le_of_ble_eq_true rfl, Nat.le_of_ble_eq_true rfl⟩) (va_recv hK hP (ci := 4) (q0 := 0) rfl rfl) GW.mv (GW.from hP hK hT0 hS) rfl hl.1 rfl (Nat.le_of_ble_eq_true rfl) dX7_exchange_17 ⟨Nat.zero_le _, Nat.zero_le _⟩ ?_
      refine W.eq (g2 := F0 m 20 ls [.int q17]) rfl ?_
      refine lv_if_ne (tgt := 25) hx hb dX7_exchange_20 (by decide) (fun c20 => ?_) (fun c20 => ?_)
      · replace h := ite_f h c20
        refine lv_lconst (v := 0) hx hb dX7_exchange_25 (by decide) ?_
        refine lv_lstore (lv' := [(4, .long 0), (0, .ref (b 0)), (1, .int x1), (2, .int x2), (3, .int x3)]) hx hb dX7_exchange_26 hl (by decide) rfl (fun ls hl => ?_)
        refine lv_iconst (v := 0) hx hb dX7_exchange_28 (by decide) ?_
        refine lv_istore (lv' := [(6, .int 0), (4, .long 0), (0, .ref (b 0)), (1, .int x1), (2, .int x2), (3, .int x3)]) hx hb dX7_exchange_29 hl (by decide) rfl (fun ls hl => ?_)
        exact wk_X7_exchange_31 C0 hap hK hT0  FU v H locs x1 x2 x3 0 0 ls hP hS (lv_sub hl [2, 3, 4, 5, 1, 0] rfl) h
      · replace h := ite_t h c20
        refine lv_iconst (v := (-1)) hx hb dX7_exchange_23 (by decide) ?_
        obtain rfl := Option.some.inj h
        exact mp_iret hx hb hr hlocks hP hS dX7_exchange_24
theorem ct_X7_exchange (l : Launch) (D : va_G) (ca : Nat → ClassId) (b : Nat → Nat) (tw : Nat) (tt : Nat → Nat) (hap : ap_ok 6 b) (v : YS) (x1 : Int32) (x2 : Int32) (x3 : Int32) {q : Int32 × YS} (h : fn_X7_exchange v x1 x2 x3 = some q) : Mp l yX7_exchange wsX7_exchange rm_X7_exchange [.ref (b 0), .int x1, .int x2, .int x3] (GW D ca tw tt (ad_of 6 b) (YW ca b v)) (some (.int q.1)) (fun H => va_P D vwCl (YW ca b q.2) H) (ad_of 6 b) := by
  refine Mp.of (cc := cX7_exchange) (nL := 8) (ret := (some .int)) (own := RX7) (by decide) rfl rfl (Nat.le_of_ble_eq_true rfl) ?_
  intro p e s m below meth c ls C0 hB hl
  exact wk_X7_exchange C0 hap hB.2.1 hB.2.2 (hP := hB.1) (hS := va_S.rf) (hl := hl) (h := h)
abbrev rm_X7_undo : Room := { frames := 0, cells := 0, slots := 0, locals := 0 }
theorem lk_X7_undo_f34 : Cond.fieldLink RX7 34 "BooleanRingModel" "states" "I" ∈ wsX7_undo := by decide +kernel
theorem lk_X7_undo_f13 : Cond.fieldLink RX7 13 "BooleanRingModel" "p" "[J" ∈ wsX7_undo := by decide +kernel
theorem lk_X7_undo_f17 : Cond.fieldLink RX7 17 "BooleanRingModel" "was" "[J" ∈ wsX7_undo := by decide +kernel
theorem ly_X7_undo_X7 : ∀ w ∈ wsX70, w ∈ wsX7_undo := by decide +kernel
set_option maxHeartbeats 4000000 in
set_option maxRecDepth 100000 in
theorem wk_X7_undo_22_body {p : Program} {l : Launch} {e : Env} {s : State} {m : MethodId} {args : Array Value} {below : List Frame} {meth : Method} {c : Code} {D : va_G} {ca : Nat → ClassId} {b : Nat → Nat} {tw : Nat} {tt : Nat → Nat} (C0 : Cx p s m args meth c cX7_undo (some .int) 2 wsX7_undo RX7) (hap : ap_ok 6 b) (hK : va_K D vwCl (tys3 ca) s) (hT0 : tW tw tt (ad_of 6 b) s s.heap) {q : Int32 × YS} (k22 : YS → Int32 → Option (Int32 × YS)) (hk22 : ∀ (v : YS) (H : Heap) (locs : List Loc) (x1 : Int32) (ls : Array Slot) (hP : va_P D vwCl (YW ca b v) H) (hS : va_S (ad_of 6 b) s.heap H locs) (hl : lv_has ls 2 [(0, .ref (b 0)), (1, .int x1)]) (h : k22 v x1 = some q), W p l e rm_X7_undo s m args below meth c H locs 0 0 (MQ below (PQ (some (.int q.1)) (fun H => va_P D vwCl (YW ca b q.2) H) (ad_of 6 b)) args s 0 0 (ad_of 6 b)) (F0 m 22 ls [])) (v : YS) (H : Heap) (locs : List Loc) (x1 : Int32) (ls : Array Slot) (hP : va_P D vwCl (YW ca b v) H) (hS : va_S (ad_of 6 b) s.heap H locs) (hl : lv_has ls 2 [(0, .ref (b 0)), (1, .int x1)]) (h : fn_X7_undo_22_body k22 v x1 = some q) : W p l e rm_X7_undo s m args below meth c H locs 0 0 (MQ below (PQ (some (.int q.1)) (fun H => va_P D vwCl (YW ca b q.2) H) (ad_of 6 b)) args s 0 0 (ad_of 6 b)) (F0 m 22 ls []) := by
  obtain ⟨hx, hb, hr, hml, hown, hts, hlocks⟩ := id C0
  have hD0 := fun v => YW_D (ca := ca) hap v
  unfold fn_X7_undo_22_body at h
  refine lv_iload_n hx hb dX7_undo_22 rfl (lv_at hl 1 rfl) ?_
  refine lv_bipush (v := 8) hx hb dX7_undo_23 (by decide) ?_
  refine lv_icmp_ge (tgt := 54) hx hb dX7_undo_25 (by decide) (fun c25 => ?_) (fun c25 => ?_)
  · replace h := ite_t h c25
    refine lv_aload_n hx hb dX7_undo_54 rfl (lv_at hl 0 rfl) ?_
    refine va_get (D := D) (ci := 4) (v := .int (y_states v)) (C := RX7) (T := TX7) (N := 9) hx hb hts ly_X7_undo_X7 hown hK hP 0 rfl rfl 3 (by decide) (hts _ lk_X7_undo_f34) (fun _ h9 => h9) rfl dX7_undo_55 ?_
    obtain rfl := Option.some.inj h
    exact mp_iret hx hb hr hlocks hP hS dX7_undo_58
  · replace h := ite_f h c25
    refine lv_aload_n hx hb dX7_undo_28 rfl (lv_at hl 0 rfl) ?_
    refine va_get (D := D) (ci := 4) (v := .ref (b 1)) (C := RX7) (T := TX7) (N := 9) hx hb hts ly_X7_undo_X7 hown hK hP 0 rfl rfl 1 (by decide) (hts _ lk_X7_undo_f13) (fun _ h9 => h9) rfl dX7_undo_29 ?_
    refine lv_iload_n hx hb dX7_undo_32 rfl (lv_at hl 1 rfl) ?_
    refine lv_aload_n hx hb dX7_undo_33 rfl (lv_at hl 0 rfl) ?_
    refine va_get (D := D) (ci := 4) (v := .ref (b 2)) (C := RX7) (T := TX7) (N := 9) hx hb hts ly_X7_undo_X7 hown hK hP 0 rfl rfl 2 (by decide) (hts _ lk_X7_undo_f17) (fun _ h9 => h9) rfl dX7_undo_34 ?_
    refine lv_bipush (v := 8) hx hb dX7_undo_37 (by decide) ?_
    refine lv_aload_n hx hb dX7_undo_39 rfl (lv_at hl 0 rfl) ?_
    refine va_get (D := D) (ci := 4) (v := .int (y_states v)) (C := RX7) (T := TX7) (N := 9) hx hb hts ly_X7_undo_X7 hown hK hP 0 rfl rfl 3 (by decide) (hts _ lk_X7_undo_f34) (fun _ h9 => h9) rfl dX7_undo_40 ?_
    refine lv_imul hx hb dX7_undo_43 ?_
    refine lv_iload_n hx hb dX7_undo_44 rfl (lv_at hl 1 rfl) ?_
    refine lv_iadd hx hb dX7_undo_45 ?_
    obtain ⟨q46, e46, h⟩ := Option.bind_eq_some_iff.mp h
    refine rd_lald hx hb hK hP 2 0 e46 rfl rfl dX7_undo_46 ?_
    obtain ⟨g47, e47, h⟩ := Option.bind_eq_some_iff.mp h
    refine wr_last hx hb hK hP (hD0 v) hS 1 0 e47 rfl rfl dX7_undo_47 (fun H locs hP hS => ?_)
    have hP : va_P D vwCl (YW ca b (ys_p v g47)) H := hP
    refine lv_iinc (v := (x1 + 1)) (lv' := [(1, .int (x1 + 1)), (0, .ref (b 0))]) hx hb dX7_undo_48 hl (k := 1) rfl rfl (by decide) rfl (fun ls hl => ?_)
    refine lv_goto (tgt := 22) hx hb dX7_undo_51 (by decide) ?_
    exact hk22 (ys_p v g47) H locs (x1 + 1) ls hP hS (lv_sub hl [1, 0] rfl) h
set_option maxHeartbeats 4000000 in
set_option maxRecDepth 100000 in
theorem wk_X7_undo_22 {p : Program} {l : Launch} {e : Env} {s : State} {m : MethodId} {args : Array Value} {below : List Frame} {meth : Method} {c : Code} {D : va_G} {ca : Nat → ClassId} {b : Nat → Nat} {tw : Nat} {tt : Nat → Nat} (C0 : Cx p s m args meth c cX7_undo (some .int) 2 wsX7_undo RX7) (hap : ap_ok 6 b) (hK : va_K D vwCl (tys3 ca) s) (hT0 : tW tw tt (ad_of 6 b) s s.heap) {q : Int32 × YS} : ∀ (n : Nat) (v : YS) (H : Heap) (locs : List Loc) (x1 : Int32) (ls : Array Slot) (hP : va_P D vwCl (YW ca b v) H) (hS : va_S (ad_of 6 b) s.heap H locs) (hl : lv_has ls 2 [(0, .ref (b 0)), (1, .int x1)]) (h : fn_X7_undo_22 n v x1 = some q), W p l e rm_X7_undo s m args below meth c H locs 0 0 (MQ below (PQ (some (.int q.1)) (fun H => va_P D vwCl (YW ca b q.2) H) (ad_of 6 b)) args s 0 0 (ad_of 6 b)) (F0 m 22 ls []) := by
  intro n
  induction n with
  | zero => intro v H locs x1 ls hP hS hl h; unfold fn_X7_undo_22 at h; cases h
  | succ n ih => intro v H locs x1 ls hP hS hl h; exact wk_X7_undo_22_body C0 hap hK hT0 (k22 := fn_X7_undo_22 n) (hk22 := ih) (hl := hl) (hP := hP) (hS := hS) (h := h)
set_option maxHeartbeats 4000000 in
set_option maxRecDepth 100000 in
theorem wk_X7_undo {p : Program} {l : Launch} {e : Env} {s : State} {m : MethodId} {args : Array Value} {below : List Frame} {meth : Method} {c : Code} {D : va_G} {ca : Nat → ClassId} {b : Nat → Nat} {tw : Nat} {tt : Nat → Nat} (C0 : Cx p s m args meth c cX7_undo (some .int) 2 wsX7_undo RX7) (hap : ap_ok 6 b) (hK : va_K D vwCl (tys3 ca) s) (hT0 : tW tw tt (ad_of 6 b) s s.heap) {q : Int32 × YS} (v : YS) (H : Heap) (locs : List Loc) (ls : Array Slot) (hP : va_P D vwCl (YW ca b v) H) (hS : va_S (ad_of 6 b) s.heap H locs) (hl : lv_has ls 2 [(0, .ref (b 0))]) (h : fn_X7_undo v  = some q) : W p l e rm_X7_undo s m args below meth c H locs 0 0 (MQ below (PQ (some (.int q.1)) (fun H => va_P D vwCl (YW ca b q.2) H) (ad_of 6 b)) args s 0 0 (ad_of 6 b)) (F0 m 0 ls []) := by
  obtain ⟨hx, hb, hr, hml, hown, hts, hlocks⟩ := id C0
  have hD0 := fun v => YW_D (ca := ca) hap v
  unfold fn_X7_undo at h
  refine lv_aload_n hx hb dX7_undo_0 rfl (lv_at hl 0 rfl) ?_
  refine va_get (D := D) (ci := 4) (v := .int (y_states v)) (C := RX7) (T := TX7) (N := 9) hx hb hts ly_X7_undo_X7 hown hK hP 0 rfl rfl 3 (by decide) (hts _ lk_X7_undo_f34) (fun _ h9 => h9) rfl dX7_undo_1 ?_
  refine lv_if_ne (tgt := 10) hx hb dX7_undo_4 (by decide) (fun c4 => ?_) (fun c4 => ?_)
  · replace h := ite_f h c4
    refine lv_aload_n hx hb dX7_undo_10 rfl (lv_at hl 0 rfl) ?_
    refine lv_dup hx hb dX7_undo_11 rfl ?_
    refine va_get (D := D) (ci := 4) (v := .int (y_states v)) (C := RX7) (T := TX7) (N := 9) hx hb hts ly_X7_undo_X7 hown hK hP 0 rfl rfl 3 (by decide) (hts _ lk_X7_undo_f34) (fun _ h9 => h9) rfl dX7_undo_12 ?_
    refine lv_iconst (v := 1) hx hb dX7_undo_15 (by decide) ?_
    refine lv_isub hx hb dX7_undo_16 ?_
    refine va_put (D := D) (ci := 4) (v := .int ((y_states v) - 1)) (ty := .int) (C := RX7) (T := TX7) (N := 9) hx hb hts ly_X7_undo_X7 tyX7 tyX7_ok nmX7 hown hK hP (hD0 v) hS 0 rfl rfl 3 (by decide) (hts _ lk_X7_undo_f34) (fun _ h9 => h9) rfl (by decide +kernel) rfl rfl (Nat.le_of_ble_eq_true rfl) dX7_undo_17 (fun H locs hP _ hS => ?_)
    have hP : va_P D vwCl (YW ca b (ys_states v ((y_states v) - 1))) H := hP
    refine lv_iconst (v := 0) hx hb dX7_undo_20 (by decide) ?_
    refine lv_istore_n (lv' := [(1, .int 0), (0, .ref (b 0))]) hx hb dX7_undo_21 rfl hl (by decide) rfl (fun ls hl => ?_)
    exact wk_X7_undo_22 C0 hap hK hT0  FU (ys_states v ((y_states v) - 1)) H locs 0 ls hP hS (lv_sub hl [1, 0] rfl) h
  · replace h := ite_t h c4
    refine lv_bipush (v := (-2)) hx hb dX7_undo_7 (by decide) ?_
    obtain rfl := Option.some.inj h
    exact mp_iret hx hb hr hlocks hP hS dX7_undo_9
theorem ct_X7_undo (l : Launch) (D : va_G) (ca : Nat → ClassId) (b : Nat → Nat) (tw : Nat) (tt : Nat → Nat) (hap : ap_ok 6 b) (v : YS) {q : Int32 × YS} (h : fn_X7_undo v  = some q) : Mp l yX7_undo wsX7_undo rm_X7_undo [.ref (b 0)] (GW D ca tw tt (ad_of 6 b) (YW ca b v)) (some (.int q.1)) (fun H => va_P D vwCl (YW ca b q.2) H) (ad_of 6 b) := by
  refine Mp.of (cc := cX7_undo) (nL := 2) (ret := (some .int)) (own := RX7) (by decide) rfl rfl (Nat.le_of_ble_eq_true rfl) ?_
  intro p e s m below meth c ls C0 hB hl
  exact wk_X7_undo C0 hap hB.2.1 hB.2.2 (hP := hB.1) (hS := va_S.rf) (hl := hl) (h := h)
abbrev rm_X7_has : Room := { frames := 2, cells := 0, slots := 0, locals := 43 }
theorem lk_X7_has_f13 : Cond.fieldLink RX7 13 "BooleanRingModel" "p" "[J" ∈ wsX7_has := by decide +kernel
theorem ly_X7_has_X7 : ∀ w ∈ wsX70, w ∈ wsX7_has := by decide +kernel
set_option maxHeartbeats 4000000 in
set_option maxRecDepth 100000 in
theorem wk_X7_has {p : Program} {l : Launch} {e : Env} {s : State} {m : MethodId} {args : Array Value} {below : List Frame} {meth : Method} {c : Code} {D : va_G} {ca : Nat → ClassId} {b : Nat → Nat} {tw : Nat} {tt : Nat → Nat} (C0 : Cx p s m args meth c cX7_has (some .int) 3 wsX7_has RX7) (hK : va_K D vwCl (tys3 ca) s) (hT0 : tW tw tt (ad_of 6 b) s s.heap) (v : YS) (hP : va_P D vwCl (YW ca b v) s.heap) {q : Int32} (x1 : Int32) (x2 : Int32) (ls : Array Slot) (hl : lv_has ls 3 [(0, .ref (b 0)), (1, .int x1), (2, .int x2)]) (h : fn_X7_has v x1 x2 = some q) : W p l e rm_X7_has s m args below meth c s.heap [] 0 0 (MQ below (HQ (some (.int q))) args s 0 0 (fun _ => False)) (F0 m 0 ls []) := by
  obtain ⟨hx, hb, hr, hml, hown, hts, hlocks⟩ := id C0
  have hS : va_S (ad_of 6 b) s.heap s.heap [] := va_S.rf
  unfold fn_X7_has at h
  refine lv_iload_n hx hb dX7_has_0 rfl (lv_at hl 1 rfl) ?_
  obtain ⟨q1, e1, h⟩ := Option.bind_eq_some_iff.mp h
  refine hp_S (As := [.int x1]) (rest := []) ⟨hx, hb, hml, hown, hts⟩ (ct_X7_isRegister l tw tt x1 e1) (va_cwS 1 hts gX7_has_X7_isRegister rfl rfl rfl (by decide +kernel) ⟨Nat.le_of_ble_eq_true rfl, Nat.le_of_ble_eq_true rfl⟩) GP.mv (GP.from hT0 hS) rfl hl.1 rfl (Nat.le_of_ble_eq_true rfl) dX7_has_1 ⟨Nat.zero_le _, Nat.zero_le _⟩ ?_
  refine W.eq (g2 := F0 m 4 ls [.int q1]) rfl ?_
  refine lv_if_eq (tgt := 15) hx hb dX7_has_4 (by decide) (fun c4 => ?_) (fun c4 => ?_)
  · replace h := ite_t h c4
    refine lv_iconst (v := (-1)) hx hb dX7_has_15 (by decide) ?_
    refine lv_goto (tgt := 37) hx hb dX7_has_16 (by decide) ?_
    obtain rfl := Option.some.inj h
    exact hp_iret hx hb hr hlocks dX7_has_37
  · replace h := ite_f h c4
    refine lv_aload_n hx hb dX7_has_7 rfl (lv_at hl 0 rfl) ?_
    refine lv_iload_n hx hb dX7_has_8 rfl (lv_at hl 2 rfl) ?_
    obtain ⟨q9, e9, h⟩ := Option.bind_eq_some_iff.mp h
    refine hp_V (As := [.int x2]) (rest := []) (b := (b 0)) ⟨hx, hb, hml, hown, hts⟩ (ct_X7_isMask l D ca b tw tt v x2 e9) (cwV 1 hts gX7_has_X7_isMask rfl rfl rfl (by decide +kernel) ⟨Nat.le_of_ble_eq_true rfl, Nat.le_of_ble_eq_true rfl⟩) (va_recv hK hP (ci := 4) (q0 := 0) rfl rfl) GW.mv (GW.from hP hK hT0 hS) rfl hl.1 rfl (Nat.le_of_ble_eq_true rfl) dX7_has_9 ⟨Nat.zero_le _, Nat.zero_le _⟩ ?_
    refine W.eq (g2 := F0 m 12 ls [.int q9]) rfl ?_
    refine lv_if_ne (tgt := 19) hx hb dX7_has_12 (by decide) (fun c12 => ?_) (fun c12 => ?_)
    · replace h := ite_f h c12
      refine lv_aload_n hx hb dX7_has_19 rfl (lv_at hl 0 rfl) ?_
      refine va_get (D := D) (ci := 4) (v := .ref (b 1)) (C := RX7) (T := TX7) (N := 9) hx hb hts ly_X7_has_X7 hown hK hP 0 rfl rfl 1 (by decide) (hts _ lk_X7_has_f13) (fun _ h9 => h9) rfl dX7_has_20 ?_
      refine lv_iload_n hx hb dX7_has_23 rfl (lv_at hl 1 rfl) ?_
      obtain ⟨q24, e24, h⟩ := Option.bind_eq_some_iff.mp h
      refine rd_lald hx hb hK hP 1 0 e24 rfl rfl dX7_has_24 ?_
      refine lv_iload_n hx hb dX7_has_25 rfl (lv_at hl 2 rfl) ?_
      obtain ⟨q26, e26, h⟩ := Option.bind_eq_some_iff.mp h
      refine hp_S (As := [.long q24, .int x2]) (rest := []) ⟨hx, hb, hml, hown, hts⟩ (ct_X7_has1 l tw tt q24 x2 e26) (va_cwS 2 hts gX7_has_X7_has1 rfl rfl rfl (by decide +kernel) ⟨Nat.le_of_ble_eq_true rfl, Nat.le_of_ble_eq_true rfl⟩) GP.mv (GP.from hT0 hS) rfl hl.1 rfl (Nat.le_of_ble_eq_true rfl) dX7_has_26 ⟨Nat.zero_le _, Nat.zero_le _⟩ ?_
      refine W.eq (g2 := F0 m 29 ls [.int q26]) rfl ?_
      refine lv_if_eq (tgt := 36) hx hb dX7_has_29 (by decide) (fun c29 => ?_) (fun c29 => ?_)
      · replace h := ite_t h c29
        refine lv_iconst (v := 0) hx hb dX7_has_36 (by decide) ?_
        obtain rfl := Option.some.inj h
        exact hp_iret hx hb hr hlocks dX7_has_37
      · replace h := ite_f h c29
        refine lv_iconst (v := 1) hx hb dX7_has_32 (by decide) ?_
        refine lv_goto (tgt := 37) hx hb dX7_has_33 (by decide) ?_
        obtain rfl := Option.some.inj h
        exact hp_iret hx hb hr hlocks dX7_has_37
    · replace h := ite_t h c12
      refine lv_iconst (v := (-1)) hx hb dX7_has_15 (by decide) ?_
      refine lv_goto (tgt := 37) hx hb dX7_has_16 (by decide) ?_
      obtain rfl := Option.some.inj h
      exact hp_iret hx hb hr hlocks dX7_has_37
theorem ct_X7_has (l : Launch) (D : va_G) (ca : Nat → ClassId) (b : Nat → Nat) (tw : Nat) (tt : Nat → Nat) (v : YS) (x1 : Int32) (x2 : Int32) {q : Int32} (h : fn_X7_has v x1 x2 = some q) : Hp l yX7_has wsX7_has rm_X7_has [.ref (b 0), .int x1, .int x2] (GW D ca tw tt (ad_of 6 b) (YW ca b v)) (some (.int q)) := by
  refine Hp.of (cc := cX7_has) (nL := 3) (ret := (some .int)) (own := RX7) (by decide) rfl rfl (Nat.le_of_ble_eq_true rfl) ?_
  intro p e s m below meth c ls C0 hB hl
  exact wk_X7_has C0 hB.2.1 hB.2.2 v hB.1 (hl := hl) (h := h)
abbrev rm_X7_terms : Room := { frames := 2, cells := 0, slots := 0, locals := 42 }
theorem lk_X7_terms_f13 : Cond.fieldLink RX7 13 "BooleanRingModel" "p" "[J" ∈ wsX7_terms := by decide +kernel
theorem ly_X7_terms_X7 : ∀ w ∈ wsX70, w ∈ wsX7_terms := by decide +kernel
set_option maxHeartbeats 4000000 in
set_option maxRecDepth 100000 in
theorem wk_X7_terms {p : Program} {l : Launch} {e : Env} {s : State} {m : MethodId} {args : Array Value} {below : List Frame} {meth : Method} {c : Code} {D : va_G} {ca : Nat → ClassId} {b : Nat → Nat} {tw : Nat} {tt : Nat → Nat} (C0 : Cx p s m args meth c cX7_terms (some .int) 2 wsX7_terms RX7) (hK : va_K D vwCl (tys3 ca) s) (hT0 : tW tw tt (ad_of 6 b) s s.heap) (v : YS) (hP : va_P D vwCl (YW ca b v) s.heap) {q : Int32} (x1 : Int32) (ls : Array Slot) (hl : lv_has ls 2 [(0, .ref (b 0)), (1, .int x1)]) (h : fn_X7_terms v x1 = some q) : W p l e rm_X7_terms s m args below meth c s.heap [] 0 0 (MQ below (HQ (some (.int q))) args s 0 0 (fun _ => False)) (F0 m 0 ls []) := by
  obtain ⟨hx, hb, hr, hml, hown, hts, hlocks⟩ := id C0
  have hS : va_S (ad_of 6 b) s.heap s.heap [] := va_S.rf
  unfold fn_X7_terms at h
  refine lv_iload_n hx hb dX7_terms_0 rfl (lv_at hl 1 rfl) ?_
  obtain ⟨q1, e1, h⟩ := Option.bind_eq_some_iff.mp h
  refine hp_S (As := [.int x1]) (rest := []) ⟨hx, hb, hml, hown, hts⟩ (ct_X7_isRegister l tw tt x1 e1) (va_cwS 1 hts gX7_terms_X7_isRegister rfl rfl rfl (by decide +kernel) ⟨Nat.le_of_ble_eq_true rfl, Nat.le_of_ble_eq_true rfl⟩) GP.mv (GP.from hT0 hS) rfl hl.1 rfl (Nat.le_of_ble_eq_true rfl) dX7_terms_1 ⟨Nat.zero_le _, Nat.zero_le _⟩ ?_
  refine W.eq (g2 := F0 m 4 ls [.int q1]) rfl ?_
  refine lv_if_eq (tgt := 19) hx hb dX7_terms_4 (by decide) (fun c4 => ?_) (fun c4 => ?_)
  · replace h := ite_t h c4
    refine lv_iconst (v := (-1)) hx hb dX7_terms_19 (by decide) ?_
    obtain rfl := Option.some.inj h
    exact hp_iret hx hb hr hlocks dX7_terms_20
  · replace h := ite_f h c4
    refine lv_aload_n hx hb dX7_terms_7 rfl (lv_at hl 0 rfl) ?_
    refine va_get (D := D) (ci := 4) (v := .ref (b 1)) (C := RX7) (T := TX7) (N := 9) hx hb hts ly_X7_terms_X7 hown hK hP 0 rfl rfl 1 (by decide) (hts _ lk_X7_terms_f13) (fun _ h9 => h9) rfl dX7_terms_8 ?_
    refine lv_iload_n hx hb dX7_terms_11 rfl (lv_at hl 1 rfl) ?_
    obtain ⟨q12, e12, h⟩ := Option.bind_eq_some_iff.mp h
    refine rd_lald hx hb hK hP 1 0 e12 rfl rfl dX7_terms_12 ?_
    obtain ⟨q13, e13, h⟩ := Option.bind_eq_some_iff.mp h
    refine hp_S (As := [.long q12]) (rest := []) ⟨hx, hb, hml, hown, hts⟩ (ct_X7_many l tw tt q12 e13) (va_cwS 1 hts gX7_terms_X7_many rfl rfl rfl (by decide +kernel) ⟨Nat.le_of_ble_eq_true rfl, Nat.le_of_ble_eq_true rfl⟩) GP.mv (GP.from hT0 hS) rfl hl.1 rfl (Nat.le_of_ble_eq_true rfl) dX7_terms_13 ⟨Nat.zero_le _, Nat.zero_le _⟩ ?_
    refine W.eq (g2 := F0 m 16 ls [.int q13]) rfl ?_
    refine lv_goto (tgt := 20) hx hb dX7_terms_16 (by decide) ?_
    obtain rfl := Option.some.inj h
    exact hp_iret hx hb hr hlocks dX7_terms_20
theorem ct_X7_terms (l : Launch) (D : va_G) (ca : Nat → ClassId) (b : Nat → Nat) (tw : Nat) (tt : Nat → Nat) (v : YS) (x1 : Int32) {q : Int32} (h : fn_X7_terms v x1 = some q) : Hp l yX7_terms wsX7_terms rm_X7_terms [.ref (b 0), .int x1] (GW D ca tw tt (ad_of 6 b) (YW ca b v)) (some (.int q)) := by
  refine Hp.of (cc := cX7_terms) (nL := 2) (ret := (some .int)) (own := RX7) (by decide) rfl rfl (Nat.le_of_ble_eq_true rfl) ?_
  intro p e s m below meth c ls C0 hB hl
  exact wk_X7_terms C0 hB.2.1 hB.2.2 v hB.1 (hl := hl) (h := h)
abbrev rm_X7_degree : Room := { frames := 2, cells := 0, slots := 0, locals := 42 }
theorem lk_X7_degree_f7 : Cond.fieldLink RX7 7 "BooleanRingModel" "n" "I" ∈ wsX7_degree := by decide +kernel
theorem lk_X7_degree_f13 : Cond.fieldLink RX7 13 "BooleanRingModel" "p" "[J" ∈ wsX7_degree := by decide +kernel
theorem ly_X7_degree_X7 : ∀ w ∈ wsX70, w ∈ wsX7_degree := by decide +kernel
set_option maxHeartbeats 4000000 in
set_option maxRecDepth 100000 in
theorem wk_X7_degree_55 {p : Program} {l : Launch} {e : Env} {s : State} {m : MethodId} {args : Array Value} {below : List Frame} {meth : Method} {c : Code} {D : va_G} {ca : Nat → ClassId} {b : Nat → Nat} {tw : Nat} {tt : Nat → Nat} (C0 : Cx p s m args meth c cX7_degree (some .int) 5 wsX7_degree RX7) (hK : va_K D vwCl (tys3 ca) s) (hT0 : tW tw tt (ad_of 6 b) s s.heap) (v : YS) (hP : va_P D vwCl (YW ca b v) s.heap) {q : Int32} (k14 : Int32 → Int32 → Int32 → Option (Int32)) (hk14 : ∀ (x1 : Int32) (x2 : Int32) (x3 : Int32) (ls : Array Slot) (hl : lv_has ls 5 [(0, .ref (b 0)), (1, .int x1), (2, .int x2), (3, .int x3)]) (h : k14 x1 x2 x3 = some q), W p l e rm_X7_degree s m args below meth c s.heap [] 0 0 (MQ below (HQ (some (.int q))) args s 0 0 (fun _ => False)) (F0 m 14 ls [])) (x1 : Int32) (x2 : Int32) (x3 : Int32) (ls : Array Slot) (hl : lv_has ls 5 [(0, .ref (b 0)), (1, .int x1), (2, .int x2), (3, .int x3)]) (h : fn_X7_degree_55 v k14 x1 x2 x3 = some q) : W p l e rm_X7_degree s m args below meth c s.heap [] 0 0 (MQ below (HQ (some (.int q))) args s 0 0 (fun _ => False)) (F0 m 55 ls []) := by
  obtain ⟨hx, hb, hr, hml, hown, hts, hlocks⟩ := id C0
  have hS : va_S (ad_of 6 b) s.heap s.heap [] := va_S.rf
  unfold fn_X7_degree_55 at h
  refine lv_iload_n hx hb dX7_degree_55 rfl (lv_at hl 2 rfl) ?_
  refine lv_istore_n (lv' := [(2, .int x2), (0, .ref (b 0)), (1, .int x1), (3, .int x3)]) hx hb dX7_degree_56 rfl hl (by decide) rfl (fun ls hl => ?_)
  refine lv_iinc (v := (x3 + 1)) (lv' := [(3, .int (x3 + 1)), (2, .int x2), (0, .ref (b 0)), (1, .int x1)]) hx hb dX7_degree_57 hl (k := 3) rfl rfl (by decide) rfl (fun ls hl => ?_)
  refine lv_goto (tgt := 14) hx hb dX7_degree_60 (by decide) ?_
  exact hk14 x1 x2 (x3 + 1) ls (lv_sub hl [2, 3, 1, 0] rfl) h
set_option maxHeartbeats 4000000 in
set_option maxRecDepth 100000 in
theorem wk_X7_degree_14_body {p : Program} {l : Launch} {e : Env} {s : State} {m : MethodId} {args : Array Value} {below : List Frame} {meth : Method} {c : Code} {D : va_G} {ca : Nat → ClassId} {b : Nat → Nat} {tw : Nat} {tt : Nat → Nat} (C0 : Cx p s m args meth c cX7_degree (some .int) 5 wsX7_degree RX7) (hK : va_K D vwCl (tys3 ca) s) (hT0 : tW tw tt (ad_of 6 b) s s.heap) (v : YS) (hP : va_P D vwCl (YW ca b v) s.heap) {q : Int32} (k14 : Int32 → Int32 → Int32 → Option (Int32)) (hk14 : ∀ (x1 : Int32) (x2 : Int32) (x3 : Int32) (ls : Array Slot) (hl : lv_has ls 5 [(0, .ref (b 0)), (1, .int x1), (2, .int x2), (3, .int x3)]) (h : k14 x1 x2 x3 = some q), W p l e rm_X7_degree s m args below meth c s.heap [] 0 0 (MQ below (HQ (some (.int q))) args s 0 0 (fun _ => False)) (F0 m 14 ls [])) (x1 : Int32) (x2 : Int32) (x3 : Int32) (ls : Array Slot) (hl : lv_has ls 5 [(0, .ref (b 0)), (1, .int x1), (2, .int x2), (3, .int x3)]) (h : fn_X7_degree_14_body v k14 x1 x2 x3 = some q) : W p l e rm_X7_degree s m args below meth c s.heap [] 0 0 (MQ below (HQ (some (.int q))) args s 0 0 (fun _ => False)) (F0 m 14 ls []) := by
  obtain ⟨hx, hb, hr, hml, hown, hts, hlocks⟩ := id C0
  have hS : va_S (ad_of 6 b) s.heap s.heap [] := va_S.rf
  unfold fn_X7_degree_14_body at h
  refine lv_iload_n hx hb dX7_degree_14 rfl (lv_at hl 3 rfl) ?_
  refine lv_iconst (v := 1) hx hb dX7_degree_15 (by decide) ?_
  refine lv_aload_n hx hb dX7_degree_16 rfl (lv_at hl 0 rfl) ?_
  refine va_get (D := D) (ci := 4) (v := .int (y_n v)) (C := RX7) (T := TX7) (N := 9) hx hb hts ly_X7_degree_X7 hown hK hP 0 rfl rfl 0 (by decide) (hts _ lk_X7_degree_f7) (fun _ h9 => h9) rfl dX7_degree_17 ?_
  refine lv_ishl hx hb dX7_degree_20 ?_
  refine lv_icmp_ge (tgt := 63) hx hb dX7_degree_21 (by decide) (fun c21 => ?_) (fun c21 => ?_)
  · replace h := ite_t h c21
    refine lv_iload_n hx hb dX7_degree_63 rfl (lv_at hl 2 rfl) ?_
    obtain rfl := Option.some.inj h
    exact hp_iret hx hb hr hlocks dX7_degree_64
  · replace h := ite_f h c21
    refine lv_iload_n hx hb dX7_degree_24 rfl (lv_at hl 3 rfl) ?_
    refine lv_i2l (v := x3.toInt64) hx hb dX7_degree_25 rfl ?_
    obtain ⟨q26, e26, h⟩ := Option.bind_eq_some_iff.mp h
    refine hp_S (As := [.long x3.toInt64]) (rest := []) ⟨hx, hb, hml, hown, hts⟩ (ct_X7_many l tw tt x3.toInt64 e26) (va_cwS 1 hts gX7_degree_X7_many rfl rfl rfl (by decide +kernel) ⟨Nat.le_of_ble_eq_true rfl, Nat.le_of_ble_eq_true rfl⟩) GP.mv (GP.from hT0 hS) rfl hl.1 rfl (Nat.le_of_ble_eq_true rfl) dX7_degree_26 ⟨Nat.zero_le _, Nat.zero_le _⟩ ?_
    refine W.eq (g2 := F0 m 29 ls [.int q26]) rfl ?_
    refine lv_istore (lv' := [(4, .int q26), (0, .ref (b 0)), (1, .int x1), (2, .int x2), (3, .int x3)]) hx hb dX7_degree_29 hl (by decide) rfl (fun ls hl => ?_)
    refine lv_aload_n hx hb dX7_degree_31 rfl (lv_at hl 1 rfl) ?_
    refine va_get (D := D) (ci := 4) (v := .ref (b 1)) (C := RX7) (T := TX7) (N := 9) hx hb hts ly_X7_degree_X7 hown hK hP 0 rfl rfl 1 (by decide) (hts _ lk_X7_degree_f13) (fun _ h9 => h9) rfl dX7_degree_32 ?_
    refine lv_iload_n hx hb dX7_degree_35 rfl (lv_at hl 2 rfl) ?_
    obtain ⟨q36, e36, h⟩ := Option.bind_eq_some_iff.mp h
    refine rd_lald hx hb hK hP 1 0 e36 rfl rfl dX7_degree_36 ?_
    refine lv_iload_n hx hb dX7_degree_37 rfl (lv_at hl 4 rfl) ?_
    obtain ⟨q38, e38, h⟩ := Option.bind_eq_some_iff.mp h
    refine hp_S (As := [.long q36, .int x3]) (rest := []) ⟨hx, hb, hml, hown, hts⟩ (ct_X7_has1 l tw tt q36 x3 e38) (va_cwS 2 hts gX7_degree_X7_has1 rfl rfl rfl (by decide +kernel) ⟨Nat.le_of_ble_eq_true rfl, Nat.le_of_ble_eq_true rfl⟩) GP.mv (GP.from hT0 hS) rfl hl.1 rfl (Nat.le_of_ble_eq_true rfl) dX7_degree_38 ⟨Nat.zero_le _, Nat.zero_le _⟩ ?_
    refine W.eq (g2 := F0 m 41 ls [.int q38]) rfl ?_
    refine lv_if_eq (tgt := 55) hx hb dX7_degree_41 (by decide) (fun c41 => ?_) (fun c41 => ?_)
    · replace h := ite_t h c41
      exact wk_X7_degree_55 C0 hK hT0 v hP (k14 := k14) (hk14 := hk14) (ls := ls) (hl := (lv_sub hl [1, 2, 3, 4] rfl)) (h := h)
    · replace h := ite_f h c41
      refine lv_iload hx hb dX7_degree_44 (lv_at hl 0 rfl) ?_
      refine lv_iload_n hx hb dX7_degree_46 rfl (lv_at hl 3 rfl) ?_
      refine lv_icmp_le (tgt := 55) hx hb dX7_degree_47 (by decide) (fun c47 => ?_) (fun c47 => ?_)
      · replace h := ite_t h c47
        exact wk_X7_degree_55 C0 hK hT0 v hP (k14 := k14) (hk14 := hk14) (ls := ls) (hl := (lv_sub hl [1, 2, 3, 4] rfl)) (h := h)
      · replace h := ite_f h c47
        refine lv_iload hx hb dX7_degree_50 (lv_at hl 0 rfl) ?_
        refine lv_goto (tgt := 56) hx hb dX7_degree_52 (by decide) ?_
        refine lv_istore_n (lv' := [(2, .int q26), (4, .int q26), (0, .ref (b 0)), (1, .int x1), (3, .int x3)]) hx hb dX7_degree_56 rfl hl (by decide) rfl (fun ls hl => ?_)
        refine lv_iinc (v := (x3 + 1)) (lv' := [(3, .int (x3 + 1)), (2, .int q26), (4, .int q26), (0, .ref (b 0)), (1, .int x1)]) hx hb dX7_degree_57 hl (k := 4) rfl rfl (by decide) rfl (fun ls hl => ?_)
        refine lv_goto (tgt := 14) hx hb dX7_degree_60 (by decide) ?_
        exact hk14 x1 q26 (x3 + 1) ls (lv_sub hl [3, 4, 1, 0] rfl) h
set_option maxHeartbeats 4000000 in
set_option maxRecDepth 100000 in
theorem wk_X7_degree_14 {p : Program} {l : Launch} {e : Env} {s : State} {m : MethodId} {args : Array Value} {below : List Frame} {meth : Method} {c : Code} {D : va_G} {ca : Nat → ClassId} {b : Nat → Nat} {tw : Nat} {tt : Nat → Nat} (C0 : Cx p s m args meth c cX7_degree (some .int) 5 wsX7_degree RX7) (hK : va_K D vwCl (tys3 ca) s) (hT0 : tW tw tt (ad_of 6 b) s s.heap) (v : YS) (hP : va_P D vwCl (YW ca b v) s.heap) {q : Int32} : ∀ (n : Nat) (x1 : Int32) (x2 : Int32) (x3 : Int32) (ls : Array Slot) (hl : lv_has ls 5 [(0, .ref (b 0)), (1, .int x1), (2, .int x2), (3, .int x3)]) (h : fn_X7_degree_14 v n x1 x2 x3 = some q), W p l e rm_X7_degree s m args below meth c s.heap [] 0 0 (MQ below (HQ (some (.int q))) args s 0 0 (fun _ => False)) (F0 m 14 ls []) := by
  intro n
  induction n with
  | zero => intro x1 x2 x3 ls hl h; unfold fn_X7_degree_14 at h; cases h
  | succ n ih => intro x1 x2 x3 ls hl h; exact wk_X7_degree_14_body C0 hK hT0 v hP (k14 := fn_X7_degree_14 v n) (hk14 := ih) (hl := hl) (h := h)
set_option maxHeartbeats 4000000 in
set_option maxRecDepth 100000 in
theorem wk_X7_degree {p : Program} {l : Launch} {e : Env} {s : State} {m : MethodId} {args : Array Value} {below : List Frame} {meth : Method} {c : Code} {D : va_G} {ca : Nat → ClassId} {b : Nat → Nat} {tw : Nat} {tt : Nat → Nat} (C0 : Cx p s m args meth c cX7_degree (some .int) 5 wsX7_degree RX7) (hK : va_K D vwCl (tys3 ca) s) (hT0 : tW tw tt (ad_of 6 b) s s.heap) (v : YS) (hP : va_P D vwCl (YW ca b v) s.heap) {q : Int32} (x1 : Int32) (ls : Array Slot) (hl : lv_has ls 5 [(0, .ref (b 0)), (1, .int x1)]) (h : fn_X7_degree v x1 = some q) : W p l e rm_X7_degree s m args below meth c s.heap [] 0 0 (MQ below (HQ (some (.int q))) args s 0 0 (fun _ => False)) (F0 m 0 ls []) := by
  obtain ⟨hx, hb, hr, hml, hown, hts, hlocks⟩ := id C0
  have hS : va_S (ad_of 6 b) s.heap s.heap [] := va_S.rf
  unfold fn_X7_degree at h
  refine lv_iload_n hx hb dX7_degree_0 rfl (lv_at hl 1 rfl) ?_
  obtain ⟨q1, e1, h⟩ := Option.bind_eq_some_iff.mp h
  refine hp_S (As := [.int x1]) (rest := []) ⟨hx, hb, hml, hown, hts⟩ (ct_X7_isRegister l tw tt x1 e1) (va_cwS 1 hts gX7_degree_X7_isRegister rfl rfl rfl (by decide +kernel) ⟨Nat.le_of_ble_eq_true rfl, Nat.le_of_ble_eq_true rfl⟩) GP.mv (GP.from hT0 hS) rfl hl.1 rfl (Nat.le_of_ble_eq_true rfl) dX7_degree_1 ⟨Nat.zero_le _, Nat.zero_le _⟩ ?_
  refine W.eq (g2 := F0 m 4 ls [.int q1]) rfl ?_
  refine lv_if_ne (tgt := 9) hx hb dX7_degree_4 (by decide) (fun c4 => ?_) (fun c4 => ?_)
  · replace h := ite_f h c4
    refine lv_bipush (v := (-4)) hx hb dX7_degree_9 (by decide) ?_
    refine lv_istore_n (lv' := [(2, .int (-4)), (0, .ref (b 0)), (1, .int x1)]) hx hb dX7_degree_11 rfl hl (by decide) rfl (fun ls hl => ?_)
    refine lv_iconst (v := 0) hx hb dX7_degree_12 (by decide) ?_
    refine lv_istore_n (lv' := [(3, .int 0), (2, .int (-4)), (0, .ref (b 0)), (1, .int x1)]) hx hb dX7_degree_13 rfl hl (by decide) rfl (fun ls hl => ?_)
    exact wk_X7_degree_14 C0 hK hT0 v hP  FU x1 (-4) 0 ls (lv_sub hl [2, 3, 1, 0] rfl) h
  · replace h := ite_t h c4
    refine lv_iconst (v := (-1)) hx hb dX7_degree_7 (by decide) ?_
    obtain rfl := Option.some.inj h
    exact hp_iret hx hb hr hlocks dX7_degree_8
theorem ct_X7_degree (l : Launch) (D : va_G) (ca : Nat → ClassId) (b : Nat → Nat) (tw : Nat) (tt : Nat → Nat) (v : YS) (x1 : Int32) {q : Int32} (h : fn_X7_degree v x1 = some q) : Hp l yX7_degree wsX7_degree rm_X7_degree [.ref (b 0), .int x1] (GW D ca tw tt (ad_of 6 b) (YW ca b v)) (some (.int q)) := by
  refine Hp.of (cc := cX7_degree) (nL := 5) (ret := (some .int)) (own := RX7) (by decide) rfl rfl (Nat.le_of_ble_eq_true rfl) ?_
  intro p e s m below meth c ls C0 hB hl
  exact wk_X7_degree C0 hB.2.1 hB.2.2 v hB.1 (hl := hl) (h := h)
abbrev rm_X7_occurring : Room := { frames := 2, cells := 0, slots := 0, locals := 46 }
theorem lk_X7_occurring_f13 : Cond.fieldLink RX7 13 "BooleanRingModel" "p" "[J" ∈ wsX7_occurring := by decide +kernel
theorem ly_X7_occurring_X7 : ∀ w ∈ wsX70, w ∈ wsX7_occurring := by decide +kernel
set_option maxHeartbeats 4000000 in
set_option maxRecDepth 100000 in
theorem wk_X7_occurring {p : Program} {l : Launch} {e : Env} {s : State} {m : MethodId} {args : Array Value} {below : List Frame} {meth : Method} {c : Code} {D : va_G} {ca : Nat → ClassId} {b : Nat → Nat} {tw : Nat} {tt : Nat → Nat} (C0 : Cx p s m args meth c cX7_occurring (some .int) 2 wsX7_occurring RX7) (hK : va_K D vwCl (tys3 ca) s) (hT0 : tW tw tt (ad_of 6 b) s s.heap) (v : YS) (hP : va_P D vwCl (YW ca b v) s.heap) {q : Int32} (x1 : Int32) (ls : Array Slot) (hl : lv_has ls 2 [(0, .ref (b 0)), (1, .int x1)]) (h : fn_X7_occurring v x1 = some q) : W p l e rm_X7_occurring s m args below meth c s.heap [] 0 0 (MQ below (HQ (some (.int q))) args s 0 0 (fun _ => False)) (F0 m 0 ls []) := by
  obtain ⟨hx, hb, hr, hml, hown, hts, hlocks⟩ := id C0
  have hS : va_S (ad_of 6 b) s.heap s.heap [] := va_S.rf
  unfold fn_X7_occurring at h
  refine lv_iload_n hx hb dX7_occurring_0 rfl (lv_at hl 1 rfl) ?_
  obtain ⟨q1, e1, h⟩ := Option.bind_eq_some_iff.mp h
  refine hp_S (As := [.int x1]) (rest := []) ⟨hx, hb, hml, hown, hts⟩ (ct_X7_isRegister l tw tt x1 e1) (va_cwS 1 hts gX7_occurring_X7_isRegister rfl rfl rfl (by decide +kernel) ⟨Nat.le_of_ble_eq_true rfl, Nat.le_of_ble_eq_true rfl⟩) GP.mv (GP.from hT0 hS) rfl hl.1 rfl (Nat.le_of_ble_eq_true rfl) dX7_occurring_1 ⟨Nat.zero_le _, Nat.zero_le _⟩ ?_
  refine W.eq (g2 := F0 m 4 ls [.int q1]) rfl ?_
  refine lv_if_eq (tgt := 20) hx hb dX7_occurring_4 (by decide) (fun c4 => ?_) (fun c4 => ?_)
  · replace h := ite_t h c4
    refine lv_iconst (v := (-1)) hx hb dX7_occurring_20 (by decide) ?_
    obtain rfl := Option.some.inj h
    exact hp_iret hx hb hr hlocks dX7_occurring_21
  · replace h := ite_f h c4
    refine lv_aload_n hx hb dX7_occurring_7 rfl (lv_at hl 0 rfl) ?_
    refine lv_aload_n hx hb dX7_occurring_8 rfl (lv_at hl 0 rfl) ?_
    refine va_get (D := D) (ci := 4) (v := .ref (b 1)) (C := RX7) (T := TX7) (N := 9) hx hb hts ly_X7_occurring_X7 hown hK hP 0 rfl rfl 1 (by decide) (hts _ lk_X7_occurring_f13) (fun _ h9 => h9) rfl dX7_occurring_9 ?_
    refine lv_iload_n hx hb dX7_occurring_12 rfl (lv_at hl 1 rfl) ?_
    obtain ⟨q13, e13, h⟩ := Option.bind_eq_some_iff.mp h
    refine rd_lald hx hb hK hP 1 0 e13 rfl rfl dX7_occurring_13 ?_
    obtain ⟨q14, e14, h⟩ := Option.bind_eq_some_iff.mp h
    refine hp_V (As := [.long q13]) (rest := []) (b := (b 0)) ⟨hx, hb, hml, hown, hts⟩ (ct_X7_occurs l D ca b tw tt v q13 e14) (cwV 1 hts gX7_occurring_X7_occurs rfl rfl rfl (by decide +kernel) ⟨Nat.le_of_ble_eq_true rfl, Nat.le_of_ble_eq_true rfl⟩) (va_recv hK hP (ci := 4) (q0 := 0) rfl rfl) GW.mv (GW.from hP hK hT0 hS) rfl hl.1 rfl (Nat.le_of_ble_eq_true rfl) dX7_occurring_14 ⟨Nat.zero_le _, Nat.zero_le _⟩ ?_
    refine W.eq (g2 := F0 m 17 ls [.int q14]) rfl ?_
    refine lv_goto (tgt := 21) hx hb dX7_occurring_17 (by decide) ?_
    obtain rfl := Option.some.inj h
    exact hp_iret hx hb hr hlocks dX7_occurring_21
theorem ct_X7_occurring (l : Launch) (D : va_G) (ca : Nat → ClassId) (b : Nat → Nat) (tw : Nat) (tt : Nat → Nat) (v : YS) (x1 : Int32) {q : Int32} (h : fn_X7_occurring v x1 = some q) : Hp l yX7_occurring wsX7_occurring rm_X7_occurring [.ref (b 0), .int x1] (GW D ca tw tt (ad_of 6 b) (YW ca b v)) (some (.int q)) := by
  refine Hp.of (cc := cX7_occurring) (nL := 2) (ret := (some .int)) (own := RX7) (by decide) rfl rfl (Nat.le_of_ble_eq_true rfl) ?_
  intro p e s m below meth c ls C0 hB hl
  exact wk_X7_occurring C0 hB.2.1 hB.2.2 v hB.1 (hl := hl) (h := h)
abbrev rm_X7_notes : Room := { frames := 2, cells := 0, slots := 0, locals := 46 }
theorem lk_X7_notes_f80 : Cond.fieldLink RX7 80 "BooleanRingModel" "founds" "I" ∈ wsX7_notes := by decide +kernel
theorem lk_X7_notes_f24 : Cond.fieldLink RX7 24 "BooleanRingModel" "found" "[J" ∈ wsX7_notes := by decide +kernel
theorem ly_X7_notes_X7 : ∀ w ∈ wsX70, w ∈ wsX7_notes := by decide +kernel
set_option maxHeartbeats 4000000 in
set_option maxRecDepth 100000 in
theorem wk_X7_notes_54 {p : Program} {l : Launch} {e : Env} {s : State} {m : MethodId} {args : Array Value} {below : List Frame} {meth : Method} {c : Code} {D : va_G} {ca : Nat → ClassId} {b : Nat → Nat} {tw : Nat} {tt : Nat → Nat} (C0 : Cx p s m args meth c cX7_notes none 5 wsX7_notes RX7) (hap : ap_ok 6 b) (hK : va_K D vwCl (tys3 ca) s) (hT0 : tW tw tt (ad_of 6 b) s s.heap) {q : YS} (v : YS) (H : Heap) (locs : List Loc) (x1 : Int64) (x3 : Int32) (ls : Array Slot) (hP : va_P D vwCl (YW ca b v) H) (hS : va_S (ad_of 6 b) s.heap H locs) (hl : lv_has ls 5 [(0, .ref (b 0)), (1, .long x1), (3, .int x3)]) (h : fn_X7_notes_54 v x1 x3 = some q) : W p l e rm_X7_notes s m args below meth c H locs 0 0 (MQ below (PQ none (fun H => va_P D vwCl (YW ca b q) H) (ad_of 6 b)) args s 0 0 (ad_of 6 b)) (F0 m 54 ls []) := by
  obtain ⟨hx, hb, hr, hml, hown, hts, hlocks⟩ := id C0
  have hD0 := fun v => YW_D (ca := ca) hap v
  unfold fn_X7_notes_54 at h
  refine lv_iload_n hx hb dX7_notes_54 rfl (lv_at hl 2 rfl) ?_
  refine lv_if_eq (tgt := 78) hx hb dX7_notes_55 (by decide) (fun c55 => ?_) (fun c55 => ?_)
  · replace h := ite_t h c55
    obtain rfl := Option.some.inj h
    exact mp_vret hx hb hr hlocks hP hS dX7_notes_78
  · replace h := ite_f h c55
    refine lv_aload_n hx hb dX7_notes_58 rfl (lv_at hl 0 rfl) ?_
    refine va_get (D := D) (ci := 4) (v := .ref (b 4)) (C := RX7) (T := TX7) (N := 9) hx hb hts ly_X7_notes_X7 hown hK hP 0 rfl rfl 6 (by decide) (hts _ lk_X7_notes_f24) (fun _ h9 => h9) rfl dX7_notes_59 ?_
    refine lv_aload_n hx hb dX7_notes_62 rfl (lv_at hl 0 rfl) ?_
    refine va_get (D := D) (ci := 4) (v := .int (y_founds v)) (C := RX7) (T := TX7) (N := 9) hx hb hts ly_X7_notes_X7 hown hK hP 0 rfl rfl 7 (by decide) (hts _ lk_X7_notes_f80) (fun _ h9 => h9) rfl dX7_notes_63 ?_
    refine lv_lload_n hx hb dX7_notes_66 rfl (lv_at hl 1 rfl) ?_
    obtain ⟨g67, e67, h⟩ := Option.bind_eq_some_iff.mp h
    refine wr_last hx hb hK hP (hD0 v) hS 4 0 e67 rfl rfl dX7_notes_67 (fun H locs hP hS => ?_)
    have hP : va_P D vwCl (YW ca b (ys_found v g67)) H := hP
    refine lv_aload_n hx hb dX7_notes_68 rfl (lv_at hl 0 rfl) ?_
    refine lv_dup hx hb dX7_notes_69 rfl ?_
    refine va_get (D := D) (ci := 4) (v := .int (y_founds v)) (C := RX7) (T := TX7) (N := 9) hx hb hts ly_X7_notes_X7 hown hK hP 0 rfl rfl 7 (by decide) (hts _ lk_X7_notes_f80) (fun _ h9 => h9) rfl dX7_notes_70 ?_
    refine lv_iconst (v := 1) hx hb dX7_notes_73 (by decide) ?_
    refine lv_iadd hx hb dX7_notes_74 ?_
    refine va_put (D := D) (ci := 4) (v := .int ((y_founds v) + 1)) (ty := .int) (C := RX7) (T := TX7) (N := 9) hx hb hts ly_X7_notes_X7 tyX7 tyX7_ok nmX7 hown hK hP (hD0 (ys_found v g67)) hS 0 rfl rfl 7 (by decide) (hts _ lk_X7_notes_f80) (fun _ h9 => h9) rfl (by decide +kernel) rfl rfl (Nat.le_of_ble_eq_true rfl) dX7_notes_75 (fun H locs hP _ hS => ?_)
    have hP : va_P D vwCl (YW ca b (ys_founds (ys_found v g67) ((y_founds v) + 1))) H := hP
    obtain rfl := Option.some.inj h
    exact mp_vret hx hb hr hlocks hP hS dX7_notes_78
set_option maxHeartbeats 4000000 in
set_option maxRecDepth 100000 in
theorem wk_X7_notes_17_body {p : Program} {l : Launch} {e : Env} {s : State} {m : MethodId} {args : Array Value} {below : List Frame} {meth : Method} {c : Code} {D : va_G} {ca : Nat → ClassId} {b : Nat → Nat} {tw : Nat} {tt : Nat → Nat} (C0 : Cx p s m args meth c cX7_notes none 5 wsX7_notes RX7) (hap : ap_ok 6 b) (hK : va_K D vwCl (tys3 ca) s) (hT0 : tW tw tt (ad_of 6 b) s s.heap) {q : YS} (k17 : YS → Int64 → Int32 → Int32 → Option (YS)) (hk17 : ∀ (v : YS) (H : Heap) (locs : List Loc) (x1 : Int64) (x3 : Int32) (x4 : Int32) (ls : Array Slot) (hP : va_P D vwCl (YW ca b v) H) (hS : va_S (ad_of 6 b) s.heap H locs) (hl : lv_has ls 5 [(0, .ref (b 0)), (1, .long x1), (3, .int x3), (4, .int x4)]) (h : k17 v x1 x3 x4 = some q), W p l e rm_X7_notes s m args below meth c H locs 0 0 (MQ below (PQ none (fun H => va_P D vwCl (YW ca b q) H) (ad_of 6 b)) args s 0 0 (ad_of 6 b)) (F0 m 17 ls [])) (v : YS) (H : Heap) (locs : List Loc) (x1 : Int64) (x3 : Int32) (x4 : Int32) (ls : Array Slot) (hP : va_P D vwCl (YW ca b v) H) (hS : va_S (ad_of 6 b) s.heap H locs) (hl : lv_has ls 5 [(0, .ref (b 0)), (1, .long x1), (3, .int x3), (4, .int x4)]) (h : fn_X7_notes_17_body k17 v x1 x3 x4 = some q) : W p l e rm_X7_notes s m args below meth c H locs 0 0 (MQ below (PQ none (fun H => va_P D vwCl (YW ca b q) H) (ad_of 6 b)) args s 0 0 (ad_of 6 b)) (F0 m 17 ls []) := by
  obtain ⟨hx, hb, hr, hml, hown, hts, hlocks⟩ := id C0
  have hD0 := fun v => YW_D (ca := ca) hap v
  unfold fn_X7_notes_17_body at h
  refine lv_iload hx hb dX7_notes_17 (lv_at hl 3 rfl) ?_
  refine lv_aload_n hx hb dX7_notes_19 rfl (lv_at hl 0 rfl) ?_
  refine va_get (D := D) (ci := 4) (v := .int (y_founds v)) (C := RX7) (T := TX7) (N := 9) hx hb hts ly_X7_notes_X7 hown hK hP 0 rfl rfl 7 (by decide) (hts _ lk_X7_notes_f80) (fun _ h9 => h9) rfl dX7_notes_20 ?_
  refine lv_icmp_ge (tgt := 54) hx hb dX7_notes_23 (by decide) (fun c23 => ?_) (fun c23 => ?_)
  · replace h := ite_t h c23
    exact wk_X7_notes_54 C0 hap hK hT0 (ls := ls) (hP := hP) (hS := hS) (hl := (lv_sub hl [0, 1, 2] rfl)) (h := h)
  · replace h := ite_f h c23
    refine lv_iload_n hx hb dX7_notes_26 rfl (lv_at hl 2 rfl) ?_
    refine lv_if_eq (tgt := 54) hx hb dX7_notes_27 (by decide) (fun c27 => ?_) (fun c27 => ?_)
    · replace h := ite_t h c27
      exact wk_X7_notes_54 C0 hap hK hT0 (ls := ls) (hP := hP) (hS := hS) (hl := (lv_sub hl [0, 1, 2] rfl)) (h := h)
    · replace h := ite_f h c27
      refine lv_aload_n hx hb dX7_notes_30 rfl (lv_at hl 0 rfl) ?_
      refine va_get (D := D) (ci := 4) (v := .ref (b 4)) (C := RX7) (T := TX7) (N := 9) hx hb hts ly_X7_notes_X7 hown hK hP 0 rfl rfl 6 (by decide) (hts _ lk_X7_notes_f24) (fun _ h9 => h9) rfl dX7_notes_31 ?_
      refine lv_iload hx hb dX7_notes_34 (lv_at hl 3 rfl) ?_
      obtain ⟨q36, e36, h⟩ := Option.bind_eq_some_iff.mp h
      refine rd_lald hx hb hK hP 4 0 e36 rfl rfl dX7_notes_36 ?_
      refine lv_lload_n hx hb dX7_notes_37 rfl (lv_at hl 1 rfl) ?_
      refine wl_eq (tgt := 46) hx hb dX7_notes_38 dX7_notes_39 (by decide) (fun c38 => ?_) (fun c38 => ?_)
      · replace h := ite_t h c38
        refine lv_iconst (v := 0) hx hb dX7_notes_46 (by decide) ?_
        refine lv_istore_n (lv' := [(3, .int 0), (0, .ref (b 0)), (1, .long x1), (4, .int x4)]) hx hb dX7_notes_47 rfl hl (by decide) rfl (fun ls hl => ?_)
        refine lv_iinc (v := (x4 + 1)) (lv' := [(4, .int (x4 + 1)), (3, .int 0), (0, .ref (b 0)), (1, .long x1)]) hx hb dX7_notes_48 hl (k := 3) rfl rfl (by decide) rfl (fun ls hl => ?_)
        refine lv_goto (tgt := 17) hx hb dX7_notes_51 (by decide) ?_
        exact hk17 v H locs x1 0 (x4 + 1) ls hP hS (lv_sub hl [2, 3, 1, 0] rfl) h
      · replace h := ite_f h c38
        refine lv_iconst (v := 1) hx hb dX7_notes_42 (by decide) ?_
        refine lv_goto (tgt := 47) hx hb dX7_notes_43 (by decide) ?_
        refine lv_istore_n (lv' := [(3, .int 1), (0, .ref (b 0)), (1, .long x1), (4, .int x4)]) hx hb dX7_notes_47 rfl hl (by decide) rfl (fun ls hl => ?_)
        refine lv_iinc (v := (x4 + 1)) (lv' := [(4, .int (x4 + 1)), (3, .int 1), (0, .ref (b 0)), (1, .long x1)]) hx hb dX7_notes_48 hl (k := 3) rfl rfl (by decide) rfl (fun ls hl => ?_)
        refine lv_goto (tgt := 17) hx hb dX7_notes_51 (by decide) ?_
        exact hk17 v H locs x1 1 (x4 + 1) ls hP hS (lv_sub hl [2, 3, 1, 0] rfl) h
set_option maxHeartbeats 4000000 in
set_option maxRecDepth 100000 in
theorem wk_X7_notes_17 {p : Program} {l : Launch} {e : Env} {s : State} {m : MethodId} {args : Array Value} {below : List Frame} {meth : Method} {c : Code} {D : va_G} {ca : Nat → ClassId} {b : Nat → Nat} {tw : Nat} {tt : Nat → Nat} (C0 : Cx p s m args meth c cX7_notes none 5 wsX7_notes RX7) (hap : ap_ok 6 b) (hK : va_K D vwCl (tys3 ca) s) (hT0 : tW tw tt (ad_of 6 b) s s.heap) {q : YS} : ∀ (n : Nat) (v : YS) (H : Heap) (locs : List Loc) (x1 : Int64) (x3 : Int32) (x4 : Int32) (ls : Array Slot) (hP : va_P D vwCl (YW ca b v) H) (hS : va_S (ad_of 6 b) s.heap H locs) (hl : lv_has ls 5 [(0, .ref (b 0)), (1, .long x1), (3, .int x3), (4, .int x4)]) (h : fn_X7_notes_17 n v x1 x3 x4 = some q), W p l e rm_X7_notes s m args below meth c H locs 0 0 (MQ below (PQ none (fun H => va_P D vwCl (YW ca b q) H) (ad_of 6 b)) args s 0 0 (ad_of 6 b)) (F0 m 17 ls []) := by
  intro n
  induction n with
  | zero => intro v H locs x1 x3 x4 ls hP hS hl h; unfold fn_X7_notes_17 at h; cases h
  | succ n ih => intro v H locs x1 x3 x4 ls hP hS hl h; exact wk_X7_notes_17_body C0 hap hK hT0 (k17 := fn_X7_notes_17 n) (hk17 := ih) (hl := hl) (hP := hP) (hS := hS) (h := h)
set_option maxHeartbeats 4000000 in
set_option maxRecDepth 100000 in
theorem wk_X7_notes_13 {p : Program} {l : Launch} {e : Env} {s : State} {m : MethodId} {args : Array Value} {below : List Frame} {meth : Method} {c : Code} {D : va_G} {ca : Nat → ClassId} {b : Nat → Nat} {tw : Nat} {tt : Nat → Nat} (C0 : Cx p s m args meth c cX7_notes none 5 wsX7_notes RX7) (hap : ap_ok 6 b) (hK : va_K D vwCl (tys3 ca) s) (hT0 : tW tw tt (ad_of 6 b) s s.heap) {q : YS} (v : YS) (H : Heap) (locs : List Loc) (x1 : Int64) (y0 : Int32) (ls : Array Slot) (hP : va_P D vwCl (YW ca b v) H) (hS : va_S (ad_of 6 b) s.heap H locs) (hl : lv_has ls 5 [(0, .ref (b 0)), (1, .long x1)]) (h : fn_X7_notes_13 v x1 y0 = some q) : W p l e rm_X7_notes s m args below meth c H locs 0 0 (MQ below (PQ none (fun H => va_P D vwCl (YW ca b q) H) (ad_of 6 b)) args s 0 0 (ad_of 6 b)) (F0 m 13 ls [.int y0]) := by
  obtain ⟨hx, hb, hr, hml, hown, hts, hlocks⟩ := id C0
  have hD0 := fun v => YW_D (ca := ca) hap v
  unfold fn_X7_notes_13 at h
  refine lv_istore_n (lv' := [(3, .int y0), (0, .ref (b 0)), (1, .long x1)]) hx hb dX7_notes_13 rfl hl (by decide) rfl (fun ls hl => ?_)
  refine lv_iconst (v := 0) hx hb dX7_notes_14 (by decide) ?_
  refine lv_istore (lv' := [(4, .int 0), (3, .int y0), (0, .ref (b 0)), (1, .long x1)]) hx hb dX7_notes_15 hl (by decide) rfl (fun ls hl => ?_)
  exact wk_X7_notes_17 C0 hap hK hT0  FU v H locs x1 y0 0 ls hP hS (lv_sub hl [2, 3, 1, 0] rfl) h
set_option maxHeartbeats 4000000 in
set_option maxRecDepth 100000 in
theorem wk_X7_notes {p : Program} {l : Launch} {e : Env} {s : State} {m : MethodId} {args : Array Value} {below : List Frame} {meth : Method} {c : Code} {D : va_G} {ca : Nat → ClassId} {b : Nat → Nat} {tw : Nat} {tt : Nat → Nat} (C0 : Cx p s m args meth c cX7_notes none 5 wsX7_notes RX7) (hap : ap_ok 6 b) (hK : va_K D vwCl (tys3 ca) s) (hT0 : tW tw tt (ad_of 6 b) s s.heap) {q : YS} (v : YS) (H : Heap) (locs : List Loc) (x1 : Int64) (ls : Array Slot) (hP : va_P D vwCl (YW ca b v) H) (hS : va_S (ad_of 6 b) s.heap H locs) (hl : lv_has ls 5 [(0, .ref (b 0)), (1, .long x1)]) (h : fn_X7_notes v x1 = some q) : W p l e rm_X7_notes s m args below meth c H locs 0 0 (MQ below (PQ none (fun H => va_P D vwCl (YW ca b q) H) (ad_of 6 b)) args s 0 0 (ad_of 6 b)) (F0 m 0 ls []) := by
  obtain ⟨hx, hb, hr, hml, hown, hts, hlocks⟩ := id C0
  have hD0 := fun v => YW_D (ca := ca) hap v
  unfold fn_X7_notes at h
  refine lv_aload_n hx hb dX7_notes_0 rfl (lv_at hl 0 rfl) ?_
  refine lv_lload_n hx hb dX7_notes_1 rfl (lv_at hl 1 rfl) ?_
  obtain ⟨q2, e2, h⟩ := Option.bind_eq_some_iff.mp h
  refine hp_V (As := [.long x1]) (rest := []) (b := (b 0)) ⟨hx, hb, hml, hown, hts⟩ (ct_X7_occurs l D ca b tw tt v x1 e2) (cwV 1 hts gX7_notes_X7_occurs rfl rfl rfl (by decide +kernel) ⟨Nat.le_of_ble_eq_true rfl, Nat.le_of_ble_eq_true rfl⟩) (va_recv hK hP (ci := 4) (q0 := 0) rfl rfl) GW.mv (GW.from hP hK hT0 hS) rfl hl.1 rfl (Nat.le_of_ble_eq_true rfl) dX7_notes_2 ⟨Nat.zero_le _, Nat.zero_le _⟩ ?_
  refine W.eq (g2 := F0 m 5 ls [.int q2]) rfl ?_
  refine lv_if_eq (tgt := 12) hx hb dX7_notes_5 (by decide) (fun c5 => ?_) (fun c5 => ?_)
  · replace h := ite_t h c5
    refine lv_iconst (v := 0) hx hb dX7_notes_12 (by decide) ?_
    exact wk_X7_notes_13 C0 hap hK hT0 (ls := ls) (hP := hP) (hS := hS) (hl := (lv_sub hl [0, 1] rfl)) (h := h)
  · replace h := ite_f h c5
    refine lv_iconst (v := 1) hx hb dX7_notes_8 (by decide) ?_
    refine lv_goto (tgt := 13) hx hb dX7_notes_9 (by decide) ?_
    exact wk_X7_notes_13 C0 hap hK hT0 (ls := ls) (hP := hP) (hS := hS) (hl := (lv_sub hl [0, 1] rfl)) (h := h)
theorem ct_X7_notes (l : Launch) (D : va_G) (ca : Nat → ClassId) (b : Nat → Nat) (tw : Nat) (tt : Nat → Nat) (hap : ap_ok 6 b) (v : YS) (x1 : Int64) {q : YS} (h : fn_X7_notes v x1 = some q) : Mp l yX7_notes wsX7_notes rm_X7_notes [.ref (b 0), .long x1] (GW D ca tw tt (ad_of 6 b) (YW ca b v)) none (fun H => va_P D vwCl (YW ca b q) H) (ad_of 6 b) := by
  refine Mp.of (cc := cX7_notes) (nL := 5) (ret := none) (own := RX7) (by decide) rfl rfl (Nat.le_of_ble_eq_true rfl) ?_
  intro p e s m below meth c ls C0 hB hl
  exact wk_X7_notes C0 hap hB.2.1 hB.2.2 (hP := hB.1) (hS := va_S.rf) (hl := hl) (h := h)
