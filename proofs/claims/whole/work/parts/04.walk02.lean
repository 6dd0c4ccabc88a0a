/-! by program (gen.py): the machine does what the functions say -/
abbrev rm_X5_empty : Room := { frames := 0, cells := 0, slots := 0, locals := 0 }
theorem lk_X5_empty_f15 : Cond.fieldLink RX5 15 "BooleanRing$Typed" "length" "I" ∈ wsX5_empty := by decide +kernel
theorem ly_X5_empty_X5 : ∀ w ∈ wsX50, w ∈ wsX5_empty := by decide +kernel
set_option maxHeartbeats 4000000 in
set_option maxRecDepth 100000 in
theorem wk_X5_empty {p : Program} {l : Launch} {e : Env} {s : State} {m : MethodId} {args : Array Value} {below : List Frame} {meth : Method} {c : Code} {D : va_G} {ca : Nat → ClassId} {a : Nat → Nat} {tw : Nat} {tt : Nat → Nat} (C0 : Cx p s m args meth c cX5_empty (some .int) 2 wsX5_empty RX5) (hap : ap_ok 9 a) (hK : va_K D vwCl (tys3 ca) s) (hT0 : tW tw tt (ad_of 9 a) s s.heap) {q : Int32 × XS} (v : XS) (H : Heap) (locs : List Loc) (ls : Array Slot) (hP : va_P D vwCl (XW ca a v) H) (hS : va_S (ad_of 9 a) s.heap H locs) (hl : lv_has ls 2 [(0, .ref (a 7))]) (h : fn_X5_empty v  = some q) : W p l e rm_X5_empty s m args below meth c H locs 0 0 (MQ below (PQ (some (.int q.1)) (fun H => va_P D vwCl (XW ca a q.2) H) (ad_of 9 a)) args s 0 0 (ad_of 9 a)) (F0 m 0 ls []) := by
  obtain ⟨hx, hb, hr, hml, hown, hts, hlocks⟩ := id C0
  have hD0 := fun v => XW_D (ca := ca) hap v
  unfold fn_X5_empty at h
  refine lv_aload_n hx hb dX5_empty_0 rfl (lv_at hl 0 rfl) ?_
  refine va_get (D := D) (ci := 2) (v := .int (x_len v)) (C := RX5) (T := TX5) (N := 2) hx hb hts ly_X5_empty_X5 hown hK hP 7 rfl rfl 1 (by decide) (hts _ lk_X5_empty_f15) (fun _ h9 => h9) rfl dX5_empty_1 ?_
  refine lv_istore_n (lv' := [(1, .int (x_len v)), (0, .ref (a 7))]) hx hb dX5_empty_4 rfl hl (by decide) rfl (fun ls hl => ?_)
  refine lv_aload_n hx hb dX5_empty_5 rfl (lv_at hl 1 rfl) ?_
  refine lv_iconst (v := 0) hx hb dX5_empty_6 (by decide) ?_
  refine va_put (D := D) (ci := 2) (v := .int 0) (ty := .int) (C := RX5) (T := TX5) (N := 2) hx hb hts ly_X5_empty_X5 tyX5 tyX5_ok nmX5 hown hK hP (hD0 v) hS 7 rfl rfl 1 (by decide) (hts _ lk_X5_empty_f15) (fun _ h9 => h9) rfl (by decide +kernel) rfl rfl (Nat.le_of_ble_eq_true rfl) dX5_empty_7 (fun H locs hP _ hS => ?_)
  have hP : va_P D vwCl (XW ca a (xs_len v 0)) H := hP
  refine lv_iload_n hx hb dX5_empty_10 rfl (lv_at hl 0 rfl) ?_
  obtain rfl := Option.some.inj h
  exact mp_iret hx hb hr hlocks hP hS dX5_empty_11
theorem ct_X5_empty (l : Launch) (D : va_G) (ca : Nat → ClassId) (a : Nat → Nat) (tw : Nat) (tt : Nat → Nat) (hap : ap_ok 9 a) (v : XS) {q : Int32 × XS} (h : fn_X5_empty v  = some q) : Mp l yX5_empty wsX5_empty rm_X5_empty [.ref (a 7)] (GW D ca tw tt (ad_of 9 a) (XW ca a v)) (some (.int q.1)) (fun H => va_P D vwCl (XW ca a q.2) H) (ad_of 9 a) := by
  refine Mp.of (cc := cX5_empty) (nL := 2) (ret := (some .int)) (own := RX5) (by decide) rfl rfl (Nat.le_of_ble_eq_true rfl) ?_
  intro p e s m below meth c ls C0 hB hl
  exact wk_X5_empty C0 hap hB.2.1 hB.2.2 (hP := hB.1) (hS := va_S.rf) (hl := hl) (h := h)
abbrev rm_X5_seenAfter : Room := { frames := 0, cells := 0, slots := 0, locals := 0 }
set_option maxHeartbeats 4000000 in
set_option maxRecDepth 100000 in
theorem wk_X5_seenAfter_30 {p : Program} {l : Launch} {e : Env} {s : State} {m : MethodId} {args : Array Value} {below : List Frame} {meth : Method} {c : Code} {tw : Nat} {tt : Nat → Nat} (C0 : Cx p s m args meth c cX5_seenAfter (some .int) 4 wsX5_seenAfter RX5) (hT0 : tW tw tt (fun _ => False) s s.heap) {q : Int32} (x0 : Int32) (ls : Array Slot) (hl : lv_has ls 4 [(0, .int x0)]) (h : fn_X5_seenAfter_30 x0 = some q) : W p l e rm_X5_seenAfter s m args below meth c s.heap [] 0 0 (MQ below (HQ (some (.int q))) args s 0 0 (fun _ => False)) (F0 m 30 ls []) := by
  obtain ⟨hx, hb, hr, hml, hown, hts, hlocks⟩ := id C0
  have hS : va_S (fun _ => False) s.heap s.heap [] := va_S.rf
  unfold fn_X5_seenAfter_30 at h
  refine lv_iload_n hx hb dX5_seenAfter_30 rfl (lv_at hl 0 rfl) ?_
  refine lv_iconst (v := (-1)) hx hb dX5_seenAfter_31 (by decide) ?_
  refine lv_icmp_ne (tgt := 40) hx hb dX5_seenAfter_32 (by decide) (fun c32 => ?_) (fun c32 => ?_)
  · replace h := ite_f h c32
    refine lv_bipush (v := 7) hx hb dX5_seenAfter_40 (by decide) ?_
    obtain rfl := Option.some.inj h
    exact hp_iret hx hb hr hlocks dX5_seenAfter_42
  · replace h := ite_t h c32
    refine lv_bipush (v := 6) hx hb dX5_seenAfter_35 (by decide) ?_
    refine lv_goto (tgt := 42) hx hb dX5_seenAfter_37 (by decide) ?_
    obtain rfl := Option.some.inj h
    exact hp_iret hx hb hr hlocks dX5_seenAfter_42
set_option maxHeartbeats 4000000 in
set_option maxRecDepth 100000 in
theorem wk_X5_seenAfter {p : Program} {l : Launch} {e : Env} {s : State} {m : MethodId} {args : Array Value} {below : List Frame} {meth : Method} {c : Code} {tw : Nat} {tt : Nat → Nat} (C0 : Cx p s m args meth c cX5_seenAfter (some .int) 4 wsX5_seenAfter RX5) (hT0 : tW tw tt (fun _ => False) s s.heap) {q : Int32} (x0 : Int32) (x1 : Int32) (x2 : Int32) (ls : Array Slot) (hl : lv_has ls 4 [(0, .int x0), (1, .int x1), (2, .int x2)]) (h : fn_X5_seenAfter x0 x1 x2 = some q) : W p l e rm_X5_seenAfter s m args below meth c s.heap [] 0 0 (MQ below (HQ (some (.int q))) args s 0 0 (fun _ => False)) (F0 m 0 ls []) := by
  obtain ⟨hx, hb, hr, hml, hown, hts, hlocks⟩ := id C0
  have hS : va_S (fun _ => False) s.heap s.heap [] := va_S.rf
  unfold fn_X5_seenAfter at h
  refine lv_iload_n hx hb dX5_seenAfter_0 rfl (lv_at hl 1 rfl) ?_
  refine lv_bipush (v := 43) hx hb dX5_seenAfter_1 (by decide) ?_
  refine lv_icmp_ne (tgt := 18) hx hb dX5_seenAfter_3 (by decide) (fun c3 => ?_) (fun c3 => ?_)
  · replace h := ite_f h c3
    refine lv_iload_n hx hb dX5_seenAfter_18 rfl (lv_at hl 1 rfl) ?_
    refine lv_bipush (v := 48) hx hb dX5_seenAfter_19 (by decide) ?_
    refine lv_icmp_eq (tgt := 30) hx hb dX5_seenAfter_21 (by decide) (fun c21 => ?_) (fun c21 => ?_)
    · replace h := ite_t h c21
      exact wk_X5_seenAfter_30 C0 hT0 (ls := ls) (hl := (lv_sub hl [0] rfl)) (h := h)
    · replace h := ite_f h c21
      refine lv_iload_n hx hb dX5_seenAfter_24 rfl (lv_at hl 1 rfl) ?_
      refine lv_bipush (v := 49) hx hb dX5_seenAfter_25 (by decide) ?_
      refine lv_icmp_ne (tgt := 43) hx hb dX5_seenAfter_27 (by decide) (fun c27 => ?_) (fun c27 => ?_)
      · replace h := ite_f h c27
        refine lv_iload_n hx hb dX5_seenAfter_43 rfl (lv_at hl 1 rfl) ?_
        refine lv_bipush (v := 97) hx hb dX5_seenAfter_44 (by decide) ?_
        refine lv_isub hx hb dX5_seenAfter_46 ?_
        refine lv_istore_n (lv' := [(3, .int (x1 - 97)), (0, .int x0), (1, .int x1), (2, .int x2)]) hx hb dX5_seenAfter_47 rfl hl (by decide) rfl (fun ls hl => ?_)
        refine lv_iload_n hx hb dX5_seenAfter_48 rfl (lv_at hl 0 rfl) ?_
        refine lv_iload_n hx hb dX5_seenAfter_49 rfl (lv_at hl 1 rfl) ?_
        refine lv_icmp_le (tgt := 62) hx hb dX5_seenAfter_50 (by decide) (fun c50 => ?_) (fun c50 => ?_)
        · replace h := ite_t h c50
          refine lv_bipush (v := 7) hx hb dX5_seenAfter_62 (by decide) ?_
          obtain rfl := Option.some.inj h
          exact hp_iret hx hb hr hlocks dX5_seenAfter_64
        · replace h := ite_f h c50
          refine lv_iload_n hx hb dX5_seenAfter_53 rfl (lv_at hl 0 rfl) ?_
          refine lv_iload_n hx hb dX5_seenAfter_54 rfl (lv_at hl 3 rfl) ?_
          refine lv_icmp_ge (tgt := 62) hx hb dX5_seenAfter_55 (by decide) (fun c55 => ?_) (fun c55 => ?_)
          · replace h := ite_t h c55
            refine lv_bipush (v := 7) hx hb dX5_seenAfter_62 (by decide) ?_
            obtain rfl := Option.some.inj h
            exact hp_iret hx hb hr hlocks dX5_seenAfter_64
          · replace h := ite_f h c55
            refine lv_iload_n hx hb dX5_seenAfter_58 rfl (lv_at hl 0 rfl) ?_
            refine lv_goto (tgt := 64) hx hb dX5_seenAfter_59 (by decide) ?_
            obtain rfl := Option.some.inj h
            exact hp_iret hx hb hr hlocks dX5_seenAfter_64
      · replace h := ite_t h c27
        exact wk_X5_seenAfter_30 C0 hT0 (ls := ls) (hl := (lv_sub hl [0] rfl)) (h := h)
  · replace h := ite_t h c3
    refine lv_iload_n hx hb dX5_seenAfter_6 rfl (lv_at hl 0 rfl) ?_
    refine lv_iconst (v := (-1)) hx hb dX5_seenAfter_7 (by decide) ?_
    refine lv_icmp_ne (tgt := 16) hx hb dX5_seenAfter_8 (by decide) (fun c8 => ?_) (fun c8 => ?_)
    · replace h := ite_f h c8
      refine lv_iconst (v := (-1)) hx hb dX5_seenAfter_16 (by decide) ?_
      obtain rfl := Option.some.inj h
      exact hp_iret hx hb hr hlocks dX5_seenAfter_17
    · replace h := ite_t h c8
      refine lv_bipush (v := 7) hx hb dX5_seenAfter_11 (by decide) ?_
      refine lv_goto (tgt := 17) hx hb dX5_seenAfter_13 (by decide) ?_
      obtain rfl := Option.some.inj h
      exact hp_iret hx hb hr hlocks dX5_seenAfter_17
theorem ct_X5_seenAfter (l : Launch) (tw : Nat) (tt : Nat → Nat) (x0 : Int32) (x1 : Int32) (x2 : Int32) {q : Int32} (h : fn_X5_seenAfter x0 x1 x2 = some q) : Hp l yX5_seenAfter wsX5_seenAfter rm_X5_seenAfter [.int x0, .int x1, .int x2] (GP tw tt) (some (.int q)) := by
  refine Hp.of (cc := cX5_seenAfter) (nL := 4) (ret := (some .int)) (own := RX5) (by decide) rfl rfl (Nat.le_of_ble_eq_true rfl) ?_
  intro p e s m below meth c ls C0 hB hl
  exact wk_X5_seenAfter C0 hB (hl := hl) (h := h)
abbrev rm_X5_firstFault : Room := { frames := 1, cells := 0, slots := 0, locals := 23 }
theorem lk_X5_firstFault_f15 : Cond.fieldLink RX5 15 "BooleanRing$Typed" "length" "I" ∈ wsX5_firstFault := by decide +kernel
theorem lk_X5_firstFault_f11 : Cond.fieldLink RX5 11 "BooleanRing$Typed" "text" "[C" ∈ wsX5_firstFault := by decide +kernel
theorem ly_X5_firstFault_X5 : ∀ w ∈ wsX50, w ∈ wsX5_firstFault := by decide +kernel
set_option maxHeartbeats 4000000 in
set_option maxRecDepth 100000 in
theorem wk_X5_firstFault_44 {p : Program} {l : Launch} {e : Env} {s : State} {m : MethodId} {args : Array Value} {below : List Frame} {meth : Method} {c : Code} {D : va_G} {ca : Nat → ClassId} {a : Nat → Nat} {tw : Nat} {tt : Nat → Nat} (C0 : Cx p s m args meth c cX5_firstFault (some .int) 4 wsX5_firstFault RX5) (hK : va_K D vwCl (tys3 ca) s) (hT0 : tW tw tt (ad_of 9 a) s s.heap) (v : XS) (hP : va_P D vwCl (XW ca a v) s.heap) {q : Int32} (x2 : Int32) (ls : Array Slot) (hl : lv_has ls 4 [(0, .ref (a 7)), (2, .int x2)]) (h : fn_X5_firstFault_44 v x2 = some q) : W p l e rm_X5_firstFault s m args below meth c s.heap [] 0 0 (MQ below (HQ (some (.int q))) args s 0 0 (fun _ => False)) (F0 m 44 ls []) := by
  obtain ⟨hx, hb, hr, hml, hown, hts, hlocks⟩ := id C0
  have hS : va_S (ad_of 9 a) s.heap s.heap [] := va_S.rf
  unfold fn_X5_firstFault_44 at h
  refine lv_iload_n hx hb dX5_firstFault_44 rfl (lv_at hl 1 rfl) ?_
  refine lv_iconst (v := (-1)) hx hb dX5_firstFault_45 (by decide) ?_
  refine lv_icmp_ne (tgt := 56) hx hb dX5_firstFault_46 (by decide) (fun c46 => ?_) (fun c46 => ?_)
  · replace h := ite_f h c46
    refine lv_bipush (v := (-4)) hx hb dX5_firstFault_56 (by decide) ?_
    obtain rfl := Option.some.inj h
    exact hp_iret hx hb hr hlocks dX5_firstFault_58
  · replace h := ite_t h c46
    refine lv_aload_n hx hb dX5_firstFault_49 rfl (lv_at hl 0 rfl) ?_
    refine va_get (D := D) (ci := 2) (v := .int (x_len v)) (C := RX5) (T := TX5) (N := 2) hx hb hts ly_X5_firstFault_X5 hown hK hP 7 rfl rfl 1 (by decide) (hts _ lk_X5_firstFault_f15) (fun _ h9 => h9) rfl dX5_firstFault_50 ?_
    refine lv_goto (tgt := 58) hx hb dX5_firstFault_53 (by decide) ?_
    obtain rfl := Option.some.inj h
    exact hp_iret hx hb hr hlocks dX5_firstFault_58
set_option maxHeartbeats 4000000 in
set_option maxRecDepth 100000 in
theorem wk_X5_firstFault_4_body {p : Program} {l : Launch} {e : Env} {s : State} {m : MethodId} {args : Array Value} {below : List Frame} {meth : Method} {c : Code} {D : va_G} {ca : Nat → ClassId} {a : Nat → Nat} {tw : Nat} {tt : Nat → Nat} (C0 : Cx p s m args meth c cX5_firstFault (some .int) 4 wsX5_firstFault RX5) (hK : va_K D vwCl (tys3 ca) s) (hT0 : tW tw tt (ad_of 9 a) s s.heap) (v : XS) (hP : va_P D vwCl (XW ca a v) s.heap) {q : Int32} (k4 : Int32 → Int32 → Int32 → Option (Int32)) (hk4 : ∀ (x1 : Int32) (x2 : Int32) (x3 : Int32) (ls : Array Slot) (hl : lv_has ls 4 [(0, .ref (a 7)), (1, .int x1), (2, .int x2), (3, .int x3)]) (h : k4 x1 x2 x3 = some q), W p l e rm_X5_firstFault s m args below meth c s.heap [] 0 0 (MQ below (HQ (some (.int q))) args s 0 0 (fun _ => False)) (F0 m 4 ls [])) (x1 : Int32) (x2 : Int32) (x3 : Int32) (ls : Array Slot) (hl : lv_has ls 4 [(0, .ref (a 7)), (1, .int x1), (2, .int x2), (3, .int x3)]) (h : fn_X5_firstFault_4_body v k4 x1 x2 x3 = some q) : W p l e rm_X5_firstFault s m args below meth c s.heap [] 0 0 (MQ below (HQ (some (.int q))) args s 0 0 (fun _ => False)) (F0 m 4 ls []) := by
  obtain ⟨hx, hb, hr, hml, hown, hts, hlocks⟩ := id C0
  have hS : va_S (ad_of 9 a) s.heap s.heap [] := va_S.rf
  unfold fn_X5_firstFault_4_body at h
  refine lv_iload_n hx hb dX5_firstFault_4 rfl (lv_at hl 3 rfl) ?_
  refine lv_aload_n hx hb dX5_firstFault_5 rfl (lv_at hl 0 rfl) ?_
  refine va_get (D := D) (ci := 2) (v := .int (x_len v)) (C := RX5) (T := TX5) (N := 2) hx hb hts ly_X5_firstFault_X5 hown hK hP 7 rfl rfl 1 (by decide) (hts _ lk_X5_firstFault_f15) (fun _ h9 => h9) rfl dX5_firstFault_6 ?_
  refine lv_icmp_ge (tgt := 44) hx hb dX5_firstFault_9 (by decide) (fun c9 => ?_) (fun c9 => ?_)
  · replace h := ite_t h c9
    exact wk_X5_firstFault_44 C0 hK hT0 v hP (ls := ls) (hl := (lv_sub hl [0, 2] rfl)) (h := h)
  · replace h := ite_f h c9
    refine lv_iload_n hx hb dX5_firstFault_12 rfl (lv_at hl 3 rfl) ?_
    refine lv_bipush (v := 60) hx hb dX5_firstFault_13 (by decide) ?_
    refine lv_icmp_ge (tgt := 44) hx hb dX5_firstFault_15 (by decide) (fun c15 => ?_) (fun c15 => ?_)
    · replace h := ite_t h c15
      exact wk_X5_firstFault_44 C0 hK hT0 v hP (ls := ls) (hl := (lv_sub hl [0, 2] rfl)) (h := h)
    · replace h := ite_f h c15
      refine lv_iload_n hx hb dX5_firstFault_18 rfl (lv_at hl 2 rfl) ?_
      refine lv_aload_n hx hb dX5_firstFault_19 rfl (lv_at hl 0 rfl) ?_
      refine va_get (D := D) (ci := 2) (v := .ref (a 8)) (C := RX5) (T := TX5) (N := 2) hx hb hts ly_X5_firstFault_X5 hown hK hP 7 rfl rfl 0 (by decide) (hts _ lk_X5_firstFault_f11) (fun _ h9 => h9) rfl dX5_firstFault_20 ?_
      refine lv_iload_n hx hb dX5_firstFault_23 rfl (lv_at hl 3 rfl) ?_
      obtain ⟨q24, e24, h⟩ := Option.bind_eq_some_iff.mp h
      refine rd_cald hx hb hK hP 8 2 e24 rfl rfl dX5_firstFault_24 ?_
      refine lv_iload_n hx hb dX5_firstFault_25 rfl (lv_at hl 1 rfl) ?_
      obtain ⟨q26, e26, h⟩ := Option.bind_eq_some_iff.mp h
      refine hp_S (As := [.int x2, .int q24, .int x1]) (rest := []) ⟨hx, hb, hml, hown, hts⟩ (ct_X5_seenAfter l tw tt x2 q24 x1 e26) (va_cwS 3 hts gX5_firstFault_X5_seenAfter rfl rfl rfl (by decide +kernel) ⟨Nat.le_of_ble_eq_true rfl, Nat.le_of_ble_eq_true rfl⟩) GP.mv (GP.from hT0 hS) rfl hl.1 rfl (Nat.le_of_ble_eq_true rfl) dX5_firstFault_26 ⟨Nat.zero_le _, Nat.zero_le _⟩ ?_
      refine W.eq (g2 := F0 m 29 ls [.int q26]) rfl ?_
      refine lv_istore_n (lv' := [(2, .int q26), (0, .ref (a 7)), (1, .int x1), (3, .int x3)]) hx hb dX5_firstFault_29 rfl hl (by decide) rfl (fun ls hl => ?_)
      refine lv_iload_n hx hb dX5_firstFault_30 rfl (lv_at hl 0 rfl) ?_
      refine lv_bipush (v := 7) hx hb dX5_firstFault_31 (by decide) ?_
      refine lv_icmp_ne (tgt := 38) hx hb dX5_firstFault_33 (by decide) (fun c33 => ?_) (fun c33 => ?_)
      · replace h := ite_f h c33
        refine lv_iinc (v := (x3 + 1)) (lv' := [(3, .int (x3 + 1)), (2, .int q26), (0, .ref (a 7)), (1, .int x1)]) hx hb dX5_firstFault_38 hl (k := 3) rfl rfl (by decide) rfl (fun ls hl => ?_)
        refine lv_goto (tgt := 4) hx hb dX5_firstFault_41 (by decide) ?_
        exact hk4 x1 q26 (x3 + 1) ls (lv_sub hl [2, 3, 1, 0] rfl) h
      · replace h := ite_t h c33
        refine lv_iload_n hx hb dX5_firstFault_36 rfl (lv_at hl 3 rfl) ?_
        obtain rfl := Option.some.inj h
        exact hp_iret hx hb hr hlocks dX5_firstFault_37
set_option maxHeartbeats 4000000 in
set_option maxRecDepth 100000 in
theorem wk_X5_firstFault_4 {p : Program} {l : Launch} {e : Env} {s : State} {m : MethodId} {args : Array Value} {below : List Frame} {meth : Method} {c : Code} {D : va_G} {ca : Nat → ClassId} {a : Nat → Nat} {tw : Nat} {tt : Nat → Nat} (C0 : Cx p s m args meth c cX5_firstFault (some .int) 4 wsX5_firstFault RX5) (hK : va_K D vwCl (tys3 ca) s) (hT0 : tW tw tt (ad_of 9 a) s s.heap) (v : XS) (hP : va_P D vwCl (XW ca a v) s.heap) {q : Int32} : ∀ (n : Nat) (x1 : Int32) (x2 : Int32) (x3 : Int32) (ls : Array Slot) (hl : lv_has ls 4 [(0, .ref (a 7)), (1, .int x1), (2, .int x2), (3, .int x3)]) (h : fn_X5_firstFault_4 v n x1 x2 x3 = some q), W p l e rm_X5_firstFault s m args below meth c s.heap [] 0 0 (MQ below (HQ (some (.int q))) args s 0 0 (fun _ => False)) (F0 m 4 ls []) := by
  intro n
  induction n with
  | zero => intro x1 x2 x3 ls hl h; unfold fn_X5_firstFault_4 at h; cases h
  | succ n ih => intro x1 x2 x3 ls hl h; exact wk_X5_firstFault_4_body C0 hK hT0 v hP (k4 := fn_X5_firstFault_4 v n) (hk4 := ih) (hl := hl) (h := h)
set_option maxHeartbeats 4000000 in
set_option maxRecDepth 100000 in
theorem wk_X5_firstFault {p : Program} {l : Launch} {e : Env} {s : State} {m : MethodId} {args : Array Value} {below : List Frame} {meth : Method} {c : Code} {D : va_G} {ca : Nat → ClassId} {a : Nat → Nat} {tw : Nat} {tt : Nat → Nat} (C0 : Cx p s m args meth c cX5_firstFault (some .int) 4 wsX5_firstFault RX5) (hK : va_K D vwCl (tys3 ca) s) (hT0 : tW tw tt (ad_of 9 a) s s.heap) (v : XS) (hP : va_P D vwCl (XW ca a v) s.heap) {q : Int32} (x1 : Int32) (ls : Array Slot) (hl : lv_has ls 4 [(0, .ref (a 7)), (1, .int x1)]) (h : fn_X5_firstFault v x1 = some q) : W p l e rm_X5_firstFault s m args below meth c s.heap [] 0 0 (MQ below (HQ (some (.int q))) args s 0 0 (fun _ => False)) (F0 m 0 ls []) := by
  obtain ⟨hx, hb, hr, hml, hown, hts, hlocks⟩ := id C0
  have hS : va_S (ad_of 9 a) s.heap s.heap [] := va_S.rf
  unfold fn_X5_firstFault at h
  refine lv_iconst (v := (-1)) hx hb dX5_firstFault_0 (by decide) ?_
  refine lv_istore_n (lv' := [(2, .int (-1)), (0, .ref (a 7)), (1, .int x1)]) hx hb dX5_firstFault_1 rfl hl (by decide) rfl (fun ls hl => ?_)
  refine lv_iconst (v := 0) hx hb dX5_firstFault_2 (by decide) ?_
  refine lv_istore_n (lv' := [(3, .int 0), (2, .int (-1)), (0, .ref (a 7)), (1, .int x1)]) hx hb dX5_firstFault_3 rfl hl (by decide) rfl (fun ls hl => ?_)
  exact wk_X5_firstFault_4 C0 hK hT0 v hP  FU x1 (-1) 0 ls (lv_sub hl [2, 3, 1, 0] rfl) h
theorem ct_X5_firstFault (l : Launch) (D : va_G) (ca : Nat → ClassId) (a : Nat → Nat) (tw : Nat) (tt : Nat → Nat) (v : XS) (x1 : Int32) {q : Int32} (h : fn_X5_firstFault v x1 = some q) : Hp l yX5_firstFault wsX5_firstFault rm_X5_firstFault [.ref (a 7), .int x1] (GW D ca tw tt (ad_of 9 a) (XW ca a v)) (some (.int q)) := by
  refine Hp.of (cc := cX5_firstFault) (nL := 4) (ret := (some .int)) (own := RX5) (by decide) rfl rfl (Nat.le_of_ble_eq_true rfl) ?_
  intro p e s m below meth c ls C0 hB hl
  exact wk_X5_firstFault C0 hB.2.1 hB.2.2 v hB.1 (hl := hl) (h := h)
abbrev rm_X5_polynomial : Room := { frames := 1, cells := 0, slots := 0, locals := 20 }
theorem lk_X5_polynomial_f15 : Cond.fieldLink RX5 15 "BooleanRing$Typed" "length" "I" ∈ wsX5_polynomial := by decide +kernel
theorem lk_X5_polynomial_f11 : Cond.fieldLink RX5 11 "BooleanRing$Typed" "text" "[C" ∈ wsX5_polynomial := by decide +kernel
theorem ly_X5_polynomial_X5 : ∀ w ∈ wsX50, w ∈ wsX5_polynomial := by decide +kernel
set_option maxHeartbeats 4000000 in
set_option maxRecDepth 100000 in
theorem wk_X5_polynomial_102 {p : Program} {l : Launch} {e : Env} {s : State} {m : MethodId} {args : Array Value} {below : List Frame} {meth : Method} {c : Code} {D : va_G} {ca : Nat → ClassId} {a : Nat → Nat} {tw : Nat} {tt : Nat → Nat} (C0 : Cx p s m args meth c cX5_polynomial (some .long) 7 wsX5_polynomial RX5) (hK : va_K D vwCl (tys3 ca) s) (hT0 : tW tw tt (ad_of 9 a) s s.heap) (v : XS) (hP : va_P D vwCl (XW ca a v) s.heap) {q : Int64} (x1 : Int64) (x3 : Int32) (x4 : Int32) (ls : Array Slot) (hl : lv_has ls 7 [(1, .long x1), (3, .int x3), (4, .int x4)]) (h : fn_X5_polynomial_102 v x1 x3 x4 = some q) : W p l e rm_X5_polynomial s m args below meth c s.heap [] 0 0 (MQ below (HQ (some (.long q))) args s 0 0 (fun _ => False)) (F0 m 102 ls []) := by
  obtain ⟨hx, hb, hr, hml, hown, hts, hlocks⟩ := id C0
  have hS : va_S (ad_of 9 a) s.heap s.heap [] := va_S.rf
  unfold fn_X5_polynomial_102 at h
  refine lv_lload_n hx hb dX5_polynomial_102 rfl (lv_at hl 0 rfl) ?_
  refine lv_iload hx hb dX5_polynomial_103 (lv_at hl 2 rfl) ?_
  refine lv_if_eq (tgt := 112) hx hb dX5_polynomial_105 (by decide) (fun c105 => ?_) (fun c105 => ?_)
  · replace h := ite_t h c105
    refine lv_iload_n hx hb dX5_polynomial_112 rfl (lv_at hl 1 rfl) ?_
    obtain ⟨q113, e113, h⟩ := Option.bind_eq_some_iff.mp h
    refine hp_S (As := [.int x3]) (rest := [.long x1]) ⟨hx, hb, hml, hown, hts⟩ (ct_X3_ofMonomial l tw tt x3 e113) (va_cwS 1 hts gX5_polynomial_X3_ofMonomial rfl rfl rfl (by decide +kernel) ⟨Nat.le_of_ble_eq_true rfl, Nat.le_of_ble_eq_true rfl⟩) GP.mv (GP.from hT0 hS) rfl hl.1 rfl (Nat.le_of_ble_eq_true rfl) dX5_polynomial_113 ⟨Nat.zero_le _, Nat.zero_le _⟩ ?_
    refine W.eq (g2 := F0 m 116 ls [.long q113, .long x1]) rfl ?_
    refine lv_lxor hx hb dX5_polynomial_116 ?_
    obtain rfl := Option.some.inj h
    exact hp_lret hx hb hr hlocks dX5_polynomial_117
  · replace h := ite_f h c105
    refine lv_lconst (v := 0) hx hb dX5_polynomial_108 (by decide) ?_
    refine lv_goto (tgt := 116) hx hb dX5_polynomial_109 (by decide) ?_
    refine lv_lxor hx hb dX5_polynomial_116 ?_
    obtain rfl := Option.some.inj h
    exact hp_lret hx hb hr hlocks dX5_polynomial_117
set_option maxHeartbeats 4000000 in
set_option maxRecDepth 100000 in
theorem wk_X5_polynomial_56 {p : Program} {l : Launch} {e : Env} {s : State} {m : MethodId} {args : Array Value} {below : List Frame} {meth : Method} {c : Code} {D : va_G} {ca : Nat → ClassId} {a : Nat → Nat} {tw : Nat} {tt : Nat → Nat} (C0 : Cx p s m args meth c cX5_polynomial (some .long) 7 wsX5_polynomial RX5) (hK : va_K D vwCl (tys3 ca) s) (hT0 : tW tw tt (ad_of 9 a) s s.heap) (v : XS) (hP : va_P D vwCl (XW ca a v) s.heap) {q : Int64} (k10 : Int64 → Int32 → Int32 → Int32 → Option (Int64)) (hk10 : ∀ (x1 : Int64) (x3 : Int32) (x4 : Int32) (x5 : Int32) (ls : Array Slot) (hl : lv_has ls 7 [(0, .ref (a 7)), (1, .long x1), (3, .int x3), (4, .int x4), (5, .int x5)]) (h : k10 x1 x3 x4 x5 = some q), W p l e rm_X5_polynomial s m args below meth c s.heap [] 0 0 (MQ below (HQ (some (.long q))) args s 0 0 (fun _ => False)) (F0 m 10 ls [])) (x5 : Int32) (y0 : Int64) (y1 : Int64) (ls : Array Slot) (hl : lv_has ls 7 [(0, .ref (a 7)), (5, .int x5)]) (h : fn_X5_polynomial_56 v k10 x5 y0 y1 = some q) : W p l e rm_X5_polynomial s m args below meth c s.heap [] 0 0 (MQ below (HQ (some (.long q))) args s 0 0 (fun _ => False)) (F0 m 56 ls [.long y0, .long y1]) := by
  obtain ⟨hx, hb, hr, hml, hown, hts, hlocks⟩ := id C0
  have hS : va_S (ad_of 9 a) s.heap s.heap [] := va_S.rf
  unfold fn_X5_polynomial_56 at h
  refine lv_lxor hx hb dX5_polynomial_56 ?_
  refine lv_lstore_n (lv' := [(1, .long (y1 ^^^ y0)), (0, .ref (a 7)), (5, .int x5)]) hx hb dX5_polynomial_57 rfl hl (by decide) rfl (fun ls hl => ?_)
  refine lv_iconst (v := 0) hx hb dX5_polynomial_58 (by decide) ?_
  refine lv_istore_n (lv' := [(3, .int 0), (1, .long (y1 ^^^ y0)), (0, .ref (a 7)), (5, .int x5)]) hx hb dX5_polynomial_59 rfl hl (by decide) rfl (fun ls hl => ?_)
  refine lv_iconst (v := 0) hx hb dX5_polynomial_60 (by decide) ?_
  refine lv_istore (lv' := [(4, .int 0), (3, .int 0), (1, .long (y1 ^^^ y0)), (0, .ref (a 7)), (5, .int x5)]) hx hb dX5_polynomial_61 hl (by decide) rfl (fun ls hl => ?_)
  refine lv_goto (tgt := 96) hx hb dX5_polynomial_63 (by decide) ?_
  refine lv_iinc (v := (x5 + 1)) (lv' := [(5, .int (x5 + 1)), (4, .int 0), (3, .int 0), (1, .long (y1 ^^^ y0)), (0, .ref (a 7))]) hx hb dX5_polynomial_96 hl (k := 4) rfl rfl (by decide) rfl (fun ls hl => ?_)
  refine lv_goto (tgt := 10) hx hb dX5_polynomial_99 (by decide) ?_
  exact hk10 (y1 ^^^ y0) 0 0 (x5 + 1) ls (lv_sub hl [4, 3, 2, 1, 0] rfl) h
set_option maxHeartbeats 4000000 in
set_option maxRecDepth 100000 in
theorem wk_X5_polynomial_10_body {p : Program} {l : Launch} {e : Env} {s : State} {m : MethodId} {args : Array Value} {below : List Frame} {meth : Method} {c : Code} {D : va_G} {ca : Nat → ClassId} {a : Nat → Nat} {tw : Nat} {tt : Nat → Nat} (C0 : Cx p s m args meth c cX5_polynomial (some .long) 7 wsX5_polynomial RX5) (hK : va_K D vwCl (tys3 ca) s) (hT0 : tW tw tt (ad_of 9 a) s s.heap) (v : XS) (hP : va_P D vwCl (XW ca a v) s.heap) {q : Int64} (k10 : Int64 → Int32 → Int32 → Int32 → Option (Int64)) (hk10 : ∀ (x1 : Int64) (x3 : Int32) (x4 : Int32) (x5 : Int32) (ls : Array Slot) (hl : lv_has ls 7 [(0, .ref (a 7)), (1, .long x1), (3, .int x3), (4, .int x4), (5, .int x5)]) (h : k10 x1 x3 x4 x5 = some q), W p l e rm_X5_polynomial s m args below meth c s.heap [] 0 0 (MQ below (HQ (some (.long q))) args s 0 0 (fun _ => False)) (F0 m 10 ls [])) (x1 : Int64) (x3 : Int32) (x4 : Int32) (x5 : Int32) (ls : Array Slot) (hl : lv_has ls 7 [(0, .ref (a 7)), (1, .long x1), (3, .int x3), (4, .int x4), (5, .int x5)]) (h : fn_X5_polynomial_10_body v k10 x1 x3 x4 x5 = some q) : W p l e rm_X5_polynomial s m args below meth c s.heap [] 0 0 (MQ below (HQ (some (.long q))) args s 0 0 (fun _ => False)) (F0 m 10 ls []) := by
  obtain ⟨hx, hb, hr, hml, hown, hts, hlocks⟩ := id C0
  have hS : va_S (ad_of 9 a) s.heap s.heap [] := va_S.rf
  unfold fn_X5_polynomial_10_body at h
  refine lv_iload hx hb dX5_polynomial_10 (lv_at hl 4 rfl) ?_
  refine lv_aload_n hx hb dX5_polynomial_12 rfl (lv_at hl 0 rfl) ?_
  refine va_get (D := D) (ci := 2) (v := .int (x_len v)) (C := RX5) (T := TX5) (N := 2) hx hb hts ly_X5_polynomial_X5 hown hK hP 7 rfl rfl 1 (by decide) (hts _ lk_X5_polynomial_f15) (fun _ h9 => h9) rfl dX5_polynomial_13 ?_
  refine lv_icmp_ge (tgt := 102) hx hb dX5_polynomial_16 (by decide) (fun c16 => ?_) (fun c16 => ?_)
  · replace h := ite_t h c16
    exact wk_X5_polynomial_102 C0 hK hT0 v hP (ls := ls) (hl := (lv_sub hl [1, 2, 3] rfl)) (h := h)
  · replace h := ite_f h c16
    refine lv_iload hx hb dX5_polynomial_19 (lv_at hl 4 rfl) ?_
    refine lv_bipush (v := 60) hx hb dX5_polynomial_21 (by decide) ?_
    refine lv_icmp_ge (tgt := 102) hx hb dX5_polynomial_23 (by decide) (fun c23 => ?_) (fun c23 => ?_)
    · replace h := ite_t h c23
      exact wk_X5_polynomial_102 C0 hK hT0 v hP (ls := ls) (hl := (lv_sub hl [1, 2, 3] rfl)) (h := h)
    · replace h := ite_f h c23
      refine lv_aload_n hx hb dX5_polynomial_26 rfl (lv_at hl 0 rfl) ?_
      refine va_get (D := D) (ci := 2) (v := .ref (a 8)) (C := RX5) (T := TX5) (N := 2) hx hb hts ly_X5_polynomial_X5 hown hK hP 7 rfl rfl 0 (by decide) (hts _ lk_X5_polynomial_f11) (fun _ h9 => h9) rfl dX5_polynomial_27 ?_
      refine lv_iload hx hb dX5_polynomial_30 (lv_at hl 4 rfl) ?_
      obtain ⟨q32, e32, h⟩ := Option.bind_eq_some_iff.mp h
      refine rd_cald hx hb hK hP 8 2 e32 rfl rfl dX5_polynomial_32 ?_
      refine lv_istore (lv' := [(6, .int q32), (0, .ref (a 7)), (1, .long x1), (3, .int x3), (4, .int x4), (5, .int x5)]) hx hb dX5_polynomial_33 hl (by decide) rfl (fun ls hl => ?_)
      refine lv_iload hx hb dX5_polynomial_35 (lv_at hl 0 rfl) ?_
      refine lv_bipush (v := 43) hx hb dX5_polynomial_37 (by decide) ?_
      refine lv_icmp_ne (tgt := 66) hx hb dX5_polynomial_39 (by decide) (fun c39 => ?_) (fun c39 => ?_)
      · replace h := ite_f h c39
        refine lv_iload hx hb dX5_polynomial_66 (lv_at hl 0 rfl) ?_
        refine lv_bipush (v := 48) hx hb dX5_polynomial_68 (by decide) ?_
        refine lv_icmp_ne (tgt := 79) hx hb dX5_polynomial_70 (by decide) (fun c70 => ?_) (fun c70 => ?_)
        · replace h := ite_f h c70
          refine lv_iload hx hb dX5_polynomial_79 (lv_at hl 0 rfl) ?_
          refine lv_bipush (v := 49) hx hb dX5_polynomial_81 (by decide) ?_
          refine lv_icmp_eq (tgt := 96) hx hb dX5_polynomial_83 (by decide) (fun c83 => ?_) (fun c83 => ?_)
          · replace h := ite_t h c83
            refine lv_iinc (v := (x5 + 1)) (lv' := [(5, .int (x5 + 1)), (6, .int q32), (0, .ref (a 7)), (1, .long x1), (3, .int x3), (4, .int x4)]) hx hb dX5_polynomial_96 hl (k := 5) rfl rfl (by decide) rfl (fun ls hl => ?_)
            refine lv_goto (tgt := 10) hx hb dX5_polynomial_99 (by decide) ?_
            exact hk10 x1 x3 x4 (x5 + 1) ls (lv_sub hl [2, 3, 4, 5, 0] rfl) h
          · replace h := ite_f h c83
            refine lv_iload_n hx hb dX5_polynomial_86 rfl (lv_at hl 3 rfl) ?_
            refine lv_iconst (v := 1) hx hb dX5_polynomial_87 (by decide) ?_
            refine lv_iload hx hb dX5_polynomial_88 (lv_at hl 0 rfl) ?_
            refine lv_bipush (v := 97) hx hb dX5_polynomial_90 (by decide) ?_
            refine lv_isub hx hb dX5_polynomial_92 ?_
            refine lv_ishl hx hb dX5_polynomial_93 ?_
            refine lv_ior hx hb dX5_polynomial_94 ?_
            refine lv_istore_n (lv' := [(3, .int (x3 ||| (ish 1 (q32 - 97)))), (6, .int q32), (0, .ref (a 7)), (1, .long x1), (4, .int x4), (5, .int x5)]) hx hb dX5_polynomial_95 rfl hl (by decide) rfl (fun ls hl => ?_)
            refine lv_iinc (v := (x5 + 1)) (lv' := [(5, .int (x5 + 1)), (3, .int (x3 ||| (ish 1 (q32 - 97)))), (6, .int q32), (0, .ref (a 7)), (1, .long x1), (4, .int x4)]) hx hb dX5_polynomial_96 hl (k := 5) rfl rfl (by decide) rfl (fun ls hl => ?_)
            refine lv_goto (tgt := 10) hx hb dX5_polynomial_99 (by decide) ?_
            exact hk10 x1 (x3 ||| (ish 1 (q32 - 97))) x4 (x5 + 1) ls (lv_sub hl [3, 4, 1, 5, 0] rfl) h
        · replace h := ite_t h c70
          refine lv_iconst (v := 1) hx hb dX5_polynomial_73 (by decide) ?_
          refine lv_istore (lv' := [(4, .int 1), (6, .int q32), (0, .ref (a 7)), (1, .long x1), (3, .int x3), (5, .int x5)]) hx hb dX5_polynomial_74 hl (by decide) rfl (fun ls hl => ?_)
          refine lv_goto (tgt := 96) hx hb dX5_polynomial_76 (by decide) ?_
          refine lv_iinc (v := (x5 + 1)) (lv' := [(5, .int (x5 + 1)), (4, .int 1), (6, .int q32), (0, .ref (a 7)), (1, .long x1), (3, .int x3)]) hx hb dX5_polynomial_96 hl (k := 5) rfl rfl (by decide) rfl (fun ls hl => ?_)
          refine lv_goto (tgt := 10) hx hb dX5_polynomial_99 (by decide) ?_
          exact hk10 x1 x3 1 (x5 + 1) ls (lv_sub hl [3, 4, 5, 1, 0] rfl) h
      · replace h := ite_t h c39
        refine lv_lload_n hx hb dX5_polynomial_42 rfl (lv_at hl 2 rfl) ?_
        refine lv_iload hx hb dX5_polynomial_43 (lv_at hl 4 rfl) ?_
        refine lv_if_eq (tgt := 52) hx hb dX5_polynomial_45 (by decide) (fun c45 => ?_) (fun c45 => ?_)
        · replace h := ite_t h c45
          refine lv_iload_n hx hb dX5_polynomial_52 rfl (lv_at hl 3 rfl) ?_
          obtain ⟨q53, e53, h⟩ := Option.bind_eq_some_iff.mp h
          refine hp_S (As := [.int x3]) (rest := [.long x1]) ⟨hx, hb, hml, hown, hts⟩ (ct_X3_ofMonomial l tw tt x3 e53) (va_cwS 1 hts gX5_polynomial_X3_ofMonomial rfl rfl rfl (by decide +kernel) ⟨Nat.le_of_ble_eq_true rfl, Nat.le_of_ble_eq_true rfl⟩) GP.mv (GP.from hT0 hS) rfl hl.1 rfl (Nat.le_of_ble_eq_true rfl) dX5_polynomial_53 ⟨Nat.zero_le _, Nat.zero_le _⟩ ?_
          refine W.eq (g2 := F0 m 56 ls [.long q53, .long x1]) rfl ?_
          exact wk_X5_polynomial_56 C0 hK hT0 v hP (k10 := k10) (hk10 := hk10) (ls := ls) (hl := (lv_sub hl [1, 5] rfl)) (h := h)
        · replace h := ite_f h c45
          refine lv_lconst (v := 0) hx hb dX5_polynomial_48 (by decide) ?_
          refine lv_goto (tgt := 56) hx hb dX5_polynomial_49 (by decide) ?_
          exact wk_X5_polynomial_56 C0 hK hT0 v hP (k10 := k10) (hk10 := hk10) (ls := ls) (hl := (lv_sub hl [1, 5] rfl)) (h := h)
set_option maxHeartbeats 4000000 in
set_option maxRecDepth 100000 in
theorem wk_X5_polynomial_10 {p : Program} {l : Launch} {e : Env} {s : State} {m : MethodId} {args : Array Value} {below : List Frame} {meth : Method} {c : Code} {D : va_G} {ca : Nat → ClassId} {a : Nat → Nat} {tw : Nat} {tt : Nat → Nat} (C0 : Cx p s m args meth c cX5_polynomial (some .long) 7 wsX5_polynomial RX5) (hK : va_K D vwCl (tys3 ca) s) (hT0 : tW tw tt (ad_of 9 a) s s.heap) (v : XS) (hP : va_P D vwCl (XW ca a v) s.heap) {q : Int64} : ∀ (n : Nat) (x1 : Int64) (x3 : Int32) (x4 : Int32) (x5 : Int32) (ls : Array Slot) (hl : lv_has ls 7 [(0, .ref (a 7)), (1, .long x1), (3, .int x3), (4, .int x4), (5, .int x5)]) (h : fn_X5_polynomial_10 v n x1 x3 x4 x5 = some q), W p l e rm_X5_polynomial s m args below meth c s.heap [] 0 0 (MQ below (HQ (some (.long q))) args s 0 0 (fun _ => False)) (F0 m 10 ls []) := by
  intro n
  induction n with
  | zero => intro x1 x3 x4 x5 ls hl h; unfold fn_X5_polynomial_10 at h; cases h
  | succ n ih => intro x1 x3 x4 x5 ls hl h; exact wk_X5_polynomial_10_body C0 hK hT0 v hP (k10 := fn_X5_polynomial_10 v n) (hk10 := ih) (hl := hl) (h := h)
set_option maxHeartbeats 4000000 in
set_option maxRecDepth 100000 in
theorem wk_X5_polynomial {p : Program} {l : Launch} {e : Env} {s : State} {m : MethodId} {args : Array Value} {below : List Frame} {meth : Method} {c : Code} {D : va_G} {ca : Nat → ClassId} {a : Nat → Nat} {tw : Nat} {tt : Nat → Nat} (C0 : Cx p s m args meth c cX5_polynomial (some .long) 7 wsX5_polynomial RX5) (hK : va_K D vwCl (tys3 ca) s) (hT0 : tW tw tt (ad_of 9 a) s s.heap) (v : XS) (hP : va_P D vwCl (XW ca a v) s.heap) {q : Int64} (ls : Array Slot) (hl : lv_has ls 7 [(0, .ref (a 7))]) (h : fn_X5_polynomial v  = some q) : W p l e rm_X5_polynomial s m args below meth c s.heap [] 0 0 (MQ below (HQ (some (.long q))) args s 0 0 (fun _ => False)) (F0 m 0 ls []) := by
  obtain ⟨hx, hb, hr, hml, hown, hts, hlocks⟩ := id C0
  have hS : va_S (ad_of 9 a) s.heap s.heap [] := va_S.rf
  unfold fn_X5_polynomial at h
  refine lv_lconst (v := 0) hx hb dX5_polynomial_0 (by decide) ?_
  refine lv_lstore_n (lv' := [(1, .long 0), (0, .ref (a 7))]) hx hb dX5_polynomial_1 rfl hl (by decide) rfl (fun ls hl => ?_)
  refine lv_iconst (v := 0) hx hb dX5_polynomial_2 (by decide) ?_
  refine lv_istore_n (lv' := [(3, .int 0), (1, .long 0), (0, .ref (a 7))]) hx hb dX5_polynomial_3 rfl hl (by decide) rfl (fun ls hl => ?_)
  refine lv_iconst (v := 0) hx hb dX5_polynomial_4 (by decide) ?_
  refine lv_istore (lv' := [(4, .int 0), (3, .int 0), (1, .long 0), (0, .ref (a 7))]) hx hb dX5_polynomial_5 hl (by decide) rfl (fun ls hl => ?_)
  refine lv_iconst (v := 0) hx hb dX5_polynomial_7 (by decide) ?_
  refine lv_istore (lv' := [(5, .int 0), (4, .int 0), (3, .int 0), (1, .long 0), (0, .ref (a 7))]) hx hb dX5_polynomial_8 hl (by decide) rfl (fun ls hl => ?_)
  exact wk_X5_polynomial_10 C0 hK hT0 v hP  FU 0 0 0 0 ls (lv_sub hl [4, 3, 2, 1, 0] rfl) h
theorem ct_X5_polynomial (l : Launch) (D : va_G) (ca : Nat → ClassId) (a : Nat → Nat) (tw : Nat) (tt : Nat → Nat) (v : XS) {q : Int64} (h : fn_X5_polynomial v  = some q) : Hp l yX5_polynomial wsX5_polynomial rm_X5_polynomial [.ref (a 7)] (GW D ca tw tt (ad_of 9 a) (XW ca a v)) (some (.long q)) := by
  refine Hp.of (cc := cX5_polynomial) (nL := 7) (ret := (some .long)) (own := RX5) (by decide) rfl rfl (Nat.le_of_ble_eq_true rfl) ?_
  intro p e s m below meth c ls C0 hB hl
  exact wk_X5_polynomial C0 hB.2.1 hB.2.2 v hB.1 (hl := hl) (h := h)
abbrev rm_J7_fill_d0a16 : Room := { frames := 0, cells := 0, slots := 0, locals := 0 }
set_option maxHeartbeats 4000000 in
set_option maxRecDepth 100000 in
theorem wk_J7_fill_d0a16_6_body {p : Program} {l : Launch} {e : Env} {s : State} {m : MethodId} {args : Array Value} {below : List Frame} {meth : Method} {c : Code} {D : va_G} {ca : Nat → ClassId} {a : Nat → Nat} {tw : Nat} {tt : Nat → Nat} (C0 : Cx p s m args meth c cJ7_fill_d0a16 none 5 wsJ7_fill_d0a16 RJ7) (hap : ap_ok 9 a) (hK : va_K D vwCl (tys3 ca) s) (hT0 : tW tw tt (ad_of 9 a) s s.heap) {q : XS} (k6 : XS → Int64 → Int32 → Int32 → Option (XS)) (hk6 : ∀ (v : XS) (H : Heap) (locs : List Loc) (x1 : Int64) (x3 : Int32) (x4 : Int32) (ls : Array Slot) (hP : va_P D vwCl (XW ca a v) H) (hS : va_S (ad_of 9 a) s.heap H locs) (hl : lv_has ls 5 [(0, .ref (a 1)), (1, .long x1), (3, .int x3), (4, .int x4)]) (h : k6 v x1 x3 x4 = some q), W p l e rm_J7_fill_d0a16 s m args below meth c H locs 0 0 (MQ below (PQ none (fun H => va_P D vwCl (XW ca a q) H) (ad_of 9 a)) args s 0 0 (ad_of 9 a)) (F0 m 6 ls [])) (v : XS) (H : Heap) (locs : List Loc) (x1 : Int64) (x3 : Int32) (x4 : Int32) (ls : Array Slot) (hP : va_P D vwCl (XW ca a v) H) (hS : va_S (ad_of 9 a) s.heap H locs) (hl : lv_has ls 5 [(0, .ref (a 1)), (1, .long x1), (3, .int x3), (4, .int x4)]) (h : fn_J7_fill_d0a16_6_body k6 v x1 x3 x4 = some q) : W p l e rm_J7_fill_d0a16 s m args below meth c H locs 0 0 (MQ below (PQ none (fun H => va_P D vwCl (XW ca a q) H) (ad_of 9 a)) args s 0 0 (ad_of 9 a)) (F0 m 6 ls []) := by
  obtain ⟨hx, hb, hr, hml, hown, hts, hlocks⟩ := id C0
  have hD0 := fun v => XW_D (ca := ca) hap v
  unfold fn_J7_fill_d0a16_6_body at h
  refine lv_iload_n hx hb dJ7_fill_d0a16_6 rfl (lv_at hl 2 rfl) ?_
  refine lv_iload hx hb dJ7_fill_d0a16_7 (lv_at hl 3 rfl) ?_
  refine lv_icmp_ge (tgt := 22) hx hb dJ7_fill_d0a16_9 (by decide) (fun c9 => ?_) (fun c9 => ?_)
  · replace h := ite_t h c9
    obtain rfl := Option.some.inj h
    exact mp_vret hx hb hr hlocks hP hS dJ7_fill_d0a16_22
  · replace h := ite_f h c9
    refine lv_aload_n hx hb dJ7_fill_d0a16_12 rfl (lv_at hl 0 rfl) ?_
    refine lv_iload_n hx hb dJ7_fill_d0a16_13 rfl (lv_at hl 2 rfl) ?_
    refine lv_lload_n hx hb dJ7_fill_d0a16_14 rfl (lv_at hl 1 rfl) ?_
    obtain ⟨g15, e15, h⟩ := Option.bind_eq_some_iff.mp h
    refine wr_last hx hb hK hP (hD0 v) hS 1 0 e15 rfl rfl dJ7_fill_d0a16_15 (fun H locs hP hS => ?_)
    have hP : va_P D vwCl (XW ca a (xs_regs v g15)) H := hP
    refine lv_iinc (v := (x3 + 1)) (lv' := [(3, .int (x3 + 1)), (0, .ref (a 1)), (1, .long x1), (4, .int x4)]) hx hb dJ7_fill_d0a16_16 hl (k := 2) rfl rfl (by decide) rfl (fun ls hl => ?_)
    refine lv_goto (tgt := 6) hx hb dJ7_fill_d0a16_19 (by decide) ?_
    exact hk6 (xs_regs v g15) H locs x1 (x3 + 1) x4 ls hP hS (lv_sub hl [1, 2, 0, 3] rfl) h
set_option maxHeartbeats 4000000 in
set_option maxRecDepth 100000 in
theorem wk_J7_fill_d0a16_6 {p : Program} {l : Launch} {e : Env} {s : State} {m : MethodId} {args : Array Value} {below : List Frame} {meth : Method} {c : Code} {D : va_G} {ca : Nat → ClassId} {a : Nat → Nat} {tw : Nat} {tt : Nat → Nat} (C0 : Cx p s m args meth c cJ7_fill_d0a16 none 5 wsJ7_fill_d0a16 RJ7) (hap : ap_ok 9 a) (hK : va_K D vwCl (tys3 ca) s) (hT0 : tW tw tt (ad_of 9 a) s s.heap) {q : XS} : ∀ (n : Nat) (v : XS) (H : Heap) (locs : List Loc) (x1 : Int64) (x3 : Int32) (x4 : Int32) (ls : Array Slot) (hP : va_P D vwCl (XW ca a v) H) (hS : va_S (ad_of 9 a) s.heap H locs) (hl : lv_has ls 5 [(0, .ref (a 1)), (1, .long x1), (3, .int x3), (4, .int x4)]) (h : fn_J7_fill_d0a16_6 n v x1 x3 x4 = some q), W p l e rm_J7_fill_d0a16 s m args below meth c H locs 0 0 (MQ below (PQ none (fun H => va_P D vwCl (XW ca a q) H) (ad_of 9 a)) args s 0 0 (ad_of 9 a)) (F0 m 6 ls []) := by
  intro n
  induction n with
  | zero => intro v H locs x1 x3 x4 ls hP hS hl h; unfold fn_J7_fill_d0a16_6 at h; cases h
  | succ n ih => intro v H locs x1 x3 x4 ls hP hS hl h; exact wk_J7_fill_d0a16_6_body C0 hap hK hT0 (k6 := fn_J7_fill_d0a16_6 n) (hk6 := ih) (hl := hl) (hP := hP) (hS := hS) (h := h)
set_option maxHeartbeats 4000000 in
set_option maxRecDepth 100000 in
theorem wk_J7_fill_d0a16 {p : Program} {l : Launch} {e : Env} {s : State} {m : MethodId} {args : Array Value} {below : List Frame} {meth : Method} {c : Code} {D : va_G} {ca : Nat → ClassId} {a : Nat → Nat} {tw : Nat} {tt : Nat → Nat} (C0 : Cx p s m args meth c cJ7_fill_d0a16 none 5 wsJ7_fill_d0a16 RJ7) (hap : ap_ok 9 a) (hK : va_K D vwCl (tys3 ca) s) (hT0 : tW tw tt (ad_of 9 a) s s.heap) {q : XS} (v : XS) (H : Heap) (locs : List Loc) (x1 : Int64) (ls : Array Slot) (hP : va_P D vwCl (XW ca a v) H) (hS : va_S (ad_of 9 a) s.heap H locs) (hl : lv_has ls 5 [(0, .ref (a 1)), (1, .long x1)]) (h : fn_J7_fill_d0a16 v x1 = some q) : W p l e rm_J7_fill_d0a16 s m args below meth c H locs 0 0 (MQ below (PQ none (fun H => va_P D vwCl (XW ca a q) H) (ad_of 9 a)) args s 0 0 (ad_of 9 a)) (F0 m 0 ls []) := by
  obtain ⟨hx, hb, hr, hml, hown, hts, hlocks⟩ := id C0
  have hD0 := fun v => XW_D (ca := ca) hap v
  unfold fn_J7_fill_d0a16 at h
  refine lv_iconst (v := 0) hx hb dJ7_fill_d0a16_0 (by decide) ?_
  refine lv_istore_n (lv' := [(3, .int 0), (0, .ref (a 1)), (1, .long x1)]) hx hb dJ7_fill_d0a16_1 rfl hl (by decide) rfl (fun ls hl => ?_)
  refine lv_aload_n hx hb dJ7_fill_d0a16_2 rfl (lv_at hl 1 rfl) ?_
  refine va_alen (v := 8) hx hb hK hP 1 0 rfl rfl rfl dJ7_fill_d0a16_3 ?_
  refine lv_istore (lv' := [(4, .int 8), (3, .int 0), (0, .ref (a 1)), (1, .long x1)]) hx hb dJ7_fill_d0a16_4 hl (by decide) rfl (fun ls hl => ?_)
  exact wk_J7_fill_d0a16_6 C0 hap hK hT0  FU v H locs x1 0 8 ls hP hS (lv_sub hl [2, 3, 1, 0] rfl) h
theorem ct_J7_fill_d0a16 (l : Launch) (D : va_G) (ca : Nat → ClassId) (a : Nat → Nat) (tw : Nat) (tt : Nat → Nat) (hap : ap_ok 9 a) (v : XS) (x1 : Int64) {q : XS} (h : fn_J7_fill_d0a16 v x1 = some q) : Mp l yJ7_fill_d0a16 wsJ7_fill_d0a16 rm_J7_fill_d0a16 [.ref (a 1), .long x1] (GW D ca tw tt (ad_of 9 a) (XW ca a v)) none (fun H => va_P D vwCl (XW ca a q) H) (ad_of 9 a) := by
  refine Mp.of (cc := cJ7_fill_d0a16) (nL := 5) (ret := none) (own := RJ7) (by decide) rfl rfl (Nat.le_of_ble_eq_true rfl) ?_
  intro p e s m below meth c ls C0 hB hl
  exact wk_J7_fill_d0a16 C0 hap hB.2.1 hB.2.2 (hP := hB.1) (hS := va_S.rf) (hl := hl) (h := h)
abbrev rm_X6_reset : Room := { frames := 1, cells := 0, slots := 0, locals := 24 }
theorem lk_X6_reset_f38 : Cond.fieldLink RX6 38 "BooleanRing" "n" "I" ∈ wsX6_reset := by decide +kernel
theorem lk_X6_reset_f9 : Cond.fieldLink RX6 9 "BooleanRing" "registers" "[J" ∈ wsX6_reset := by decide +kernel
theorem lk_X6_reset_f20 : Cond.fieldLink RX6 20 "BooleanRing" "history" "LBooleanRing$History;" ∈ wsX6_reset := by decide +kernel
theorem ly_X6_reset_X6 : ∀ w ∈ wsX60, w ∈ wsX6_reset := by decide +kernel
set_option maxHeartbeats 4000000 in
set_option maxRecDepth 100000 in
theorem wk_X6_reset {p : Program} {l : Launch} {e : Env} {s : State} {m : MethodId} {args : Array Value} {below : List Frame} {meth : Method} {c : Code} {D : va_G} {ca : Nat → ClassId} {a : Nat → Nat} {tw : Nat} {tt : Nat → Nat} (C0 : Cx p s m args meth c cX6_reset (some .int) 3 wsX6_reset RX6) (hap : ap_ok 9 a) (hK : va_K D vwCl (tys3 ca) s) (hT0 : tW tw tt (ad_of 9 a) s s.heap) {q : Int32 × XS} (v : XS) (H : Heap) (locs : List Loc) (x1 : Int32) (ls : Array Slot) (hP : va_P D vwCl (XW ca a v) H) (hS : va_S (ad_of 9 a) s.heap H locs) (hl : lv_has ls 3 [(0, .ref (a 0)), (1, .int x1)]) (h : fn_X6_reset v x1 = some q) : W p l e rm_X6_reset s m args below meth c H locs 0 0 (MQ below (PQ (some (.int q.1)) (fun H => va_P D vwCl (XW ca a q.2) H) (ad_of 9 a)) args s 0 0 (ad_of 9 a)) (F0 m 0 ls []) := by
  obtain ⟨hx, hb, hr, hml, hown, hts, hlocks⟩ := id C0
  have hD0 := fun v => XW_D (ca := ca) hap v
  unfold fn_X6_reset at h
  refine lv_iload_n hx hb dX6_reset_0 rfl (lv_at hl 1 rfl) ?_
  refine lv_iconst (v := 1) hx hb dX6_reset_1 (by decide) ?_
  refine lv_icmp_lt (tgt := 11) hx hb dX6_reset_2 (by decide) (fun c2 => ?_) (fun c2 => ?_)
  · replace h := ite_t h c2
    refine lv_iconst (v := (-1)) hx hb dX6_reset_11 (by decide) ?_
    obtain rfl := Option.some.inj h
    exact mp_iret hx hb hr hlocks hP hS dX6_reset_12
  · replace h := ite_f h c2
    refine lv_iload_n hx hb dX6_reset_5 rfl (lv_at hl 1 rfl) ?_
    refine lv_bipush (v := 6) hx hb dX6_reset_6 (by decide) ?_
    refine lv_icmp_le (tgt := 13) hx hb dX6_reset_8 (by decide) (fun c8 => ?_) (fun c8 => ?_)
    · replace h := ite_t h c8
      refine lv_aload_n hx hb dX6_reset_13 rfl (lv_at hl 0 rfl) ?_
      refine va_get (D := D) (ci := 3) (v := .int (x_n v)) (C := RX6) (T := TX6) (N := 6) hx hb hts ly_X6_reset_X6 hown hK hP 0 rfl rfl 5 (by decide) (hts _ lk_X6_reset_f38) (fun _ h9 => h9) rfl dX6_reset_14 ?_
      refine lv_istore_n (lv' := [(2, .int (x_n v)), (0, .ref (a 0)), (1, .int x1)]) hx hb dX6_reset_17 rfl hl (by decide) rfl (fun ls hl => ?_)
      refine lv_aload_n hx hb dX6_reset_18 rfl (lv_at hl 1 rfl) ?_
      refine lv_iload_n hx hb dX6_reset_19 rfl (lv_at hl 2 rfl) ?_
      refine va_put (D := D) (ci := 3) (v := .int x1) (ty := .int) (C := RX6) (T := TX6) (N := 6) hx hb hts ly_X6_reset_X6 tyX6 tyX6_ok nmX6 hown hK hP (hD0 v) hS 0 rfl rfl 5 (by decide) (hts _ lk_X6_reset_f38) (fun _ h9 => h9) rfl (by decide +kernel) rfl rfl (Nat.le_of_ble_eq_true rfl) dX6_reset_20 (fun H locs hP _ hS => ?_)
      have hP : va_P D vwCl (XW ca a (xs_n v x1)) H := hP
      refine lv_aload_n hx hb dX6_reset_23 rfl (lv_at hl 1 rfl) ?_
      refine va_get (D := D) (ci := 3) (v := .ref (a 1)) (C := RX6) (T := TX6) (N := 6) hx hb hts ly_X6_reset_X6 hown hK hP 0 rfl rfl 0 (by decide) (hts _ lk_X6_reset_f9) (fun _ h9 => h9) rfl dX6_reset_24 ?_
      refine lv_lconst (v := 0) hx hb dX6_reset_27 (by decide) ?_
      obtain ⟨q28, e28, h⟩ := Option.bind_eq_some_iff.mp h
      refine mp_S (As := [.ref (a 1), .long 0]) (rest := []) ⟨hx, hb, hml, hown, hts⟩ (ct_J7_fill_d0a16 l D ca a tw tt hap (xs_n v x1) 0 e28) (va_cwS 2 hts gX6_reset_J7_fill_d0a16 rfl rfl rfl (by decide +kernel) ⟨Nat.le_of_ble_eq_true rfl, Nat.le_of_ble_eq_true rfl⟩) GW.mv (GW.from hP hK hT0 hS) hS rfl hl.1 rfl (Nat.le_of_ble_eq_true rfl) dX6_reset_28 ⟨Nat.zero_le _, Nat.zero_le _⟩ (fun H locs hP hS => ?_)
      refine W.eq (g2 := F0 m 31 ls []) rfl ?_
      refine lv_aload_n hx hb dX6_reset_31 rfl (lv_at hl 1 rfl) ?_
      refine va_get (D := D) (ci := 3) (v := .ref (a 3)) (C := RX6) (T := TX6) (N := 6) hx hb hts ly_X6_reset_X6 hown hK hP 0 rfl rfl 2 (by decide) (hts _ lk_X6_reset_f20) (fun _ h9 => h9) rfl dX6_reset_32 ?_
      obtain ⟨q35, e35, h⟩ := Option.bind_eq_some_iff.mp h
      refine mp_V (As := []) (rest := []) (b := (a 3)) ⟨hx, hb, hml, hown, hts⟩ (ct_X1_forget l D ca a tw tt hap q28  e35) (cwV 0 hts gX6_reset_X1_forget rfl rfl rfl (by decide +kernel) ⟨Nat.le_of_ble_eq_true rfl, Nat.le_of_ble_eq_true rfl⟩) (va_recv hK hP (ci := 1) (q0 := 3) rfl rfl) GW.mv (GW.from hP hK hT0 hS) hS rfl hl.1 rfl (Nat.le_of_ble_eq_true rfl) dX6_reset_35 ⟨Nat.zero_le _, Nat.zero_le _⟩ (fun H locs hP hS => ?_)
      refine W.eq (g2 := F0 m 38 ls []) rfl ?_
      refine lv_iload_n hx hb dX6_reset_38 rfl (lv_at hl 0 rfl) ?_
      obtain rfl := Option.some.inj h
      exact mp_iret hx hb hr hlocks hP hS dX6_reset_39
    · replace h := ite_f h c8
      refine lv_iconst (v := (-1)) hx hb dX6_reset_11 (by decide) ?_
      obtain rfl := Option.some.inj h
      exact mp_iret hx hb hr hlocks hP hS dX6_reset_12
theorem ct_X6_reset (l : Launch) (D : va_G) (ca : Nat → ClassId) (a : Nat → Nat) (tw : Nat) (tt : Nat → Nat) (hap : ap_ok 9 a) (v : XS) (x1 : Int32) {q : Int32 × XS} (h : fn_X6_reset v x1 = some q) : Mp l yX6_reset wsX6_reset rm_X6_reset [.ref (a 0), .int x1] (GW D ca tw tt (ad_of 9 a) (XW ca a v)) (some (.int q.1)) (fun H => va_P D vwCl (XW ca a q.2) H) (ad_of 9 a) := by
  refine Mp.of (cc := cX6_reset) (nL := 3) (ret := (some .int)) (own := RX6) (by decide) rfl rfl (Nat.le_of_ble_eq_true rfl) ?_
  intro p e s m below meth c ls C0 hB hl
  exact wk_X6_reset C0 hap hB.2.1 hB.2.2 (hP := hB.1) (hS := va_S.rf) (hl := hl) (h := h)
abbrev rm_X6_variables : Room := { frames := 0, cells := 0, slots := 0, locals := 0 }
theorem lk_X6_variables_f38 : Cond.fieldLink RX6 38 "BooleanRing" "n" "I" ∈ wsX6_variables := by decide +kernel
theorem ly_X6_variables_X6 : ∀ w ∈ wsX60, w ∈ wsX6_variables := by decide +kernel
set_option maxHeartbeats 4000000 in
set_option maxRecDepth 100000 in
theorem wk_X6_variables {p : Program} {l : Launch} {e : Env} {s : State} {m : MethodId} {args : Array Value} {below : List Frame} {meth : Method} {c : Code} {D : va_G} {ca : Nat → ClassId} {a : Nat → Nat} {tw : Nat} {tt : Nat → Nat} (C0 : Cx p s m args meth c cX6_variables (some .int) 1 wsX6_variables RX6) (hK : va_K D vwCl (tys3 ca) s) (hT0 : tW tw tt (ad_of 9 a) s s.heap) (v : XS) (hP : va_P D vwCl (XW ca a v) s.heap) {q : Int32} (ls : Array Slot) (hl : lv_has ls 1 [(0, .ref (a 0))]) (h : fn_X6_variables v  = some q) : W p l e rm_X6_variables s m args below meth c s.heap [] 0 0 (MQ below (HQ (some (.int q))) args s 0 0 (fun _ => False)) (F0 m 0 ls []) := by
  obtain ⟨hx, hb, hr, hml, hown, hts, hlocks⟩ := id C0
  have hS : va_S (ad_of 9 a) s.heap s.heap [] := va_S.rf
  unfold fn_X6_variables at h
  refine lv_aload_n hx hb dX6_variables_0 rfl (lv_at hl 0 rfl) ?_
  refine va_get (D := D) (ci := 3) (v := .int (x_n v)) (C := RX6) (T := TX6) (N := 6) hx hb hts ly_X6_variables_X6 hown hK hP 0 rfl rfl 5 (by decide) (hts _ lk_X6_variables_f38) (fun _ h9 => h9) rfl dX6_variables_1 ?_
  obtain rfl := Option.some.inj h
  exact hp_iret hx hb hr hlocks dX6_variables_4
theorem ct_X6_variables (l : Launch) (D : va_G) (ca : Nat → ClassId) (a : Nat → Nat) (tw : Nat) (tt : Nat → Nat) (v : XS) {q : Int32} (h : fn_X6_variables v  = some q) : Hp l yX6_variables wsX6_variables rm_X6_variables [.ref (a 0)] (GW D ca tw tt (ad_of 9 a) (XW ca a v)) (some (.int q)) := by
  refine Hp.of (cc := cX6_variables) (nL := 1) (ret := (some .int)) (own := RX6) (by decide) rfl rfl (Nat.le_of_ble_eq_true rfl) ?_
  intro p e s m below meth c ls C0 hB hl
  exact wk_X6_variables C0 hB.2.1 hB.2.2 v hB.1 (hl := hl) (h := h)
abbrev rm_X6_isRegister : Room := { frames := 0, cells := 0, slots := 0, locals := 0 }
set_option maxHeartbeats 4000000 in
set_option maxRecDepth 100000 in
theorem wk_X6_isRegister {p : Program} {l : Launch} {e : Env} {s : State} {m : MethodId} {args : Array Value} {below : List Frame} {meth : Method} {c : Code} {tw : Nat} {tt : Nat → Nat} (C0 : Cx p s m args meth c cX6_isRegister (some .boolean) 1 wsX6_isRegister RX6) (hT0 : tW tw tt (fun _ => False) s s.heap) {q : Int32} (x0 : Int32) (ls : Array Slot) (hl : lv_has ls 1 [(0, .int x0)]) (h : fn_X6_isRegister x0 = some q) : W p l e rm_X6_isRegister s m args below meth c s.heap [] 0 0 (MQ below (HQ (some (.int q))) args s 0 0 (fun _ => False)) (F0 m 0 ls []) := by
  obtain ⟨hx, hb, hr, hml, hown, hts, hlocks⟩ := id C0
  have hS : va_S (fun _ => False) s.heap s.heap [] := va_S.rf
  unfold fn_X6_isRegister at h
  refine lv_iload_n hx hb dX6_isRegister_0 rfl (lv_at hl 0 rfl) ?_
  refine lv_if_lt (tgt := 14) hx hb dX6_isRegister_1 (by decide) (fun c1 => ?_) (fun c1 => ?_)
  · replace h := ite_t h c1
    refine lv_iconst (v := 0) hx hb dX6_isRegister_14 (by decide) ?_
    obtain rfl := Option.some.inj h
    exact hp_zret hx hb hr hlocks rfl dX6_isRegister_15
  · replace h := ite_f h c1
    refine lv_iload_n hx hb dX6_isRegister_4 rfl (lv_at hl 0 rfl) ?_
    refine lv_bipush (v := 8) hx hb dX6_isRegister_5 (by decide) ?_
    refine lv_icmp_ge (tgt := 14) hx hb dX6_isRegister_7 (by decide) (fun c7 => ?_) (fun c7 => ?_)
    · replace h := ite_t h c7
      refine lv_iconst (v := 0) hx hb dX6_isRegister_14 (by decide) ?_
      obtain rfl := Option.some.inj h
      exact hp_zret hx hb hr hlocks rfl dX6_isRegister_15
    · replace h := ite_f h c7
      refine lv_iconst (v := 1) hx hb dX6_isRegister_10 (by decide) ?_
      refine lv_goto (tgt := 15) hx hb dX6_isRegister_11 (by decide) ?_
      obtain rfl := Option.some.inj h
      exact hp_zret hx hb hr hlocks rfl dX6_isRegister_15
theorem ct_X6_isRegister (l : Launch) (tw : Nat) (tt : Nat → Nat) (x0 : Int32) {q : Int32} (h : fn_X6_isRegister x0 = some q) : Hp l yX6_isRegister wsX6_isRegister rm_X6_isRegister [.int x0] (GP tw tt) (some (.int q)) := by
  refine Hp.of (cc := cX6_isRegister) (nL := 1) (ret := (some .boolean)) (own := RX6) (by decide) rfl rfl (Nat.le_of_ble_eq_true rfl) ?_
  intro p e s m below meth c ls C0 hB hl
  exact wk_X6_isRegister C0 hB (hl := hl) (h := h)
abbrev rm_X6_isMask : Room := { frames := 0, cells := 0, slots := 0, locals := 0 }
theorem lk_X6_isMask_f38 : Cond.fieldLink RX6 38 "BooleanRing" "n" "I" ∈ wsX6_isMask := by decide +kernel
theorem ly_X6_isMask_X6 : ∀ w ∈ wsX60, w ∈ wsX6_isMask := by decide +kernel
set_option maxHeartbeats 4000000 in
set_option maxRecDepth 100000 in
theorem wk_X6_isMask {p : Program} {l : Launch} {e : Env} {s : State} {m : MethodId} {args : Array Value} {below : List Frame} {meth : Method} {c : Code} {D : va_G} {ca : Nat → ClassId} {a : Nat → Nat} {tw : Nat} {tt : Nat → Nat} (C0 : Cx p s m args meth c cX6_isMask (some .boolean) 2 wsX6_isMask RX6) (hK : va_K D vwCl (tys3 ca) s) (hT0 : tW tw tt (ad_of 9 a) s s.heap) (v : XS) (hP : va_P D vwCl (XW ca a v) s.heap) {q : Int32} (x1 : Int32) (ls : Array Slot) (hl : lv_has ls 2 [(0, .ref (a 0)), (1, .int x1)]) (h : fn_X6_isMask v x1 = some q) : W p l e rm_X6_isMask s m args below meth c s.heap [] 0 0 (MQ below (HQ (some (.int q))) args s 0 0 (fun _ => False)) (F0 m 0 ls []) := by
  obtain ⟨hx, hb, hr, hml, hown, hts, hlocks⟩ := id C0
  have hS : va_S (ad_of 9 a) s.heap s.heap [] := va_S.rf
  unfold fn_X6_isMask at h
  refine lv_iload_n hx hb dX6_isMask_0 rfl (lv_at hl 1 rfl) ?_
  refine lv_if_lt (tgt := 18) hx hb dX6_isMask_1 (by decide) (fun c1 => ?_) (fun c1 => ?_)
  · replace h := ite_t h c1
    refine lv_iconst (v := 0) hx hb dX6_isMask_18 (by decide) ?_
    obtain rfl := Option.some.inj h
    exact hp_zret hx hb hr hlocks rfl dX6_isMask_19
  · replace h := ite_f h c1
    refine lv_iload_n hx hb dX6_isMask_4 rfl (lv_at hl 1 rfl) ?_
    refine lv_iconst (v := 1) hx hb dX6_isMask_5 (by decide) ?_
    refine lv_aload_n hx hb dX6_isMask_6 rfl (lv_at hl 0 rfl) ?_
    refine va_get (D := D) (ci := 3) (v := .int (x_n v)) (C := RX6) (T := TX6) (N := 6) hx hb hts ly_X6_isMask_X6 hown hK hP 0 rfl rfl 5 (by decide) (hts _ lk_X6_isMask_f38) (fun _ h9 => h9) rfl dX6_isMask_7 ?_
    refine lv_ishl hx hb dX6_isMask_10 ?_
    refine lv_icmp_ge (tgt := 18) hx hb dX6_isMask_11 (by decide) (fun c11 => ?_) (fun c11 => ?_)
    · replace h := ite_t h c11
      refine lv_iconst (v := 0) hx hb dX6_isMask_18 (by decide) ?_
      obtain rfl := Option.some.inj h
      exact hp_zret hx hb hr hlocks rfl dX6_isMask_19
    · replace h := ite_f h c11
      refine lv_iconst (v := 1) hx hb dX6_isMask_14 (by decide) ?_
      refine lv_goto (tgt := 19) hx hb dX6_isMask_15 (by decide) ?_
      obtain rfl := Option.some.inj h
      exact hp_zret hx hb hr hlocks rfl dX6_isMask_19
theorem ct_X6_isMask (l : Launch) (D : va_G) (ca : Nat → ClassId) (a : Nat → Nat) (tw : Nat) (tt : Nat → Nat) (v : XS) (x1 : Int32) {q : Int32} (h : fn_X6_isMask v x1 = some q) : Hp l yX6_isMask wsX6_isMask rm_X6_isMask [.ref (a 0), .int x1] (GW D ca tw tt (ad_of 9 a) (XW ca a v)) (some (.int q)) := by
  refine Hp.of (cc := cX6_isMask) (nL := 2) (ret := (some .boolean)) (own := RX6) (by decide) rfl rfl (Nat.le_of_ble_eq_true rfl) ?_
  intro p e s m below meth c ls C0 hB hl
  exact wk_X6_isMask C0 hB.2.1 hB.2.2 v hB.1 (hl := hl) (h := h)
abbrev rm_X6_put : Room := { frames := 2, cells := 0, slots := 0, locals := 47 }
theorem lk_X6_put_f20 : Cond.fieldLink RX6 20 "BooleanRing" "history" "LBooleanRing$History;" ∈ wsX6_put := by decide +kernel
theorem lk_X6_put_f9 : Cond.fieldLink RX6 9 "BooleanRing" "registers" "[J" ∈ wsX6_put := by decide +kernel
theorem ly_X6_put_X6 : ∀ w ∈ wsX60, w ∈ wsX6_put := by decide +kernel
set_option maxHeartbeats 4000000 in
set_option maxRecDepth 100000 in
theorem wk_X6_put_25 {p : Program} {l : Launch} {e : Env} {s : State} {m : MethodId} {args : Array Value} {below : List Frame} {meth : Method} {c : Code} {D : va_G} {ca : Nat → ClassId} {a : Nat → Nat} {tw : Nat} {tt : Nat → Nat} (C0 : Cx p s m args meth c cX6_put (some .int) 4 wsX6_put RX6) (hap : ap_ok 9 a) (hK : va_K D vwCl (tys3 ca) s) (hT0 : tW tw tt (ad_of 9 a) s s.heap) {q : Int32 × XS} (v : XS) (H : Heap) (locs : List Loc) (x2 : Int64) (ls : Array Slot) (hP : va_P D vwCl (XW ca a v) H) (hS : va_S (ad_of 9 a) s.heap H locs) (hl : lv_has ls 4 [(2, .long x2)]) (h : fn_X6_put_25 v x2 = some q) : W p l e rm_X6_put s m args below meth c H locs 0 0 (MQ below (PQ (some (.int q.1)) (fun H => va_P D vwCl (XW ca a q.2) H) (ad_of 9 a)) args s 0 0 (ad_of 9 a)) (F0 m 25 ls []) := by
  obtain ⟨hx, hb, hr, hml, hown, hts, hlocks⟩ := id C0
  have hD0 := fun v => XW_D (ca := ca) hap v
  unfold fn_X6_put_25 at h
  refine lv_lload_n hx hb dX6_put_25 rfl (lv_at hl 0 rfl) ?_
  obtain ⟨q26, e26, h⟩ := Option.bind_eq_some_iff.mp h
  refine hp_S (As := [.long x2]) (rest := []) ⟨hx, hb, hml, hown, hts⟩ (ct_J13_bitCount_95d88 l tw tt x2 e26) (va_cwS 1 hts gX6_put_J13_bitCount_95d88 rfl rfl rfl (by decide +kernel) ⟨Nat.le_of_ble_eq_true rfl, Nat.le_of_ble_eq_true rfl⟩) GP.mv (GP.from hT0 hS) rfl hl.1 rfl (Nat.le_of_ble_eq_true rfl) dX6_put_26 ⟨Nat.zero_le _, Nat.zero_le _⟩ ?_
  refine W.eq (g2 := F0 m 29 ls [.int q26]) rfl ?_
  obtain rfl := Option.some.inj h
  exact mp_iret hx hb hr hlocks hP hS dX6_put_29
set_option maxHeartbeats 4000000 in
set_option maxRecDepth 100000 in
theorem wk_X6_put {p : Program} {l : Launch} {e : Env} {s : State} {m : MethodId} {args : Array Value} {below : List Frame} {meth : Method} {c : Code} {D : va_G} {ca : Nat → ClassId} {a : Nat → Nat} {tw : Nat} {tt : Nat → Nat} (C0 : Cx p s m args meth c cX6_put (some .int) 4 wsX6_put RX6) (hap : ap_ok 9 a) (hK : va_K D vwCl (tys3 ca) s) (hT0 : tW tw tt (ad_of 9 a) s s.heap) {q : Int32 × XS} (v : XS) (H : Heap) (locs : List Loc) (x1 : Int32) (x2 : Int64) (ls : Array Slot) (hP : va_P D vwCl (XW ca a v) H) (hS : va_S (ad_of 9 a) s.heap H locs) (hl : lv_has ls 4 [(0, .ref (a 0)), (1, .int x1), (2, .long x2)]) (h : fn_X6_put v x1 x2 = some q) : W p l e rm_X6_put s m args below meth c H locs 0 0 (MQ below (PQ (some (.int q.1)) (fun H => va_P D vwCl (XW ca a q.2) H) (ad_of 9 a)) args s 0 0 (ad_of 9 a)) (F0 m 0 ls []) := by
  obtain ⟨hx, hb, hr, hml, hown, hts, hlocks⟩ := id C0
  have hD0 := fun v => XW_D (ca := ca) hap v
  unfold fn_X6_put at h
  refine lv_aload_n hx hb dX6_put_0 rfl (lv_at hl 0 rfl) ?_
  refine va_get (D := D) (ci := 3) (v := .ref (a 3)) (C := RX6) (T := TX6) (N := 6) hx hb hts ly_X6_put_X6 hown hK hP 0 rfl rfl 2 (by decide) (hts _ lk_X6_put_f20) (fun _ h9 => h9) rfl dX6_put_1 ?_
  refine lv_aload_n hx hb dX6_put_4 rfl (lv_at hl 0 rfl) ?_
  refine va_get (D := D) (ci := 3) (v := .ref (a 1)) (C := RX6) (T := TX6) (N := 6) hx hb hts ly_X6_put_X6 hown hK hP 0 rfl rfl 0 (by decide) (hts _ lk_X6_put_f9) (fun _ h9 => h9) rfl dX6_put_5 ?_
  obtain ⟨q8, e8, h⟩ := Option.bind_eq_some_iff.mp h
  refine mp_V (As := [.ref (a 1)]) (rest := []) (b := (a 3)) ⟨hx, hb, hml, hown, hts⟩ (ct_X1_keep l D ca a tw tt hap v  e8) (cwV 1 hts gX6_put_X1_keep rfl rfl rfl (by decide +kernel) ⟨Nat.le_of_ble_eq_true rfl, Nat.le_of_ble_eq_true rfl⟩) (va_recv hK hP (ci := 1) (q0 := 3) rfl rfl) GW.mv (GW.from hP hK hT0 hS) hS rfl hl.1 rfl (Nat.le_of_ble_eq_true rfl) dX6_put_8 ⟨Nat.zero_le _, Nat.zero_le _⟩ (fun H locs hP hS => ?_)
  refine W.eq (g2 := F0 m 11 ls []) rfl ?_
  refine lv_iload_n hx hb dX6_put_11 rfl (lv_at hl 1 rfl) ?_
  obtain ⟨q12, e12, h⟩ := Option.bind_eq_some_iff.mp h
  refine hp_S (As := [.int x1]) (rest := []) ⟨hx, hb, hml, hown, hts⟩ (ct_X6_isRegister l tw tt x1 e12) (va_cwS 1 hts gX6_put_X6_isRegister rfl rfl rfl (by decide +kernel) ⟨Nat.le_of_ble_eq_true rfl, Nat.le_of_ble_eq_true rfl⟩) GP.mv (GP.from hT0 hS) rfl hl.1 rfl (Nat.le_of_ble_eq_true rfl) dX6_put_12 ⟨Nat.zero_le _, Nat.zero_le _⟩ ?_
  refine W.eq (g2 := F0 m 15 ls [.int q12]) rfl ?_
  refine lv_if_eq (tgt := 25) hx hb dX6_put_15 (by decide) (fun c15 => ?_) (fun c15 => ?_)
  · replace h := ite_t h c15
    exact wk_X6_put_25 C0 hap hK hT0 (ls := ls) (hP := hP) (hS := hS) (hl := (lv_sub hl [2] rfl)) (h := h)
  · replace h := ite_f h c15
    refine lv_aload_n hx hb dX6_put_18 rfl (lv_at hl 0 rfl) ?_
    refine va_get (D := D) (ci := 3) (v := .ref (a 1)) (C := RX6) (T := TX6) (N := 6) hx hb hts ly_X6_put_X6 hown hK hP 0 rfl rfl 0 (by decide) (hts _ lk_X6_put_f9) (fun _ h9 => h9) rfl dX6_put_19 ?_
    refine lv_iload_n hx hb dX6_put_22 rfl (lv_at hl 1 rfl) ?_
    refine lv_lload_n hx hb dX6_put_23 rfl (lv_at hl 2 rfl) ?_
    obtain ⟨g24, e24, h⟩ := Option.bind_eq_some_iff.mp h
    refine wr_last hx hb hK hP (hD0 q8) hS 1 0 e24 rfl rfl dX6_put_24 (fun H locs hP hS => ?_)
    have hP : va_P D vwCl (XW ca a (xs_regs q8 g24)) H := hP
    exact wk_X6_put_25 C0 hap hK hT0 (ls := ls) (hP := hP) (hS := hS) (hl := (lv_sub hl [2] rfl)) (h := h)
theorem ct_X6_put (l : Launch) (D : va_G) (ca : Nat → ClassId) (a : Nat → Nat) (tw : Nat) (tt : Nat → Nat) (hap : ap_ok 9 a) (v : XS) (x1 : Int32) (x2 : Int64) {q : Int32 × XS} (h : fn_X6_put v x1 x2 = some q) : Mp l yX6_put wsX6_put rm_X6_put [.ref (a 0), .int x1, .long x2] (GW D ca tw tt (ad_of 9 a) (XW ca a v)) (some (.int q.1)) (fun H => va_P D vwCl (XW ca a q.2) H) (ad_of 9 a) := by
  refine Mp.of (cc := cX6_put) (nL := 4) (ret := (some .int)) (own := RX6) (by decide) rfl rfl (Nat.le_of_ble_eq_true rfl) ?_
  intro p e s m below meth c ls C0 hB hl
  exact wk_X6_put C0 hap hB.2.1 hB.2.2 (hP := hB.1) (hS := va_S.rf) (hl := hl) (h := h)
abbrev rm_X6_toggle : Room := { frames := 3, cells := 0, slots := 0, locals := 70 }
theorem lk_X6_toggle_f9 : Cond.fieldLink RX6 9 "BooleanRing" "registers" "[J" ∈ wsX6_toggle := by decide +kernel
theorem ly_X6_toggle_X6 : ∀ w ∈ wsX60, w ∈ wsX6_toggle := by decide +kernel
set_option maxHeartbeats 4000000 in
set_option maxRecDepth 100000 in
theorem wk_X6_toggle {p : Program} {l : Launch} {e : Env} {s : State} {m : MethodId} {args : Array Value} {below : List Frame} {meth : Method} {c : Code} {D : va_G} {ca : Nat → ClassId} {a : Nat → Nat} {tw : Nat} {tt : Nat → Nat} (C0 : Cx p s m args meth c cX6_toggle (some .int) 3 wsX6_toggle RX6) (hap : ap_ok 9 a) (hK : va_K D vwCl (tys3 ca) s) (hT0 : tW tw tt (ad_of 9 a) s s.heap) {q : Int32 × XS} (v : XS) (H : Heap) (locs : List Loc) (x1 : Int32) (x2 : Int32) (ls : Array Slot) (hP : va_P D vwCl (XW ca a v) H) (hS : va_S (ad_of 9 a) s.heap H locs) (hl : lv_has ls 3 [(0, .ref (a 0)), (1, .int x1), (2, .int x2)]) (h : fn_X6_toggle v x1 x2 = some q) : W p l e rm_X6_toggle s m args below meth c H locs 0 0 (MQ below (PQ (some (.int q.1)) (fun H => va_P D vwCl (XW ca a q.2) H) (ad_of 9 a)) args s 0 0 (ad_of 9 a)) (F0 m 0 ls []) := by
  obtain ⟨hx, hb, hr, hml, hown, hts, hlocks⟩ := id C0
  have hD0 := fun v => XW_D (ca := ca) hap v
  unfold fn_X6_toggle at h
  refine lv_iload_n hx hb dX6_toggle_0 rfl (lv_at hl 1 rfl) ?_
  obtain ⟨q1, e1, h⟩ := Option.bind_eq_some_iff.mp h
  refine hp_S (As := [.int x1]) (rest := []) ⟨hx, hb, hml, hown, hts⟩ (ct_X6_isRegister l tw tt x1 e1) (va_cwS 1 hts gX6_toggle_X6_isRegister rfl rfl rfl (by decide +kernel) ⟨Nat.le_of_ble_eq_true rfl, Nat.le_of_ble_eq_true rfl⟩) GP.mv (GP.from hT0 hS) rfl hl.1 rfl (Nat.le_of_ble_eq_true rfl) dX6_toggle_1 ⟨Nat.zero_le _, Nat.zero_le _⟩ ?_
  refine W.eq (g2 := F0 m 4 ls [.int q1]) rfl ?_
  refine lv_if_eq (tgt := 15) hx hb dX6_toggle_4 (by decide) (fun c4 => ?_) (fun c4 => ?_)
  · replace h := ite_t h c4
    refine lv_iconst (v := (-1)) hx hb dX6_toggle_15 (by decide) ?_
    obtain rfl := Option.some.inj h
    exact mp_iret hx hb hr hlocks hP hS dX6_toggle_16
  · replace h := ite_f h c4
    refine lv_aload_n hx hb dX6_toggle_7 rfl (lv_at hl 0 rfl) ?_
    refine lv_iload_n hx hb dX6_toggle_8 rfl (lv_at hl 2 rfl) ?_
    obtain ⟨q9, e9, h⟩ := Option.bind_eq_some_iff.mp h
    refine hp_V (As := [.int x2]) (rest := []) (b := (a 0)) ⟨hx, hb, hml, hown, hts⟩ (ct_X6_isMask l D ca a tw tt v x2 e9) (cwV 1 hts gX6_toggle_X6_isMask rfl rfl rfl (by decide +kernel) ⟨Nat.le_of_ble_eq_true rfl, Nat.le_of_ble_eq_true rfl⟩) (va_recv hK hP (ci := 3) (q0 := 0) rfl rfl) GW.mv (GW.from hP hK hT0 hS) rfl hl.1 rfl (Nat.le_of_ble_eq_true rfl) dX6_toggle_9 ⟨Nat.zero_le _, Nat.zero_le _⟩ ?_
    refine W.eq (g2 := F0 m 12 ls [.int q9]) rfl ?_
    refine lv_if_ne (tgt := 17) hx hb dX6_toggle_12 (by decide) (fun c12 => ?_) (fun c12 => ?_)
    · replace h := ite_f h c12
      refine lv_aload_n hx hb dX6_toggle_17 rfl (lv_at hl 0 rfl) ?_
      refine lv_iload_n hx hb dX6_toggle_18 rfl (lv_at hl 1 rfl) ?_
      refine lv_aload_n hx hb dX6_toggle_19 rfl (lv_at hl 0 rfl) ?_
      refine va_get (D := D) (ci := 3) (v := .ref (a 1)) (C := RX6) (T := TX6) (N := 6) hx hb hts ly_X6_toggle_X6 hown hK hP 0 rfl rfl 0 (by decide) (hts _ lk_X6_toggle_f9) (fun _ h9 => h9) rfl dX6_toggle_20 ?_
      refine lv_iload_n hx hb dX6_toggle_23 rfl (lv_at hl 1 rfl) ?_
      obtain ⟨q24, e24, h⟩ := Option.bind_eq_some_iff.mp h
      refine rd_lald hx hb hK hP 1 0 e24 rfl rfl dX6_toggle_24 ?_
      refine lv_iload_n hx hb dX6_toggle_25 rfl (lv_at hl 2 rfl) ?_
      obtain ⟨q26, e26, h⟩ := Option.bind_eq_some_iff.mp h
      refine hp_S (As := [.int x2]) (rest := [.long q24, .int x1, .ref (a 0)]) ⟨hx, hb, hml, hown, hts⟩ (ct_X3_ofMonomial l tw tt x2 e26) (va_cwS 1 hts gX6_toggle_X3_ofMonomial rfl rfl rfl (by decide +kernel) ⟨Nat.le_of_ble_eq_true rfl, Nat.le_of_ble_eq_true rfl⟩) GP.mv (GP.from hT0 hS) rfl hl.1 rfl (Nat.le_of_ble_eq_true rfl) dX6_toggle_26 ⟨Nat.zero_le _, Nat.zero_le _⟩ ?_
      refine W.eq (g2 := F0 m 29 ls [.long q26, .long q24, .int x1, .ref (a 0)]) rfl ?_
      refine lv_lxor hx hb dX6_toggle_29 ?_
      obtain ⟨q30, e30, h⟩ := Option.bind_eq_some_iff.mp h
      refine mp_V (As := [.int x1, .long (q24 ^^^ q26)]) (rest := []) (b := (a 0)) ⟨hx, hb, hml, hown, hts⟩ (ct_X6_put l D ca a tw tt hap v x1 (q24 ^^^ q26) e30) (cwV 2 hts gX6_toggle_X6_put rfl rfl rfl (by decide +kernel) ⟨Nat.le_of_ble_eq_true rfl, Nat.le_of_ble_eq_true rfl⟩) (va_recv hK hP (ci := 3) (q0 := 0) rfl rfl) GW.mv (GW.from hP hK hT0 hS) hS rfl hl.1 rfl (Nat.le_of_ble_eq_true rfl) dX6_toggle_30 ⟨Nat.zero_le _, Nat.zero_le _⟩ (fun H locs hP hS => ?_)
      refine W.eq (g2 := F0 m 33 ls [.int q30.1]) rfl ?_
      obtain rfl := Option.some.inj h
      exact mp_iret hx hb hr hlocks hP hS dX6_toggle_33
    · replace h := ite_t h c12
      refine lv_iconst (v := (-1)) hx hb dX6_toggle_15 (by decide) ?_
      obtain rfl := Option.some.inj h
      exact mp_iret hx hb hr hlocks hP hS dX6_toggle_16
theorem ct_X6_toggle (l : Launch) (D : va_G) (ca : Nat → ClassId) (a : Nat → Nat) (tw : Nat) (tt : Nat → Nat) (hap : ap_ok 9 a) (v : XS) (x1 : Int32) (x2 : Int32) {q : Int32 × XS} (h : fn_X6_toggle v x1 x2 = some q) : Mp l yX6_toggle wsX6_toggle rm_X6_toggle [.ref (a 0), .int x1, .int x2] (GW D ca tw tt (ad_of 9 a) (XW ca a v)) (some (.int q.1)) (fun H => va_P D vwCl (XW ca a q.2) H) (ad_of 9 a) := by
  refine Mp.of (cc := cX6_toggle) (nL := 3) (ret := (some .int)) (own := RX6) (by decide) rfl rfl (Nat.le_of_ble_eq_true rfl) ?_
  intro p e s m below meth c ls C0 hB hl
  exact wk_X6_toggle C0 hap hB.2.1 hB.2.2 (hP := hB.1) (hS := va_S.rf) (hl := hl) (h := h)
abbrev rm_X6_copy : Room := { frames := 3, cells := 0, slots := 0, locals := 70 }
theorem lk_X6_copy_f9 : Cond.fieldLink RX6 9 "BooleanRing" "registers" "[J" ∈ wsX6_copy := by decide +kernel
theorem ly_X6_copy_X6 : ∀ w ∈ wsX60, w ∈ wsX6_copy := by decide +kernel
set_option maxHeartbeats 4000000 in
set_option maxRecDepth 100000 in
theorem wk_X6_copy {p : Program} {l : Launch} {e : Env} {s : State} {m : MethodId} {args : Array Value} {below : List Frame} {meth : Method} {c : Code} {D : va_G} {ca : Nat → ClassId} {a : Nat → Nat} {tw : Nat} {tt : Nat → Nat} (C0 : Cx p s m args meth c cX6_copy (some .int) 3 wsX6_copy RX6) (hap : ap_ok 9 a) (hK : va_K D vwCl (tys3 ca) s) (hT0 : tW tw tt (ad_of 9 a) s s.heap) {q : Int32 × XS} (v : XS) (H : Heap) (locs : List Loc) (x1 : Int32) (x2 : Int32) (ls : Array Slot) (hP : va_P D vwCl (XW ca a v) H) (hS : va_S (ad_of 9 a) s.heap H locs) (hl : lv_has ls 3 [(0, .ref (a 0)), (1, .int x1), (2, .int x2)]) (h : fn_X6_copy v x1 x2 = some q) : W p l e rm_X6_copy s m args below meth c H locs 0 0 (MQ below (PQ (some (.int q.1)) (fun H => va_P D vwCl (XW ca a q.2) H) (ad_of 9 a)) args s 0 0 (ad_of 9 a)) (F0 m 0 ls []) := by
  obtain ⟨hx, hb, hr, hml, hown, hts, hlocks⟩ := id C0
  have hD0 := fun v => XW_D (ca := ca) hap v
  unfold fn_X6_copy at h
  refine lv_iload_n hx hb dX6_copy_0 rfl (lv_at hl 1 rfl) ?_
  obtain ⟨q1, e1, h⟩ := Option.bind_eq_some_iff.mp h
  refine hp_S (As := [.int x1]) (rest := []) ⟨hx, hb, hml, hown, hts⟩ (ct_X6_isRegister l tw tt x1 e1) (va_cwS 1 hts gX6_copy_X6_isRegister rfl rfl rfl (by decide +kernel) ⟨Nat.le_of_ble_eq_true rfl, Nat.le_of_ble_eq_true rfl⟩) GP.mv (GP.from hT0 hS) rfl hl.1 rfl (Nat.le_of_ble_eq_true rfl) dX6_copy_1 ⟨Nat.zero_le _, Nat.zero_le _⟩ ?_
  refine W.eq (g2 := F0 m 4 ls [.int q1]) rfl ?_
  refine lv_if_eq (tgt := 14) hx hb dX6_copy_4 (by decide) (fun c4 => ?_) (fun c4 => ?_)
  · replace h := ite_t h c4
    refine lv_iconst (v := (-1)) hx hb dX6_copy_14 (by decide) ?_
    obtain rfl := Option.some.inj h
    exact mp_iret hx hb hr hlocks hP hS dX6_copy_15
  · replace h := ite_f h c4
    refine lv_iload_n hx hb dX6_copy_7 rfl (lv_at hl 2 rfl) ?_
    obtain ⟨q8, e8, h⟩ := Option.bind_eq_some_iff.mp h
    refine hp_S (As := [.int x2]) (rest := []) ⟨hx, hb, hml, hown, hts⟩ (ct_X6_isRegister l tw tt x2 e8) (va_cwS 1 hts gX6_copy_X6_isRegister rfl rfl rfl (by decide +kernel) ⟨Nat.le_of_ble_eq_true rfl, Nat.le_of_ble_eq_true rfl⟩) GP.mv (GP.from hT0 hS) rfl hl.1 rfl (Nat.le_of_ble_eq_true rfl) dX6_copy_8 ⟨Nat.zero_le _, Nat.zero_le _⟩ ?_
    refine W.eq (g2 := F0 m 11 ls [.int q8]) rfl ?_
    refine lv_if_ne (tgt := 16) hx hb dX6_copy_11 (by decide) (fun c11 => ?_) (fun c11 => ?_)
    · replace h := ite_f h c11
      refine lv_aload_n hx hb dX6_copy_16 rfl (lv_at hl 0 rfl) ?_
      refine lv_iload_n hx hb dX6_copy_17 rfl (lv_at hl 2 rfl) ?_
      refine lv_aload_n hx hb dX6_copy_18 rfl (lv_at hl 0 rfl) ?_
      refine va_get (D := D) (ci := 3) (v := .ref (a 1)) (C := RX6) (T := TX6) (N := 6) hx hb hts ly_X6_copy_X6 hown hK hP 0 rfl rfl 0 (by decide) (hts _ lk_X6_copy_f9) (fun _ h9 => h9) rfl dX6_copy_19 ?_
      refine lv_iload_n hx hb dX6_copy_22 rfl (lv_at hl 1 rfl) ?_
      obtain ⟨q23, e23, h⟩ := Option.bind_eq_some_iff.mp h
      refine rd_lald hx hb hK hP 1 0 e23 rfl rfl dX6_copy_23 ?_
      obtain ⟨q24, e24, h⟩ := Option.bind_eq_some_iff.mp h
      refine mp_V (As := [.int x2, .long q23]) (rest := []) (b := (a 0)) ⟨hx, hb, hml, hown, hts⟩ (ct_X6_put l D ca a tw tt hap v x2 q23 e24) (cwV 2 hts gX6_copy_X6_put rfl rfl rfl (by decide +kernel) ⟨Nat.le_of_ble_eq_true rfl, Nat.le_of_ble_eq_true rfl⟩) (va_recv hK hP (ci := 3) (q0 := 0) rfl rfl) GW.mv (GW.from hP hK hT0 hS) hS rfl hl.1 rfl (Nat.le_of_ble_eq_true rfl) dX6_copy_24 ⟨Nat.zero_le _, Nat.zero_le _⟩ (fun H locs hP hS => ?_)
      refine W.eq (g2 := F0 m 27 ls [.int q24.1]) rfl ?_
      obtain rfl := Option.some.inj h
      exact mp_iret hx hb hr hlocks hP hS dX6_copy_27
    · replace h := ite_t h c11
      refine lv_iconst (v := (-1)) hx hb dX6_copy_14 (by decide) ?_
      obtain rfl := Option.some.inj h
      exact mp_iret hx hb hr hlocks hP hS dX6_copy_15
theorem ct_X6_copy (l : Launch) (D : va_G) (ca : Nat → ClassId) (a : Nat → Nat) (tw : Nat) (tt : Nat → Nat) (hap : ap_ok 9 a) (v : XS) (x1 : Int32) (x2 : Int32) {q : Int32 × XS} (h : fn_X6_copy v x1 x2 = some q) : Mp l yX6_copy wsX6_copy rm_X6_copy [.ref (a 0), .int x1, .int x2] (GW D ca tw tt (ad_of 9 a) (XW ca a v)) (some (.int q.1)) (fun H => va_P D vwCl (XW ca a q.2) H) (ad_of 9 a) := by
  refine Mp.of (cc := cX6_copy) (nL := 3) (ret := (some .int)) (own := RX6) (by decide) rfl rfl (Nat.le_of_ble_eq_true rfl) ?_
  intro p e s m below meth c ls C0 hB hl
  exact wk_X6_copy C0 hap hB.2.1 hB.2.2 (hP := hB.1) (hS := va_S.rf) (hl := hl) (h := h)
abbrev rm_X6_sum : Room := { frames := 3, cells := 0, slots := 0, locals := 70 }
theorem lk_X6_sum_f9 : Cond.fieldLink RX6 9 "BooleanRing" "registers" "[J" ∈ wsX6_sum := by decide +kernel
theorem ly_X6_sum_X6 : ∀ w ∈ wsX60, w ∈ wsX6_sum := by decide +kernel
set_option maxHeartbeats 4000000 in
set_option maxRecDepth 100000 in
theorem wk_X6_sum {p : Program} {l : Launch} {e : Env} {s : State} {m : MethodId} {args : Array Value} {below : List Frame} {meth : Method} {c : Code} {D : va_G} {ca : Nat → ClassId} {a : Nat → Nat} {tw : Nat} {tt : Nat → Nat} (C0 : Cx p s m args meth c cX6_sum (some .int) 4 wsX6_sum RX6) (hap : ap_ok 9 a) (hK : va_K D vwCl (tys3 ca) s) (hT0 : tW tw tt (ad_of 9 a) s s.heap) {q : Int32 × XS} (v : XS) (H : Heap) (locs : List Loc) (x1 : Int32) (x2 : Int32) (x3 : Int32) (ls : Array Slot) (hP : va_P D vwCl (XW ca a v) H) (hS : va_S (ad_of 9 a) s.heap H locs) (hl : lv_has ls 4 [(0, .ref (a 0)), (1, .int x1), (2, .int x2), (3, .int x3)]) (h : fn_X6_sum v x1 x2 x3 = some q) : W p l e rm_X6_sum s m args below meth c H locs 0 0 (MQ below (PQ (some (.int q.1)) (fun H => va_P D vwCl (XW ca a q.2) H) (ad_of 9 a)) args s 0 0 (ad_of 9 a)) (F0 m 0 ls []) := by
  obtain ⟨hx, hb, hr, hml, hown, hts, hlocks⟩ := id C0
  have hD0 := fun v => XW_D (ca := ca) hap v
  unfold fn_X6_sum at h
  refine lv_iload_n hx hb dX6_sum_0 rfl (lv_at hl 1 rfl) ?_
  obtain ⟨q1, e1, h⟩ := Option.bind_eq_some_iff.mp h
  refine hp_S (As := [.int x1]) (rest := []) ⟨hx, hb, hml, hown, hts⟩ (ct_X6_isRegister l tw tt x1 e1) (va_cwS 1 hts gX6_sum_X6_isRegister rfl rfl rfl (by decide +kernel) ⟨Nat.le_of_ble_eq_true rfl, Nat.le_of_ble_eq_true rfl⟩) GP.mv (GP.from hT0 hS) rfl hl.1 rfl (Nat.le_of_ble_eq_true rfl) dX6_sum_1 ⟨Nat.zero_le _, Nat.zero_le _⟩ ?_
  refine W.eq (g2 := F0 m 4 ls [.int q1]) rfl ?_
  refine lv_if_eq (tgt := 21) hx hb dX6_sum_4 (by decide) (fun c4 => ?_) (fun c4 => ?_)
  · replace h := ite_t h c4
    refine lv_iconst (v := (-1)) hx hb dX6_sum_21 (by decide) ?_
    obtain rfl := Option.some.inj h
    exact mp_iret hx hb hr hlocks hP hS dX6_sum_22
  · replace h := ite_f h c4
    refine lv_iload_n hx hb dX6_sum_7 rfl (lv_at hl 2 rfl) ?_
    obtain ⟨q8, e8, h⟩ := Option.bind_eq_some_iff.mp h
    refine hp_S (As := [.int x2]) (rest := []) ⟨hx, hb, hml, hown, hts⟩ (ct_X6_isRegister l tw tt x2 e8) (va_cwS 1 hts gX6_sum_X6_isRegister rfl rfl rfl (by decide +kernel) ⟨Nat.le_of_ble_eq_true rfl, Nat.le_of_ble_eq_true rfl⟩) GP.mv (GP.from hT0 hS) rfl hl.1 rfl (Nat.le_of_ble_eq_true rfl) dX6_sum_8 ⟨Nat.zero_le _, Nat.zero_le _⟩ ?_
    refine W.eq (g2 := F0 m 11 ls [.int q8]) rfl ?_
    refine lv_if_eq (tgt := 21) hx hb dX6_sum_11 (by decide) (fun c11 => ?_) (fun c11 => ?_)
    · replace h := ite_t h c11
      refine lv_iconst (v := (-1)) hx hb dX6_sum_21 (by decide) ?_
      obtain rfl := Option.some.inj h
      exact mp_iret hx hb hr hlocks hP hS dX6_sum_22
    · replace h := ite_f h c11
      refine lv_iload_n hx hb dX6_sum_14 rfl (lv_at hl 3 rfl) ?_
      obtain ⟨q15, e15, h⟩ := Option.bind_eq_some_iff.mp h
      refine hp_S (As := [.int x3]) (rest := []) ⟨hx, hb, hml, hown, hts⟩ (ct_X6_isRegister l tw tt x3 e15) (va_cwS 1 hts gX6_sum_X6_isRegister rfl rfl rfl (by decide +kernel) ⟨Nat.le_of_ble_eq_true rfl, Nat.le_of_ble_eq_true rfl⟩) GP.mv (GP.from hT0 hS) rfl hl.1 rfl (Nat.le_of_ble_eq_true rfl) dX6_sum_15 ⟨Nat.zero_le _, Nat.zero_le _⟩ ?_
      refine W.eq (g2 := F0 m 18 ls [.int q15]) rfl ?_
      refine lv_if_ne (tgt := 23) hx hb dX6_sum_18 (by decide) (fun c18 => ?_) (fun c18 => ?_)
      · replace h := ite_f h c18
        refine lv_aload_n hx hb dX6_sum_23 rfl (lv_at hl 0 rfl) ?_
        refine lv_iload_n hx hb dX6_sum_24 rfl (lv_at hl 3 rfl) ?_
        refine lv_aload_n hx hb dX6_sum_25 rfl (lv_at hl 0 rfl) ?_
        refine va_get (D := D) (ci := 3) (v := .ref (a 1)) (C := RX6) (T := TX6) (N := 6) hx hb hts ly_X6_sum_X6 hown hK hP 0 rfl rfl 0 (by decide) (hts _ lk_X6_sum_f9) (fun _ h9 => h9) rfl dX6_sum_26 ?_
        refine lv_iload_n hx hb dX6_sum_29 rfl (lv_at hl 1 rfl) ?_
        obtain ⟨q30, e30, h⟩ := Option.bind_eq_some_iff.mp h
        refine rd_lald hx hb hK hP 1 0 e30 rfl rfl dX6_sum_30 ?_
        refine lv_aload_n hx hb dX6_sum_31 rfl (lv_at hl 0 rfl) ?_
        refine va_get (D := D) (ci := 3) (v := .ref (a 1)) (C := RX6) (T := TX6) (N := 6) hx hb hts ly_X6_sum_X6 hown hK hP 0 rfl rfl 0 (by decide) (hts _ lk_X6_sum_f9) (fun _ h9 => h9) rfl dX6_sum_32 ?_
        refine lv_iload_n hx hb dX6_sum_35 rfl (lv_at hl 2 rfl) ?_
        obtain ⟨q36, e36, h⟩ := Option.bind_eq_some_iff.mp h
        refine rd_lald hx hb hK hP 1 0 e36 rfl rfl dX6_sum_36 ?_
        refine lv_lxor hx hb dX6_sum_37 ?_
        obtain ⟨q38, e38, h⟩ := Option.bind_eq_some_iff.mp h
        refine mp_V (As := [.int x3, .long (q30 ^^^ q36)]) (rest := []) (b := (a 0)) ⟨hx, hb, hml, hown, hts⟩ (ct_X6_put l D ca a tw tt hap v x3 (q30 ^^^ q36) e38) (cwV 2 hts gX6_sum_X6_put rfl rfl rfl (by decide +kernel) ⟨Nat.le_of_ble_eq_true rfl, Nat.le_of_ble_eq_true rfl⟩) (va_recv hK hP (ci := 3) (q0 := 0) rfl rfl) GW.mv (GW.from hP hK hT0 hS) hS rfl hl.1 rfl (Nat.le_of_ble_eq_true rfl) dX6_sum_38 ⟨Nat.zero_le _, Nat.zero_le _⟩ (fun H locs hP hS => ?_)
        refine W.eq (g2 := F0 m 41 ls [.int q38.1]) rfl ?_
        obtain rfl := Option.some.inj h
        exact mp_iret hx hb hr hlocks hP hS dX6_sum_41
      · replace h := ite_t h c18
        refine lv_iconst (v := (-1)) hx hb dX6_sum_21 (by decide) ?_
        obtain rfl := Option.some.inj h
        exact mp_iret hx hb hr hlocks hP hS dX6_sum_22
theorem ct_X6_sum (l : Launch) (D : va_G) (ca : Nat → ClassId) (a : Nat → Nat) (tw : Nat) (tt : Nat → Nat) (hap : ap_ok 9 a) (v : XS) (x1 : Int32) (x2 : Int32) (x3 : Int32) {q : Int32 × XS} (h : fn_X6_sum v x1 x2 x3 = some q) : Mp l yX6_sum wsX6_sum rm_X6_sum [.ref (a 0), .int x1, .int x2, .int x3] (GW D ca tw tt (ad_of 9 a) (XW ca a v)) (some (.int q.1)) (fun H => va_P D vwCl (XW ca a q.2) H) (ad_of 9 a) := by
  refine Mp.of (cc := cX6_sum) (nL := 4) (ret := (some .int)) (own := RX6) (by decide) rfl rfl (Nat.le_of_ble_eq_true rfl) ?_
  intro p e s m below meth c ls C0 hB hl
  exact wk_X6_sum C0 hap hB.2.1 hB.2.2 (hP := hB.1) (hS := va_S.rf) (hl := hl) (h := h)
abbrev rm_X6_product : Room := { frames := 4, cells := 0, slots := 0, locals := 91 }
theorem lk_X6_product_f9 : Cond.fieldLink RX6 9 "BooleanRing" "registers" "[J" ∈ wsX6_product := by decide +kernel
theorem lk_X6_product_f38 : Cond.fieldLink RX6 38 "BooleanRing" "n" "I" ∈ wsX6_product := by decide +kernel
theorem ly_X6_product_X6 : ∀ w ∈ wsX60, w ∈ wsX6_product := by decide +kernel
set_option maxHeartbeats 4000000 in
set_option maxRecDepth 100000 in
theorem wk_X6_product {p : Program} {l : Launch} {e : Env} {s : State} {m : MethodId} {args : Array Value} {below : List Frame} {meth : Method} {c : Code} {D : va_G} {ca : Nat → ClassId} {a : Nat → Nat} {tw : Nat} {tt : Nat → Nat} (C0 : Cx p s m args meth c cX6_product (some .int) 4 wsX6_product RX6) (hap : ap_ok 9 a) (hK : va_K D vwCl (tys3 ca) s) (hT0 : tW tw tt (ad_of 9 a) s s.heap) {q : Int32 × XS} (v : XS) (H : Heap) (locs : List Loc) (x1 : Int32) (x2 : Int32) (x3 : Int32) (ls : Array Slot) (hP : va_P D vwCl (XW ca a v) H) (hS : va_S (ad_of 9 a) s.heap H locs) (hl : lv_has ls 4 [(0, .ref (a 0)), (1, .int x1), (2, .int x2), (3, .int x3)]) (h : fn_X6_product v x1 x2 x3 = some q) : W p l e rm_X6_product s m args below meth c H locs 0 0 (MQ below (PQ (some (.int q.1)) (fun H => va_P D vwCl (XW ca a q.2) H) (ad_of 9 a)) args s 0 0 (ad_of 9 a)) (F0 m 0 ls []) := by
  obtain ⟨hx, hb, hr, hml, hown, hts, hlocks⟩ := id C0
  have hD0 := fun v => XW_D (ca := ca) hap v
  unfold fn_X6_product at h
  refine lv_iload_n hx hb dX6_product_0 rfl (lv_at hl 1 rfl) ?_
  obtain ⟨q1, e1, h⟩ := Option.bind_eq_some_iff.mp h
  refine hp_S (As := [.int x1]) (rest := []) ⟨hx, hb, hml, hown, hts⟩ (ct_X6_isRegister l tw tt x1 e1) (va_cwS 1 hts gX6_product_X6_isRegister rfl rfl rfl (by decide +kernel) ⟨Nat.le_of_ble_eq_true rfl, Nat.le_of_ble_eq_true rfl⟩) GP.mv (GP.from hT0 hS) rfl hl.1 rfl (Nat.le_of_ble_eq_true rfl) dX6_product_1 ⟨Nat.zero_le _, Nat.zero_le _⟩ ?_
  refine W.eq (g2 := F0 m 4 ls [.int q1]) rfl ?_
  refine lv_if_eq (tgt := 21) hx hb dX6_product_4 (by decide) (fun c4 => ?_) (fun c4 => ?_)
  · replace h := ite_t h c4
    refine lv_iconst (v := (-1)) hx hb dX6_product_21 (by decide) ?_
    obtain rfl := Option.some.inj h
    exact mp_iret hx hb hr hlocks hP hS dX6_product_22
  · replace h := ite_f h c4
    refine lv_iload_n hx hb dX6_product_7 rfl (lv_at hl 2 rfl) ?_
    obtain ⟨q8, e8, h⟩ := Option.bind_eq_some_iff.mp h
    refine hp_S (As := [.int x2]) (rest := []) ⟨hx, hb, hml, hown, hts⟩ (ct_X6_isRegister l tw tt x2 e8) (va_cwS 1 hts gX6_product_X6_isRegister rfl rfl rfl (by decide +kernel) ⟨Nat.le_of_ble_eq_true rfl, Nat.le_of_ble_eq_true rfl⟩) GP.mv (GP.from hT0 hS) rfl hl.1 rfl (Nat.le_of_ble_eq_true rfl) dX6_product_8 ⟨Nat.zero_le _, Nat.zero_le _⟩ ?_
    refine W.eq (g2 := F0 m 11 ls [.int q8]) rfl ?_
    refine lv_if_eq (tgt := 21) hx hb dX6_product_11 (by decide) (fun c11 => ?_) (fun c11 => ?_)
    · replace h := ite_t h c11
      refine lv_iconst (v := (-1)) hx hb dX6_product_21 (by decide) ?_
      obtain rfl := Option.some.inj h
      exact mp_iret hx hb hr hlocks hP hS dX6_product_22
    · replace h := ite_f h c11
      refine lv_iload_n hx hb dX6_product_14 rfl (lv_at hl 3 rfl) ?_
      obtain ⟨q15, e15, h⟩ := Option.bind_eq_some_iff.mp h
      refine hp_S (As := [.int x3]) (rest := []) ⟨hx, hb, hml, hown, hts⟩ (ct_X6_isRegister l tw tt x3 e15) (va_cwS 1 hts gX6_product_X6_isRegister rfl rfl rfl (by decide +kernel) ⟨Nat.le_of_ble_eq_true rfl, Nat.le_of_ble_eq_true rfl⟩) GP.mv (GP.from hT0 hS) rfl hl.1 rfl (Nat.le_of_ble_eq_true rfl) dX6_product_15 ⟨Nat.zero_le _, Nat.zero_le _⟩ ?_
      refine W.eq (g2 := F0 m 18 ls [.int q15]) rfl ?_
      refine lv_if_ne (tgt := 23) hx hb dX6_product_18 (by decide) (fun c18 => ?_) (fun c18 => ?_)
      · replace h := ite_f h c18
        refine lv_aload_n hx hb dX6_product_23 rfl (lv_at hl 0 rfl) ?_
        refine lv_iload_n hx hb dX6_product_24 rfl (lv_at hl 3 rfl) ?_
        refine lv_aload_n hx hb dX6_product_25 rfl (lv_at hl 0 rfl) ?_
        refine va_get (D := D) (ci := 3) (v := .ref (a 1)) (C := RX6) (T := TX6) (N := 6) hx hb hts ly_X6_product_X6 hown hK hP 0 rfl rfl 0 (by decide) (hts _ lk_X6_product_f9) (fun _ h9 => h9) rfl dX6_product_26 ?_
        refine lv_iload_n hx hb dX6_product_29 rfl (lv_at hl 1 rfl) ?_
        obtain ⟨q30, e30, h⟩ := Option.bind_eq_some_iff.mp h
        refine rd_lald hx hb hK hP 1 0 e30 rfl rfl dX6_product_30 ?_
        refine lv_aload_n hx hb dX6_product_31 rfl (lv_at hl 0 rfl) ?_
        refine va_get (D := D) (ci := 3) (v := .ref (a 1)) (C := RX6) (T := TX6) (N := 6) hx hb hts ly_X6_product_X6 hown hK hP 0 rfl rfl 0 (by decide) (hts _ lk_X6_product_f9) (fun _ h9 => h9) rfl dX6_product_32 ?_
        refine lv_iload_n hx hb dX6_product_35 rfl (lv_at hl 2 rfl) ?_
        obtain ⟨q36, e36, h⟩ := Option.bind_eq_some_iff.mp h
        refine rd_lald hx hb hK hP 1 0 e36 rfl rfl dX6_product_36 ?_
        refine lv_aload_n hx hb dX6_product_37 rfl (lv_at hl 0 rfl) ?_
        refine va_get (D := D) (ci := 3) (v := .int (x_n v)) (C := RX6) (T := TX6) (N := 6) hx hb hts ly_X6_product_X6 hown hK hP 0 rfl rfl 5 (by decide) (hts _ lk_X6_product_f38) (fun _ h9 => h9) rfl dX6_product_38 ?_
        obtain ⟨q41, e41, h⟩ := Option.bind_eq_some_iff.mp h
        refine hp_S (As := [.long q30, .long q36, .int (x_n v)]) (rest := [.int x3, .ref (a 0)]) ⟨hx, hb, hml, hown, hts⟩ (ct_X3_multiplied l tw tt q30 q36 (x_n v) e41) (va_cwS 3 hts gX6_product_X3_multiplied rfl rfl rfl (by decide +kernel) ⟨Nat.le_of_ble_eq_true rfl, Nat.le_of_ble_eq_true rfl⟩) GP.mv (GP.from hT0 hS) rfl hl.1 rfl (Nat.le_of_ble_eq_true rfl) dX6_product_41 ⟨Nat.zero_le _, Nat.zero_le _⟩ ?_
        refine W.eq (g2 := F0 m 44 ls [.long q41, .int x3, .ref (a 0)]) rfl ?_
        obtain ⟨q44, e44, h⟩ := Option.bind_eq_some_iff.mp h
        refine mp_V (As := [.int x3, .long q41]) (rest := []) (b := (a 0)) ⟨hx, hb, hml, hown, hts⟩ (ct_X6_put l D ca a tw tt hap v x3 q41 e44) (cwV 2 hts gX6_product_X6_put rfl rfl rfl (by decide +kernel) ⟨Nat.le_of_ble_eq_true rfl, Nat.le_of_ble_eq_true rfl⟩) (va_recv hK hP (ci := 3) (q0 := 0) rfl rfl) GW.mv (GW.from hP hK hT0 hS) hS rfl hl.1 rfl (Nat.le_of_ble_eq_true rfl) dX6_product_44 ⟨Nat.zero_le _, Nat.zero_le _⟩ (fun H locs hP hS => ?_)
        refine W.eq (g2 := F0 m 47 ls [.int q44.1]) rfl ?_
        obtain rfl := Option.some.inj h
        exact mp_iret hx hb hr hlocks hP hS dX6_product_47
      · replace h := ite_t h c18
        refine lv_iconst (v := (-1)) hx hb dX6_product_21 (by decide) ?_
        obtain rfl := Option.some.inj h
        exact mp_iret hx hb hr hlocks hP hS dX6_product_22
theorem ct_X6_product (l : Launch) (D : va_G) (ca : Nat → ClassId) (a : Nat → Nat) (tw : Nat) (tt : Nat → Nat) (hap : ap_ok 9 a) (v : XS) (x1 : Int32) (x2 : Int32) (x3 : Int32) {q : Int32 × XS} (h : fn_X6_product v x1 x2 x3 = some q) : Mp l yX6_product wsX6_product rm_X6_product [.ref (a 0), .int x1, .int x2, .int x3] (GW D ca tw tt (ad_of 9 a) (XW ca a v)) (some (.int q.1)) (fun H => va_P D vwCl (XW ca a q.2) H) (ad_of 9 a) := by
  refine Mp.of (cc := cX6_product) (nL := 4) (ret := (some .int)) (own := RX6) (by decide) rfl rfl (Nat.le_of_ble_eq_true rfl) ?_
  intro p e s m below meth c ls C0 hB hl
  exact wk_X6_product C0 hap hB.2.1 hB.2.2 (hP := hB.1) (hS := va_S.rf) (hl := hl) (h := h)
abbrev rm_X6_times : Room := { frames := 4, cells := 0, slots := 0, locals := 91 }
theorem lk_X6_times_f9 : Cond.fieldLink RX6 9 "BooleanRing" "registers" "[J" ∈ wsX6_times := by decide +kernel
theorem lk_X6_times_f38 : Cond.fieldLink RX6 38 "BooleanRing" "n" "I" ∈ wsX6_times := by decide +kernel
theorem ly_X6_times_X6 : ∀ w ∈ wsX60, w ∈ wsX6_times := by decide +kernel
set_option maxHeartbeats 4000000 in
set_option maxRecDepth 100000 in
theorem wk_X6_times {p : Program} {l : Launch} {e : Env} {s : State} {m : MethodId} {args : Array Value} {below : List Frame} {meth : Method} {c : Code} {D : va_G} {ca : Nat → ClassId} {a : Nat → Nat} {tw : Nat} {tt : Nat → Nat} (C0 : Cx p s m args meth c cX6_times (some .int) 4 wsX6_times RX6) (hap : ap_ok 9 a) (hK : va_K D vwCl (tys3 ca) s) (hT0 : tW tw tt (ad_of 9 a) s s.heap) {q : Int32 × XS} (v : XS) (H : Heap) (locs : List Loc) (x1 : Int32) (x2 : Int32) (x3 : Int32) (ls : Array Slot) (hP : va_P D vwCl (XW ca a v) H) (hS : va_S (ad_of 9 a) s.heap H locs) (hl : lv_has ls 4 [(0, .ref (a 0)), (1, .int x1), (2, .int x2), (3, .int x3)]) (h : fn_X6_times v x1 x2 x3 = some q) : W p l e rm_X6_times s m args below meth c H locs 0 0 (MQ below (PQ (some (.int q.1)) (fun H => va_P D vwCl (XW ca a q.2) H) (ad_of 9 a)) args s 0 0 (ad_of 9 a)) (F0 m 0 ls []) := by
  obtain ⟨hx, hb, hr, hml, hown, hts, hlocks⟩ := id C0
  have hD0 := fun v => XW_D (ca := ca) hap v
  unfold fn_X6_times at h
  refine lv_iload_n hx hb dX6_times_0 rfl (lv_at hl 1 rfl) ?_
  obtain ⟨q1, e1, h⟩ := Option.bind_eq_some_iff.mp h
  refine hp_S (As := [.int x1]) (rest := []) ⟨hx, hb, hml, hown, hts⟩ (ct_X6_isRegister l tw tt x1 e1) (va_cwS 1 hts gX6_times_X6_isRegister rfl rfl rfl (by decide +kernel) ⟨Nat.le_of_ble_eq_true rfl, Nat.le_of_ble_eq_true rfl⟩) GP.mv (GP.from hT0 hS) rfl hl.1 rfl (Nat.le_of_ble_eq_true rfl) dX6_times_1 ⟨Nat.zero_le _, Nat.zero_le _⟩ ?_
  refine W.eq (g2 := F0 m 4 ls [.int q1]) rfl ?_
  refine lv_if_eq (tgt := 22) hx hb dX6_times_4 (by decide) (fun c4 => ?_) (fun c4 => ?_)
  · replace h := ite_t h c4
    refine lv_iconst (v := (-1)) hx hb dX6_times_22 (by decide) ?_
    obtain rfl := Option.some.inj h
    exact mp_iret hx hb hr hlocks hP hS dX6_times_23
  · replace h := ite_f h c4
    refine lv_aload_n hx hb dX6_times_7 rfl (lv_at hl 0 rfl) ?_
    refine lv_iload_n hx hb dX6_times_8 rfl (lv_at hl 2 rfl) ?_
    obtain ⟨q9, e9, h⟩ := Option.bind_eq_some_iff.mp h
    refine hp_V (As := [.int x2]) (rest := []) (b := (a 0)) ⟨hx, hb, hml, hown, hts⟩ (ct_X6_isMask l D ca a tw tt v x2 e9) (cwV 1 hts gX6_times_X6_isMask rfl rfl rfl (by decide +kernel) ⟨Nat.le_of_ble_eq_true rfl, Nat.le_of_ble_eq_true rfl⟩) (va_recv hK hP (ci := 3) (q0 := 0) rfl rfl) GW.mv (GW.from hP hK hT0 hS) rfl hl.1 rfl (Nat.le_of_ble_eq_true rfl) dX6_times_9 ⟨Nat.zero_le _, Nat.zero_le _⟩ ?_
    refine W.eq (g2 := F0 m 12 ls [.int q9]) rfl ?_
    refine lv_if_eq (tgt := 22) hx hb dX6_times_12 (by decide) (fun c12 => ?_) (fun c12 => ?_)
    · replace h := ite_t h c12
      refine lv_iconst (v := (-1)) hx hb dX6_times_22 (by decide) ?_
      obtain rfl := Option.some.inj h
      exact mp_iret hx hb hr hlocks hP hS dX6_times_23
    · replace h := ite_f h c12
      refine lv_iload_n hx hb dX6_times_15 rfl (lv_at hl 3 rfl) ?_
      obtain ⟨q16, e16, h⟩ := Option.bind_eq_some_iff.mp h
      refine hp_S (As := [.int x3]) (rest := []) ⟨hx, hb, hml, hown, hts⟩ (ct_X6_isRegister l tw tt x3 e16) (va_cwS 1 hts gX6_times_X6_isRegister rfl rfl rfl (by decide +kernel) ⟨Nat.le_of_ble_eq_true rfl, Nat.le_of_ble_eq_true rfl⟩) GP.mv (GP.from hT0 hS) rfl hl.1 rfl (Nat.le_of_ble_eq_true rfl) dX6_times_16 ⟨Nat.zero_le _, Nat.zero_le _⟩ ?_
      refine W.eq (g2 := F0 m 19 ls [.int q16]) rfl ?_
      refine lv_if_ne (tgt := 24) hx hb dX6_times_19 (by decide) (fun c19 => ?_) (fun c19 => ?_)
      · replace h := ite_f h c19
        refine lv_aload_n hx hb dX6_times_24 rfl (lv_at hl 0 rfl) ?_
        refine lv_iload_n hx hb dX6_times_25 rfl (lv_at hl 3 rfl) ?_
        refine lv_aload_n hx hb dX6_times_26 rfl (lv_at hl 0 rfl) ?_
        refine va_get (D := D) (ci := 3) (v := .ref (a 1)) (C := RX6) (T := TX6) (N := 6) hx hb hts ly_X6_times_X6 hown hK hP 0 rfl rfl 0 (by decide) (hts _ lk_X6_times_f9) (fun _ h9 => h9) rfl dX6_times_27 ?_
        refine lv_iload_n hx hb dX6_times_30 rfl (lv_at hl 1 rfl) ?_
        obtain ⟨q31, e31, h⟩ := Option.bind_eq_some_iff.mp h
        refine rd_lald hx hb hK hP 1 0 e31 rfl rfl dX6_times_31 ?_
        refine lv_iload_n hx hb dX6_times_32 rfl (lv_at hl 2 rfl) ?_
        obtain ⟨q33, e33, h⟩ := Option.bind_eq_some_iff.mp h
        refine hp_S (As := [.int x2]) (rest := [.long q31, .int x3, .ref (a 0)]) ⟨hx, hb, hml, hown, hts⟩ (ct_X3_ofMonomial l tw tt x2 e33) (va_cwS 1 hts gX6_times_X3_ofMonomial rfl rfl rfl (by decide +kernel) ⟨Nat.le_of_ble_eq_true rfl, Nat.le_of_ble_eq_true rfl⟩) GP.mv (GP.from hT0 hS) rfl hl.1 rfl (Nat.le_of_ble_eq_true rfl) dX6_times_33 ⟨Nat.zero_le _, Nat.zero_le _⟩ ?_
        refine W.eq (g2 := F0 m 36 ls [.long q33, .long q31, .int x3, .ref (a 0)]) rfl ?_
        refine lv_aload_n hx hb dX6_times_36 rfl (lv_at hl 0 rfl) ?_
        refine va_get (D := D) (ci := 3) (v := .int (x_n v)) (C := RX6) (T := TX6) (N := 6) hx hb hts ly_X6_times_X6 hown hK hP 0 rfl rfl 5 (by decide) (hts _ lk_X6_times_f38) (fun _ h9 => h9) rfl dX6_times_37 ?_
        obtain ⟨q40, e40, h⟩ := Option.bind_eq_some_iff.mp h
        refine hp_S (As := [.long q31, .long q33, .int (x_n v)]) (rest := [.int x3, .ref (a 0)]) ⟨hx, hb, hml, hown, hts⟩ (ct_X3_multiplied l tw tt q31 q33 (x_n v) e40) (va_cwS 3 hts gX6_times_X3_multiplied rfl rfl rfl (by decide +kernel) ⟨Nat.le_of_ble_eq_true rfl, Nat.le_of_ble_eq_true rfl⟩) GP.mv (GP.from hT0 hS) rfl hl.1 rfl (Nat.le_of_ble_eq_true rfl) dX6_times_40 ⟨Nat.zero_le _, Nat.zero_le _⟩ ?_
        refine W.eq (g2 := F0 m 43 ls [.long q40, .int x3, .ref (a 0)]) rfl ?_
        obtain ⟨q43, e43, h⟩ := Option.bind_eq_some_iff.mp h
        refine mp_V (As := [.int x3, .long q40]) (rest := []) (b := (a 0)) ⟨hx, hb, hml, hown, hts⟩ (ct_X6_put l D ca a tw tt hap v x3 q40 e43) (cwV 2 hts gX6_times_X6_put rfl rfl rfl (by decide +kernel) ⟨Nat.le_of_ble_eq_true rfl, Nat.le_of_ble_eq_true rfl⟩) (va_recv hK hP (ci := 3) (q0 := 0) rfl rfl) GW.mv (GW.from hP hK hT0 hS) hS rfl hl.1 rfl (Nat.le_of_ble_eq_true rfl) dX6_times_43 ⟨Nat.zero_le _, Nat.zero_le _⟩ (fun H locs hP hS => ?_)
        refine W.eq (g2 := F0 m 46 ls [.int q43.1]) rfl ?_
        obtain rfl := Option.some.inj h
        exact mp_iret hx hb hr hlocks hP hS dX6_times_46
      · replace h := ite_t h c19
        refine lv_iconst (v := (-1)) hx hb dX6_times_22 (by decide) ?_
        obtain rfl := Option.some.inj h
        exact mp_iret hx hb hr hlocks hP hS dX6_times_23
theorem ct_X6_times (l : Launch) (D : va_G) (ca : Nat → ClassId) (a : Nat → Nat) (tw : Nat) (tt : Nat → Nat) (hap : ap_ok 9 a) (v : XS) (x1 : Int32) (x2 : Int32) (x3 : Int32) {q : Int32 × XS} (h : fn_X6_times v x1 x2 x3 = some q) : Mp l yX6_times wsX6_times rm_X6_times [.ref (a 0), .int x1, .int x2, .int x3] (GW D ca tw tt (ad_of 9 a) (XW ca a v)) (some (.int q.1)) (fun H => va_P D vwCl (XW ca a q.2) H) (ad_of 9 a) := by
  refine Mp.of (cc := cX6_times) (nL := 4) (ret := (some .int)) (own := RX6) (by decide) rfl rfl (Nat.le_of_ble_eq_true rfl) ?_
  intro p e s m below meth c ls C0 hB hl
  exact wk_X6_times C0 hap hB.2.1 hB.2.2 (hP := hB.1) (hS := va_S.rf) (hl := hl) (h := h)
abbrev rm_X6_isVariable : Room := { frames := 0, cells := 0, slots := 0, locals := 0 }
theorem lk_X6_isVariable_f38 : Cond.fieldLink RX6 38 "BooleanRing" "n" "I" ∈ wsX6_isVariable := by decide +kernel
theorem ly_X6_isVariable_X6 : ∀ w ∈ wsX60, w ∈ wsX6_isVariable := by decide +kernel
set_option maxHeartbeats 4000000 in
set_option maxRecDepth 100000 in
theorem wk_X6_isVariable {p : Program} {l : Launch} {e : Env} {s : State} {m : MethodId} {args : Array Value} {below : List Frame} {meth : Method} {c : Code} {D : va_G} {ca : Nat → ClassId} {a : Nat → Nat} {tw : Nat} {tt : Nat → Nat} (C0 : Cx p s m args meth c cX6_isVariable (some .boolean) 2 wsX6_isVariable RX6) (hK : va_K D vwCl (tys3 ca) s) (hT0 : tW tw tt (ad_of 9 a) s s.heap) (v : XS) (hP : va_P D vwCl (XW ca a v) s.heap) {q : Int32} (x1 : Int32) (ls : Array Slot) (hl : lv_has ls 2 [(0, .ref (a 0)), (1, .int x1)]) (h : fn_X6_isVariable v x1 = some q) : W p l e rm_X6_isVariable s m args below meth c s.heap [] 0 0 (MQ below (HQ (some (.int q))) args s 0 0 (fun _ => False)) (F0 m 0 ls []) := by
  obtain ⟨hx, hb, hr, hml, hown, hts, hlocks⟩ := id C0
  have hS : va_S (ad_of 9 a) s.heap s.heap [] := va_S.rf
  unfold fn_X6_isVariable at h
  refine lv_iload_n hx hb dX6_isVariable_0 rfl (lv_at hl 1 rfl) ?_
  refine lv_if_lt (tgt := 16) hx hb dX6_isVariable_1 (by decide) (fun c1 => ?_) (fun c1 => ?_)
  · replace h := ite_t h c1
    refine lv_iconst (v := 0) hx hb dX6_isVariable_16 (by decide) ?_
    obtain rfl := Option.some.inj h
    exact hp_zret hx hb hr hlocks rfl dX6_isVariable_17
  · replace h := ite_f h c1
    refine lv_iload_n hx hb dX6_isVariable_4 rfl (lv_at hl 1 rfl) ?_
    refine lv_aload_n hx hb dX6_isVariable_5 rfl (lv_at hl 0 rfl) ?_
    refine va_get (D := D) (ci := 3) (v := .int (x_n v)) (C := RX6) (T := TX6) (N := 6) hx hb hts ly_X6_isVariable_X6 hown hK hP 0 rfl rfl 5 (by decide) (hts _ lk_X6_isVariable_f38) (fun _ h9 => h9) rfl dX6_isVariable_6 ?_
    refine lv_icmp_ge (tgt := 16) hx hb dX6_isVariable_9 (by decide) (fun c9 => ?_) (fun c9 => ?_)
    · replace h := ite_t h c9
      refine lv_iconst (v := 0) hx hb dX6_isVariable_16 (by decide) ?_
      obtain rfl := Option.some.inj h
      exact hp_zret hx hb hr hlocks rfl dX6_isVariable_17
    · replace h := ite_f h c9
      refine lv_iconst (v := 1) hx hb dX6_isVariable_12 (by decide) ?_
      refine lv_goto (tgt := 17) hx hb dX6_isVariable_13 (by decide) ?_
      obtain rfl := Option.some.inj h
      exact hp_zret hx hb hr hlocks rfl dX6_isVariable_17
theorem ct_X6_isVariable (l : Launch) (D : va_G) (ca : Nat → ClassId) (a : Nat → Nat) (tw : Nat) (tt : Nat → Nat) (v : XS) (x1 : Int32) {q : Int32} (h : fn_X6_isVariable v x1 = some q) : Hp l yX6_isVariable wsX6_isVariable rm_X6_isVariable [.ref (a 0), .int x1] (GW D ca tw tt (ad_of 9 a) (XW ca a v)) (some (.int q)) := by
  refine Hp.of (cc := cX6_isVariable) (nL := 2) (ret := (some .boolean)) (own := RX6) (by decide) rfl rfl (Nat.le_of_ble_eq_true rfl) ?_
  intro p e s m below meth c ls C0 hB hl
  exact wk_X6_isVariable C0 hB.2.1 hB.2.2 v hB.1 (hl := hl) (h := h)
abbrev rm_X6_restrict : Room := { frames := 3, cells := 0, slots := 0, locals := 70 }
theorem lk_X6_restrict_f9 : Cond.fieldLink RX6 9 "BooleanRing" "registers" "[J" ∈ wsX6_restrict := by decide +kernel
theorem ly_X6_restrict_X6 : ∀ w ∈ wsX60, w ∈ wsX6_restrict := by decide +kernel
set_option maxHeartbeats 4000000 in
set_option maxRecDepth 100000 in
theorem wk_X6_restrict_68 {p : Program} {l : Launch} {e : Env} {s : State} {m : MethodId} {args : Array Value} {below : List Frame} {meth : Method} {c : Code} {D : va_G} {ca : Nat → ClassId} {a : Nat → Nat} {tw : Nat} {tt : Nat → Nat} (C0 : Cx p s m args meth c cX6_restrict (some .int) 7 wsX6_restrict RX6) (hap : ap_ok 9 a) (hK : va_K D vwCl (tys3 ca) s) (hT0 : tW tw tt (ad_of 9 a) s s.heap) {q : Int32 × XS} (v : XS) (H : Heap) (locs : List Loc) (x4 : Int32) (x5 : Int64) (ls : Array Slot) (hP : va_P D vwCl (XW ca a v) H) (hS : va_S (ad_of 9 a) s.heap H locs) (hl : lv_has ls 7 [(0, .ref (a 0)), (4, .int x4), (5, .long x5)]) (h : fn_X6_restrict_68 v x4 x5 = some q) : W p l e rm_X6_restrict s m args below meth c H locs 0 0 (MQ below (PQ (some (.int q.1)) (fun H => va_P D vwCl (XW ca a q.2) H) (ad_of 9 a)) args s 0 0 (ad_of 9 a)) (F0 m 68 ls []) := by
  obtain ⟨hx, hb, hr, hml, hown, hts, hlocks⟩ := id C0
  have hD0 := fun v => XW_D (ca := ca) hap v
  unfold fn_X6_restrict_68 at h
  refine lv_aload_n hx hb dX6_restrict_68 rfl (lv_at hl 0 rfl) ?_
  refine lv_iload hx hb dX6_restrict_69 (lv_at hl 1 rfl) ?_
  refine lv_lload hx hb dX6_restrict_71 (lv_at hl 2 rfl) ?_
  obtain ⟨q73, e73, h⟩ := Option.bind_eq_some_iff.mp h
  refine mp_V (As := [.int x4, .long x5]) (rest := []) (b := (a 0)) ⟨hx, hb, hml, hown, hts⟩ (ct_X6_put l D ca a tw tt hap v x4 x5 e73) (cwV 2 hts gX6_restrict_X6_put rfl rfl rfl (by decide +kernel) ⟨Nat.le_of_ble_eq_true rfl, Nat.le_of_ble_eq_true rfl⟩) (va_recv hK hP (ci := 3) (q0 := 0) rfl rfl) GW.mv (GW.from hP hK hT0 hS) hS rfl hl.1 rfl (Nat.le_of_ble_eq_true rfl) dX6_restrict_73 ⟨Nat.zero_le _, Nat.zero_le _⟩ (fun H locs hP hS => ?_)
  refine W.eq (g2 := F0 m 76 ls [.int q73.1]) rfl ?_
  obtain rfl := Option.some.inj h
  exact mp_iret hx hb hr hlocks hP hS dX6_restrict_76
set_option maxHeartbeats 4000000 in
set_option maxRecDepth 100000 in
theorem wk_X6_restrict_36 {p : Program} {l : Launch} {e : Env} {s : State} {m : MethodId} {args : Array Value} {below : List Frame} {meth : Method} {c : Code} {D : va_G} {ca : Nat → ClassId} {a : Nat → Nat} {tw : Nat} {tt : Nat → Nat} (C0 : Cx p s m args meth c cX6_restrict (some .int) 7 wsX6_restrict RX6) (hap : ap_ok 9 a) (hK : va_K D vwCl (tys3 ca) s) (hT0 : tW tw tt (ad_of 9 a) s s.heap) {q : Int32 × XS} (v : XS) (H : Heap) (locs : List Loc) (x1 : Int32) (x2 : Int32) (x3 : Int32) (x4 : Int32) (ls : Array Slot) (hP : va_P D vwCl (XW ca a v) H) (hS : va_S (ad_of 9 a) s.heap H locs) (hl : lv_has ls 7 [(0, .ref (a 0)), (1, .int x1), (2, .int x2), (3, .int x3), (4, .int x4)]) (h : fn_X6_restrict_36 v x1 x2 x3 x4 = some q) : W p l e rm_X6_restrict s m args below meth c H locs 0 0 (MQ below (PQ (some (.int q.1)) (fun H => va_P D vwCl (XW ca a q.2) H) (ad_of 9 a)) args s 0 0 (ad_of 9 a)) (F0 m 36 ls []) := by
  obtain ⟨hx, hb, hr, hml, hown, hts, hlocks⟩ := id C0
  have hD0 := fun v => XW_D (ca := ca) hap v
  unfold fn_X6_restrict_36 at h
  refine lv_aload_n hx hb dX6_restrict_36 rfl (lv_at hl 0 rfl) ?_
  refine va_get (D := D) (ci := 3) (v := .ref (a 1)) (C := RX6) (T := TX6) (N := 6) hx hb hts ly_X6_restrict_X6 hown hK hP 0 rfl rfl 0 (by decide) (hts _ lk_X6_restrict_f9) (fun _ h9 => h9) rfl dX6_restrict_37 ?_
  refine lv_iload_n hx hb dX6_restrict_40 rfl (lv_at hl 1 rfl) ?_
  obtain ⟨q41, e41, h⟩ := Option.bind_eq_some_iff.mp h
  refine rd_lald hx hb hK hP 1 0 e41 rfl rfl dX6_restrict_41 ?_
  refine lv_iload_n hx hb dX6_restrict_42 rfl (lv_at hl 2 rfl) ?_
  obtain ⟨q43, e43, h⟩ := Option.bind_eq_some_iff.mp h
  refine hp_S (As := [.long q41, .int x2]) (rest := []) ⟨hx, hb, hml, hown, hts⟩ (ct_X3_lowerHalf l tw tt q41 x2 e43) (va_cwS 2 hts gX6_restrict_X3_lowerHalf rfl rfl rfl (by decide +kernel) ⟨Nat.le_of_ble_eq_true rfl, Nat.le_of_ble_eq_true rfl⟩) GP.mv (GP.from hT0 hS) rfl hl.1 rfl (Nat.le_of_ble_eq_true rfl) dX6_restrict_43 ⟨Nat.zero_le _, Nat.zero_le _⟩ ?_
  refine W.eq (g2 := F0 m 46 ls [.long q43]) rfl ?_
  refine lv_lstore (lv' := [(5, .long q43), (0, .ref (a 0)), (1, .int x1), (2, .int x2), (3, .int x3), (4, .int x4)]) hx hb dX6_restrict_46 hl (by decide) rfl (fun ls hl => ?_)
  refine lv_iload_n hx hb dX6_restrict_48 rfl (lv_at hl 4 rfl) ?_
  refine lv_iconst (v := 1) hx hb dX6_restrict_49 (by decide) ?_
  refine lv_icmp_ne (tgt := 68) hx hb dX6_restrict_50 (by decide) (fun c50 => ?_) (fun c50 => ?_)
  · replace h := ite_f h c50
    exact wk_X6_restrict_68 C0 hap hK hT0 (ls := ls) (hP := hP) (hS := hS) (hl := (lv_sub hl [1, 5, 0] rfl)) (h := h)
  · replace h := ite_t h c50
    refine lv_lload hx hb dX6_restrict_53 (lv_at hl 0 rfl) ?_
    refine lv_aload_n hx hb dX6_restrict_55 rfl (lv_at hl 1 rfl) ?_
    refine va_get (D := D) (ci := 3) (v := .ref (a 1)) (C := RX6) (T := TX6) (N := 6) hx hb hts ly_X6_restrict_X6 hown hK hP 0 rfl rfl 0 (by decide) (hts _ lk_X6_restrict_f9) (fun _ h9 => h9) rfl dX6_restrict_56 ?_
    refine lv_iload_n hx hb dX6_restrict_59 rfl (lv_at hl 2 rfl) ?_
    obtain ⟨q60, e60, h⟩ := Option.bind_eq_some_iff.mp h
    refine rd_lald hx hb hK hP 1 0 e60 rfl rfl dX6_restrict_60 ?_
    refine lv_iload_n hx hb dX6_restrict_61 rfl (lv_at hl 3 rfl) ?_
    obtain ⟨q62, e62, h⟩ := Option.bind_eq_some_iff.mp h
    refine hp_S (As := [.long q60, .int x2]) (rest := [.long q43]) ⟨hx, hb, hml, hown, hts⟩ (ct_X3_upperHalf l tw tt q60 x2 e62) (va_cwS 2 hts gX6_restrict_X3_upperHalf rfl rfl rfl (by decide +kernel) ⟨Nat.le_of_ble_eq_true rfl, Nat.le_of_ble_eq_true rfl⟩) GP.mv (GP.from hT0 hS) rfl hl.1 rfl (Nat.le_of_ble_eq_true rfl) dX6_restrict_62 ⟨Nat.zero_le _, Nat.zero_le _⟩ ?_
    refine W.eq (g2 := F0 m 65 ls [.long q62, .long q43]) rfl ?_
    refine lv_lxor hx hb dX6_restrict_65 ?_
    refine lv_lstore (lv' := [(5, .long (q43 ^^^ q62)), (0, .ref (a 0)), (1, .int x1), (2, .int x2), (3, .int x3), (4, .int x4)]) hx hb dX6_restrict_66 hl (by decide) rfl (fun ls hl => ?_)
    exact wk_X6_restrict_68 C0 hap hK hT0 (ls := ls) (hP := hP) (hS := hS) (hl := (lv_sub hl [1, 5, 0] rfl)) (h := h)
set_option maxHeartbeats 4000000 in
set_option maxRecDepth 100000 in
theorem wk_X6_restrict {p : Program} {l : Launch} {e : Env} {s : State} {m : MethodId} {args : Array Value} {below : List Frame} {meth : Method} {c : Code} {D : va_G} {ca : Nat → ClassId} {a : Nat → Nat} {tw : Nat} {tt : Nat → Nat} (C0 : Cx p s m args meth c cX6_restrict (some .int) 7 wsX6_restrict RX6) (hap : ap_ok 9 a) (hK : va_K D vwCl (tys3 ca) s) (hT0 : tW tw tt (ad_of 9 a) s s.heap) {q : Int32 × XS} (v : XS) (H : Heap) (locs : List Loc) (x1 : Int32) (x2 : Int32) (x3 : Int32) (x4 : Int32) (ls : Array Slot) (hP : va_P D vwCl (XW ca a v) H) (hS : va_S (ad_of 9 a) s.heap H locs) (hl : lv_has ls 7 [(0, .ref (a 0)), (1, .int x1), (2, .int x2), (3, .int x3), (4, .int x4)]) (h : fn_X6_restrict v x1 x2 x3 x4 = some q) : W p l e rm_X6_restrict s m args below meth c H locs 0 0 (MQ below (PQ (some (.int q.1)) (fun H => va_P D vwCl (XW ca a q.2) H) (ad_of 9 a)) args s 0 0 (ad_of 9 a)) (F0 m 0 ls []) := by
  obtain ⟨hx, hb, hr, hml, hown, hts, hlocks⟩ := id C0
  have hD0 := fun v => XW_D (ca := ca) hap v
  unfold fn_X6_restrict at h
  refine lv_iload_n hx hb dX6_restrict_0 rfl (lv_at hl 1 rfl) ?_
  obtain ⟨q1, e1, h⟩ := Option.bind_eq_some_iff.mp h
  refine hp_S (As := [.int x1]) (rest := []) ⟨hx, hb, hml, hown, hts⟩ (ct_X6_isRegister l tw tt x1 e1) (va_cwS 1 hts gX6_restrict_X6_isRegister rfl rfl rfl (by decide +kernel) ⟨Nat.le_of_ble_eq_true rfl, Nat.le_of_ble_eq_true rfl⟩) GP.mv (GP.from hT0 hS) rfl hl.1 rfl (Nat.le_of_ble_eq_true rfl) dX6_restrict_1 ⟨Nat.zero_le _, Nat.zero_le _⟩ ?_
  refine W.eq (g2 := F0 m 4 ls [.int q1]) rfl ?_
  refine lv_if_eq (tgt := 23) hx hb dX6_restrict_4 (by decide) (fun c4 => ?_) (fun c4 => ?_)
  · replace h := ite_t h c4
    refine lv_iconst (v := (-1)) hx hb dX6_restrict_23 (by decide) ?_
    obtain rfl := Option.some.inj h
    exact mp_iret hx hb hr hlocks hP hS dX6_restrict_24
  · replace h := ite_f h c4
    refine lv_aload_n hx hb dX6_restrict_7 rfl (lv_at hl 0 rfl) ?_
    refine lv_iload_n hx hb dX6_restrict_8 rfl (lv_at hl 2 rfl) ?_
    obtain ⟨q9, e9, h⟩ := Option.bind_eq_some_iff.mp h
    refine hp_V (As := [.int x2]) (rest := []) (b := (a 0)) ⟨hx, hb, hml, hown, hts⟩ (ct_X6_isVariable l D ca a tw tt v x2 e9) (cwV 1 hts gX6_restrict_X6_isVariable rfl rfl rfl (by decide +kernel) ⟨Nat.le_of_ble_eq_true rfl, Nat.le_of_ble_eq_true rfl⟩) (va_recv hK hP (ci := 3) (q0 := 0) rfl rfl) GW.mv (GW.from hP hK hT0 hS) rfl hl.1 rfl (Nat.le_of_ble_eq_true rfl) dX6_restrict_9 ⟨Nat.zero_le _, Nat.zero_le _⟩ ?_
    refine W.eq (g2 := F0 m 12 ls [.int q9]) rfl ?_
    refine lv_if_eq (tgt := 23) hx hb dX6_restrict_12 (by decide) (fun c12 => ?_) (fun c12 => ?_)
    · replace h := ite_t h c12
      refine lv_iconst (v := (-1)) hx hb dX6_restrict_23 (by decide) ?_
      obtain rfl := Option.some.inj h
      exact mp_iret hx hb hr hlocks hP hS dX6_restrict_24
    · replace h := ite_f h c12
      refine lv_iload hx hb dX6_restrict_15 (lv_at hl 4 rfl) ?_
      obtain ⟨q17, e17, h⟩ := Option.bind_eq_some_iff.mp h
      refine hp_S (As := [.int x4]) (rest := []) ⟨hx, hb, hml, hown, hts⟩ (ct_X6_isRegister l tw tt x4 e17) (va_cwS 1 hts gX6_restrict_X6_isRegister rfl rfl rfl (by decide +kernel) ⟨Nat.le_of_ble_eq_true rfl, Nat.le_of_ble_eq_true rfl⟩) GP.mv (GP.from hT0 hS) rfl hl.1 rfl (Nat.le_of_ble_eq_true rfl) dX6_restrict_17 ⟨Nat.zero_le _, Nat.zero_le _⟩ ?_
      refine W.eq (g2 := F0 m 20 ls [.int q17]) rfl ?_
      refine lv_if_ne (tgt := 25) hx hb dX6_restrict_20 (by decide) (fun c20 => ?_) (fun c20 => ?_)
      · replace h := ite_f h c20
        refine lv_iload_n hx hb dX6_restrict_25 rfl (lv_at hl 3 rfl) ?_
        refine lv_if_eq (tgt := 36) hx hb dX6_restrict_26 (by decide) (fun c26 => ?_) (fun c26 => ?_)
        · replace h := ite_t h c26
          exact wk_X6_restrict_36 C0 hap hK hT0 (ls := ls) (hP := hP) (hS := hS) (hl := (lv_sub hl [0, 1, 2, 3, 4] rfl)) (h := h)
        · replace h := ite_f h c26
          refine lv_iload_n hx hb dX6_restrict_29 rfl (lv_at hl 3 rfl) ?_
          refine lv_iconst (v := 1) hx hb dX6_restrict_30 (by decide) ?_
          refine lv_icmp_eq (tgt := 36) hx hb dX6_restrict_31 (by decide) (fun c31 => ?_) (fun c31 => ?_)
          · replace h := ite_t h c31
            exact wk_X6_restrict_36 C0 hap hK hT0 (ls := ls) (hP := hP) (hS := hS) (hl := (lv_sub hl [0, 1, 2, 3, 4] rfl)) (h := h)
          · replace h := ite_f h c31
            refine lv_iconst (v := (-1)) hx hb dX6_restrict_34 (by decide) ?_
            obtain rfl := Option.some.inj h
            exact mp_iret hx hb hr hlocks hP hS dX6_restrict_35
      · replace h := ite_t h c20
        refine lv_iconst (v := (-1)) hx hb dX6_restrict_23 (by decide) ?_
        obtain rfl := Option.some.inj h
        exact mp_iret hx hb hr hlocks hP hS dX6_restrict_24
theorem ct_X6_restrict (l : Launch) (D : va_G) (ca : Nat → ClassId) (a : Nat → Nat) (tw : Nat) (tt : Nat → Nat) (hap : ap_ok 9 a) (v : XS) (x1 : Int32) (x2 : Int32) (x3 : Int32) (x4 : Int32) {q : Int32 × XS} (h : fn_X6_restrict v x1 x2 x3 x4 = some q) : Mp l yX6_restrict wsX6_restrict rm_X6_restrict [.ref (a 0), .int x1, .int x2, .int x3, .int x4] (GW D ca tw tt (ad_of 9 a) (XW ca a v)) (some (.int q.1)) (fun H => va_P D vwCl (XW ca a q.2) H) (ad_of 9 a) := by
  refine Mp.of (cc := cX6_restrict) (nL := 7) (ret := (some .int)) (own := RX6) (by decide) rfl rfl (Nat.le_of_ble_eq_true rfl) ?_
  intro p e s m below meth c ls C0 hB hl
  exact wk_X6_restrict C0 hap hB.2.1 hB.2.2 (hP := hB.1) (hS := va_S.rf) (hl := hl) (h := h)
abbrev rm_X6_substitute : Room := { frames := 4, cells := 0, slots := 0, locals := 91 }
theorem lk_X6_substitute_f9 : Cond.fieldLink RX6 9 "BooleanRing" "registers" "[J" ∈ wsX6_substitute := by decide +kernel
theorem lk_X6_substitute_f38 : Cond.fieldLink RX6 38 "BooleanRing" "n" "I" ∈ wsX6_substitute := by decide +kernel
theorem ly_X6_substitute_X6 : ∀ w ∈ wsX60, w ∈ wsX6_substitute := by decide +kernel
set_option maxHeartbeats 4000000 in
set_option maxRecDepth 100000 in
theorem wk_X6_substitute {p : Program} {l : Launch} {e : Env} {s : State} {m : MethodId} {args : Array Value} {below : List Frame} {meth : Method} {c : Code} {D : va_G} {ca : Nat → ClassId} {a : Nat → Nat} {tw : Nat} {tt : Nat → Nat} (C0 : Cx p s m args meth c cX6_substitute (some .int) 9 wsX6_substitute RX6) (hap : ap_ok 9 a) (hK : va_K D vwCl (tys3 ca) s) (hT0 : tW tw tt (ad_of 9 a) s s.heap) {q : Int32 × XS} (v : XS) (H : Heap) (locs : List Loc) (x1 : Int32) (x2 : Int32) (x3 : Int32) (x4 : Int32) (ls : Array Slot) (hP : va_P D vwCl (XW ca a v) H) (hS : va_S (ad_of 9 a) s.heap H locs) (hl : lv_has ls 9 [(0, .ref (a 0)), (1, .int x1), (2, .int x2), (3, .int x3), (4, .int x4)]) (h : fn_X6_substitute v x1 x2 x3 x4 = some q) : W p l e rm_X6_substitute s m args below meth c H locs 0 0 (MQ below (PQ (some (.int q.1)) (fun H => va_P D vwCl (XW ca a q.2) H) (ad_of 9 a)) args s 0 0 (ad_of 9 a)) (F0 m 0 ls []) := by
  obtain ⟨hx, hb, hr, hml, hown, hts, hlocks⟩ := id C0
  have hD0 := fun v => XW_D (ca := ca) hap v
  unfold fn_X6_substitute at h
  refine lv_iload_n hx hb dX6_substitute_0 rfl (lv_at hl 1 rfl) ?_
  obtain ⟨q1, e1, h⟩ := Option.bind_eq_some_iff.mp h
  refine hp_S (As := [.int x1]) (rest := []) ⟨hx, hb, hml, hown, hts⟩ (ct_X6_isRegister l tw tt x1 e1) (va_cwS 1 hts gX6_substitute_X6_isRegister rfl rfl rfl (by decide +kernel) ⟨Nat.le_of_ble_eq_true rfl, Nat.le_of_ble_eq_true rfl⟩) GP.mv (GP.from hT0 hS) rfl hl.1 rfl (Nat.le_of_ble_eq_true rfl) dX6_substitute_1 ⟨Nat.zero_le _, Nat.zero_le _⟩ ?_
  refine W.eq (g2 := F0 m 4 ls [.int q1]) rfl ?_
  refine lv_if_eq (tgt := 30) hx hb dX6_substitute_4 (by decide) (fun c4 => ?_) (fun c4 => ?_)
  · replace h := ite_t h c4
    refine lv_iconst (v := (-1)) hx hb dX6_substitute_30 (by decide) ?_
    obtain rfl := Option.some.inj h
    exact mp_iret hx hb hr hlocks hP hS dX6_substitute_31
  · replace h := ite_f h c4
    refine lv_aload_n hx hb dX6_substitute_7 rfl (lv_at hl 0 rfl) ?_
    refine lv_iload_n hx hb dX6_substitute_8 rfl (lv_at hl 2 rfl) ?_
    obtain ⟨q9, e9, h⟩ := Option.bind_eq_some_iff.mp h
    refine hp_V (As := [.int x2]) (rest := []) (b := (a 0)) ⟨hx, hb, hml, hown, hts⟩ (ct_X6_isVariable l D ca a tw tt v x2 e9) (cwV 1 hts gX6_substitute_X6_isVariable rfl rfl rfl (by decide +kernel) ⟨Nat.le_of_ble_eq_true rfl, Nat.le_of_ble_eq_true rfl⟩) (va_recv hK hP (ci := 3) (q0 := 0) rfl rfl) GW.mv (GW.from hP hK hT0 hS) rfl hl.1 rfl (Nat.le_of_ble_eq_true rfl) dX6_substitute_9 ⟨Nat.zero_le _, Nat.zero_le _⟩ ?_
    refine W.eq (g2 := F0 m 12 ls [.int q9]) rfl ?_
    refine lv_if_eq (tgt := 30) hx hb dX6_substitute_12 (by decide) (fun c12 => ?_) (fun c12 => ?_)
    · replace h := ite_t h c12
      refine lv_iconst (v := (-1)) hx hb dX6_substitute_30 (by decide) ?_
      obtain rfl := Option.some.inj h
      exact mp_iret hx hb hr hlocks hP hS dX6_substitute_31
    · replace h := ite_f h c12
      refine lv_iload_n hx hb dX6_substitute_15 rfl (lv_at hl 3 rfl) ?_
      obtain ⟨q16, e16, h⟩ := Option.bind_eq_some_iff.mp h
      refine hp_S (As := [.int x3]) (rest := []) ⟨hx, hb, hml, hown, hts⟩ (ct_X6_isRegister l tw tt x3 e16) (va_cwS 1 hts gX6_substitute_X6_isRegister rfl rfl rfl (by decide +kernel) ⟨Nat.le_of_ble_eq_true rfl, Nat.le_of_ble_eq_true rfl⟩) GP.mv (GP.from hT0 hS) rfl hl.1 rfl (Nat.le_of_ble_eq_true rfl) dX6_substitute_16 ⟨Nat.zero_le _, Nat.zero_le _⟩ ?_
      refine W.eq (g2 := F0 m 19 ls [.int q16]) rfl ?_
      refine lv_if_eq (tgt := 30) hx hb dX6_substitute_19 (by decide) (fun c19 => ?_) (fun c19 => ?_)
      · replace h := ite_t h c19
        refine lv_iconst (v := (-1)) hx hb dX6_substitute_30 (by decide) ?_
        obtain rfl := Option.some.inj h
        exact mp_iret hx hb hr hlocks hP hS dX6_substitute_31
      · replace h := ite_f h c19
        refine lv_iload hx hb dX6_substitute_22 (lv_at hl 4 rfl) ?_
        obtain ⟨q24, e24, h⟩ := Option.bind_eq_some_iff.mp h
        refine hp_S (As := [.int x4]) (rest := []) ⟨hx, hb, hml, hown, hts⟩ (ct_X6_isRegister l tw tt x4 e24) (va_cwS 1 hts gX6_substitute_X6_isRegister rfl rfl rfl (by decide +kernel) ⟨Nat.le_of_ble_eq_true rfl, Nat.le_of_ble_eq_true rfl⟩) GP.mv (GP.from hT0 hS) rfl hl.1 rfl (Nat.le_of_ble_eq_true rfl) dX6_substitute_24 ⟨Nat.zero_le _, Nat.zero_le _⟩ ?_
        refine W.eq (g2 := F0 m 27 ls [.int q24]) rfl ?_
        refine lv_if_ne (tgt := 32) hx hb dX6_substitute_27 (by decide) (fun c27 => ?_) (fun c27 => ?_)
        · replace h := ite_f h c27
          refine lv_aload_n hx hb dX6_substitute_32 rfl (lv_at hl 0 rfl) ?_
          refine va_get (D := D) (ci := 3) (v := .ref (a 1)) (C := RX6) (T := TX6) (N := 6) hx hb hts ly_X6_substitute_X6 hown hK hP 0 rfl rfl 0 (by decide) (hts _ lk_X6_substitute_f9) (fun _ h9 => h9) rfl dX6_substitute_33 ?_
          refine lv_iload_n hx hb dX6_substitute_36 rfl (lv_at hl 1 rfl) ?_
          obtain ⟨q37, e37, h⟩ := Option.bind_eq_some_iff.mp h
          refine rd_lald hx hb hK hP 1 0 e37 rfl rfl dX6_substitute_37 ?_
          refine lv_iload_n hx hb dX6_substitute_38 rfl (lv_at hl 2 rfl) ?_
          obtain ⟨q39, e39, h⟩ := Option.bind_eq_some_iff.mp h
          refine hp_S (As := [.long q37, .int x2]) (rest := []) ⟨hx, hb, hml, hown, hts⟩ (ct_X3_upperHalf l tw tt q37 x2 e39) (va_cwS 2 hts gX6_substitute_X3_upperHalf rfl rfl rfl (by decide +kernel) ⟨Nat.le_of_ble_eq_true rfl, Nat.le_of_ble_eq_true rfl⟩) GP.mv (GP.from hT0 hS) rfl hl.1 rfl (Nat.le_of_ble_eq_true rfl) dX6_substitute_39 ⟨Nat.zero_le _, Nat.zero_le _⟩ ?_
          refine W.eq (g2 := F0 m 42 ls [.long q39]) rfl ?_
          refine lv_lstore (lv' := [(5, .long q39), (0, .ref (a 0)), (1, .int x1), (2, .int x2), (3, .int x3), (4, .int x4)]) hx hb dX6_substitute_42 hl (by decide) rfl (fun ls hl => ?_)
          refine lv_aload_n hx hb dX6_substitute_44 rfl (lv_at hl 1 rfl) ?_
          refine va_get (D := D) (ci := 3) (v := .ref (a 1)) (C := RX6) (T := TX6) (N := 6) hx hb hts ly_X6_substitute_X6 hown hK hP 0 rfl rfl 0 (by decide) (hts _ lk_X6_substitute_f9) (fun _ h9 => h9) rfl dX6_substitute_45 ?_
          refine lv_iload_n hx hb dX6_substitute_48 rfl (lv_at hl 2 rfl) ?_
          obtain ⟨q49, e49, h⟩ := Option.bind_eq_some_iff.mp h
          refine rd_lald hx hb hK hP 1 0 e49 rfl rfl dX6_substitute_49 ?_
          refine lv_iload_n hx hb dX6_substitute_50 rfl (lv_at hl 3 rfl) ?_
          obtain ⟨q51, e51, h⟩ := Option.bind_eq_some_iff.mp h
          refine hp_S (As := [.long q49, .int x2]) (rest := []) ⟨hx, hb, hml, hown, hts⟩ (ct_X3_lowerHalf l tw tt q49 x2 e51) (va_cwS 2 hts gX6_substitute_X3_lowerHalf rfl rfl rfl (by decide +kernel) ⟨Nat.le_of_ble_eq_true rfl, Nat.le_of_ble_eq_true rfl⟩) GP.mv (GP.from hT0 hS) rfl hl.1 rfl (Nat.le_of_ble_eq_true rfl) dX6_substitute_51 ⟨Nat.zero_le _, Nat.zero_le _⟩ ?_
          refine W.eq (g2 := F0 m 54 ls [.long q51]) rfl ?_
          refine lv_lstore (lv' := [(7, .long q51), (5, .long q39), (0, .ref (a 0)), (1, .int x1), (2, .int x2), (3, .int x3), (4, .int x4)]) hx hb dX6_substitute_54 hl (by decide) rfl (fun ls hl => ?_)
          refine lv_aload_n hx hb dX6_substitute_56 rfl (lv_at hl 2 rfl) ?_
          refine lv_iload hx hb dX6_substitute_57 (lv_at hl 6 rfl) ?_
          refine lv_lload hx hb dX6_substitute_59 (lv_at hl 0 rfl) ?_
          refine lv_lload hx hb dX6_substitute_61 (lv_at hl 1 rfl) ?_
          refine lv_aload_n hx hb dX6_substitute_63 rfl (lv_at hl 2 rfl) ?_
          refine va_get (D := D) (ci := 3) (v := .ref (a 1)) (C := RX6) (T := TX6) (N := 6) hx hb hts ly_X6_substitute_X6 hown hK hP 0 rfl rfl 0 (by decide) (hts _ lk_X6_substitute_f9) (fun _ h9 => h9) rfl dX6_substitute_64 ?_
          refine lv_iload_n hx hb dX6_substitute_67 rfl (lv_at hl 5 rfl) ?_
          obtain ⟨q68, e68, h⟩ := Option.bind_eq_some_iff.mp h
          refine rd_lald hx hb hK hP 1 0 e68 rfl rfl dX6_substitute_68 ?_
          refine lv_aload_n hx hb dX6_substitute_69 rfl (lv_at hl 2 rfl) ?_
          refine va_get (D := D) (ci := 3) (v := .int (x_n v)) (C := RX6) (T := TX6) (N := 6) hx hb hts ly_X6_substitute_X6 hown hK hP 0 rfl rfl 5 (by decide) (hts _ lk_X6_substitute_f38) (fun _ h9 => h9) rfl dX6_substitute_70 ?_
          obtain ⟨q73, e73, h⟩ := Option.bind_eq_some_iff.mp h
          refine hp_S (As := [.long q39, .long q68, .int (x_n v)]) (rest := [.long q51, .int x4, .ref (a 0)]) ⟨hx, hb, hml, hown, hts⟩ (ct_X3_multiplied l tw tt q39 q68 (x_n v) e73) (va_cwS 3 hts gX6_substitute_X3_multiplied rfl rfl rfl (by decide +kernel) ⟨Nat.le_of_ble_eq_true rfl, Nat.le_of_ble_eq_true rfl⟩) GP.mv (GP.from hT0 hS) rfl hl.1 rfl (Nat.le_of_ble_eq_true rfl) dX6_substitute_73 ⟨Nat.zero_le _, Nat.zero_le _⟩ ?_
          refine W.eq (g2 := F0 m 76 ls [.long q73, .long q51, .int x4, .ref (a 0)]) rfl ?_
          refine lv_lxor hx hb dX6_substitute_76 ?_
          obtain ⟨q77, e77, h⟩ := Option.bind_eq_some_iff.mp h
          refine mp_V (As := [.int x4, .long (q51 ^^^ q73)]) (rest := []) (b := (a 0)) ⟨hx, hb, hml, hown, hts⟩ (ct_X6_put l D ca a tw tt hap v x4 (q51 ^^^ q73) e77) (cwV 2 hts gX6_substitute_X6_put rfl rfl rfl (by decide +kernel) ⟨Nat.le_of_ble_eq_true rfl, Nat.le_of_ble_eq_true rfl⟩) (va_recv hK hP (ci := 3) (q0 := 0) rfl rfl) GW.mv (GW.from hP hK hT0 hS) hS rfl hl.1 rfl (Nat.le_of_ble_eq_true rfl) dX6_substitute_77 ⟨Nat.zero_le _, Nat.zero_le _⟩ (fun H locs hP hS => ?_)
          refine W.eq (g2 := F0 m 80 ls [.int q77.1]) rfl ?_
          obtain rfl := Option.some.inj h
          exact mp_iret hx hb hr hlocks hP hS dX6_substitute_80
        · replace h := ite_t h c27
          refine lv_iconst (v := (-1)) hx hb dX6_substitute_30 (by decide) ?_
          obtain rfl := Option.some.inj h
          exact mp_iret hx hb hr hlocks hP hS dX6_substitute_31
theorem ct_X6_substitute (l : Launch) (D : va_G) (ca : Nat → ClassId) (a : Nat → Nat) (tw : Nat) (tt : Nat → Nat) (hap : ap_ok 9 a) (v : XS) (x1 : Int32) (x2 : Int32) (x3 : Int32) (x4 : Int32) {q : Int32 × XS} (h : fn_X6_substitute v x1 x2 x3 x4 = some q) : Mp l yX6_substitute wsX6_substitute rm_X6_substitute [.ref (a 0), .int x1, .int x2, .int x3, .int x4] (GW D ca tw tt (ad_of 9 a) (XW ca a v)) (some (.int q.1)) (fun H => va_P D vwCl (XW ca a q.2) H) (ad_of 9 a) := by
  refine Mp.of (cc := cX6_substitute) (nL := 9) (ret := (some .int)) (own := RX6) (by decide) rfl rfl (Nat.le_of_ble_eq_true rfl) ?_
  intro p e s m below meth c ls C0 hB hl
  exact wk_X6_substitute C0 hap hB.2.1 hB.2.2 (hP := hB.1) (hS := va_S.rf) (hl := hl) (h := h)
abbrev rm_X6_derivative : Room := { frames := 3, cells := 0, slots := 0, locals := 70 }
theorem lk_X6_derivative_f9 : Cond.fieldLink RX6 9 "BooleanRing" "registers" "[J" ∈ wsX6_derivative := by decide +kernel
theorem ly_X6_derivative_X6 : ∀ w ∈ wsX60, w ∈ wsX6_derivative := by decide +kernel
set_option maxHeartbeats 4000000 in
set_option maxRecDepth 100000 in
theorem wk_X6_derivative {p : Program} {l : Launch} {e : Env} {s : State} {m : MethodId} {args : Array Value} {below : List Frame} {meth : Method} {c : Code} {D : va_G} {ca : Nat → ClassId} {a : Nat → Nat} {tw : Nat} {tt : Nat → Nat} (C0 : Cx p s m args meth c cX6_derivative (some .int) 4 wsX6_derivative RX6) (hap : ap_ok 9 a) (hK : va_K D vwCl (tys3 ca) s) (hT0 : tW tw tt (ad_of 9 a) s s.heap) {q : Int32 × XS} (v : XS) (H : Heap) (locs : List Loc) (x1 : Int32) (x2 : Int32) (x3 : Int32) (ls : Array Slot) (hP : va_P D vwCl (XW ca a v) H) (hS : va_S (ad_of 9 a) s.heap H locs) (hl : lv_has ls 4 [(0, .ref (a 0)), (1, .int x1), (2, .int x2), (3, .int x3)]) (h : fn_X6_derivative v x1 x2 x3 = some q) : W p l e rm_X6_derivative s m args below meth c H locs 0 0 (MQ below (PQ (some (.int q.1)) (fun H => va_P D vwCl (XW ca a q.2) H) (ad_of 9 a)) args s 0 0 (ad_of 9 a)) (F0 m 0 ls []) := by
  obtain ⟨hx, hb, hr, hml, hown, hts, hlocks⟩ := id C0
  have hD0 := fun v => XW_D (ca := ca) hap v
  unfold fn_X6_derivative at h
  refine lv_iload_n hx hb dX6_derivative_0 rfl (lv_at hl 1 rfl) ?_
  obtain ⟨q1, e1, h⟩ := Option.bind_eq_some_iff.mp h
  refine hp_S (As := [.int x1]) (rest := []) ⟨hx, hb, hml, hown, hts⟩ (ct_X6_isRegister l tw tt x1 e1) (va_cwS 1 hts gX6_derivative_X6_isRegister rfl rfl rfl (by decide +kernel) ⟨Nat.le_of_ble_eq_true rfl, Nat.le_of_ble_eq_true rfl⟩) GP.mv (GP.from hT0 hS) rfl hl.1 rfl (Nat.le_of_ble_eq_true rfl) dX6_derivative_1 ⟨Nat.zero_le _, Nat.zero_le _⟩ ?_
  refine W.eq (g2 := F0 m 4 ls [.int q1]) rfl ?_
  refine lv_if_eq (tgt := 22) hx hb dX6_derivative_4 (by decide) (fun c4 => ?_) (fun c4 => ?_)
  · replace h := ite_t h c4
    refine lv_iconst (v := (-1)) hx hb dX6_derivative_22 (by decide) ?_
    obtain rfl := Option.some.inj h
    exact mp_iret hx hb hr hlocks hP hS dX6_derivative_23
  · replace h := ite_f h c4
    refine lv_aload_n hx hb dX6_derivative_7 rfl (lv_at hl 0 rfl) ?_
    refine lv_iload_n hx hb dX6_derivative_8 rfl (lv_at hl 2 rfl) ?_
    obtain ⟨q9, e9, h⟩ := Option.bind_eq_some_iff.mp h
    refine hp_V (As := [.int x2]) (rest := []) (b := (a 0)) ⟨hx, hb, hml, hown, hts⟩ (ct_X6_isVariable l D ca a tw tt v x2 e9) (cwV 1 hts gX6_derivative_X6_isVariable rfl rfl rfl (by decide +kernel) ⟨Nat.le_of_ble_eq_true rfl, Nat.le_of_ble_eq_true rfl⟩) (va_recv hK hP (ci := 3) (q0 := 0) rfl rfl) GW.mv (GW.from hP hK hT0 hS) rfl hl.1 rfl (Nat.le_of_ble_eq_true rfl) dX6_derivative_9 ⟨Nat.zero_le _, Nat.zero_le _⟩ ?_
    refine W.eq (g2 := F0 m 12 ls [.int q9]) rfl ?_
    refine lv_if_eq (tgt := 22) hx hb dX6_derivative_12 (by decide) (fun c12 => ?_) (fun c12 => ?_)
    · replace h := ite_t h c12
      refine lv_iconst (v := (-1)) hx hb dX6_derivative_22 (by decide) ?_
      obtain rfl := Option.some.inj h
      exact mp_iret hx hb hr hlocks hP hS dX6_derivative_23
    · replace h := ite_f h c12
      refine lv_iload_n hx hb dX6_derivative_15 rfl (lv_at hl 3 rfl) ?_
      obtain ⟨q16, e16, h⟩ := Option.bind_eq_some_iff.mp h
      refine hp_S (As := [.int x3]) (rest := []) ⟨hx, hb, hml, hown, hts⟩ (ct_X6_isRegister l tw tt x3 e16) (va_cwS 1 hts gX6_derivative_X6_isRegister rfl rfl rfl (by decide +kernel) ⟨Nat.le_of_ble_eq_true rfl, Nat.le_of_ble_eq_true rfl⟩) GP.mv (GP.from hT0 hS) rfl hl.1 rfl (Nat.le_of_ble_eq_true rfl) dX6_derivative_16 ⟨Nat.zero_le _, Nat.zero_le _⟩ ?_
      refine W.eq (g2 := F0 m 19 ls [.int q16]) rfl ?_
      refine lv_if_ne (tgt := 24) hx hb dX6_derivative_19 (by decide) (fun c19 => ?_) (fun c19 => ?_)
      · replace h := ite_f h c19
        refine lv_aload_n hx hb dX6_derivative_24 rfl (lv_at hl 0 rfl) ?_
        refine lv_iload_n hx hb dX6_derivative_25 rfl (lv_at hl 3 rfl) ?_
        refine lv_aload_n hx hb dX6_derivative_26 rfl (lv_at hl 0 rfl) ?_
        refine va_get (D := D) (ci := 3) (v := .ref (a 1)) (C := RX6) (T := TX6) (N := 6) hx hb hts ly_X6_derivative_X6 hown hK hP 0 rfl rfl 0 (by decide) (hts _ lk_X6_derivative_f9) (fun _ h9 => h9) rfl dX6_derivative_27 ?_
        refine lv_iload_n hx hb dX6_derivative_30 rfl (lv_at hl 1 rfl) ?_
        obtain ⟨q31, e31, h⟩ := Option.bind_eq_some_iff.mp h
        refine rd_lald hx hb hK hP 1 0 e31 rfl rfl dX6_derivative_31 ?_
        refine lv_iload_n hx hb dX6_derivative_32 rfl (lv_at hl 2 rfl) ?_
        obtain ⟨q33, e33, h⟩ := Option.bind_eq_some_iff.mp h
        refine hp_S (As := [.long q31, .int x2]) (rest := [.int x3, .ref (a 0)]) ⟨hx, hb, hml, hown, hts⟩ (ct_X3_upperHalf l tw tt q31 x2 e33) (va_cwS 2 hts gX6_derivative_X3_upperHalf rfl rfl rfl (by decide +kernel) ⟨Nat.le_of_ble_eq_true rfl, Nat.le_of_ble_eq_true rfl⟩) GP.mv (GP.from hT0 hS) rfl hl.1 rfl (Nat.le_of_ble_eq_true rfl) dX6_derivative_33 ⟨Nat.zero_le _, Nat.zero_le _⟩ ?_
        refine W.eq (g2 := F0 m 36 ls [.long q33, .int x3, .ref (a 0)]) rfl ?_
        obtain ⟨q36, e36, h⟩ := Option.bind_eq_some_iff.mp h
        refine mp_V (As := [.int x3, .long q33]) (rest := []) (b := (a 0)) ⟨hx, hb, hml, hown, hts⟩ (ct_X6_put l D ca a tw tt hap v x3 q33 e36) (cwV 2 hts gX6_derivative_X6_put rfl rfl rfl (by decide +kernel) ⟨Nat.le_of_ble_eq_true rfl, Nat.le_of_ble_eq_true rfl⟩) (va_recv hK hP (ci := 3) (q0 := 0) rfl rfl) GW.mv (GW.from hP hK hT0 hS) hS rfl hl.1 rfl (Nat.le_of_ble_eq_true rfl) dX6_derivative_36 ⟨Nat.zero_le _, Nat.zero_le _⟩ (fun H locs hP hS => ?_)
        refine W.eq (g2 := F0 m 39 ls [.int q36.1]) rfl ?_
        obtain rfl := Option.some.inj h
        exact mp_iret hx hb hr hlocks hP hS dX6_derivative_39
      · replace h := ite_t h c19
        refine lv_iconst (v := (-1)) hx hb dX6_derivative_22 (by decide) ?_
        obtain rfl := Option.some.inj h
        exact mp_iret hx hb hr hlocks hP hS dX6_derivative_23
theorem ct_X6_derivative (l : Launch) (D : va_G) (ca : Nat → ClassId) (a : Nat → Nat) (tw : Nat) (tt : Nat → Nat) (hap : ap_ok 9 a) (v : XS) (x1 : Int32) (x2 : Int32) (x3 : Int32) {q : Int32 × XS} (h : fn_X6_derivative v x1 x2 x3 = some q) : Mp l yX6_derivative wsX6_derivative rm_X6_derivative [.ref (a 0), .int x1, .int x2, .int x3] (GW D ca tw tt (ad_of 9 a) (XW ca a v)) (some (.int q.1)) (fun H => va_P D vwCl (XW ca a q.2) H) (ad_of 9 a) := by
  refine Mp.of (cc := cX6_derivative) (nL := 4) (ret := (some .int)) (own := RX6) (by decide) rfl rfl (Nat.le_of_ble_eq_true rfl) ?_
  intro p e s m below meth c ls C0 hB hl
  exact wk_X6_derivative C0 hap hB.2.1 hB.2.2 (hP := hB.1) (hS := va_S.rf) (hl := hl) (h := h)
abbrev rm_X6_flip : Room := { frames := 3, cells := 0, slots := 0, locals := 70 }
theorem lk_X6_flip_f38 : Cond.fieldLink RX6 38 "BooleanRing" "n" "I" ∈ wsX6_flip := by decide +kernel
theorem lk_X6_flip_f9 : Cond.fieldLink RX6 9 "BooleanRing" "registers" "[J" ∈ wsX6_flip := by decide +kernel
theorem ly_X6_flip_X6 : ∀ w ∈ wsX60, w ∈ wsX6_flip := by decide +kernel
set_option maxHeartbeats 4000000 in
set_option maxRecDepth 100000 in
theorem wk_X6_flip {p : Program} {l : Launch} {e : Env} {s : State} {m : MethodId} {args : Array Value} {below : List Frame} {meth : Method} {c : Code} {D : va_G} {ca : Nat → ClassId} {a : Nat → Nat} {tw : Nat} {tt : Nat → Nat} (C0 : Cx p s m args meth c cX6_flip (some .int) 5 wsX6_flip RX6) (hap : ap_ok 9 a) (hK : va_K D vwCl (tys3 ca) s) (hT0 : tW tw tt (ad_of 9 a) s s.heap) {q : Int32 × XS} (v : XS) (H : Heap) (locs : List Loc) (x1 : Int32) (x2 : Int32) (ls : Array Slot) (hP : va_P D vwCl (XW ca a v) H) (hS : va_S (ad_of 9 a) s.heap H locs) (hl : lv_has ls 5 [(0, .ref (a 0)), (1, .int x1), (2, .int x2)]) (h : fn_X6_flip v x1 x2 = some q) : W p l e rm_X6_flip s m args below meth c H locs 0 0 (MQ below (PQ (some (.int q.1)) (fun H => va_P D vwCl (XW ca a q.2) H) (ad_of 9 a)) args s 0 0 (ad_of 9 a)) (F0 m 0 ls []) := by
  obtain ⟨hx, hb, hr, hml, hown, hts, hlocks⟩ := id C0
  have hD0 := fun v => XW_D (ca := ca) hap v
  unfold fn_X6_flip at h
  refine lv_iload_n hx hb dX6_flip_0 rfl (lv_at hl 1 rfl) ?_
  obtain ⟨q1, e1, h⟩ := Option.bind_eq_some_iff.mp h
  refine hp_S (As := [.int x1]) (rest := []) ⟨hx, hb, hml, hown, hts⟩ (ct_X6_isRegister l tw tt x1 e1) (va_cwS 1 hts gX6_flip_X6_isRegister rfl rfl rfl (by decide +kernel) ⟨Nat.le_of_ble_eq_true rfl, Nat.le_of_ble_eq_true rfl⟩) GP.mv (GP.from hT0 hS) rfl hl.1 rfl (Nat.le_of_ble_eq_true rfl) dX6_flip_1 ⟨Nat.zero_le _, Nat.zero_le _⟩ ?_
  refine W.eq (g2 := F0 m 4 ls [.int q1]) rfl ?_
  refine lv_if_eq (tgt := 15) hx hb dX6_flip_4 (by decide) (fun c4 => ?_) (fun c4 => ?_)
  · replace h := ite_t h c4
    refine lv_iconst (v := (-1)) hx hb dX6_flip_15 (by decide) ?_
    obtain rfl := Option.some.inj h
    exact mp_iret hx hb hr hlocks hP hS dX6_flip_16
  · replace h := ite_f h c4
    refine lv_aload_n hx hb dX6_flip_7 rfl (lv_at hl 0 rfl) ?_
    refine lv_iload_n hx hb dX6_flip_8 rfl (lv_at hl 2 rfl) ?_
    obtain ⟨q9, e9, h⟩ := Option.bind_eq_some_iff.mp h
    refine hp_V (As := [.int x2]) (rest := []) (b := (a 0)) ⟨hx, hb, hml, hown, hts⟩ (ct_X6_isMask l D ca a tw tt v x2 e9) (cwV 1 hts gX6_flip_X6_isMask rfl rfl rfl (by decide +kernel) ⟨Nat.le_of_ble_eq_true rfl, Nat.le_of_ble_eq_true rfl⟩) (va_recv hK hP (ci := 3) (q0 := 0) rfl rfl) GW.mv (GW.from hP hK hT0 hS) rfl hl.1 rfl (Nat.le_of_ble_eq_true rfl) dX6_flip_9 ⟨Nat.zero_le _, Nat.zero_le _⟩ ?_
    refine W.eq (g2 := F0 m 12 ls [.int q9]) rfl ?_
    refine lv_if_ne (tgt := 17) hx hb dX6_flip_12 (by decide) (fun c12 => ?_) (fun c12 => ?_)
    · replace h := ite_f h c12
      refine lv_lconst (v := 1) hx hb dX6_flip_17 (by decide) ?_
      refine lv_iload_n hx hb dX6_flip_18 rfl (lv_at hl 2 rfl) ?_
      refine lv_lshl (v := (lsh 1 x2)) hx hb dX6_flip_19 rfl ?_
      refine lv_aload_n hx hb dX6_flip_20 rfl (lv_at hl 0 rfl) ?_
      refine va_get (D := D) (ci := 3) (v := .int (x_n v)) (C := RX6) (T := TX6) (N := 6) hx hb hts ly_X6_flip_X6 hown hK hP 0 rfl rfl 5 (by decide) (hts _ lk_X6_flip_f38) (fun _ h9 => h9) rfl dX6_flip_21 ?_
      obtain ⟨q24, e24, h⟩ := Option.bind_eq_some_iff.mp h
      refine hp_S (As := [.long (lsh 1 x2), .int (x_n v)]) (rest := []) ⟨hx, hb, hml, hown, hts⟩ (ct_X3_transformed l tw tt (lsh 1 x2) (x_n v) e24) (va_cwS 2 hts gX6_flip_X3_transformed rfl rfl rfl (by decide +kernel) ⟨Nat.le_of_ble_eq_true rfl, Nat.le_of_ble_eq_true rfl⟩) GP.mv (GP.from hT0 hS) rfl hl.1 rfl (Nat.le_of_ble_eq_true rfl) dX6_flip_24 ⟨Nat.zero_le _, Nat.zero_le _⟩ ?_
      refine W.eq (g2 := F0 m 27 ls [.long q24]) rfl ?_
      refine lv_lstore_n (lv' := [(3, .long q24), (0, .ref (a 0)), (1, .int x1), (2, .int x2)]) hx hb dX6_flip_27 rfl hl (by decide) rfl (fun ls hl => ?_)
      refine lv_aload_n hx hb dX6_flip_28 rfl (lv_at hl 1 rfl) ?_
      refine lv_iload_n hx hb dX6_flip_29 rfl (lv_at hl 2 rfl) ?_
      refine lv_aload_n hx hb dX6_flip_30 rfl (lv_at hl 1 rfl) ?_
      refine va_get (D := D) (ci := 3) (v := .ref (a 1)) (C := RX6) (T := TX6) (N := 6) hx hb hts ly_X6_flip_X6 hown hK hP 0 rfl rfl 0 (by decide) (hts _ lk_X6_flip_f9) (fun _ h9 => h9) rfl dX6_flip_31 ?_
      refine lv_iload_n hx hb dX6_flip_34 rfl (lv_at hl 2 rfl) ?_
      obtain ⟨q35, e35, h⟩ := Option.bind_eq_some_iff.mp h
      refine rd_lald hx hb hK hP 1 0 e35 rfl rfl dX6_flip_35 ?_
      refine lv_lload_n hx hb dX6_flip_36 rfl (lv_at hl 0 rfl) ?_
      refine lv_lxor hx hb dX6_flip_37 ?_
      obtain ⟨q38, e38, h⟩ := Option.bind_eq_some_iff.mp h
      refine mp_V (As := [.int x1, .long (q35 ^^^ q24)]) (rest := []) (b := (a 0)) ⟨hx, hb, hml, hown, hts⟩ (ct_X6_put l D ca a tw tt hap v x1 (q35 ^^^ q24) e38) (cwV 2 hts gX6_flip_X6_put rfl rfl rfl (by decide +kernel) ⟨Nat.le_of_ble_eq_true rfl, Nat.le_of_ble_eq_true rfl⟩) (va_recv hK hP (ci := 3) (q0 := 0) rfl rfl) GW.mv (GW.from hP hK hT0 hS) hS rfl hl.1 rfl (Nat.le_of_ble_eq_true rfl) dX6_flip_38 ⟨Nat.zero_le _, Nat.zero_le _⟩ (fun H locs hP hS => ?_)
      refine W.eq (g2 := F0 m 41 ls [.int q38.1]) rfl ?_
      obtain rfl := Option.some.inj h
      exact mp_iret hx hb hr hlocks hP hS dX6_flip_41
    · replace h := ite_t h c12
      refine lv_iconst (v := (-1)) hx hb dX6_flip_15 (by decide) ?_
      obtain rfl := Option.some.inj h
      exact mp_iret hx hb hr hlocks hP hS dX6_flip_16
theorem ct_X6_flip (l : Launch) (D : va_G) (ca : Nat → ClassId) (a : Nat → Nat) (tw : Nat) (tt : Nat → Nat) (hap : ap_ok 9 a) (v : XS) (x1 : Int32) (x2 : Int32) {q : Int32 × XS} (h : fn_X6_flip v x1 x2 = some q) : Mp l yX6_flip wsX6_flip rm_X6_flip [.ref (a 0), .int x1, .int x2] (GW D ca tw tt (ad_of 9 a) (XW ca a v)) (some (.int q.1)) (fun H => va_P D vwCl (XW ca a q.2) H) (ad_of 9 a) := by
  refine Mp.of (cc := cX6_flip) (nL := 5) (ret := (some .int)) (own := RX6) (by decide) rfl rfl (Nat.le_of_ble_eq_true rfl) ?_
  intro p e s m below meth c ls C0 hB hl
  exact wk_X6_flip C0 hap hB.2.1 hB.2.2 (hP := hB.1) (hS := va_S.rf) (hl := hl) (h := h)
abbrev rm_X6_exchange : Room := { frames := 3, cells := 0, slots := 0, locals := 70 }
theorem lk_X6_exchange_f9 : Cond.fieldLink RX6 9 "BooleanRing" "registers" "[J" ∈ wsX6_exchange := by decide +kernel
theorem lk_X6_exchange_m85 : Cond.methodLink RX6 85 Lib.Math.min.name ∈ wsX6_exchange := by decide +kernel
theorem lk_X6_exchange_stmin : Cond.static Lib.Math.min.name ∈ wsX6_exchange := by decide +kernel
theorem lk_X6_exchange_math : Cond.initialized "java/lang/Math" ∈ wsX6_exchange := by decide +kernel
theorem lk_X6_exchange_comin : Cond.code Lib.Math.min.name Lib.Math.min.code 2 (some .int) ∈ wsX6_exchange := by decide +kernel
theorem lk_X6_exchange_m91 : Cond.methodLink RX6 91 Lib.Math.max.name ∈ wsX6_exchange := by decide +kernel
theorem lk_X6_exchange_stmax : Cond.static Lib.Math.max.name ∈ wsX6_exchange := by decide +kernel
theorem lk_X6_exchange_comax : Cond.code Lib.Math.max.name Lib.Math.max.code 2 (some .int) ∈ wsX6_exchange := by decide +kernel
theorem ly_X6_exchange_X6 : ∀ w ∈ wsX60, w ∈ wsX6_exchange := by decide +kernel
set_option maxHeartbeats 4000000 in
set_option maxRecDepth 100000 in
theorem wk_X6_exchange {p : Program} {l : Launch} {e : Env} {s : State} {m : MethodId} {args : Array Value} {below : List Frame} {meth : Method} {c : Code} {D : va_G} {ca : Nat → ClassId} {a : Nat → Nat} {tw : Nat} {tt : Nat → Nat} (C0 : Cx p s m args meth c cX6_exchange (some .int) 4 wsX6_exchange RX6) (hap : ap_ok 9 a) (hK : va_K D vwCl (tys3 ca) s) (hT0 : tW tw tt (ad_of 9 a) s s.heap) {q : Int32 × XS} (v : XS) (H : Heap) (locs : List Loc) (x1 : Int32) (x2 : Int32) (x3 : Int32) (ls : Array Slot) (hP : va_P D vwCl (XW ca a v) H) (hS : va_S (ad_of 9 a) s.heap H locs) (hl : lv_has ls 4 [(0, .ref (a 0)), (1, .int x1), (2, .int x2), (3, .int x3)]) (h : fn_X6_exchange v x1 x2 x3 = some q) : W p l e rm_X6_exchange s m args below meth c H locs 0 0 (MQ below (PQ (some (.int q.1)) (fun H => va_P D vwCl (XW ca a q.2) H) (ad_of 9 a)) args s 0 0 (ad_of 9 a)) (F0 m 0 ls []) := by
  obtain ⟨hx, hb, hr, hml, hown, hts, hlocks⟩ := id C0
  have hD0 := fun v => XW_D (ca := ca) hap v
  unfold fn_X6_exchange at h
  refine lv_iload_n hx hb dX6_exchange_0 rfl (lv_at hl 1 rfl) ?_
  obtain ⟨q1, e1, h⟩ := Option.bind_eq_some_iff.mp h
  refine hp_S (As := [.int x1]) (rest := []) ⟨hx, hb, hml, hown, hts⟩ (ct_X6_isRegister l tw tt x1 e1) (va_cwS 1 hts gX6_exchange_X6_isRegister rfl rfl rfl (by decide +kernel) ⟨Nat.le_of_ble_eq_true rfl, Nat.le_of_ble_eq_true rfl⟩) GP.mv (GP.from hT0 hS) rfl hl.1 rfl (Nat.le_of_ble_eq_true rfl) dX6_exchange_1 ⟨Nat.zero_le _, Nat.zero_le _⟩ ?_
  refine W.eq (g2 := F0 m 4 ls [.int q1]) rfl ?_
  refine lv_if_eq (tgt := 23) hx hb dX6_exchange_4 (by decide) (fun c4 => ?_) (fun c4 => ?_)
  · replace h := ite_t h c4
    refine lv_iconst (v := (-1)) hx hb dX6_exchange_23 (by decide) ?_
    obtain rfl := Option.some.inj h
    exact mp_iret hx hb hr hlocks hP hS dX6_exchange_24
  · replace h := ite_f h c4
    refine lv_aload_n hx hb dX6_exchange_7 rfl (lv_at hl 0 rfl) ?_
    refine lv_iload_n hx hb dX6_exchange_8 rfl (lv_at hl 2 rfl) ?_
    obtain ⟨q9, e9, h⟩ := Option.bind_eq_some_iff.mp h
    refine hp_V (As := [.int x2]) (rest := []) (b := (a 0)) ⟨hx, hb, hml, hown, hts⟩ (ct_X6_isVariable l D ca a tw tt v x2 e9) (cwV 1 hts gX6_exchange_X6_isVariable rfl rfl rfl (by decide +kernel) ⟨Nat.le_of_ble_eq_true rfl, Nat.le_of_ble_eq_true rfl⟩) (va_recv hK hP (ci := 3) (q0 := 0) rfl rfl) GW.mv (GW.from hP hK hT0 hS) rfl hl.1 rfl (Nat.le_of_ble_eq_true rfl) dX6_exchange_9 ⟨Nat.zero_le _, Nat.zero_le _⟩ ?_
    refine W.eq (g2 := F0 m 12 ls [.int q9]) rfl ?_
    refine lv_if_eq (tgt := 23) hx hb dX6_exchange_12 (by decide) (fun c12 => ?_) (fun c12 => ?_)
    · replace h := ite_t h c12
      refine lv_iconst (v := (-1)) hx hb dX6_exchange_23 (by decide) ?_
      obtain rfl := Option.some.inj h
      exact mp_iret hx hb hr hlocks hP hS dX6_exchange_24
    · replace h := ite_f h c12
      refine lv_aload_n hx hb dX6_exchange_15 rfl (lv_at hl 0 rfl) ?_
      refine lv_iload_n hx hb dX6_exchange_16 rfl (lv_at hl 3 rfl) ?_
      obtain ⟨q17, e17, h⟩ := Option.bind_eq_some_iff.mp h
      refine hp_V (As := [.int x3]) (rest := []) (b := (a 0)) ⟨hx, hb, hml, hown, hts⟩ (ct_X6_isVariable l D ca a tw tt v x3 e17) (cwV 1 hts gX6_exchange_X6_isVariable rfl rfl rfl (by decide +kernel) ⟨Nat.le_of_ble_eq_true rfl, Nat.le_of_ble_eq_true rfl⟩) (va_recv hK hP (ci := 3) (q0 := 0) rfl rfl) GW.mv (GW.from hP hK hT0 hS) rfl hl.1 rfl (Nat.le_of_ble_eq_true rfl) dX6_exchange_17 ⟨Nat.zero_le _, Nat.zero_le _⟩ ?_
      refine W.eq (g2 := F0 m 20 ls [.int q17]) rfl ?_
      refine lv_if_ne (tgt := 25) hx hb dX6_exchange_20 (by decide) (fun c20 => ?_) (fun c20 => ?_)
      · replace h := ite_f h c20
        refine lv_aload_n hx hb dX6_exchange_25 rfl (lv_at hl 0 rfl) ?_
        refine lv_iload_n hx hb dX6_exchange_26 rfl (lv_at hl 1 rfl) ?_
        refine lv_aload_n hx hb dX6_exchange_27 rfl (lv_at hl 0 rfl) ?_
        refine va_get (D := D) (ci := 3) (v := .ref (a 1)) (C := RX6) (T := TX6) (N := 6) hx hb hts ly_X6_exchange_X6 hown hK hP 0 rfl rfl 0 (by decide) (hts _ lk_X6_exchange_f9) (fun _ h9 => h9) rfl dX6_exchange_28 ?_
        refine lv_iload_n hx hb dX6_exchange_31 rfl (lv_at hl 1 rfl) ?_
        obtain ⟨q32, e32, h⟩ := Option.bind_eq_some_iff.mp h
        refine rd_lald hx hb hK hP 1 0 e32 rfl rfl dX6_exchange_32 ?_
        refine lv_iload_n hx hb dX6_exchange_33 rfl (lv_at hl 2 rfl) ?_
        refine lv_iload_n hx hb dX6_exchange_34 rfl (lv_at hl 3 rfl) ?_
        refine va_mmin (rest := [.long q32, .int x1, .ref (a 0)]) hx hb (hml.trans hl.1.symm) hown (hts _ lk_X6_exchange_m85) (hts _ lk_X6_exchange_stmin) (hts _ lk_X6_exchange_math) (hts _ lk_X6_exchange_comin) (Nat.le_of_ble_eq_true rfl) (Nat.le_of_ble_eq_true rfl) (Nat.zero_le _) (Nat.zero_le _) dX6_exchange_35 ?_
        refine lv_iload_n hx hb dX6_exchange_38 rfl (lv_at hl 2 rfl) ?_
        refine lv_iload_n hx hb dX6_exchange_39 rfl (lv_at hl 3 rfl) ?_
        refine va_mmax (rest := [.int (if x3 < x2 then x3 else x2), .long q32, .int x1, .ref (a 0)]) hx hb (hml.trans hl.1.symm) hown (hts _ lk_X6_exchange_m91) (hts _ lk_X6_exchange_stmax) (hts _ lk_X6_exchange_math) (hts _ lk_X6_exchange_comax) (Nat.le_of_ble_eq_true rfl) (Nat.le_of_ble_eq_true rfl) (Nat.zero_le _) (Nat.zero_le _) dX6_exchange_40 ?_
        obtain ⟨q43, e43, h⟩ := Option.bind_eq_some_iff.mp h
        refine hp_S (As := [.long q32, .int (if x3 < x2 then x3 else x2), .int (if x2 < x3 then x3 else x2)]) (rest := [.int x1, .ref (a 0)]) ⟨hx, hb, hml, hown, hts⟩ (ct_X3_exchanged l tw tt q32 (if x3 < x2 then x3 else x2) (if x2 < x3 then x3 else x2) e43) (va_cwS 3 hts gX6_exchange_X3_exchanged rfl rfl rfl (by decide +kernel) ⟨Nat.le_of_ble_eq_true rfl, Nat.le_of_ble_eq_true rfl⟩) GP.mv (GP.from hT0 hS) rfl hl.1 rfl (Nat.le_of_ble_eq_true rfl) dX6_exchange_43 ⟨Nat.zero_le _, Nat.zero_le _⟩ ?_
        refine W.eq (g2 := F0 m 46 ls [.long q43, .int x1, .ref (a 0)]) rfl ?_
        obtain ⟨q46, e46, h⟩ := Option.bind_eq_some_iff.mp h
        refine mp_V (As := [.int x1, .long q43]) (rest := []) (b := (a 0)) ⟨hx, hb, hml, hown, hts⟩ (ct_X6_put l D ca a tw tt hap v x1 q43 e46) (cwV 2 hts gX6_exchange_X6_put rfl rfl rfl (by decide +kernel) ⟨Nat.le_of_ble_eq_true rfl, Nat.le_of_ble_eq_true rfl⟩) (va_recv hK hP (ci := 3) (q0 := 0) rfl rfl) GW.mv (GW.from hP hK hT0 hS) hS rfl hl.1 rfl (Nat.le_of_ble_eq_true rfl) dX6_exchange_46 ⟨Nat.zero_le _, Nat.zero_le _⟩ (fun H locs hP hS => ?_)
        refine W.eq (g2 := F0 m 49 ls [.int q46.1]) rfl ?_
        obtain rfl := Option.some.inj h
        exact mp_iret hx hb hr hlocks hP hS dX6_exchange_49
      · replace h := ite_t h c20
        refine lv_iconst (v := (-1)) hx hb dX6_exchange_23 (by decide) ?_
        obtain rfl := Option.some.inj h
        exact mp_iret hx hb hr hlocks hP hS dX6_exchange_24
theorem ct_X6_exchange (l : Launch) (D : va_G) (ca : Nat → ClassId) (a : Nat → Nat) (tw : Nat) (tt : Nat → Nat) (hap : ap_ok 9 a) (v : XS) (x1 : Int32) (x2 : Int32) (x3 : Int32) {q : Int32 × XS} (h : fn_X6_exchange v x1 x2 x3 = some q) : Mp l yX6_exchange wsX6_exchange rm_X6_exchange [.ref (a 0), .int x1, .int x2, .int x3] (GW D ca tw tt (ad_of 9 a) (XW ca a v)) (some (.int q.1)) (fun H => va_P D vwCl (XW ca a q.2) H) (ad_of 9 a) := by
  refine Mp.of (cc := cX6_exchange) (nL := 4) (ret := (some .int)) (own := RX6) (by decide) rfl rfl (Nat.le_of_ble_eq_true rfl) ?_
  intro p e s m below meth c ls C0 hB hl
  exact wk_X6_exchange C0 hap hB.2.1 hB.2.2 (hP := hB.1) (hS := va_S.rf) (hl := hl) (h := h)
abbrev rm_X6_undo : Room := { frames := 2, cells := 0, slots := 0, locals := 47 }
theorem lk_X6_undo_f20 : Cond.fieldLink RX6 20 "BooleanRing" "history" "LBooleanRing$History;" ∈ wsX6_undo := by decide +kernel
theorem lk_X6_undo_f9 : Cond.fieldLink RX6 9 "BooleanRing" "registers" "[J" ∈ wsX6_undo := by decide +kernel
theorem ly_X6_undo_X6 : ∀ w ∈ wsX60, w ∈ wsX6_undo := by decide +kernel
set_option maxHeartbeats 4000000 in
set_option maxRecDepth 100000 in
theorem wk_X6_undo {p : Program} {l : Launch} {e : Env} {s : State} {m : MethodId} {args : Array Value} {below : List Frame} {meth : Method} {c : Code} {D : va_G} {ca : Nat → ClassId} {a : Nat → Nat} {tw : Nat} {tt : Nat → Nat} (C0 : Cx p s m args meth c cX6_undo (some .int) 1 wsX6_undo RX6) (hap : ap_ok 9 a) (hK : va_K D vwCl (tys3 ca) s) (hT0 : tW tw tt (ad_of 9 a) s s.heap) {q : Int32 × XS} (v : XS) (H : Heap) (locs : List Loc) (ls : Array Slot) (hP : va_P D vwCl (XW ca a v) H) (hS : va_S (ad_of 9 a) s.heap H locs) (hl : lv_has ls 1 [(0, .ref (a 0))]) (h : fn_X6_undo v  = some q) : W p l e rm_X6_undo s m args below meth c H locs 0 0 (MQ below (PQ (some (.int q.1)) (fun H => va_P D vwCl (XW ca a q.2) H) (ad_of 9 a)) args s 0 0 (ad_of 9 a)) (F0 m 0 ls []) := by
  obtain ⟨hx, hb, hr, hml, hown, hts, hlocks⟩ := id C0
  have hD0 := fun v => XW_D (ca := ca) hap v
  unfold fn_X6_undo at h
  refine lv_aload_n hx hb dX6_undo_0 rfl (lv_at hl 0 rfl) ?_
  refine va_get (D := D) (ci := 3) (v := .ref (a 3)) (C := RX6) (T := TX6) (N := 6) hx hb hts ly_X6_undo_X6 hown hK hP 0 rfl rfl 2 (by decide) (hts _ lk_X6_undo_f20) (fun _ h9 => h9) rfl dX6_undo_1 ?_
  obtain ⟨q4, e4, h⟩ := Option.bind_eq_some_iff.mp h
  refine hp_V (As := []) (rest := []) (b := (a 3)) ⟨hx, hb, hml, hown, hts⟩ (ct_X1_isEmpty l D ca a tw tt v  e4) (cwV 0 hts gX6_undo_X1_isEmpty rfl rfl rfl (by decide +kernel) ⟨Nat.le_of_ble_eq_true rfl, Nat.le_of_ble_eq_true rfl⟩) (va_recv hK hP (ci := 1) (q0 := 3) rfl rfl) GW.mv (GW.from hP hK hT0 hS) rfl hl.1 rfl (Nat.le_of_ble_eq_true rfl) dX6_undo_4 ⟨Nat.zero_le _, Nat.zero_le _⟩ ?_
  refine W.eq (g2 := F0 m 7 ls [.int q4]) rfl ?_
  refine lv_if_eq (tgt := 13) hx hb dX6_undo_7 (by decide) (fun c7 => ?_) (fun c7 => ?_)
  · replace h := ite_t h c7
    refine lv_aload_n hx hb dX6_undo_13 rfl (lv_at hl 0 rfl) ?_
    refine va_get (D := D) (ci := 3) (v := .ref (a 3)) (C := RX6) (T := TX6) (N := 6) hx hb hts ly_X6_undo_X6 hown hK hP 0 rfl rfl 2 (by decide) (hts _ lk_X6_undo_f20) (fun _ h9 => h9) rfl dX6_undo_14 ?_
    refine lv_aload_n hx hb dX6_undo_17 rfl (lv_at hl 0 rfl) ?_
    refine va_get (D := D) (ci := 3) (v := .ref (a 1)) (C := RX6) (T := TX6) (N := 6) hx hb hts ly_X6_undo_X6 hown hK hP 0 rfl rfl 0 (by decide) (hts _ lk_X6_undo_f9) (fun _ h9 => h9) rfl dX6_undo_18 ?_
    obtain ⟨q21, e21, h⟩ := Option.bind_eq_some_iff.mp h
    refine mp_V (As := [.ref (a 1)]) (rest := []) (b := (a 3)) ⟨hx, hb, hml, hown, hts⟩ (ct_X1_restore l D ca a tw tt hap v  e21) (cwV 1 hts gX6_undo_X1_restore rfl rfl rfl (by decide +kernel) ⟨Nat.le_of_ble_eq_true rfl, Nat.le_of_ble_eq_true rfl⟩) (va_recv hK hP (ci := 1) (q0 := 3) rfl rfl) GW.mv (GW.from hP hK hT0 hS) hS rfl hl.1 rfl (Nat.le_of_ble_eq_true rfl) dX6_undo_21 ⟨Nat.zero_le _, Nat.zero_le _⟩ (fun H locs hP hS => ?_)
    refine W.eq (g2 := F0 m 24 ls [.int q21.1]) rfl ?_
    obtain rfl := Option.some.inj h
    exact mp_iret hx hb hr hlocks hP hS dX6_undo_24
  · replace h := ite_f h c7
    refine lv_bipush (v := (-2)) hx hb dX6_undo_10 (by decide) ?_
    obtain rfl := Option.some.inj h
    exact mp_iret hx hb hr hlocks hP hS dX6_undo_12
theorem ct_X6_undo (l : Launch) (D : va_G) (ca : Nat → ClassId) (a : Nat → Nat) (tw : Nat) (tt : Nat → Nat) (hap : ap_ok 9 a) (v : XS) {q : Int32 × XS} (h : fn_X6_undo v  = some q) : Mp l yX6_undo wsX6_undo rm_X6_undo [.ref (a 0)] (GW D ca tw tt (ad_of 9 a) (XW ca a v)) (some (.int q.1)) (fun H => va_P D vwCl (XW ca a q.2) H) (ad_of 9 a) := by
  refine Mp.of (cc := cX6_undo) (nL := 1) (ret := (some .int)) (own := RX6) (by decide) rfl rfl (Nat.le_of_ble_eq_true rfl) ?_
  intro p e s m below meth c ls C0 hB hl
  exact wk_X6_undo C0 hap hB.2.1 hB.2.2 (hP := hB.1) (hS := va_S.rf) (hl := hl) (h := h)
abbrev rm_X6_has : Room := { frames := 1, cells := 0, slots := 0, locals := 22 }
theorem lk_X6_has_f9 : Cond.fieldLink RX6 9 "BooleanRing" "registers" "[J" ∈ wsX6_has := by decide +kernel
theorem ly_X6_has_X6 : ∀ w ∈ wsX60, w ∈ wsX6_has := by decide +kernel
set_option maxHeartbeats 4000000 in
set_option maxRecDepth 100000 in
theorem wk_X6_has {p : Program} {l : Launch} {e : Env} {s : State} {m : MethodId} {args : Array Value} {below : List Frame} {meth : Method} {c : Code} {D : va_G} {ca : Nat → ClassId} {a : Nat → Nat} {tw : Nat} {tt : Nat → Nat} (C0 : Cx p s m args meth c cX6_has (some .int) 3 wsX6_has RX6) (hK : va_K D vwCl (tys3 ca) s) (hT0 : tW tw tt (ad_of 9 a) s s.heap) (v : XS) (hP : va_P D vwCl (XW ca a v) s.heap) {q : Int32} (x1 : Int32) (x2 : Int32) (ls : Array Slot) (hl : lv_has ls 3 [(0, .ref (a 0)), (1, .int x1), (2, .int x2)]) (h : fn_X6_has v x1 x2 = some q) : W p l e rm_X6_has s m args below meth c s.heap [] 0 0 (MQ below (HQ (some (.int q))) args s 0 0 (fun _ => False)) (F0 m 0 ls []) := by
  obtain ⟨hx, hb, hr, hml, hown, hts, hlocks⟩ := id C0
  have hS : va_S (ad_of 9 a) s.heap s.heap [] := va_S.rf
  unfold fn_X6_has at h
  refine lv_iload_n hx hb dX6_has_0 rfl (lv_at hl 1 rfl) ?_
  obtain ⟨q1, e1, h⟩ := Option.bind_eq_some_iff.mp h
  refine hp_S (As := [.int x1]) (rest := []) ⟨hx, hb, hml, hown, hts⟩ (ct_X6_isRegister l tw tt x1 e1) (va_cwS 1 hts gX6_has_X6_isRegister rfl rfl rfl (by decide +kernel) ⟨Nat.le_of_ble_eq_true rfl, Nat.le_of_ble_eq_true rfl⟩) GP.mv (GP.from hT0 hS) rfl hl.1 rfl (Nat.le_of_ble_eq_true rfl) dX6_has_1 ⟨Nat.zero_le _, Nat.zero_le _⟩ ?_
  refine W.eq (g2 := F0 m 4 ls [.int q1]) rfl ?_
  refine lv_if_eq (tgt := 15) hx hb dX6_has_4 (by decide) (fun c4 => ?_) (fun c4 => ?_)
  · replace h := ite_t h c4
    refine lv_iconst (v := (-1)) hx hb dX6_has_15 (by decide) ?_
    obtain rfl := Option.some.inj h
    exact hp_iret hx hb hr hlocks dX6_has_16
  · replace h := ite_f h c4
    refine lv_aload_n hx hb dX6_has_7 rfl (lv_at hl 0 rfl) ?_
    refine lv_iload_n hx hb dX6_has_8 rfl (lv_at hl 2 rfl) ?_
    obtain ⟨q9, e9, h⟩ := Option.bind_eq_some_iff.mp h
    refine hp_V (As := [.int x2]) (rest := []) (b := (a 0)) ⟨hx, hb, hml, hown, hts⟩ (ct_X6_isMask l D ca a tw tt v x2 e9) (cwV 1 hts gX6_has_X6_isMask rfl rfl rfl (by decide +kernel) ⟨Nat.le_of_ble_eq_true rfl, Nat.le_of_ble_eq_true rfl⟩) (va_recv hK hP (ci := 3) (q0 := 0) rfl rfl) GW.mv (GW.from hP hK hT0 hS) rfl hl.1 rfl (Nat.le_of_ble_eq_true rfl) dX6_has_9 ⟨Nat.zero_le _, Nat.zero_le _⟩ ?_
    refine W.eq (g2 := F0 m 12 ls [.int q9]) rfl ?_
    refine lv_if_ne (tgt := 17) hx hb dX6_has_12 (by decide) (fun c12 => ?_) (fun c12 => ?_)
    · replace h := ite_f h c12
      refine lv_aload_n hx hb dX6_has_17 rfl (lv_at hl 0 rfl) ?_
      refine va_get (D := D) (ci := 3) (v := .ref (a 1)) (C := RX6) (T := TX6) (N := 6) hx hb hts ly_X6_has_X6 hown hK hP 0 rfl rfl 0 (by decide) (hts _ lk_X6_has_f9) (fun _ h9 => h9) rfl dX6_has_18 ?_
      refine lv_iload_n hx hb dX6_has_21 rfl (lv_at hl 1 rfl) ?_
      obtain ⟨q22, e22, h⟩ := Option.bind_eq_some_iff.mp h
      refine rd_lald hx hb hK hP 1 0 e22 rfl rfl dX6_has_22 ?_
      refine lv_iload_n hx hb dX6_has_23 rfl (lv_at hl 2 rfl) ?_
      obtain ⟨q24, e24, h⟩ := Option.bind_eq_some_iff.mp h
      refine hp_S (As := [.long q22, .int x2]) (rest := []) ⟨hx, hb, hml, hown, hts⟩ (ct_X3_bit l tw tt q22 x2 e24) (va_cwS 2 hts gX6_has_X3_bit rfl rfl rfl (by decide +kernel) ⟨Nat.le_of_ble_eq_true rfl, Nat.le_of_ble_eq_true rfl⟩) GP.mv (GP.from hT0 hS) rfl hl.1 rfl (Nat.le_of_ble_eq_true rfl) dX6_has_24 ⟨Nat.zero_le _, Nat.zero_le _⟩ ?_
      refine W.eq (g2 := F0 m 27 ls [.int q24]) rfl ?_
      obtain rfl := Option.some.inj h
      exact hp_iret hx hb hr hlocks dX6_has_27
    · replace h := ite_t h c12
      refine lv_iconst (v := (-1)) hx hb dX6_has_15 (by decide) ?_
      obtain rfl := Option.some.inj h
      exact hp_iret hx hb hr hlocks dX6_has_16
theorem ct_X6_has (l : Launch) (D : va_G) (ca : Nat → ClassId) (a : Nat → Nat) (tw : Nat) (tt : Nat → Nat) (v : XS) (x1 : Int32) (x2 : Int32) {q : Int32} (h : fn_X6_has v x1 x2 = some q) : Hp l yX6_has wsX6_has rm_X6_has [.ref (a 0), .int x1, .int x2] (GW D ca tw tt (ad_of 9 a) (XW ca a v)) (some (.int q)) := by
  refine Hp.of (cc := cX6_has) (nL := 3) (ret := (some .int)) (own := RX6) (by decide) rfl rfl (Nat.le_of_ble_eq_true rfl) ?_
  intro p e s m below meth c ls C0 hB hl
  exact wk_X6_has C0 hB.2.1 hB.2.2 v hB.1 (hl := hl) (h := h)
abbrev rm_X6_terms : Room := { frames := 1, cells := 0, slots := 0, locals := 21 }
theorem lk_X6_terms_f9 : Cond.fieldLink RX6 9 "BooleanRing" "registers" "[J" ∈ wsX6_terms := by decide +kernel
theorem ly_X6_terms_X6 : ∀ w ∈ wsX60, w ∈ wsX6_terms := by decide +kernel
set_option maxHeartbeats 4000000 in
set_option maxRecDepth 100000 in
theorem wk_X6_terms {p : Program} {l : Launch} {e : Env} {s : State} {m : MethodId} {args : Array Value} {below : List Frame} {meth : Method} {c : Code} {D : va_G} {ca : Nat → ClassId} {a : Nat → Nat} {tw : Nat} {tt : Nat → Nat} (C0 : Cx p s m args meth c cX6_terms (some .int) 2 wsX6_terms RX6) (hK : va_K D vwCl (tys3 ca) s) (hT0 : tW tw tt (ad_of 9 a) s s.heap) (v : XS) (hP : va_P D vwCl (XW ca a v) s.heap) {q : Int32} (x1 : Int32) (ls : Array Slot) (hl : lv_has ls 2 [(0, .ref (a 0)), (1, .int x1)]) (h : fn_X6_terms v x1 = some q) : W p l e rm_X6_terms s m args below meth c s.heap [] 0 0 (MQ below (HQ (some (.int q))) args s 0 0 (fun _ => False)) (F0 m 0 ls []) := by
  obtain ⟨hx, hb, hr, hml, hown, hts, hlocks⟩ := id C0
  have hS : va_S (ad_of 9 a) s.heap s.heap [] := va_S.rf
  unfold fn_X6_terms at h
  refine lv_iload_n hx hb dX6_terms_0 rfl (lv_at hl 1 rfl) ?_
  obtain ⟨q1, e1, h⟩ := Option.bind_eq_some_iff.mp h
  refine hp_S (As := [.int x1]) (rest := []) ⟨hx, hb, hml, hown, hts⟩ (ct_X6_isRegister l tw tt x1 e1) (va_cwS 1 hts gX6_terms_X6_isRegister rfl rfl rfl (by decide +kernel) ⟨Nat.le_of_ble_eq_true rfl, Nat.le_of_ble_eq_true rfl⟩) GP.mv (GP.from hT0 hS) rfl hl.1 rfl (Nat.le_of_ble_eq_true rfl) dX6_terms_1 ⟨Nat.zero_le _, Nat.zero_le _⟩ ?_
  refine W.eq (g2 := F0 m 4 ls [.int q1]) rfl ?_
  refine lv_if_ne (tgt := 9) hx hb dX6_terms_4 (by decide) (fun c4 => ?_) (fun c4 => ?_)
  · replace h := ite_f h c4
    refine lv_aload_n hx hb dX6_terms_9 rfl (lv_at hl 0 rfl) ?_
    refine va_get (D := D) (ci := 3) (v := .ref (a 1)) (C := RX6) (T := TX6) (N := 6) hx hb hts ly_X6_terms_X6 hown hK hP 0 rfl rfl 0 (by decide) (hts _ lk_X6_terms_f9) (fun _ h9 => h9) rfl dX6_terms_10 ?_
    refine lv_iload_n hx hb dX6_terms_13 rfl (lv_at hl 1 rfl) ?_
    obtain ⟨q14, e14, h⟩ := Option.bind_eq_some_iff.mp h
    refine rd_lald hx hb hK hP 1 0 e14 rfl rfl dX6_terms_14 ?_
    obtain ⟨q15, e15, h⟩ := Option.bind_eq_some_iff.mp h
    refine hp_S (As := [.long q14]) (rest := []) ⟨hx, hb, hml, hown, hts⟩ (ct_J13_bitCount_95d88 l tw tt q14 e15) (va_cwS 1 hts gX6_terms_J13_bitCount_95d88 rfl rfl rfl (by decide +kernel) ⟨Nat.le_of_ble_eq_true rfl, Nat.le_of_ble_eq_true rfl⟩) GP.mv (GP.from hT0 hS) rfl hl.1 rfl (Nat.le_of_ble_eq_true rfl) dX6_terms_15 ⟨Nat.zero_le _, Nat.zero_le _⟩ ?_
    refine W.eq (g2 := F0 m 18 ls [.int q15]) rfl ?_
    obtain rfl := Option.some.inj h
    exact hp_iret hx hb hr hlocks dX6_terms_18
  · replace h := ite_t h c4
    refine lv_iconst (v := (-1)) hx hb dX6_terms_7 (by decide) ?_
    obtain rfl := Option.some.inj h
    exact hp_iret hx hb hr hlocks dX6_terms_8
theorem ct_X6_terms (l : Launch) (D : va_G) (ca : Nat → ClassId) (a : Nat → Nat) (tw : Nat) (tt : Nat → Nat) (v : XS) (x1 : Int32) {q : Int32} (h : fn_X6_terms v x1 = some q) : Hp l yX6_terms wsX6_terms rm_X6_terms [.ref (a 0), .int x1] (GW D ca tw tt (ad_of 9 a) (XW ca a v)) (some (.int q)) := by
  refine Hp.of (cc := cX6_terms) (nL := 2) (ret := (some .int)) (own := RX6) (by decide) rfl rfl (Nat.le_of_ble_eq_true rfl) ?_
  intro p e s m below meth c ls C0 hB hl
  exact wk_X6_terms C0 hB.2.1 hB.2.2 v hB.1 (hl := hl) (h := h)
