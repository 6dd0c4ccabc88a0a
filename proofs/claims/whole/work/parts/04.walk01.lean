/-! by program (gen.py): the machine does what the functions say -/
abbrev rm_X0_forget : Room := { frames := 0, cells := 0, slots := 0, locals := 0 }
theorem lk_X0_forget_f15 : Cond.fieldLink RX0 15 "BooleanRing$Diagrams" "count" "I" ∈ wsX0_forget := by decide +kernel
theorem ly_X0_forget_X0 : ∀ w ∈ wsX00, w ∈ wsX0_forget := by decide +kernel
set_option maxHeartbeats 4000000 in
set_option maxRecDepth 100000 in
theorem wk_X0_forget {p : Program} {l : Launch} {e : Env} {s : State} {m : MethodId} {args : Array Value} {below : List Frame} {meth : Method} {c : Code} {D : va_G} {ca : Nat → ClassId} {a : Nat → Nat} {tw : Nat} {tt : Nat → Nat} (C0 : Cx p s m args meth c cX0_forget none 1 wsX0_forget RX0) (hap : ap_ok 9 a) (hK : va_K D vwCl (tys3 ca) s) (hT0 : tW tw tt (ad_of 9 a) s s.heap) {q : XS} (v : XS) (H : Heap) (locs : List Loc) (ls : Array Slot) (hP : va_P D vwCl (XW ca a v) H) (hS : va_S (ad_of 9 a) s.heap H locs) (hl : lv_has ls 1 [(0, .ref (a 5))]) (h : fn_X0_forget v  = some q) : W p l e rm_X0_forget s m args below meth c H locs 0 0 (MQ below (PQ none (fun H => va_P D vwCl (XW ca a q) H) (ad_of 9 a)) args s 0 0 (ad_of 9 a)) (F0 m 0 ls []) := by
  obtain ⟨hx, hb, hr, hml, hown, hts, hlocks⟩ := id C0
  have hD0 := fun v => XW_D (ca := ca) hap v
  unfold fn_X0_forget at h
  refine lv_aload_n hx hb dX0_forget_0 rfl (lv_at hl 0 rfl) ?_
  refine lv_iconst (v := 0) hx hb dX0_forget_1 (by decide) ?_
  refine va_put (D := D) (ci := 0) (v := .int 0) (ty := .int) (C := RX0) (T := TX0) (N := 2) hx hb hts ly_X0_forget_X0 tyX0 tyX0_ok nmX0 hown hK hP (hD0 v) hS 5 rfl rfl 1 (by decide) (hts _ lk_X0_forget_f15) (fun _ h9 => h9) rfl (by decide +kernel) rfl rfl (Nat.le_of_ble_eq_true rfl) dX0_forget_2 (fun H locs hP _ hS => ?_)
  have hP : va_P D vwCl (XW ca a (xs_count v 0)) H := hP
  obtain rfl := Option.some.inj h
  exact mp_vret hx hb hr hlocks hP hS dX0_forget_5
theorem ct_X0_forget (l : Launch) (D : va_G) (ca : Nat → ClassId) (a : Nat → Nat) (tw : Nat) (tt : Nat → Nat) (hap : ap_ok 9 a) (v : XS) {q : XS} (h : fn_X0_forget v  = some q) : Mp l yX0_forget wsX0_forget rm_X0_forget [.ref (a 5)] (GW D ca tw tt (ad_of 9 a) (XW ca a v)) none (fun H => va_P D vwCl (XW ca a q) H) (ad_of 9 a) := by
  refine Mp.of (cc := cX0_forget) (nL := 1) (ret := none) (own := RX0) (by decide) rfl rfl (Nat.le_of_ble_eq_true rfl) ?_
  intro p e s m below meth c ls C0 hB hl
  exact wk_X0_forget C0 hap hB.2.1 hB.2.2 (hP := hB.1) (hS := va_S.rf) (hl := hl) (h := h)
abbrev rm_X0_isKnown : Room := { frames := 0, cells := 0, slots := 0, locals := 0 }
theorem lk_X0_isKnown_f15 : Cond.fieldLink RX0 15 "BooleanRing$Diagrams" "count" "I" ∈ wsX0_isKnown := by decide +kernel
theorem lk_X0_isKnown_f9 : Cond.fieldLink RX0 9 "BooleanRing$Diagrams" "found" "[J" ∈ wsX0_isKnown := by decide +kernel
theorem ly_X0_isKnown_X0 : ∀ w ∈ wsX00, w ∈ wsX0_isKnown := by decide +kernel
set_option maxHeartbeats 4000000 in
set_option maxRecDepth 100000 in
theorem wk_X0_isKnown_2_body {p : Program} {l : Launch} {e : Env} {s : State} {m : MethodId} {args : Array Value} {below : List Frame} {meth : Method} {c : Code} {D : va_G} {ca : Nat → ClassId} {a : Nat → Nat} {tw : Nat} {tt : Nat → Nat} (C0 : Cx p s m args meth c cX0_isKnown (some .boolean) 4 wsX0_isKnown RX0) (hK : va_K D vwCl (tys3 ca) s) (hT0 : tW tw tt (ad_of 9 a) s s.heap) (v : XS) (hP : va_P D vwCl (XW ca a v) s.heap) {q : Int32} (k2 : Int64 → Int32 → Option (Int32)) (hk2 : ∀ (x1 : Int64) (x3 : Int32) (ls : Array Slot) (hl : lv_has ls 4 [(0, .ref (a 5)), (1, .long x1), (3, .int x3)]) (h : k2 x1 x3 = some q), W p l e rm_X0_isKnown s m args below meth c s.heap [] 0 0 (MQ below (HQ (some (.int q))) args s 0 0 (fun _ => False)) (F0 m 2 ls [])) (x1 : Int64) (x3 : Int32) (ls : Array Slot) (hl : lv_has ls 4 [(0, .ref (a 5)), (1, .long x1), (3, .int x3)]) (h : fn_X0_isKnown_2_body v k2 x1 x3 = some q) : W p l e rm_X0_isKnown s m args below meth c s.heap [] 0 0 (MQ below (HQ (some (.int q))) args s 0 0 (fun _ => False)) (F0 m 2 ls []) := by
  obtain ⟨hx, hb, hr, hml, hown, hts, hlocks⟩ := id C0
  have hS : va_S (ad_of 9 a) s.heap s.heap [] := va_S.rf
  unfold fn_X0_isKnown_2_body at h
  refine lv_iload_n hx hb dX0_isKnown_2 rfl (lv_at hl 2 rfl) ?_
  refine lv_aload_n hx hb dX0_isKnown_3 rfl (lv_at hl 0 rfl) ?_
  refine va_get (D := D) (ci := 0) (v := .int (x_count v)) (C := RX0) (T := TX0) (N := 2) hx hb hts ly_X0_isKnown_X0 hown hK hP 5 rfl rfl 1 (by decide) (hts _ lk_X0_isKnown_f15) (fun _ h9 => h9) rfl dX0_isKnown_4 ?_
  refine lv_icmp_ge (tgt := 38) hx hb dX0_isKnown_7 (by decide) (fun c7 => ?_) (fun c7 => ?_)
  · replace h := ite_t h c7
    refine lv_iconst (v := 0) hx hb dX0_isKnown_38 (by decide) ?_
    obtain rfl := Option.some.inj h
    exact hp_zret hx hb hr hlocks rfl dX0_isKnown_39
  · replace h := ite_f h c7
    refine lv_iload_n hx hb dX0_isKnown_10 rfl (lv_at hl 2 rfl) ?_
    refine lv_aload_n hx hb dX0_isKnown_11 rfl (lv_at hl 0 rfl) ?_
    refine va_get (D := D) (ci := 0) (v := .ref (a 6)) (C := RX0) (T := TX0) (N := 2) hx hb hts ly_X0_isKnown_X0 hown hK hP 5 rfl rfl 0 (by decide) (hts _ lk_X0_isKnown_f9) (fun _ h9 => h9) rfl dX0_isKnown_12 ?_
    refine va_alen (v := 504) hx hb hK hP 6 0 rfl rfl rfl dX0_isKnown_15 ?_
    refine lv_icmp_ge (tgt := 38) hx hb dX0_isKnown_16 (by decide) (fun c16 => ?_) (fun c16 => ?_)
    · replace h := ite_t h c16
      refine lv_iconst (v := 0) hx hb dX0_isKnown_38 (by decide) ?_
      obtain rfl := Option.some.inj h
      exact hp_zret hx hb hr hlocks rfl dX0_isKnown_39
    · replace h := ite_f h c16
      refine lv_aload_n hx hb dX0_isKnown_19 rfl (lv_at hl 0 rfl) ?_
      refine va_get (D := D) (ci := 0) (v := .ref (a 6)) (C := RX0) (T := TX0) (N := 2) hx hb hts ly_X0_isKnown_X0 hown hK hP 5 rfl rfl 0 (by decide) (hts _ lk_X0_isKnown_f9) (fun _ h9 => h9) rfl dX0_isKnown_20 ?_
      refine lv_iload_n hx hb dX0_isKnown_23 rfl (lv_at hl 2 rfl) ?_
      obtain ⟨q24, e24, h⟩ := Option.bind_eq_some_iff.mp h
      refine rd_lald hx hb hK hP 6 0 e24 rfl rfl dX0_isKnown_24 ?_
      refine lv_lload_n hx hb dX0_isKnown_25 rfl (lv_at hl 1 rfl) ?_
      refine wl_ne (tgt := 32) hx hb dX0_isKnown_26 dX0_isKnown_27 (by decide) (fun c26 => ?_) (fun c26 => ?_)
      · replace h := ite_f h c26
        refine lv_iinc (v := (x3 + 1)) (lv' := [(3, .int (x3 + 1)), (0, .ref (a 5)), (1, .long x1)]) hx hb dX0_isKnown_32 hl (k := 2) rfl rfl (by decide) rfl (fun ls hl => ?_)
        refine lv_goto (tgt := 2) hx hb dX0_isKnown_35 (by decide) ?_
        exact hk2 x1 (x3 + 1) ls (lv_sub hl [1, 2, 0] rfl) h
      · replace h := ite_t h c26
        refine lv_iconst (v := 1) hx hb dX0_isKnown_30 (by decide) ?_
        obtain rfl := Option.some.inj h
        exact hp_zret hx hb hr hlocks rfl dX0_isKnown_31
set_option maxHeartbeats 4000000 in
set_option maxRecDepth 100000 in
theorem wk_X0_isKnown_2 {p : Program} {l : Launch} {e : Env} {s : State} {m : MethodId} {args : Array Value} {below : List Frame} {meth : Method} {c : Code} {D : va_G} {ca : Nat → ClassId} {a : Nat → Nat} {tw : Nat} {tt : Nat → Nat} (C0 : Cx p s m args meth c cX0_isKnown (some .boolean) 4 wsX0_isKnown RX0) (hK : va_K D vwCl (tys3 ca) s) (hT0 : tW tw tt (ad_of 9 a) s s.heap) (v : XS) (hP : va_P D vwCl (XW ca a v) s.heap) {q : Int32} : ∀ (n : Nat) (x1 : Int64) (x3 : Int32) (ls : Array Slot) (hl : lv_has ls 4 [(0, .ref (a 5)), (1, .long x1), (3, .int x3)]) (h : fn_X0_isKnown_2 v n x1 x3 = some q), W p l e rm_X0_isKnown s m args below meth c s.heap [] 0 0 (MQ below (HQ (some (.int q))) args s 0 0 (fun _ => False)) (F0 m 2 ls []) := by
  intro n
  induction n with
  | zero => intro x1 x3 ls hl h; unfold fn_X0_isKnown_2 at h; cases h
  | succ n ih => intro x1 x3 ls hl h; exact wk_X0_isKnown_2_body C0 hK hT0 v hP (k2 := fn_X0_isKnown_2 v n) (hk2 := ih) (hl := hl) (h := h)
set_option maxHeartbeats 4000000 in
set_option maxRecDepth 100000 in
theorem wk_X0_isKnown {p : Program} {l : Launch} {e : Env} {s : State} {m : MethodId} {args : Array Value} {below : List Frame} {meth : Method} {c : Code} {D : va_G} {ca : Nat → ClassId} {a : Nat → Nat} {tw : Nat} {tt : Nat → Nat} (C0 : Cx p s m args meth c cX0_isKnown (some .boolean) 4 wsX0_isKnown RX0) (hK : va_K D vwCl (tys3 ca) s) (hT0 : tW tw tt (ad_of 9 a) s s.heap) (v : XS) (hP : va_P D vwCl (XW ca a v) s.heap) {q : Int32} (x1 : Int64) (ls : Array Slot) (hl : lv_has ls 4 [(0, .ref (a 5)), (1, .long x1)]) (h : fn_X0_isKnown v x1 = some q) : W p l e rm_X0_isKnown s m args below meth c s.heap [] 0 0 (MQ below (HQ (some (.int q))) args s 0 0 (fun _ => False)) (F0 m 0 ls []) := by
  obtain ⟨hx, hb, hr, hml, hown, hts, hlocks⟩ := id C0
  have hS : va_S (ad_of 9 a) s.heap s.heap [] := va_S.rf
  unfold fn_X0_isKnown at h
  refine lv_iconst (v := 0) hx hb dX0_isKnown_0 (by decide) ?_
  refine lv_istore_n (lv' := [(3, .int 0), (0, .ref (a 5)), (1, .long x1)]) hx hb dX0_isKnown_1 rfl hl (by decide) rfl (fun ls hl => ?_)
  exact wk_X0_isKnown_2 C0 hK hT0 v hP  FU x1 0 ls (lv_sub hl [1, 2, 0] rfl) h
theorem ct_X0_isKnown (l : Launch) (D : va_G) (ca : Nat → ClassId) (a : Nat → Nat) (tw : Nat) (tt : Nat → Nat) (v : XS) (x1 : Int64) {q : Int32} (h : fn_X0_isKnown v x1 = some q) : Hp l yX0_isKnown wsX0_isKnown rm_X0_isKnown [.ref (a 5), .long x1] (GW D ca tw tt (ad_of 9 a) (XW ca a v)) (some (.int q)) := by
  refine Hp.of (cc := cX0_isKnown) (nL := 4) (ret := (some .boolean)) (own := RX0) (by decide) rfl rfl (Nat.le_of_ble_eq_true rfl) ?_
  intro p e s m below meth c ls C0 hB hl
  exact wk_X0_isKnown C0 hB.2.1 hB.2.2 v hB.1 (hl := hl) (h := h)
abbrev rm_X0_enter : Room := { frames := 1, cells := 0, slots := 0, locals := 23 }
theorem lk_X0_enter_c19 : Cond.constantLong RX0 19 (-2) ∈ wsX0_enter := by decide +kernel
theorem lk_X0_enter_f15 : Cond.fieldLink RX0 15 "BooleanRing$Diagrams" "count" "I" ∈ wsX0_enter := by decide +kernel
theorem lk_X0_enter_f9 : Cond.fieldLink RX0 9 "BooleanRing$Diagrams" "found" "[J" ∈ wsX0_enter := by decide +kernel
theorem ly_X0_enter_X0 : ∀ w ∈ wsX00, w ∈ wsX0_enter := by decide +kernel
set_option maxHeartbeats 4000000 in
set_option maxRecDepth 100000 in
theorem wk_X0_enter_15 {p : Program} {l : Launch} {e : Env} {s : State} {m : MethodId} {args : Array Value} {below : List Frame} {meth : Method} {c : Code} {D : va_G} {ca : Nat → ClassId} {a : Nat → Nat} {tw : Nat} {tt : Nat → Nat} (C0 : Cx p s m args meth c cX0_enter none 4 wsX0_enter RX0) (hap : ap_ok 9 a) (hK : va_K D vwCl (tys3 ca) s) (hT0 : tW tw tt (ad_of 9 a) s s.heap) {q : XS} (v : XS) (H : Heap) (locs : List Loc) (x1 : Int64) (y0 : Int32) (ls : Array Slot) (hP : va_P D vwCl (XW ca a v) H) (hS : va_S (ad_of 9 a) s.heap H locs) (hl : lv_has ls 4 [(0, .ref (a 5)), (1, .long x1)]) (h : fn_X0_enter_15 v x1 y0 = some q) : W p l e rm_X0_enter s m args below meth c H locs 0 0 (MQ below (PQ none (fun H => va_P D vwCl (XW ca a q) H) (ad_of 9 a)) args s 0 0 (ad_of 9 a)) (F0 m 15 ls [.int y0]) := by
  obtain ⟨hx, hb, hr, hml, hown, hts, hlocks⟩ := id C0
  have hD0 := fun v => XW_D (ca := ca) hap v
  unfold fn_X0_enter_15 at h
  refine lv_istore_n (lv' := [(3, .int y0), (0, .ref (a 5)), (1, .long x1)]) hx hb dX0_enter_15 rfl hl (by decide) rfl (fun ls hl => ?_)
  refine lv_iload_n hx hb dX0_enter_16 rfl (lv_at hl 0 rfl) ?_
  refine lv_if_ne (tgt := 60) hx hb dX0_enter_17 (by decide) (fun c17 => ?_) (fun c17 => ?_)
  · replace h := ite_f h c17
    obtain rfl := Option.some.inj h
    exact mp_vret hx hb hr hlocks hP hS dX0_enter_60
  · replace h := ite_t h c17
    refine lv_aload_n hx hb dX0_enter_20 rfl (lv_at hl 1 rfl) ?_
    refine lv_lload_n hx hb dX0_enter_21 rfl (lv_at hl 2 rfl) ?_
    obtain ⟨q22, e22, h⟩ := Option.bind_eq_some_iff.mp h
    refine hp_V (As := [.long x1]) (rest := []) (b := (a 5)) ⟨hx, hb, hml, hown, hts⟩ (ct_X0_isKnown l D ca a tw tt v x1 e22) (cwV 1 hts gX0_enter_X0_isKnown rfl rfl rfl (by decide +kernel) ⟨Nat.le_of_ble_eq_true rfl, Nat.le_of_ble_eq_true rfl⟩) (va_recv hK hP (ci := 0) (q0 := 5) rfl rfl) GW.mv (GW.from hP hK hT0 hS) rfl hl.1 rfl (Nat.le_of_ble_eq_true rfl) dX0_enter_22 ⟨Nat.zero_le _, Nat.zero_le _⟩ ?_
    refine W.eq (g2 := F0 m 25 ls [.int q22]) rfl ?_
    refine lv_if_ne (tgt := 60) hx hb dX0_enter_25 (by decide) (fun c25 => ?_) (fun c25 => ?_)
    · replace h := ite_f h c25
      obtain rfl := Option.some.inj h
      exact mp_vret hx hb hr hlocks hP hS dX0_enter_60
    · replace h := ite_t h c25
      refine lv_aload_n hx hb dX0_enter_28 rfl (lv_at hl 1 rfl) ?_
      refine va_get (D := D) (ci := 0) (v := .int (x_count v)) (C := RX0) (T := TX0) (N := 2) hx hb hts ly_X0_enter_X0 hown hK hP 5 rfl rfl 1 (by decide) (hts _ lk_X0_enter_f15) (fun _ h9 => h9) rfl dX0_enter_29 ?_
      refine lv_aload_n hx hb dX0_enter_32 rfl (lv_at hl 1 rfl) ?_
      refine va_get (D := D) (ci := 0) (v := .ref (a 6)) (C := RX0) (T := TX0) (N := 2) hx hb hts ly_X0_enter_X0 hown hK hP 5 rfl rfl 0 (by decide) (hts _ lk_X0_enter_f9) (fun _ h9 => h9) rfl dX0_enter_33 ?_
      refine va_alen (v := 504) hx hb hK hP 6 0 rfl rfl rfl dX0_enter_36 ?_
      refine lv_icmp_ge (tgt := 60) hx hb dX0_enter_37 (by decide) (fun c37 => ?_) (fun c37 => ?_)
      · replace h := ite_t h c37
        obtain rfl := Option.some.inj h
        exact mp_vret hx hb hr hlocks hP hS dX0_enter_60
      · replace h := ite_f h c37
        refine lv_aload_n hx hb dX0_enter_40 rfl (lv_at hl 1 rfl) ?_
        refine va_get (D := D) (ci := 0) (v := .ref (a 6)) (C := RX0) (T := TX0) (N := 2) hx hb hts ly_X0_enter_X0 hown hK hP 5 rfl rfl 0 (by decide) (hts _ lk_X0_enter_f9) (fun _ h9 => h9) rfl dX0_enter_41 ?_
        refine lv_aload_n hx hb dX0_enter_44 rfl (lv_at hl 1 rfl) ?_
        refine va_get (D := D) (ci := 0) (v := .int (x_count v)) (C := RX0) (T := TX0) (N := 2) hx hb hts ly_X0_enter_X0 hown hK hP 5 rfl rfl 1 (by decide) (hts _ lk_X0_enter_f15) (fun _ h9 => h9) rfl dX0_enter_45 ?_
        refine lv_lload_n hx hb dX0_enter_48 rfl (lv_at hl 2 rfl) ?_
        obtain ⟨g49, e49, h⟩ := Option.bind_eq_some_iff.mp h
        refine wr_last hx hb hK hP (hD0 v) hS 6 0 e49 rfl rfl dX0_enter_49 (fun H locs hP hS => ?_)
        have hP : va_P D vwCl (XW ca a (xs_found v g49)) H := hP
        refine lv_aload_n hx hb dX0_enter_50 rfl (lv_at hl 1 rfl) ?_
        refine lv_dup hx hb dX0_enter_51 rfl ?_
        refine va_get (D := D) (ci := 0) (v := .int (x_count v)) (C := RX0) (T := TX0) (N := 2) hx hb hts ly_X0_enter_X0 hown hK hP 5 rfl rfl 1 (by decide) (hts _ lk_X0_enter_f15) (fun _ h9 => h9) rfl dX0_enter_52 ?_
        refine lv_iconst (v := 1) hx hb dX0_enter_55 (by decide) ?_
        refine lv_iadd hx hb dX0_enter_56 ?_
        refine va_put (D := D) (ci := 0) (v := .int ((x_count v) + 1)) (ty := .int) (C := RX0) (T := TX0) (N := 2) hx hb hts ly_X0_enter_X0 tyX0 tyX0_ok nmX0 hown hK hP (hD0 (xs_found v g49)) hS 5 rfl rfl 1 (by decide) (hts _ lk_X0_enter_f15) (fun _ h9 => h9) rfl (by decide +kernel) rfl rfl (Nat.le_of_ble_eq_true rfl) dX0_enter_57 (fun H locs hP _ hS => ?_)
        have hP : va_P D vwCl (XW ca a (xs_found (xs_count v ((x_count v) + 1)) g49)) H := hP
        obtain rfl := Option.some.inj h
        exact mp_vret hx hb hr hlocks hP hS dX0_enter_60
set_option maxHeartbeats 4000000 in
set_option maxRecDepth 100000 in
theorem wk_X0_enter {p : Program} {l : Launch} {e : Env} {s : State} {m : MethodId} {args : Array Value} {below : List Frame} {meth : Method} {c : Code} {D : va_G} {ca : Nat → ClassId} {a : Nat → Nat} {tw : Nat} {tt : Nat → Nat} (C0 : Cx p s m args meth c cX0_enter none 4 wsX0_enter RX0) (hap : ap_ok 9 a) (hK : va_K D vwCl (tys3 ca) s) (hT0 : tW tw tt (ad_of 9 a) s s.heap) {q : XS} (v : XS) (H : Heap) (locs : List Loc) (x1 : Int64) (ls : Array Slot) (hP : va_P D vwCl (XW ca a v) H) (hS : va_S (ad_of 9 a) s.heap H locs) (hl : lv_has ls 4 [(0, .ref (a 5)), (1, .long x1)]) (h : fn_X0_enter v x1 = some q) : W p l e rm_X0_enter s m args below meth c H locs 0 0 (MQ below (PQ none (fun H => va_P D vwCl (XW ca a q) H) (ad_of 9 a)) args s 0 0 (ad_of 9 a)) (F0 m 0 ls []) := by
  obtain ⟨hx, hb, hr, hml, hown, hts, hlocks⟩ := id C0
  have hD0 := fun v => XW_D (ca := ca) hap v
  unfold fn_X0_enter at h
  refine lv_lload_n hx hb dX0_enter_0 rfl (lv_at hl 1 rfl) ?_
  refine lv_ldc2 (v := (-2)) hx hb hown (hts _ lk_X0_enter_c19) dX0_enter_1 ?_
  refine lv_land hx hb dX0_enter_4 ?_
  refine lv_lconst (v := 0) hx hb dX0_enter_5 (by decide) ?_
  refine wl_ne (tgt := 14) hx hb dX0_enter_6 dX0_enter_7 (by decide) (fun c6 => ?_) (fun c6 => ?_)
  · replace h := ite_f h c6
    refine lv_iconst (v := 0) hx hb dX0_enter_14 (by decide) ?_
    exact wk_X0_enter_15 C0 hap hK hT0 (ls := ls) (hP := hP) (hS := hS) (hl := (lv_sub hl [0, 1] rfl)) (h := h)
  · replace h := ite_t h c6
    refine lv_iconst (v := 1) hx hb dX0_enter_10 (by decide) ?_
    refine lv_goto (tgt := 15) hx hb dX0_enter_11 (by decide) ?_
    exact wk_X0_enter_15 C0 hap hK hT0 (ls := ls) (hP := hP) (hS := hS) (hl := (lv_sub hl [0, 1] rfl)) (h := h)
theorem ct_X0_enter (l : Launch) (D : va_G) (ca : Nat → ClassId) (a : Nat → Nat) (tw : Nat) (tt : Nat → Nat) (hap : ap_ok 9 a) (v : XS) (x1 : Int64) {q : XS} (h : fn_X0_enter v x1 = some q) : Mp l yX0_enter wsX0_enter rm_X0_enter [.ref (a 5), .long x1] (GW D ca tw tt (ad_of 9 a) (XW ca a v)) none (fun H => va_P D vwCl (XW ca a q) H) (ad_of 9 a) := by
  refine Mp.of (cc := cX0_enter) (nL := 4) (ret := none) (own := RX0) (by decide) rfl rfl (Nat.le_of_ble_eq_true rfl) ?_
  intro p e s m below meth c ls C0 hB hl
  exact wk_X0_enter C0 hap hB.2.1 hB.2.2 (hP := hB.1) (hS := va_S.rf) (hl := hl) (h := h)
abbrev rm_X3_without : Room := { frames := 0, cells := 0, slots := 0, locals := 0 }
theorem lk_X3_without_f9 : Cond.fieldLink RX3 9 "BooleanRing$Poly" "WITHOUT" "[J" ∈ wsX3_without := by decide +kernel
set_option maxHeartbeats 4000000 in
set_option maxRecDepth 100000 in
theorem wk_X3_without {p : Program} {l : Launch} {e : Env} {s : State} {m : MethodId} {args : Array Value} {below : List Frame} {meth : Method} {c : Code} {tw : Nat} {tt : Nat → Nat} (C0 : Cx p s m args meth c cX3_without (some .long) 1 wsX3_without RX3) (hT0 : tW tw tt (fun _ => False) s s.heap) {q : Int64} (x0 : Int32) (ls : Array Slot) (hl : lv_has ls 1 [(0, .int x0)]) (h : fn_X3_without x0 = some q) : W p l e rm_X3_without s m args below meth c s.heap [] 0 0 (MQ below (HQ (some (.long q))) args s 0 0 (fun _ => False)) (F0 m 0 ls []) := by
  obtain ⟨hx, hb, hr, hml, hown, hts, hlocks⟩ := id C0
  have hS : va_S (fun _ => False) s.heap s.heap [] := va_S.rf
  unfold fn_X3_without at h
  refine lv_iload_n hx hb dX3_without_0 rfl (lv_at hl 0 rfl) ?_
  refine lv_if_lt (tgt := 20) hx hb dX3_without_1 (by decide) (fun c1 => ?_) (fun c1 => ?_)
  · replace h := ite_t h c1
    refine lv_lconst (v := 0) hx hb dX3_without_20 (by decide) ?_
    obtain rfl := Option.some.inj h
    exact hp_lret hx hb hr hlocks dX3_without_21
  · replace h := ite_f h c1
    refine lv_iload_n hx hb dX3_without_4 rfl (lv_at hl 0 rfl) ?_
    refine va_gets hx hb hT0.1 hS hown (hts _ lk_X3_without_f9) (fun _ h9 => h9) dX3_without_5 ?_
    refine va_tlen (v := 6) hx hb hT0.2.1 hS rfl dX3_without_8 ?_
    refine lv_icmp_ge (tgt := 20) hx hb dX3_without_9 (by decide) (fun c9 => ?_) (fun c9 => ?_)
    · replace h := ite_t h c9
      refine lv_lconst (v := 0) hx hb dX3_without_20 (by decide) ?_
      obtain rfl := Option.some.inj h
      exact hp_lret hx hb hr hlocks dX3_without_21
    · replace h := ite_f h c9
      refine va_gets hx hb hT0.1 hS hown (hts _ lk_X3_without_f9) (fun _ h9 => h9) dX3_without_12 ?_
      refine lv_iload_n hx hb dX3_without_15 rfl (lv_at hl 0 rfl) ?_
      obtain ⟨q16, e16, h⟩ := Option.bind_eq_some_iff.mp h
      refine rd_tl hx hb e16 hT0.2.1 hS dX3_without_16 ?_
      refine lv_goto (tgt := 21) hx hb dX3_without_17 (by decide) ?_
      obtain rfl := Option.some.inj h
      exact hp_lret hx hb hr hlocks dX3_without_21
theorem ct_X3_without (l : Launch) (tw : Nat) (tt : Nat → Nat) (x0 : Int32) {q : Int64} (h : fn_X3_without x0 = some q) : Hp l yX3_without wsX3_without rm_X3_without [.int x0] (GP tw tt) (some (.long q)) := by
  refine Hp.of (cc := cX3_without) (nL := 1) (ret := (some .long)) (own := RX3) (by decide) rfl rfl (Nat.le_of_ble_eq_true rfl) ?_
  intro p e s m below meth c ls C0 hB hl
  exact wk_X3_without C0 hB (hl := hl) (h := h)
abbrev rm_X3_upperHalf : Room := { frames := 1, cells := 0, slots := 0, locals := 20 }
set_option maxHeartbeats 4000000 in
set_option maxRecDepth 100000 in
theorem wk_X3_upperHalf {p : Program} {l : Launch} {e : Env} {s : State} {m : MethodId} {args : Array Value} {below : List Frame} {meth : Method} {c : Code} {tw : Nat} {tt : Nat → Nat} (C0 : Cx p s m args meth c cX3_upperHalf (some .long) 3 wsX3_upperHalf RX3) (hT0 : tW tw tt (fun _ => False) s s.heap) {q : Int64} (x0 : Int64) (x2 : Int32) (ls : Array Slot) (hl : lv_has ls 3 [(0, .long x0), (2, .int x2)]) (h : fn_X3_upperHalf x0 x2 = some q) : W p l e rm_X3_upperHalf s m args below meth c s.heap [] 0 0 (MQ below (HQ (some (.long q))) args s 0 0 (fun _ => False)) (F0 m 0 ls []) := by
  obtain ⟨hx, hb, hr, hml, hown, hts, hlocks⟩ := id C0
  have hS : va_S (fun _ => False) s.heap s.heap [] := va_S.rf
  unfold fn_X3_upperHalf at h
  refine lv_lload_n hx hb dX3_upperHalf_0 rfl (lv_at hl 0 rfl) ?_
  refine lv_iconst (v := 1) hx hb dX3_upperHalf_1 (by decide) ?_
  refine lv_iload_n hx hb dX3_upperHalf_2 rfl (lv_at hl 1 rfl) ?_
  refine lv_ishl hx hb dX3_upperHalf_3 ?_
  refine lv_lushr (v := (lus x0 (ish 1 x2))) hx hb dX3_upperHalf_4 rfl ?_
  refine lv_iload_n hx hb dX3_upperHalf_5 rfl (lv_at hl 1 rfl) ?_
  obtain ⟨q6, e6, h⟩ := Option.bind_eq_some_iff.mp h
  refine hp_S (As := [.int x2]) (rest := [.long (lus x0 (ish 1 x2))]) ⟨hx, hb, hml, hown, hts⟩ (ct_X3_without l tw tt x2 e6) (va_cwS 1 hts gX3_upperHalf_X3_without rfl rfl rfl (by decide +kernel) ⟨Nat.le_of_ble_eq_true rfl, Nat.le_of_ble_eq_true rfl⟩) GP.mv (GP.from hT0 hS) rfl hl.1 rfl (Nat.le_of_ble_eq_true rfl) dX3_upperHalf_6 ⟨Nat.zero_le _, Nat.zero_le _⟩ ?_
  refine W.eq (g2 := F0 m 9 ls [.long q6, .long (lus x0 (ish 1 x2))]) rfl ?_
  refine lv_land hx hb dX3_upperHalf_9 ?_
  obtain rfl := Option.some.inj h
  exact hp_lret hx hb hr hlocks dX3_upperHalf_10
theorem ct_X3_upperHalf (l : Launch) (tw : Nat) (tt : Nat → Nat) (x0 : Int64) (x2 : Int32) {q : Int64} (h : fn_X3_upperHalf x0 x2 = some q) : Hp l yX3_upperHalf wsX3_upperHalf rm_X3_upperHalf [.long x0, .int x2] (GP tw tt) (some (.long q)) := by
  refine Hp.of (cc := cX3_upperHalf) (nL := 3) (ret := (some .long)) (own := RX3) (by decide) rfl rfl (Nat.le_of_ble_eq_true rfl) ?_
  intro p e s m below meth c ls C0 hB hl
  exact wk_X3_upperHalf C0 hB (hl := hl) (h := h)
abbrev rm_X3_lowestVariable : Room := { frames := 2, cells := 0, slots := 0, locals := 42 }
set_option maxHeartbeats 4000000 in
set_option maxRecDepth 100000 in
theorem wk_X3_lowestVariable_2_body {p : Program} {l : Launch} {e : Env} {s : State} {m : MethodId} {args : Array Value} {below : List Frame} {meth : Method} {c : Code} {tw : Nat} {tt : Nat → Nat} (C0 : Cx p s m args meth c cX3_lowestVariable (some .int) 3 wsX3_lowestVariable RX3) (hT0 : tW tw tt (fun _ => False) s s.heap) {q : Int32} (k2 : Int64 → Int32 → Option (Int32)) (hk2 : ∀ (x0 : Int64) (x2 : Int32) (ls : Array Slot) (hl : lv_has ls 3 [(0, .long x0), (2, .int x2)]) (h : k2 x0 x2 = some q), W p l e rm_X3_lowestVariable s m args below meth c s.heap [] 0 0 (MQ below (HQ (some (.int q))) args s 0 0 (fun _ => False)) (F0 m 2 ls [])) (x0 : Int64) (x2 : Int32) (ls : Array Slot) (hl : lv_has ls 3 [(0, .long x0), (2, .int x2)]) (h : fn_X3_lowestVariable_2_body k2 x0 x2 = some q) : W p l e rm_X3_lowestVariable s m args below meth c s.heap [] 0 0 (MQ below (HQ (some (.int q))) args s 0 0 (fun _ => False)) (F0 m 2 ls []) := by
  obtain ⟨hx, hb, hr, hml, hown, hts, hlocks⟩ := id C0
  have hS : va_S (fun _ => False) s.heap s.heap [] := va_S.rf
  unfold fn_X3_lowestVariable_2_body at h
  refine lv_iload_n hx hb dX3_lowestVariable_2 rfl (lv_at hl 1 rfl) ?_
  refine lv_bipush (v := 6) hx hb dX3_lowestVariable_3 (by decide) ?_
  refine lv_icmp_ge (tgt := 24) hx hb dX3_lowestVariable_5 (by decide) (fun c5 => ?_) (fun c5 => ?_)
  · replace h := ite_t h c5
    refine lv_iload_n hx hb dX3_lowestVariable_24 rfl (lv_at hl 1 rfl) ?_
    obtain rfl := Option.some.inj h
    exact hp_iret hx hb hr hlocks dX3_lowestVariable_25
  · replace h := ite_f h c5
    refine lv_lload_n hx hb dX3_lowestVariable_8 rfl (lv_at hl 0 rfl) ?_
    refine lv_iload_n hx hb dX3_lowestVariable_9 rfl (lv_at hl 1 rfl) ?_
    obtain ⟨q10, e10, h⟩ := Option.bind_eq_some_iff.mp h
    refine hp_S (As := [.long x0, .int x2]) (rest := []) ⟨hx, hb, hml, hown, hts⟩ (ct_X3_upperHalf l tw tt x0 x2 e10) (va_cwS 2 hts gX3_lowestVariable_X3_upperHalf rfl rfl rfl (by decide +kernel) ⟨Nat.le_of_ble_eq_true rfl, Nat.le_of_ble_eq_true rfl⟩) GP.mv (GP.from hT0 hS) rfl hl.1 rfl (Nat.le_of_ble_eq_true rfl) dX3_lowestVariable_10 ⟨Nat.zero_le _, Nat.zero_le _⟩ ?_
    refine W.eq (g2 := F0 m 13 ls [.long q10]) rfl ?_
    refine lv_lconst (v := 0) hx hb dX3_lowestVariable_13 (by decide) ?_
    refine wl_ne (tgt := 24) hx hb dX3_lowestVariable_14 dX3_lowestVariable_15 (by decide) (fun c14 => ?_) (fun c14 => ?_)
    · replace h := ite_f h c14
      refine lv_iload_n hx hb dX3_lowestVariable_24 rfl (lv_at hl 1 rfl) ?_
      obtain rfl := Option.some.inj h
      exact hp_iret hx hb hr hlocks dX3_lowestVariable_25
    · replace h := ite_t h c14
      refine lv_iinc (v := (x2 + 1)) (lv' := [(2, .int (x2 + 1)), (0, .long x0)]) hx hb dX3_lowestVariable_18 hl (k := 1) rfl rfl (by decide) rfl (fun ls hl => ?_)
      refine lv_goto (tgt := 2) hx hb dX3_lowestVariable_21 (by decide) ?_
      exact hk2 x0 (x2 + 1) ls (lv_sub hl [1, 0] rfl) h
set_option maxHeartbeats 4000000 in
set_option maxRecDepth 100000 in
theorem wk_X3_lowestVariable_2 {p : Program} {l : Launch} {e : Env} {s : State} {m : MethodId} {args : Array Value} {below : List Frame} {meth : Method} {c : Code} {tw : Nat} {tt : Nat → Nat} (C0 : Cx p s m args meth c cX3_lowestVariable (some .int) 3 wsX3_lowestVariable RX3) (hT0 : tW tw tt (fun _ => False) s s.heap) {q : Int32} : ∀ (n : Nat) (x0 : Int64) (x2 : Int32) (ls : Array Slot) (hl : lv_has ls 3 [(0, .long x0), (2, .int x2)]) (h : fn_X3_lowestVariable_2 n x0 x2 = some q), W p l e rm_X3_lowestVariable s m args below meth c s.heap [] 0 0 (MQ below (HQ (some (.int q))) args s 0 0 (fun _ => False)) (F0 m 2 ls []) := by
  intro n
  induction n with
  | zero => intro x0 x2 ls hl h; unfold fn_X3_lowestVariable_2 at h; cases h
  | succ n ih => intro x0 x2 ls hl h; exact wk_X3_lowestVariable_2_body C0 hT0 (k2 := fn_X3_lowestVariable_2 n) (hk2 := ih) (hl := hl) (h := h)
set_option maxHeartbeats 4000000 in
set_option maxRecDepth 100000 in
theorem wk_X3_lowestVariable {p : Program} {l : Launch} {e : Env} {s : State} {m : MethodId} {args : Array Value} {below : List Frame} {meth : Method} {c : Code} {tw : Nat} {tt : Nat → Nat} (C0 : Cx p s m args meth c cX3_lowestVariable (some .int) 3 wsX3_lowestVariable RX3) (hT0 : tW tw tt (fun _ => False) s s.heap) {q : Int32} (x0 : Int64) (ls : Array Slot) (hl : lv_has ls 3 [(0, .long x0)]) (h : fn_X3_lowestVariable x0 = some q) : W p l e rm_X3_lowestVariable s m args below meth c s.heap [] 0 0 (MQ below (HQ (some (.int q))) args s 0 0 (fun _ => False)) (F0 m 0 ls []) := by
  obtain ⟨hx, hb, hr, hml, hown, hts, hlocks⟩ := id C0
  have hS : va_S (fun _ => False) s.heap s.heap [] := va_S.rf
  unfold fn_X3_lowestVariable at h
  refine lv_iconst (v := 0) hx hb dX3_lowestVariable_0 (by decide) ?_
  refine lv_istore_n (lv' := [(2, .int 0), (0, .long x0)]) hx hb dX3_lowestVariable_1 rfl hl (by decide) rfl (fun ls hl => ?_)
  exact wk_X3_lowestVariable_2 C0 hT0  FU x0 0 ls (lv_sub hl [1, 0] rfl) h
theorem ct_X3_lowestVariable (l : Launch) (tw : Nat) (tt : Nat → Nat) (x0 : Int64) {q : Int32} (h : fn_X3_lowestVariable x0 = some q) : Hp l yX3_lowestVariable wsX3_lowestVariable rm_X3_lowestVariable [.long x0] (GP tw tt) (some (.int q)) := by
  refine Hp.of (cc := cX3_lowestVariable) (nL := 3) (ret := (some .int)) (own := RX3) (by decide) rfl rfl (Nat.le_of_ble_eq_true rfl) ?_
  intro p e s m below meth c ls C0 hB hl
  exact wk_X3_lowestVariable C0 hB (hl := hl) (h := h)
abbrev rm_X3_lowerHalf : Room := { frames := 1, cells := 0, slots := 0, locals := 20 }
set_option maxHeartbeats 4000000 in
set_option maxRecDepth 100000 in
theorem wk_X3_lowerHalf {p : Program} {l : Launch} {e : Env} {s : State} {m : MethodId} {args : Array Value} {below : List Frame} {meth : Method} {c : Code} {tw : Nat} {tt : Nat → Nat} (C0 : Cx p s m args meth c cX3_lowerHalf (some .long) 3 wsX3_lowerHalf RX3) (hT0 : tW tw tt (fun _ => False) s s.heap) {q : Int64} (x0 : Int64) (x2 : Int32) (ls : Array Slot) (hl : lv_has ls 3 [(0, .long x0), (2, .int x2)]) (h : fn_X3_lowerHalf x0 x2 = some q) : W p l e rm_X3_lowerHalf s m args below meth c s.heap [] 0 0 (MQ below (HQ (some (.long q))) args s 0 0 (fun _ => False)) (F0 m 0 ls []) := by
  obtain ⟨hx, hb, hr, hml, hown, hts, hlocks⟩ := id C0
  have hS : va_S (fun _ => False) s.heap s.heap [] := va_S.rf
  unfold fn_X3_lowerHalf at h
  refine lv_lload_n hx hb dX3_lowerHalf_0 rfl (lv_at hl 0 rfl) ?_
  refine lv_iload_n hx hb dX3_lowerHalf_1 rfl (lv_at hl 1 rfl) ?_
  obtain ⟨q2, e2, h⟩ := Option.bind_eq_some_iff.mp h
  refine hp_S (As := [.int x2]) (rest := [.long x0]) ⟨hx, hb, hml, hown, hts⟩ (ct_X3_without l tw tt x2 e2) (va_cwS 1 hts gX3_lowerHalf_X3_without rfl rfl rfl (by decide +kernel) ⟨Nat.le_of_ble_eq_true rfl, Nat.le_of_ble_eq_true rfl⟩) GP.mv (GP.from hT0 hS) rfl hl.1 rfl (Nat.le_of_ble_eq_true rfl) dX3_lowerHalf_2 ⟨Nat.zero_le _, Nat.zero_le _⟩ ?_
  refine W.eq (g2 := F0 m 5 ls [.long q2, .long x0]) rfl ?_
  refine lv_land hx hb dX3_lowerHalf_5 ?_
  obtain rfl := Option.some.inj h
  exact hp_lret hx hb hr hlocks dX3_lowerHalf_6
theorem ct_X3_lowerHalf (l : Launch) (tw : Nat) (tt : Nat → Nat) (x0 : Int64) (x2 : Int32) {q : Int64} (h : fn_X3_lowerHalf x0 x2 = some q) : Hp l yX3_lowerHalf wsX3_lowerHalf rm_X3_lowerHalf [.long x0, .int x2] (GP tw tt) (some (.long q)) := by
  refine Hp.of (cc := cX3_lowerHalf) (nL := 3) (ret := (some .long)) (own := RX3) (by decide) rfl rfl (Nat.le_of_ble_eq_true rfl) ?_
  intro p e s m below meth c ls C0 hB hl
  exact wk_X3_lowerHalf C0 hB (hl := hl) (h := h)
abbrev rm_X0_closedCount : Room := { frames := 3, cells := 0, slots := 0, locals := 64 }
theorem lk_X0_closedCount_f15 : Cond.fieldLink RX0 15 "BooleanRing$Diagrams" "count" "I" ∈ wsX0_closedCount := by decide +kernel
theorem lk_X0_closedCount_f9 : Cond.fieldLink RX0 9 "BooleanRing$Diagrams" "found" "[J" ∈ wsX0_closedCount := by decide +kernel
theorem ly_X0_closedCount_X0 : ∀ w ∈ wsX00, w ∈ wsX0_closedCount := by decide +kernel
set_option maxHeartbeats 4000000 in
set_option maxRecDepth 100000 in
theorem wk_X0_closedCount_2_body {p : Program} {l : Launch} {e : Env} {s : State} {m : MethodId} {args : Array Value} {below : List Frame} {meth : Method} {c : Code} {D : va_G} {ca : Nat → ClassId} {a : Nat → Nat} {tw : Nat} {tt : Nat → Nat} (C0 : Cx p s m args meth c cX0_closedCount (some .int) 3 wsX0_closedCount RX0) (hap : ap_ok 9 a) (hK : va_K D vwCl (tys3 ca) s) (hT0 : tW tw tt (ad_of 9 a) s s.heap) {q : Int32 × XS} (k2 : XS → Int32 → Option (Int32 × XS)) (hk2 : ∀ (v : XS) (H : Heap) (locs : List Loc) (x1 : Int32) (ls : Array Slot) (hP : va_P D vwCl (XW ca a v) H) (hS : va_S (ad_of 9 a) s.heap H locs) (hl : lv_has ls 3 [(0, .ref (a 5)), (1, .int x1)]) (h : k2 v x1 = some q), W p l e rm_X0_closedCount s m args below meth c H locs 0 0 (MQ below (PQ (some (.int q.1)) (fun H => va_P D vwCl (XW ca a q.2) H) (ad_of 9 a)) args s 0 0 (ad_of 9 a)) (F0 m 2 ls [])) (v : XS) (H : Heap) (locs : List Loc) (x1 : Int32) (ls : Array Slot) (hP : va_P D vwCl (XW ca a v) H) (hS : va_S (ad_of 9 a) s.heap H locs) (hl : lv_has ls 3 [(0, .ref (a 5)), (1, .int x1)]) (h : fn_X0_closedCount_2_body k2 v x1 = some q) : W p l e rm_X0_closedCount s m args below meth c H locs 0 0 (MQ below (PQ (some (.int q.1)) (fun H => va_P D vwCl (XW ca a q.2) H) (ad_of 9 a)) args s 0 0 (ad_of 9 a)) (F0 m 2 ls []) := by
  obtain ⟨hx, hb, hr, hml, hown, hts, hlocks⟩ := id C0
  have hD0 := fun v => XW_D (ca := ca) hap v
  unfold fn_X0_closedCount_2_body at h
  refine lv_iload_n hx hb dX0_closedCount_2 rfl (lv_at hl 1 rfl) ?_
  refine lv_aload_n hx hb dX0_closedCount_3 rfl (lv_at hl 0 rfl) ?_
  refine va_get (D := D) (ci := 0) (v := .int (x_count v)) (C := RX0) (T := TX0) (N := 2) hx hb hts ly_X0_closedCount_X0 hown hK hP 5 rfl rfl 1 (by decide) (hts _ lk_X0_closedCount_f15) (fun _ h9 => h9) rfl dX0_closedCount_4 ?_
  refine lv_icmp_ge (tgt := 63) hx hb dX0_closedCount_7 (by decide) (fun c7 => ?_) (fun c7 => ?_)
  · replace h := ite_t h c7
    refine lv_aload_n hx hb dX0_closedCount_63 rfl (lv_at hl 0 rfl) ?_
    refine va_get (D := D) (ci := 0) (v := .int (x_count v)) (C := RX0) (T := TX0) (N := 2) hx hb hts ly_X0_closedCount_X0 hown hK hP 5 rfl rfl 1 (by decide) (hts _ lk_X0_closedCount_f15) (fun _ h9 => h9) rfl dX0_closedCount_64 ?_
    obtain rfl := Option.some.inj h
    exact mp_iret hx hb hr hlocks hP hS dX0_closedCount_67
  · replace h := ite_f h c7
    refine lv_iload_n hx hb dX0_closedCount_10 rfl (lv_at hl 1 rfl) ?_
    refine lv_aload_n hx hb dX0_closedCount_11 rfl (lv_at hl 0 rfl) ?_
    refine va_get (D := D) (ci := 0) (v := .ref (a 6)) (C := RX0) (T := TX0) (N := 2) hx hb hts ly_X0_closedCount_X0 hown hK hP 5 rfl rfl 0 (by decide) (hts _ lk_X0_closedCount_f9) (fun _ h9 => h9) rfl dX0_closedCount_12 ?_
    refine va_alen (v := 504) hx hb hK hP 6 0 rfl rfl rfl dX0_closedCount_15 ?_
    refine lv_icmp_ge (tgt := 63) hx hb dX0_closedCount_16 (by decide) (fun c16 => ?_) (fun c16 => ?_)
    · replace h := ite_t h c16
      refine lv_aload_n hx hb dX0_closedCount_63 rfl (lv_at hl 0 rfl) ?_
      refine va_get (D := D) (ci := 0) (v := .int (x_count v)) (C := RX0) (T := TX0) (N := 2) hx hb hts ly_X0_closedCount_X0 hown hK hP 5 rfl rfl 1 (by decide) (hts _ lk_X0_closedCount_f15) (fun _ h9 => h9) rfl dX0_closedCount_64 ?_
      obtain rfl := Option.some.inj h
      exact mp_iret hx hb hr hlocks hP hS dX0_closedCount_67
    · replace h := ite_f h c16
      refine lv_aload_n hx hb dX0_closedCount_19 rfl (lv_at hl 0 rfl) ?_
      refine va_get (D := D) (ci := 0) (v := .ref (a 6)) (C := RX0) (T := TX0) (N := 2) hx hb hts ly_X0_closedCount_X0 hown hK hP 5 rfl rfl 0 (by decide) (hts _ lk_X0_closedCount_f9) (fun _ h9 => h9) rfl dX0_closedCount_20 ?_
      refine lv_iload_n hx hb dX0_closedCount_23 rfl (lv_at hl 1 rfl) ?_
      obtain ⟨q24, e24, h⟩ := Option.bind_eq_some_iff.mp h
      refine rd_lald hx hb hK hP 6 0 e24 rfl rfl dX0_closedCount_24 ?_
      obtain ⟨q25, e25, h⟩ := Option.bind_eq_some_iff.mp h
      refine hp_S (As := [.long q24]) (rest := []) ⟨hx, hb, hml, hown, hts⟩ (ct_X3_lowestVariable l tw tt q24 e25) (va_cwS 1 hts gX0_closedCount_X3_lowestVariable rfl rfl rfl (by decide +kernel) ⟨Nat.le_of_ble_eq_true rfl, Nat.le_of_ble_eq_true rfl⟩) GP.mv (GP.from hT0 hS) rfl hl.1 rfl (Nat.le_of_ble_eq_true rfl) dX0_closedCount_25 ⟨Nat.zero_le _, Nat.zero_le _⟩ ?_
      refine W.eq (g2 := F0 m 28 ls [.int q25]) rfl ?_
      refine lv_istore_n (lv' := [(2, .int q25), (0, .ref (a 5)), (1, .int x1)]) hx hb dX0_closedCount_28 rfl hl (by decide) rfl (fun ls hl => ?_)
      refine lv_aload_n hx hb dX0_closedCount_29 rfl (lv_at hl 1 rfl) ?_
      refine lv_aload_n hx hb dX0_closedCount_30 rfl (lv_at hl 1 rfl) ?_
      refine va_get (D := D) (ci := 0) (v := .ref (a 6)) (C := RX0) (T := TX0) (N := 2) hx hb hts ly_X0_closedCount_X0 hown hK hP 5 rfl rfl 0 (by decide) (hts _ lk_X0_closedCount_f9) (fun _ h9 => h9) rfl dX0_closedCount_31 ?_
      refine lv_iload_n hx hb dX0_closedCount_34 rfl (lv_at hl 2 rfl) ?_
      obtain ⟨q35, e35, h⟩ := Option.bind_eq_some_iff.mp h
      refine rd_lald hx hb hK hP 6 0 e35 rfl rfl dX0_closedCount_35 ?_
      refine lv_iload_n hx hb dX0_closedCount_36 rfl (lv_at hl 0 rfl) ?_
      obtain ⟨q37, e37, h⟩ := Option.bind_eq_some_iff.mp h
      refine hp_S (As := [.long q35, .int q25]) (rest := [.ref (a 5)]) ⟨hx, hb, hml, hown, hts⟩ (ct_X3_upperHalf l tw tt q35 q25 e37) (va_cwS 2 hts gX0_closedCount_X3_upperHalf rfl rfl rfl (by decide +kernel) ⟨Nat.le_of_ble_eq_true rfl, Nat.le_of_ble_eq_true rfl⟩) GP.mv (GP.from hT0 hS) rfl hl.1 rfl (Nat.le_of_ble_eq_true rfl) dX0_closedCount_37 ⟨Nat.zero_le _, Nat.zero_le _⟩ ?_
      refine W.eq (g2 := F0 m 40 ls [.long q37, .ref (a 5)]) rfl ?_
      obtain ⟨q40, e40, h⟩ := Option.bind_eq_some_iff.mp h
      refine mp_V (As := [.long q37]) (rest := []) (b := (a 5)) ⟨hx, hb, hml, hown, hts⟩ (ct_X0_enter l D ca a tw tt hap v q37 e40) (cwV 1 hts gX0_closedCount_X0_enter rfl rfl rfl (by decide +kernel) ⟨Nat.le_of_ble_eq_true rfl, Nat.le_of_ble_eq_true rfl⟩) (va_recv hK hP (ci := 0) (q0 := 5) rfl rfl) GW.mv (GW.from hP hK hT0 hS) hS rfl hl.1 rfl (Nat.le_of_ble_eq_true rfl) dX0_closedCount_40 ⟨Nat.zero_le _, Nat.zero_le _⟩ (fun H locs hP hS => ?_)
      refine W.eq (g2 := F0 m 43 ls []) rfl ?_
      refine lv_aload_n hx hb dX0_closedCount_43 rfl (lv_at hl 1 rfl) ?_
      refine lv_aload_n hx hb dX0_closedCount_44 rfl (lv_at hl 1 rfl) ?_
      refine va_get (D := D) (ci := 0) (v := .ref (a 6)) (C := RX0) (T := TX0) (N := 2) hx hb hts ly_X0_closedCount_X0 hown hK hP 5 rfl rfl 0 (by decide) (hts _ lk_X0_closedCount_f9) (fun _ h9 => h9) rfl dX0_closedCount_45 ?_
      refine lv_iload_n hx hb dX0_closedCount_48 rfl (lv_at hl 2 rfl) ?_
      obtain ⟨q49, e49, h⟩ := Option.bind_eq_some_iff.mp h
      refine rd_lald hx hb hK hP 6 0 e49 rfl rfl dX0_closedCount_49 ?_
      refine lv_iload_n hx hb dX0_closedCount_50 rfl (lv_at hl 0 rfl) ?_
      obtain ⟨q51, e51, h⟩ := Option.bind_eq_some_iff.mp h
      refine hp_S (As := [.long q49, .int q25]) (rest := [.ref (a 5)]) ⟨hx, hb, hml, hown, hts⟩ (ct_X3_lowerHalf l tw tt q49 q25 e51) (va_cwS 2 hts gX0_closedCount_X3_lowerHalf rfl rfl rfl (by decide +kernel) ⟨Nat.le_of_ble_eq_true rfl, Nat.le_of_ble_eq_true rfl⟩) GP.mv (GP.from hT0 hS) rfl hl.1 rfl (Nat.le_of_ble_eq_true rfl) dX0_closedCount_51 ⟨Nat.zero_le _, Nat.zero_le _⟩ ?_
      refine W.eq (g2 := F0 m 54 ls [.long q51, .ref (a 5)]) rfl ?_
      obtain ⟨q54, e54, h⟩ := Option.bind_eq_some_iff.mp h
      refine mp_V (As := [.long q51]) (rest := []) (b := (a 5)) ⟨hx, hb, hml, hown, hts⟩ (ct_X0_enter l D ca a tw tt hap q40 q51 e54) (cwV 1 hts gX0_closedCount_X0_enter rfl rfl rfl (by decide +kernel) ⟨Nat.le_of_ble_eq_true rfl, Nat.le_of_ble_eq_true rfl⟩) (va_recv hK hP (ci := 0) (q0 := 5) rfl rfl) GW.mv (GW.from hP hK hT0 hS) hS rfl hl.1 rfl (Nat.le_of_ble_eq_true rfl) dX0_closedCount_54 ⟨Nat.zero_le _, Nat.zero_le _⟩ (fun H locs hP hS => ?_)
      refine W.eq (g2 := F0 m 57 ls []) rfl ?_
      refine lv_iinc (v := (x1 + 1)) (lv' := [(1, .int (x1 + 1)), (2, .int q25), (0, .ref (a 5))]) hx hb dX0_closedCount_57 hl (k := 2) rfl rfl (by decide) rfl (fun ls hl => ?_)
      refine lv_goto (tgt := 2) hx hb dX0_closedCount_60 (by decide) ?_
      exact hk2 q54 H locs (x1 + 1) ls hP hS (lv_sub hl [2, 0] rfl) h
set_option maxHeartbeats 4000000 in
set_option maxRecDepth 100000 in
theorem wk_X0_closedCount_2 {p : Program} {l : Launch} {e : Env} {s : State} {m : MethodId} {args : Array Value} {below : List Frame} {meth : Method} {c : Code} {D : va_G} {ca : Nat → ClassId} {a : Nat → Nat} {tw : Nat} {tt : Nat → Nat} (C0 : Cx p s m args meth c cX0_closedCount (some .int) 3 wsX0_closedCount RX0) (hap : ap_ok 9 a) (hK : va_K D vwCl (tys3 ca) s) (hT0 : tW tw tt (ad_of 9 a) s s.heap) {q : Int32 × XS} : ∀ (n : Nat) (v : XS) (H : Heap) (locs : List Loc) (x1 : Int32) (ls : Array Slot) (hP : va_P D vwCl (XW ca a v) H) (hS : va_S (ad_of 9 a) s.heap H locs) (hl : lv_has ls 3 [(0, .ref (a 5)), (1, .int x1)]) (h : fn_X0_closedCount_2 n v x1 = some q), W p l e rm_X0_closedCount s m args below meth c H locs 0 0 (MQ below (PQ (some (.int q.1)) (fun H => va_P D vwCl (XW ca a q.2) H) (ad_of 9 a)) args s 0 0 (ad_of 9 a)) (F0 m 2 ls []) := by
  intro n
  induction n with
  | zero => intro v H locs x1 ls hP hS hl h; unfold fn_X0_closedCount_2 at h; cases h
  | succ n ih => intro v H locs x1 ls hP hS hl h; exact wk_X0_closedCount_2_body C0 hap hK hT0 (k2 := fn_X0_closedCount_2 n) (hk2 := ih) (hl := hl) (hP := hP) (hS := hS) (h := h)
set_option maxHeartbeats 4000000 in
set_option maxRecDepth 100000 in
theorem wk_X0_closedCount {p : Program} {l : Launch} {e : Env} {s : State} {m : MethodId} {args : Array Value} {below : List Frame} {meth : Method} {c : Code} {D : va_G} {ca : Nat → ClassId} {a : Nat → Nat} {tw : Nat} {tt : Nat → Nat} (C0 : Cx p s m args meth c cX0_closedCount (some .int) 3 wsX0_closedCount RX0) (hap : ap_ok 9 a) (hK : va_K D vwCl (tys3 ca) s) (hT0 : tW tw tt (ad_of 9 a) s s.heap) {q : Int32 × XS} (v : XS) (H : Heap) (locs : List Loc) (ls : Array Slot) (hP : va_P D vwCl (XW ca a v) H) (hS : va_S (ad_of 9 a) s.heap H locs) (hl : lv_has ls 3 [(0, .ref (a 5))]) (h : fn_X0_closedCount v  = some q) : W p l e rm_X0_closedCount s m args below meth c H locs 0 0 (MQ below (PQ (some (.int q.1)) (fun H => va_P D vwCl (XW ca a q.2) H) (ad_of 9 a)) args s 0 0 (ad_of 9 a)) (F0 m 0 ls []) := by
  obtain ⟨hx, hb, hr, hml, hown, hts, hlocks⟩ := id C0
  have hD0 := fun v => XW_D (ca := ca) hap v
  unfold fn_X0_closedCount at h
  refine lv_iconst (v := 0) hx hb dX0_closedCount_0 (by decide) ?_
  refine lv_istore_n (lv' := [(1, .int 0), (0, .ref (a 5))]) hx hb dX0_closedCount_1 rfl hl (by decide) rfl (fun ls hl => ?_)
  exact wk_X0_closedCount_2 C0 hap hK hT0  FU v H locs 0 ls hP hS (lv_sub hl [1, 0] rfl) h
theorem ct_X0_closedCount (l : Launch) (D : va_G) (ca : Nat → ClassId) (a : Nat → Nat) (tw : Nat) (tt : Nat → Nat) (hap : ap_ok 9 a) (v : XS) {q : Int32 × XS} (h : fn_X0_closedCount v  = some q) : Mp l yX0_closedCount wsX0_closedCount rm_X0_closedCount [.ref (a 5)] (GW D ca tw tt (ad_of 9 a) (XW ca a v)) (some (.int q.1)) (fun H => va_P D vwCl (XW ca a q.2) H) (ad_of 9 a) := by
  refine Mp.of (cc := cX0_closedCount) (nL := 3) (ret := (some .int)) (own := RX0) (by decide) rfl rfl (Nat.le_of_ble_eq_true rfl) ?_
  intro p e s m below meth c ls C0 hB hl
  exact wk_X0_closedCount C0 hap hB.2.1 hB.2.2 (hP := hB.1) (hS := va_S.rf) (hl := hl) (h := h)
abbrev rm_X1_forget : Room := { frames := 0, cells := 0, slots := 0, locals := 0 }
theorem lk_X1_forget_f15 : Cond.fieldLink RX1 15 "BooleanRing$History" "kept" "I" ∈ wsX1_forget := by decide +kernel
theorem ly_X1_forget_X1 : ∀ w ∈ wsX10, w ∈ wsX1_forget := by decide +kernel
set_option maxHeartbeats 4000000 in
set_option maxRecDepth 100000 in
theorem wk_X1_forget {p : Program} {l : Launch} {e : Env} {s : State} {m : MethodId} {args : Array Value} {below : List Frame} {meth : Method} {c : Code} {D : va_G} {ca : Nat → ClassId} {a : Nat → Nat} {tw : Nat} {tt : Nat → Nat} (C0 : Cx p s m args meth c cX1_forget none 1 wsX1_forget RX1) (hap : ap_ok 9 a) (hK : va_K D vwCl (tys3 ca) s) (hT0 : tW tw tt (ad_of 9 a) s s.heap) {q : XS} (v : XS) (H : Heap) (locs : List Loc) (ls : Array Slot) (hP : va_P D vwCl (XW ca a v) H) (hS : va_S (ad_of 9 a) s.heap H locs) (hl : lv_has ls 1 [(0, .ref (a 3))]) (h : fn_X1_forget v  = some q) : W p l e rm_X1_forget s m args below meth c H locs 0 0 (MQ below (PQ none (fun H => va_P D vwCl (XW ca a q) H) (ad_of 9 a)) args s 0 0 (ad_of 9 a)) (F0 m 0 ls []) := by
  obtain ⟨hx, hb, hr, hml, hown, hts, hlocks⟩ := id C0
  have hD0 := fun v => XW_D (ca := ca) hap v
  unfold fn_X1_forget at h
  refine lv_aload_n hx hb dX1_forget_0 rfl (lv_at hl 0 rfl) ?_
  refine lv_iconst (v := 0) hx hb dX1_forget_1 (by decide) ?_
  refine va_put (D := D) (ci := 1) (v := .int 0) (ty := .int) (C := RX1) (T := TX1) (N := 2) hx hb hts ly_X1_forget_X1 tyX1 tyX1_ok nmX1 hown hK hP (hD0 v) hS 3 rfl rfl 1 (by decide) (hts _ lk_X1_forget_f15) (fun _ h9 => h9) rfl (by decide +kernel) rfl rfl (Nat.le_of_ble_eq_true rfl) dX1_forget_2 (fun H locs hP _ hS => ?_)
  have hP : va_P D vwCl (XW ca a (xs_kept v 0)) H := hP
  obtain rfl := Option.some.inj h
  exact mp_vret hx hb hr hlocks hP hS dX1_forget_5
theorem ct_X1_forget (l : Launch) (D : va_G) (ca : Nat → ClassId) (a : Nat → Nat) (tw : Nat) (tt : Nat → Nat) (hap : ap_ok 9 a) (v : XS) {q : XS} (h : fn_X1_forget v  = some q) : Mp l yX1_forget wsX1_forget rm_X1_forget [.ref (a 3)] (GW D ca tw tt (ad_of 9 a) (XW ca a v)) none (fun H => va_P D vwCl (XW ca a q) H) (ad_of 9 a) := by
  refine Mp.of (cc := cX1_forget) (nL := 1) (ret := none) (own := RX1) (by decide) rfl rfl (Nat.le_of_ble_eq_true rfl) ?_
  intro p e s m below meth c ls C0 hB hl
  exact wk_X1_forget C0 hap hB.2.1 hB.2.2 (hP := hB.1) (hS := va_S.rf) (hl := hl) (h := h)
abbrev rm_X1_isEmpty : Room := { frames := 0, cells := 0, slots := 0, locals := 0 }
theorem lk_X1_isEmpty_f15 : Cond.fieldLink RX1 15 "BooleanRing$History" "kept" "I" ∈ wsX1_isEmpty := by decide +kernel
theorem ly_X1_isEmpty_X1 : ∀ w ∈ wsX10, w ∈ wsX1_isEmpty := by decide +kernel
set_option maxHeartbeats 4000000 in
set_option maxRecDepth 100000 in
theorem wk_X1_isEmpty {p : Program} {l : Launch} {e : Env} {s : State} {m : MethodId} {args : Array Value} {below : List Frame} {meth : Method} {c : Code} {D : va_G} {ca : Nat → ClassId} {a : Nat → Nat} {tw : Nat} {tt : Nat → Nat} (C0 : Cx p s m args meth c cX1_isEmpty (some .boolean) 1 wsX1_isEmpty RX1) (hK : va_K D vwCl (tys3 ca) s) (hT0 : tW tw tt (ad_of 9 a) s s.heap) (v : XS) (hP : va_P D vwCl (XW ca a v) s.heap) {q : Int32} (ls : Array Slot) (hl : lv_has ls 1 [(0, .ref (a 3))]) (h : fn_X1_isEmpty v  = some q) : W p l e rm_X1_isEmpty s m args below meth c s.heap [] 0 0 (MQ below (HQ (some (.int q))) args s 0 0 (fun _ => False)) (F0 m 0 ls []) := by
  obtain ⟨hx, hb, hr, hml, hown, hts, hlocks⟩ := id C0
  have hS : va_S (ad_of 9 a) s.heap s.heap [] := va_S.rf
  unfold fn_X1_isEmpty at h
  refine lv_aload_n hx hb dX1_isEmpty_0 rfl (lv_at hl 0 rfl) ?_
  refine va_get (D := D) (ci := 1) (v := .int (x_kept v)) (C := RX1) (T := TX1) (N := 2) hx hb hts ly_X1_isEmpty_X1 hown hK hP 3 rfl rfl 1 (by decide) (hts _ lk_X1_isEmpty_f15) (fun _ h9 => h9) rfl dX1_isEmpty_1 ?_
  refine lv_if_gt (tgt := 11) hx hb dX1_isEmpty_4 (by decide) (fun c4 => ?_) (fun c4 => ?_)
  · replace h := ite_t h c4
    refine lv_iconst (v := 0) hx hb dX1_isEmpty_11 (by decide) ?_
    obtain rfl := Option.some.inj h
    exact hp_zret hx hb hr hlocks rfl dX1_isEmpty_12
  · replace h := ite_f h c4
    refine lv_iconst (v := 1) hx hb dX1_isEmpty_7 (by decide) ?_
    refine lv_goto (tgt := 12) hx hb dX1_isEmpty_8 (by decide) ?_
    obtain rfl := Option.some.inj h
    exact hp_zret hx hb hr hlocks rfl dX1_isEmpty_12
theorem ct_X1_isEmpty (l : Launch) (D : va_G) (ca : Nat → ClassId) (a : Nat → Nat) (tw : Nat) (tt : Nat → Nat) (v : XS) {q : Int32} (h : fn_X1_isEmpty v  = some q) : Hp l yX1_isEmpty wsX1_isEmpty rm_X1_isEmpty [.ref (a 3)] (GW D ca tw tt (ad_of 9 a) (XW ca a v)) (some (.int q)) := by
  refine Hp.of (cc := cX1_isEmpty) (nL := 1) (ret := (some .boolean)) (own := RX1) (by decide) rfl rfl (Nat.le_of_ble_eq_true rfl) ?_
  intro p e s m below meth c ls C0 hB hl
  exact wk_X1_isEmpty C0 hB.2.1 hB.2.2 v hB.1 (hl := hl) (h := h)
abbrev rm_X1_keep : Room := { frames := 1, cells := 0, slots := 0, locals := 26 }
theorem lk_X1_keep_f15 : Cond.fieldLink RX1 15 "BooleanRing$History" "kept" "I" ∈ wsX1_keep := by decide +kernel
theorem lk_X1_keep_f11 : Cond.fieldLink RX1 11 "BooleanRing$History" "states" "[J" ∈ wsX1_keep := by decide +kernel
theorem lk_X1_keep_m19 : Cond.methodLink RX1 19 arraycopyName ∈ wsX1_keep := by decide +kernel
theorem lk_X1_keep_nat : Cond.native arraycopyName ∈ wsX1_keep := by decide +kernel
theorem lk_X1_keep_sta : Cond.static arraycopyName ∈ wsX1_keep := by decide +kernel
theorem lk_X1_keep_sys : Cond.initialized "java/lang/System" ∈ wsX1_keep := by decide +kernel
theorem ly_X1_keep_X1 : ∀ w ∈ wsX10, w ∈ wsX1_keep := by decide +kernel
set_option maxHeartbeats 4000000 in
set_option maxRecDepth 100000 in
theorem wk_X1_keep_38 {p : Program} {l : Launch} {e : Env} {s : State} {m : MethodId} {args : Array Value} {below : List Frame} {meth : Method} {c : Code} {D : va_G} {ca : Nat → ClassId} {a : Nat → Nat} {tw : Nat} {tt : Nat → Nat} (C0 : Cx p s m args meth c cX1_keep none 2 wsX1_keep RX1) (hap : ap_ok 9 a) (hK : va_K D vwCl (tys3 ca) s) (hT0 : tW tw tt (ad_of 9 a) s s.heap) {q : XS} (v : XS) (H : Heap) (locs : List Loc) (ls : Array Slot) (hP : va_P D vwCl (XW ca a v) H) (hS : va_S (ad_of 9 a) s.heap H locs) (hl : lv_has ls 2 [(0, .ref (a 3)), (1, .ref (a 1))]) (h : fn_X1_keep_38 v  = some q) : W p l e rm_X1_keep s m args below meth c H locs 0 0 (MQ below (PQ none (fun H => va_P D vwCl (XW ca a q) H) (ad_of 9 a)) args s 0 0 (ad_of 9 a)) (F0 m 38 ls []) := by
  obtain ⟨hx, hb, hr, hml, hown, hts, hlocks⟩ := id C0
  have hD0 := fun v => XW_D (ca := ca) hap v
  unfold fn_X1_keep_38 at h
  refine lv_aload_n hx hb dX1_keep_38 rfl (lv_at hl 1 rfl) ?_
  refine lv_iconst (v := 0) hx hb dX1_keep_39 (by decide) ?_
  refine lv_aload_n hx hb dX1_keep_40 rfl (lv_at hl 0 rfl) ?_
  refine va_get (D := D) (ci := 1) (v := .ref (a 4)) (C := RX1) (T := TX1) (N := 2) hx hb hts ly_X1_keep_X1 hown hK hP 3 rfl rfl 0 (by decide) (hts _ lk_X1_keep_f11) (fun _ h9 => h9) rfl dX1_keep_41 ?_
  refine lv_aload_n hx hb dX1_keep_44 rfl (lv_at hl 0 rfl) ?_
  refine va_get (D := D) (ci := 1) (v := .int (x_kept v)) (C := RX1) (T := TX1) (N := 2) hx hb hts ly_X1_keep_X1 hown hK hP 3 rfl rfl 1 (by decide) (hts _ lk_X1_keep_f15) (fun _ h9 => h9) rfl dX1_keep_45 ?_
  refine lv_bipush (v := 8) hx hb dX1_keep_48 (by decide) ?_
  refine lv_imul hx hb dX1_keep_50 ?_
  refine lv_bipush (v := 8) hx hb dX1_keep_51 (by decide) ?_
  obtain ⟨g53, e53, h⟩ := Option.bind_eq_some_iff.mp h
  refine cp_long (rest := []) hx hb (hml.trans hl.1.symm) hown (hts _ lk_X1_keep_m19) (hts _ lk_X1_keep_nat) (hts _ lk_X1_keep_sta) (hts _ lk_X1_keep_sys) hK hP (hD0 v) hS 1 4 0 e53 rfl rfl rfl (Nat.le_of_ble_eq_true rfl) (Nat.le_of_ble_eq_true rfl) dX1_keep_53 (fun H locs hP hS => ?_)
  have hP : va_P D vwCl (XW ca a (xs_hist v g53)) H := hP
  refine lv_aload_n hx hb dX1_keep_56 rfl (lv_at hl 0 rfl) ?_
  refine lv_dup hx hb dX1_keep_57 rfl ?_
  refine va_get (D := D) (ci := 1) (v := .int (x_kept v)) (C := RX1) (T := TX1) (N := 2) hx hb hts ly_X1_keep_X1 hown hK hP 3 rfl rfl 1 (by decide) (hts _ lk_X1_keep_f15) (fun _ h9 => h9) rfl dX1_keep_58 ?_
  refine lv_iconst (v := 1) hx hb dX1_keep_61 (by decide) ?_
  refine lv_iadd hx hb dX1_keep_62 ?_
  refine va_put (D := D) (ci := 1) (v := .int ((x_kept v) + 1)) (ty := .int) (C := RX1) (T := TX1) (N := 2) hx hb hts ly_X1_keep_X1 tyX1 tyX1_ok nmX1 hown hK hP (hD0 (xs_hist v g53)) hS 3 rfl rfl 1 (by decide) (hts _ lk_X1_keep_f15) (fun _ h9 => h9) rfl (by decide +kernel) rfl rfl (Nat.le_of_ble_eq_true rfl) dX1_keep_63 (fun H locs hP _ hS => ?_)
  have hP : va_P D vwCl (XW ca a (xs_kept (xs_hist v g53) ((x_kept v) + 1))) H := hP
  obtain rfl := Option.some.inj h
  exact mp_vret hx hb hr hlocks hP hS dX1_keep_66
set_option maxHeartbeats 4000000 in
set_option maxRecDepth 100000 in
theorem wk_X1_keep {p : Program} {l : Launch} {e : Env} {s : State} {m : MethodId} {args : Array Value} {below : List Frame} {meth : Method} {c : Code} {D : va_G} {ca : Nat → ClassId} {a : Nat → Nat} {tw : Nat} {tt : Nat → Nat} (C0 : Cx p s m args meth c cX1_keep none 2 wsX1_keep RX1) (hap : ap_ok 9 a) (hK : va_K D vwCl (tys3 ca) s) (hT0 : tW tw tt (ad_of 9 a) s s.heap) {q : XS} (v : XS) (H : Heap) (locs : List Loc) (ls : Array Slot) (hP : va_P D vwCl (XW ca a v) H) (hS : va_S (ad_of 9 a) s.heap H locs) (hl : lv_has ls 2 [(0, .ref (a 3)), (1, .ref (a 1))]) (h : fn_X1_keep v  = some q) : W p l e rm_X1_keep s m args below meth c H locs 0 0 (MQ below (PQ none (fun H => va_P D vwCl (XW ca a q) H) (ad_of 9 a)) args s 0 0 (ad_of 9 a)) (F0 m 0 ls []) := by
  obtain ⟨hx, hb, hr, hml, hown, hts, hlocks⟩ := id C0
  have hD0 := fun v => XW_D (ca := ca) hap v
  unfold fn_X1_keep at h
  refine lv_aload_n hx hb dX1_keep_0 rfl (lv_at hl 1 rfl) ?_
  refine va_alen (v := 8) hx hb hK hP 1 0 rfl rfl rfl dX1_keep_1 ?_
  refine lv_bipush (v := 8) hx hb dX1_keep_2 (by decide) ?_
  refine lv_icmp_eq (tgt := 8) hx hb dX1_keep_4 (by decide) (fun c4 => ?_) (fun c4 => ?_)
  · replace h := ite_t h c4
    refine lv_aload_n hx hb dX1_keep_8 rfl (lv_at hl 0 rfl) ?_
    refine va_get (D := D) (ci := 1) (v := .int (x_kept v)) (C := RX1) (T := TX1) (N := 2) hx hb hts ly_X1_keep_X1 hown hK hP 3 rfl rfl 1 (by decide) (hts _ lk_X1_keep_f15) (fun _ h9 => h9) rfl dX1_keep_9 ?_
    refine lv_bipush (v := 6) hx hb dX1_keep_12 (by decide) ?_
    refine lv_icmp_lt (tgt := 38) hx hb dX1_keep_14 (by decide) (fun c14 => ?_) (fun c14 => ?_)
    · replace h := ite_t h c14
      exact wk_X1_keep_38 C0 hap hK hT0 (ls := ls) (hP := hP) (hS := hS) (hl := (lv_sub hl [0, 1] rfl)) (h := h)
    · replace h := ite_f h c14
      refine lv_aload_n hx hb dX1_keep_17 rfl (lv_at hl 0 rfl) ?_
      refine va_get (D := D) (ci := 1) (v := .ref (a 4)) (C := RX1) (T := TX1) (N := 2) hx hb hts ly_X1_keep_X1 hown hK hP 3 rfl rfl 0 (by decide) (hts _ lk_X1_keep_f11) (fun _ h9 => h9) rfl dX1_keep_18 ?_
      refine lv_bipush (v := 8) hx hb dX1_keep_21 (by decide) ?_
      refine lv_aload_n hx hb dX1_keep_23 rfl (lv_at hl 0 rfl) ?_
      refine va_get (D := D) (ci := 1) (v := .ref (a 4)) (C := RX1) (T := TX1) (N := 2) hx hb hts ly_X1_keep_X1 hown hK hP 3 rfl rfl 0 (by decide) (hts _ lk_X1_keep_f11) (fun _ h9 => h9) rfl dX1_keep_24 ?_
      refine lv_iconst (v := 0) hx hb dX1_keep_27 (by decide) ?_
      refine lv_bipush (v := 40) hx hb dX1_keep_28 (by decide) ?_
      obtain ⟨g30, e30, h⟩ := Option.bind_eq_some_iff.mp h
      refine cp_long (rest := []) hx hb (hml.trans hl.1.symm) hown (hts _ lk_X1_keep_m19) (hts _ lk_X1_keep_nat) (hts _ lk_X1_keep_sta) (hts _ lk_X1_keep_sys) hK hP (hD0 v) hS 4 4 0 e30 rfl rfl rfl (Nat.le_of_ble_eq_true rfl) (Nat.le_of_ble_eq_true rfl) dX1_keep_30 (fun H locs hP hS => ?_)
      have hP : va_P D vwCl (XW ca a (xs_hist v g30)) H := hP
      refine lv_aload_n hx hb dX1_keep_33 rfl (lv_at hl 0 rfl) ?_
      refine lv_iconst (v := 5) hx hb dX1_keep_34 (by decide) ?_
      refine va_put (D := D) (ci := 1) (v := .int 5) (ty := .int) (C := RX1) (T := TX1) (N := 2) hx hb hts ly_X1_keep_X1 tyX1 tyX1_ok nmX1 hown hK hP (hD0 (xs_hist v g30)) hS 3 rfl rfl 1 (by decide) (hts _ lk_X1_keep_f15) (fun _ h9 => h9) rfl (by decide +kernel) rfl rfl (Nat.le_of_ble_eq_true rfl) dX1_keep_35 (fun H locs hP _ hS => ?_)
      have hP : va_P D vwCl (XW ca a (xs_kept (xs_hist v g30) 5)) H := hP
      exact wk_X1_keep_38 C0 hap hK hT0 (ls := ls) (hP := hP) (hS := hS) (hl := (lv_sub hl [0, 1] rfl)) (h := h)
  · replace h := ite_f h c4
    obtain rfl := Option.some.inj h
    exact mp_vret hx hb hr hlocks hP hS dX1_keep_7
theorem ct_X1_keep (l : Launch) (D : va_G) (ca : Nat → ClassId) (a : Nat → Nat) (tw : Nat) (tt : Nat → Nat) (hap : ap_ok 9 a) (v : XS) {q : XS} (h : fn_X1_keep v  = some q) : Mp l yX1_keep wsX1_keep rm_X1_keep [.ref (a 3), .ref (a 1)] (GW D ca tw tt (ad_of 9 a) (XW ca a v)) none (fun H => va_P D vwCl (XW ca a q) H) (ad_of 9 a) := by
  refine Mp.of (cc := cX1_keep) (nL := 2) (ret := none) (own := RX1) (by decide) rfl rfl (Nat.le_of_ble_eq_true rfl) ?_
  intro p e s m below meth c ls C0 hB hl
  exact wk_X1_keep C0 hap hB.2.1 hB.2.2 (hP := hB.1) (hS := va_S.rf) (hl := hl) (h := h)
abbrev rm_X1_restore : Room := { frames := 1, cells := 0, slots := 0, locals := 26 }
theorem lk_X1_restore_f15 : Cond.fieldLink RX1 15 "BooleanRing$History" "kept" "I" ∈ wsX1_restore := by decide +kernel
theorem lk_X1_restore_f11 : Cond.fieldLink RX1 11 "BooleanRing$History" "states" "[J" ∈ wsX1_restore := by decide +kernel
theorem lk_X1_restore_m19 : Cond.methodLink RX1 19 arraycopyName ∈ wsX1_restore := by decide +kernel
theorem lk_X1_restore_nat : Cond.native arraycopyName ∈ wsX1_restore := by decide +kernel
theorem lk_X1_restore_sta : Cond.static arraycopyName ∈ wsX1_restore := by decide +kernel
theorem lk_X1_restore_sys : Cond.initialized "java/lang/System" ∈ wsX1_restore := by decide +kernel
theorem ly_X1_restore_X1 : ∀ w ∈ wsX10, w ∈ wsX1_restore := by decide +kernel
set_option maxHeartbeats 4000000 in
set_option maxRecDepth 100000 in
theorem wk_X1_restore {p : Program} {l : Launch} {e : Env} {s : State} {m : MethodId} {args : Array Value} {below : List Frame} {meth : Method} {c : Code} {D : va_G} {ca : Nat → ClassId} {a : Nat → Nat} {tw : Nat} {tt : Nat → Nat} (C0 : Cx p s m args meth c cX1_restore (some .int) 2 wsX1_restore RX1) (hap : ap_ok 9 a) (hK : va_K D vwCl (tys3 ca) s) (hT0 : tW tw tt (ad_of 9 a) s s.heap) {q : Int32 × XS} (v : XS) (H : Heap) (locs : List Loc) (ls : Array Slot) (hP : va_P D vwCl (XW ca a v) H) (hS : va_S (ad_of 9 a) s.heap H locs) (hl : lv_has ls 2 [(0, .ref (a 3)), (1, .ref (a 1))]) (h : fn_X1_restore v  = some q) : W p l e rm_X1_restore s m args below meth c H locs 0 0 (MQ below (PQ (some (.int q.1)) (fun H => va_P D vwCl (XW ca a q.2) H) (ad_of 9 a)) args s 0 0 (ad_of 9 a)) (F0 m 0 ls []) := by
  obtain ⟨hx, hb, hr, hml, hown, hts, hlocks⟩ := id C0
  have hD0 := fun v => XW_D (ca := ca) hap v
  unfold fn_X1_restore at h
  refine lv_aload_n hx hb dX1_restore_0 rfl (lv_at hl 0 rfl) ?_
  refine va_get (D := D) (ci := 1) (v := .int (x_kept v)) (C := RX1) (T := TX1) (N := 2) hx hb hts ly_X1_restore_X1 hown hK hP 3 rfl rfl 1 (by decide) (hts _ lk_X1_restore_f15) (fun _ h9 => h9) rfl dX1_restore_1 ?_
  refine lv_if_le (tgt := 51) hx hb dX1_restore_4 (by decide) (fun c4 => ?_) (fun c4 => ?_)
  · replace h := ite_t h c4
    refine lv_aload_n hx hb dX1_restore_51 rfl (lv_at hl 0 rfl) ?_
    refine va_get (D := D) (ci := 1) (v := .int (x_kept v)) (C := RX1) (T := TX1) (N := 2) hx hb hts ly_X1_restore_X1 hown hK hP 3 rfl rfl 1 (by decide) (hts _ lk_X1_restore_f15) (fun _ h9 => h9) rfl dX1_restore_52 ?_
    obtain rfl := Option.some.inj h
    exact mp_iret hx hb hr hlocks hP hS dX1_restore_55
  · replace h := ite_f h c4
    refine lv_aload_n hx hb dX1_restore_7 rfl (lv_at hl 0 rfl) ?_
    refine va_get (D := D) (ci := 1) (v := .int (x_kept v)) (C := RX1) (T := TX1) (N := 2) hx hb hts ly_X1_restore_X1 hown hK hP 3 rfl rfl 1 (by decide) (hts _ lk_X1_restore_f15) (fun _ h9 => h9) rfl dX1_restore_8 ?_
    refine lv_bipush (v := 6) hx hb dX1_restore_11 (by decide) ?_
    refine lv_icmp_gt (tgt := 51) hx hb dX1_restore_13 (by decide) (fun c13 => ?_) (fun c13 => ?_)
    · replace h := ite_t h c13
      refine lv_aload_n hx hb dX1_restore_51 rfl (lv_at hl 0 rfl) ?_
      refine va_get (D := D) (ci := 1) (v := .int (x_kept v)) (C := RX1) (T := TX1) (N := 2) hx hb hts ly_X1_restore_X1 hown hK hP 3 rfl rfl 1 (by decide) (hts _ lk_X1_restore_f15) (fun _ h9 => h9) rfl dX1_restore_52 ?_
      obtain rfl := Option.some.inj h
      exact mp_iret hx hb hr hlocks hP hS dX1_restore_55
    · replace h := ite_f h c13
      refine lv_aload_n hx hb dX1_restore_16 rfl (lv_at hl 1 rfl) ?_
      refine va_alen (v := 8) hx hb hK hP 1 0 rfl rfl rfl dX1_restore_17 ?_
      refine lv_bipush (v := 8) hx hb dX1_restore_18 (by decide) ?_
      refine lv_icmp_ne (tgt := 51) hx hb dX1_restore_20 (by decide) (fun c20 => ?_) (fun c20 => ?_)
      · replace h := ite_f h c20
        refine lv_aload_n hx hb dX1_restore_51 rfl (lv_at hl 0 rfl) ?_
        refine va_get (D := D) (ci := 1) (v := .int (x_kept v)) (C := RX1) (T := TX1) (N := 2) hx hb hts ly_X1_restore_X1 hown hK hP 3 rfl rfl 1 (by decide) (hts _ lk_X1_restore_f15) (fun _ h9 => h9) rfl dX1_restore_52 ?_
        obtain rfl := Option.some.inj h
        exact mp_iret hx hb hr hlocks hP hS dX1_restore_55
      · replace h := ite_t h c20
        refine lv_aload_n hx hb dX1_restore_23 rfl (lv_at hl 0 rfl) ?_
        refine lv_dup hx hb dX1_restore_24 rfl ?_
        refine va_get (D := D) (ci := 1) (v := .int (x_kept v)) (C := RX1) (T := TX1) (N := 2) hx hb hts ly_X1_restore_X1 hown hK hP 3 rfl rfl 1 (by decide) (hts _ lk_X1_restore_f15) (fun _ h9 => h9) rfl dX1_restore_25 ?_
        refine lv_iconst (v := 1) hx hb dX1_restore_28 (by decide) ?_
        refine lv_isub hx hb dX1_restore_29 ?_
        refine va_put (D := D) (ci := 1) (v := .int ((x_kept v) - 1)) (ty := .int) (C := RX1) (T := TX1) (N := 2) hx hb hts ly_X1_restore_X1 tyX1 tyX1_ok nmX1 hown hK hP (hD0 v) hS 3 rfl rfl 1 (by decide) (hts _ lk_X1_restore_f15) (fun _ h9 => h9) rfl (by decide +kernel) rfl rfl (Nat.le_of_ble_eq_true rfl) dX1_restore_30 (fun H locs hP _ hS => ?_)
        have hP : va_P D vwCl (XW ca a (xs_kept v ((x_kept v) - 1))) H := hP
        refine lv_aload_n hx hb dX1_restore_33 rfl (lv_at hl 0 rfl) ?_
        refine va_get (D := D) (ci := 1) (v := .ref (a 4)) (C := RX1) (T := TX1) (N := 2) hx hb hts ly_X1_restore_X1 hown hK hP 3 rfl rfl 0 (by decide) (hts _ lk_X1_restore_f11) (fun _ h9 => h9) rfl dX1_restore_34 ?_
        refine lv_aload_n hx hb dX1_restore_37 rfl (lv_at hl 0 rfl) ?_
        refine va_get (D := D) (ci := 1) (v := .int ((x_kept v) - 1)) (C := RX1) (T := TX1) (N := 2) hx hb hts ly_X1_restore_X1 hown hK hP 3 rfl rfl 1 (by decide) (hts _ lk_X1_restore_f15) (fun _ h9 => h9) rfl dX1_restore_38 ?_
        refine lv_bipush (v := 8) hx hb dX1_restore_41 (by decide) ?_
        refine lv_imul hx hb dX1_restore_43 ?_
        refine lv_aload_n hx hb dX1_restore_44 rfl (lv_at hl 1 rfl) ?_
        refine lv_iconst (v := 0) hx hb dX1_restore_45 (by decide) ?_
        refine lv_bipush (v := 8) hx hb dX1_restore_46 (by decide) ?_
        obtain ⟨g48, e48, h⟩ := Option.bind_eq_some_iff.mp h
        refine cp_long (rest := []) hx hb (hml.trans hl.1.symm) hown (hts _ lk_X1_restore_m19) (hts _ lk_X1_restore_nat) (hts _ lk_X1_restore_sta) (hts _ lk_X1_restore_sys) hK hP (hD0 (xs_kept v ((x_kept v) - 1))) hS 4 1 0 e48 rfl rfl rfl (Nat.le_of_ble_eq_true rfl) (Nat.le_of_ble_eq_true rfl) dX1_restore_48 (fun H locs hP hS => ?_)
        have hP : va_P D vwCl (XW ca a (xs_regs (xs_kept v ((x_kept v) - 1)) g48)) H := hP
        refine lv_aload_n hx hb dX1_restore_51 rfl (lv_at hl 0 rfl) ?_
        refine va_get (D := D) (ci := 1) (v := .int ((x_kept v) - 1)) (C := RX1) (T := TX1) (N := 2) hx hb hts ly_X1_restore_X1 hown hK hP 3 rfl rfl 1 (by decide) (hts _ lk_X1_restore_f15) (fun _ h9 => h9) rfl dX1_restore_52 ?_
        obtain rfl := Option.some.inj h
        exact mp_iret hx hb hr hlocks hP hS dX1_restore_55
theorem ct_X1_restore (l : Launch) (D : va_G) (ca : Nat → ClassId) (a : Nat → Nat) (tw : Nat) (tt : Nat → Nat) (hap : ap_ok 9 a) (v : XS) {q : Int32 × XS} (h : fn_X1_restore v  = some q) : Mp l yX1_restore wsX1_restore rm_X1_restore [.ref (a 3), .ref (a 1)] (GW D ca tw tt (ad_of 9 a) (XW ca a v)) (some (.int q.1)) (fun H => va_P D vwCl (XW ca a q.2) H) (ad_of 9 a) := by
  refine Mp.of (cc := cX1_restore) (nL := 2) (ret := (some .int)) (own := RX1) (by decide) rfl rfl (Nat.le_of_ble_eq_true rfl) ?_
  intro p e s m below meth c ls C0 hB hl
  exact wk_X1_restore C0 hap hB.2.1 hB.2.2 (hP := hB.1) (hS := va_S.rf) (hl := hl) (h := h)
abbrev rm_X2_tableOf : Room := { frames := 0, cells := 0, slots := 0, locals := 0 }
theorem lk_X2_tableOf_f18 : Cond.fieldLink RX2 18 "BooleanRing$Orders" "BY_REVERSE" "[I" ∈ wsX2_tableOf := by decide +kernel
theorem lk_X2_tableOf_f15 : Cond.fieldLink RX2 15 "BooleanRing$Orders" "BY_GRADED" "[I" ∈ wsX2_tableOf := by decide +kernel
theorem lk_X2_tableOf_f9 : Cond.fieldLink RX2 9 "BooleanRing$Orders" "BY_LEX" "[I" ∈ wsX2_tableOf := by decide +kernel
set_option maxHeartbeats 4000000 in
set_option maxRecDepth 100000 in
theorem wk_X2_tableOf {p : Program} {l : Launch} {e : Env} {s : State} {m : MethodId} {args : Array Value} {below : List Frame} {meth : Method} {c : Code} {tw : Nat} {tt : Nat → Nat} (C0 : Cx p s m args meth c cX2_tableOf (some (.array .int)) 1 wsX2_tableOf RX2) (hT0 : tW tw tt (fun _ => False) s s.heap) {q : Nat} (x0 : Int32) (ls : Array Slot) (hl : lv_has ls 1 [(0, .int x0)]) (h : fn_X2_tableOf x0 = some q) : W p l e rm_X2_tableOf s m args below meth c s.heap [] 0 0 (MQ below (HQ (some (.ref (tt q)))) args s 0 0 (fun _ => False)) (F0 m 0 ls []) := by
  obtain ⟨hx, hb, hr, hml, hown, hts, hlocks⟩ := id C0
  have hS : va_S (fun _ => False) s.heap s.heap [] := va_S.rf
  unfold fn_X2_tableOf at h
  refine lv_iload_n hx hb dX2_tableOf_0 rfl (lv_at hl 0 rfl) ?_
  refine lv_if_ne (tgt := 8) hx hb dX2_tableOf_1 (by decide) (fun c1 => ?_) (fun c1 => ?_)
  · replace h := ite_f h c1
    refine lv_iload_n hx hb dX2_tableOf_8 rfl (lv_at hl 0 rfl) ?_
    refine lv_iconst (v := 1) hx hb dX2_tableOf_9 (by decide) ?_
    refine lv_icmp_ne (tgt := 19) hx hb dX2_tableOf_10 (by decide) (fun c10 => ?_) (fun c10 => ?_)
    · replace h := ite_f h c10
      refine va_gets hx hb hT0.2.2.2.2.1 hS hown (hts _ lk_X2_tableOf_f18) (fun _ h9 => h9) dX2_tableOf_19 ?_
      obtain rfl := Option.some.inj h
      exact hp_aret hx hb hr hlocks dX2_tableOf_22
    · replace h := ite_t h c10
      refine va_gets hx hb hT0.2.2.2.1 hS hown (hts _ lk_X2_tableOf_f15) (fun _ h9 => h9) dX2_tableOf_13 ?_
      refine lv_goto (tgt := 22) hx hb dX2_tableOf_16 (by decide) ?_
      obtain rfl := Option.some.inj h
      exact hp_aret hx hb hr hlocks dX2_tableOf_22
  · replace h := ite_t h c1
    refine va_gets hx hb hT0.2.2.1 hS hown (hts _ lk_X2_tableOf_f9) (fun _ h9 => h9) dX2_tableOf_4 ?_
    obtain rfl := Option.some.inj h
    exact hp_aret hx hb hr hlocks dX2_tableOf_7
theorem ct_X2_tableOf (l : Launch) (tw : Nat) (tt : Nat → Nat) (x0 : Int32) {q : Nat} (h : fn_X2_tableOf x0 = some q) : Hp l yX2_tableOf wsX2_tableOf rm_X2_tableOf [.int x0] (GP tw tt) (some (.ref (tt q))) := by
  refine Hp.of (cc := cX2_tableOf) (nL := 1) (ret := (some (.array .int))) (own := RX2) (by decide) rfl rfl (Nat.le_of_ble_eq_true rfl) ?_
  intro p e s m below meth c ls C0 hB hl
  exact wk_X2_tableOf C0 hB (hl := hl) (h := h)
abbrev rm_X2_monomialAt : Room := { frames := 1, cells := 0, slots := 0, locals := 20 }
set_option maxHeartbeats 4000000 in
set_option maxRecDepth 100000 in
theorem wk_X2_monomialAt {p : Program} {l : Launch} {e : Env} {s : State} {m : MethodId} {args : Array Value} {below : List Frame} {meth : Method} {c : Code} {tw : Nat} {tt : Nat → Nat} (C0 : Cx p s m args meth c cX2_monomialAt (some .int) 3 wsX2_monomialAt RX2) (hT0 : tW tw tt (fun _ => False) s s.heap) {q : Int32} (x0 : Int32) (x1 : Int32) (ls : Array Slot) (hl : lv_has ls 3 [(0, .int x0), (1, .int x1)]) (h : fn_X2_monomialAt x0 x1 = some q) : W p l e rm_X2_monomialAt s m args below meth c s.heap [] 0 0 (MQ below (HQ (some (.int q))) args s 0 0 (fun _ => False)) (F0 m 0 ls []) := by
  obtain ⟨hx, hb, hr, hml, hown, hts, hlocks⟩ := id C0
  have hS : va_S (fun _ => False) s.heap s.heap [] := va_S.rf
  unfold fn_X2_monomialAt at h
  refine lv_iload_n hx hb dX2_monomialAt_0 rfl (lv_at hl 0 rfl) ?_
  obtain ⟨q1, e1, h⟩ := Option.bind_eq_some_iff.mp h
  refine hp_S (As := [.int x0]) (rest := []) ⟨hx, hb, hml, hown, hts⟩ (ct_X2_tableOf l tw tt x0 e1) (va_cwS 1 hts gX2_monomialAt_X2_tableOf rfl rfl rfl (by decide +kernel) ⟨Nat.le_of_ble_eq_true rfl, Nat.le_of_ble_eq_true rfl⟩) GP.mv (GP.from hT0 hS) rfl hl.1 rfl (Nat.le_of_ble_eq_true rfl) dX2_monomialAt_1 ⟨Nat.zero_le _, Nat.zero_le _⟩ ?_
  refine W.eq (g2 := F0 m 4 ls [.ref (tt q1)]) rfl ?_
  refine lv_astore_n (lv' := [(2, .ref (tt q1)), (0, .int x0), (1, .int x1)]) hx hb dX2_monomialAt_4 rfl hl (by decide) rfl (fun ls hl => ?_)
  refine lv_iload_n hx hb dX2_monomialAt_5 rfl (lv_at hl 2 rfl) ?_
  refine lv_if_lt (tgt := 21) hx hb dX2_monomialAt_6 (by decide) (fun c6 => ?_) (fun c6 => ?_)
  · replace h := ite_t h c6
    refine lv_iconst (v := 0) hx hb dX2_monomialAt_21 (by decide) ?_
    obtain rfl := Option.some.inj h
    exact hp_iret hx hb hr hlocks dX2_monomialAt_22
  · replace h := ite_f h c6
    refine lv_iload_n hx hb dX2_monomialAt_9 rfl (lv_at hl 2 rfl) ?_
    refine lv_aload_n hx hb dX2_monomialAt_10 rfl (lv_at hl 0 rfl) ?_
    refine va_tlen (v := 64) hx hb (hT0.2.2.2.2.2 q1) hS rfl dX2_monomialAt_11 ?_
    refine lv_icmp_ge (tgt := 21) hx hb dX2_monomialAt_12 (by decide) (fun c12 => ?_) (fun c12 => ?_)
    · replace h := ite_t h c12
      refine lv_iconst (v := 0) hx hb dX2_monomialAt_21 (by decide) ?_
      obtain rfl := Option.some.inj h
      exact hp_iret hx hb hr hlocks dX2_monomialAt_22
    · replace h := ite_f h c12
      refine lv_aload_n hx hb dX2_monomialAt_15 rfl (lv_at hl 0 rfl) ?_
      refine lv_iload_n hx hb dX2_monomialAt_16 rfl (lv_at hl 2 rfl) ?_
      obtain ⟨q17, e17, h⟩ := Option.bind_eq_some_iff.mp h
      refine rd_ti hx hb e17 (hT0.2.2.2.2.2 q1) hS dX2_monomialAt_17 ?_
      refine lv_goto (tgt := 22) hx hb dX2_monomialAt_18 (by decide) ?_
      obtain rfl := Option.some.inj h
      exact hp_iret hx hb hr hlocks dX2_monomialAt_22
theorem ct_X2_monomialAt (l : Launch) (tw : Nat) (tt : Nat → Nat) (x0 : Int32) (x1 : Int32) {q : Int32} (h : fn_X2_monomialAt x0 x1 = some q) : Hp l yX2_monomialAt wsX2_monomialAt rm_X2_monomialAt [.int x0, .int x1] (GP tw tt) (some (.int q)) := by
  refine Hp.of (cc := cX2_monomialAt) (nL := 3) (ret := (some .int)) (own := RX2) (by decide) rfl rfl (Nat.le_of_ble_eq_true rfl) ?_
  intro p e s m below meth c ls C0 hB hl
  exact wk_X2_monomialAt C0 hB (hl := hl) (h := h)
abbrev rm_J13_bitCount_95d88 : Room := { frames := 0, cells := 0, slots := 0, locals := 0 }
theorem lk_J13_bitCount_95d88_c314 : Cond.constantLong RJ13 314 (6148914691236517205) ∈ wsJ13_bitCount_95d88 := by decide +kernel
theorem lk_J13_bitCount_95d88_c316 : Cond.constantLong RJ13 316 (3689348814741910323) ∈ wsJ13_bitCount_95d88 := by decide +kernel
theorem lk_J13_bitCount_95d88_c318 : Cond.constantLong RJ13 318 (1085102592571150095) ∈ wsJ13_bitCount_95d88 := by decide +kernel
set_option maxHeartbeats 4000000 in
set_option maxRecDepth 100000 in
theorem wk_J13_bitCount_95d88 {p : Program} {l : Launch} {e : Env} {s : State} {m : MethodId} {args : Array Value} {below : List Frame} {meth : Method} {c : Code} {tw : Nat} {tt : Nat → Nat} (C0 : Cx p s m args meth c cJ13_bitCount_95d88 (some .int) 2 wsJ13_bitCount_95d88 RJ13) (hT0 : tW tw tt (fun _ => False) s s.heap) {q : Int32} (x0 : Int64) (ls : Array Slot) (hl : lv_has ls 2 [(0, .long x0)]) (h : fn_J13_bitCount_95d88 x0 = some q) : W p l e rm_J13_bitCount_95d88 s m args below meth c s.heap [] 0 0 (MQ below (HQ (some (.int q))) args s 0 0 (fun _ => False)) (F0 m 0 ls []) := by
  obtain ⟨hx, hb, hr, hml, hown, hts, hlocks⟩ := id C0
  have hS : va_S (fun _ => False) s.heap s.heap [] := va_S.rf
  unfold fn_J13_bitCount_95d88 at h
  refine lv_lload_n hx hb dJ13_bitCount_95d88_0 rfl (lv_at hl 0 rfl) ?_
  refine lv_lload_n hx hb dJ13_bitCount_95d88_1 rfl (lv_at hl 0 rfl) ?_
  refine lv_iconst (v := 1) hx hb dJ13_bitCount_95d88_2 (by decide) ?_
  refine lv_lushr (v := (lus x0 1)) hx hb dJ13_bitCount_95d88_3 rfl ?_
  refine lv_ldc2 (v := 6148914691236517205) hx hb hown (hts _ lk_J13_bitCount_95d88_c314) dJ13_bitCount_95d88_4 ?_
  refine lv_land hx hb dJ13_bitCount_95d88_7 ?_
  refine lv_lsub hx hb dJ13_bitCount_95d88_8 ?_
  refine lv_lstore_n (lv' := [(0, .long (x0 - ((lus x0 1) &&& 6148914691236517205)))]) hx hb dJ13_bitCount_95d88_9 rfl hl (by decide) rfl (fun ls hl => ?_)
  refine lv_lload_n hx hb dJ13_bitCount_95d88_10 rfl (lv_at hl 0 rfl) ?_
  refine lv_ldc2 (v := 3689348814741910323) hx hb hown (hts _ lk_J13_bitCount_95d88_c316) dJ13_bitCount_95d88_11 ?_
  refine lv_land hx hb dJ13_bitCount_95d88_14 ?_
  refine lv_lload_n hx hb dJ13_bitCount_95d88_15 rfl (lv_at hl 0 rfl) ?_
  refine lv_iconst (v := 2) hx hb dJ13_bitCount_95d88_16 (by decide) ?_
  refine lv_lushr (v := (lus (x0 - ((lus x0 1) &&& 6148914691236517205)) 2)) hx hb dJ13_bitCount_95d88_17 rfl ?_
  refine lv_ldc2 (v := 3689348814741910323) hx hb hown (hts _ lk_J13_bitCount_95d88_c316) dJ13_bitCount_95d88_18 ?_
  refine lv_land hx hb dJ13_bitCount_95d88_21 ?_
  refine lv_ladd hx hb dJ13_bitCount_95d88_22 ?_
  refine lv_lstore_n (lv' := [(0, .long (((x0 - ((lus x0 1) &&& 6148914691236517205)) &&& 3689348814741910323) + ((lus (x0 - ((lus x0 1) &&& 6148914691236517205)) 2) &&& 3689348814741910323)))]) hx hb dJ13_bitCount_95d88_23 rfl hl (by decide) rfl (fun ls hl => ?_)
  refine lv_lload_n hx hb dJ13_bitCount_95d88_24 rfl (lv_at hl 0 rfl) ?_
  refine lv_lload_n hx hb dJ13_bitCount_95d88_25 rfl (lv_at hl 0 rfl) ?_
  refine lv_iconst (v := 4) hx hb dJ13_bitCount_95d88_26 (by decide) ?_
  refine lv_lushr (v := (lus (((x0 - ((lus x0 1) &&& 6148914691236517205)) &&& 3689348814741910323) + ((lus (x0 - ((lus x0 1) &&& 6148914691236517205)) 2) &&& 3689348814741910323)) 4)) hx hb dJ13_bitCount_95d88_27 rfl ?_
  refine lv_ladd hx hb dJ13_bitCount_95d88_28 ?_
  refine lv_ldc2 (v := 1085102592571150095) hx hb hown (hts _ lk_J13_bitCount_95d88_c318) dJ13_bitCount_95d88_29 ?_
  refine lv_land hx hb dJ13_bitCount_95d88_32 ?_
  refine lv_lstore_n (lv' := [(0, .long (((((x0 - ((lus x0 1) &&& 6148914691236517205)) &&& 3689348814741910323) + ((lus (x0 - ((lus x0 1) &&& 6148914691236517205)) 2) &&& 3689348814741910323)) + (lus (((x0 - ((lus x0 1) &&& 6148914691236517205)) &&& 3689348814741910323) + ((lus (x0 - ((lus x0 1) &&& 6148914691236517205)) 2) &&& 3689348814741910323)) 4)) &&& 1085102592571150095))]) hx hb dJ13_bitCount_95d88_33 rfl hl (by decide) rfl (fun ls hl => ?_)
  refine lv_lload_n hx hb dJ13_bitCount_95d88_34 rfl (lv_at hl 0 rfl) ?_
  refine lv_lload_n hx hb dJ13_bitCount_95d88_35 rfl (lv_at hl 0 rfl) ?_
  refine lv_bipush (v := 8) hx hb dJ13_bitCount_95d88_36 (by decide) ?_
  refine lv_lushr (v := (lus (((((x0 - ((lus x0 1) &&& 6148914691236517205)) &&& 3689348814741910323) + ((lus (x0 - ((lus x0 1) &&& 6148914691236517205)) 2) &&& 3689348814741910323)) + (lus (((x0 - ((lus x0 1) &&& 6148914691236517205)) &&& 3689348814741910323) + ((lus (x0 - ((lus x0 1) &&& 6148914691236517205)) 2) &&& 3689348814741910323)) 4)) &&& 1085102592571150095) 8)) hx hb dJ13_bitCount_95d88_38 rfl ?_
  refine lv_ladd hx hb dJ13_bitCount_95d88_39 ?_
  refine lv_lstore_n (lv' := [(0, .long ((((((x0 - ((lus x0 1) &&& 6148914691236517205)) &&& 3689348814741910323) + ((lus (x0 - ((lus x0 1) &&& 6148914691236517205)) 2) &&& 3689348814741910323)) + (lus (((x0 - ((lus x0 1) &&& 6148914691236517205)) &&& 3689348814741910323) + ((lus (x0 - ((lus x0 1) &&& 6148914691236517205)) 2) &&& 3689348814741910323)) 4)) &&& 1085102592571150095) + (lus (((((x0 - ((lus x0 1) &&& 6148914691236517205)) &&& 3689348814741910323) + ((lus (x0 - ((lus x0 1) &&& 6148914691236517205)) 2) &&& 3689348814741910323)) + (lus (((x0 - ((lus x0 1) &&& 6148914691236517205)) &&& 3689348814741910323) + ((lus (x0 - ((lus x0 1) &&& 6148914691236517205)) 2) &&& 3689348814741910323)) 4)) &&& 1085102592571150095) 8)))]) hx hb dJ13_bitCount_95d88_40 rfl hl (by decide) rfl (fun ls hl => ?_)
  refine lv_lload_n hx hb dJ13_bitCount_95d88_41 rfl (lv_at hl 0 rfl) ?_
  refine lv_lload_n hx hb dJ13_bitCount_95d88_42 rfl (lv_at hl 0 rfl) ?_
  refine lv_bipush (v := 16) hx hb dJ13_bitCount_95d88_43 (by decide) ?_
  refine lv_lushr (v := (lus ((((((x0 - ((lus x0 1) &&& 6148914691236517205)) &&& 3689348814741910323) + ((lus (x0 - ((lus x0 1) &&& 6148914691236517205)) 2) &&& 3689348814741910323)) + (lus (((x0 - ((lus x0 1) &&& 6148914691236517205)) &&& 3689348814741910323) + ((lus (x0 - ((lus x0 1) &&& 6148914691236517205)) 2) &&& 3689348814741910323)) 4)) &&& 1085102592571150095) + (lus (((((x0 - ((lus x0 1) &&& 6148914691236517205)) &&& 3689348814741910323) + ((lus (x0 - ((lus x0 1) &&& 6148914691236517205)) 2) &&& 3689348814741910323)) + (lus (((x0 - ((lus x0 1) &&& 6148914691236517205)) &&& 3689348814741910323) + ((lus (x0 - ((lus x0 1) &&& 6148914691236517205)) 2) &&& 3689348814741910323)) 4)) &&& 1085102592571150095) 8)) 16)) hx hb dJ13_bitCount_95d88_45 rfl ?_
  refine lv_ladd hx hb dJ13_bitCount_95d88_46 ?_
  refine lv_lstore_n (lv' := [(0, .long (((((((x0 - ((lus x0 1) &&& 6148914691236517205)) &&& 3689348814741910323) + ((lus (x0 - ((lus x0 1) &&& 6148914691236517205)) 2) &&& 3689348814741910323)) + (lus (((x0 - ((lus x0 1) &&& 6148914691236517205)) &&& 3689348814741910323) + ((lus (x0 - ((lus x0 1) &&& 6148914691236517205)) 2) &&& 3689348814741910323)) 4)) &&& 1085102592571150095) + (lus (((((x0 - ((lus x0 1) &&& 6148914691236517205)) &&& 3689348814741910323) + ((lus (x0 - ((lus x0 1) &&& 6148914691236517205)) 2) &&& 3689348814741910323)) + (lus (((x0 - ((lus x0 1) &&& 6148914691236517205)) &&& 3689348814741910323) + ((lus (x0 - ((lus x0 1) &&& 6148914691236517205)) 2) &&& 3689348814741910323)) 4)) &&& 1085102592571150095) 8)) + (lus ((((((x0 - ((lus x0 1) &&& 6148914691236517205)) &&& 3689348814741910323) + ((lus (x0 - ((lus x0 1) &&& 6148914691236517205)) 2) &&& 3689348814741910323)) + (lus (((x0 - ((lus x0 1) &&& 6148914691236517205)) &&& 3689348814741910323) + ((lus (x0 - ((lus x0 1) &&& 6148914691236517205)) 2) &&& 3689348814741910323)) 4)) &&& 1085102592571150095) + (lus (((((x0 - ((lus x0 1) &&& 6148914691236517205)) &&& 3689348814741910323) + ((lus (x0 - ((lus x0 1) &&& 6148914691236517205)) 2) &&& 3689348814741910323)) + (lus (((x0 - ((lus x0 1) &&& 6148914691236517205)) &&& 3689348814741910323) + ((lus (x0 - ((lus x0 1) &&& 6148914691236517205)) 2) &&& 3689348814741910323)) 4)) &&& 1085102592571150095) 8)) 16)))]) hx hb dJ13_bitCount_95d88_47 rfl hl (by decide) rfl (fun ls hl => ?_)
  refine lv_lload_n hx hb dJ13_bitCount_95d88_48 rfl (lv_at hl 0 rfl) ?_
  refine lv_lload_n hx hb dJ13_bitCount_95d88_49 rfl (lv_at hl 0 rfl) ?_
  refine lv_bipush (v := 32) hx hb dJ13_bitCount_95d88_50 (by decide) ?_
  refine lv_lushr (v := (lus (((((((x0 - ((lus x0 1) &&& 6148914691236517205)) &&& 3689348814741910323) + ((lus (x0 - ((lus x0 1) &&& 6148914691236517205)) 2) &&& 3689348814741910323)) + (lus (((x0 - ((lus x0 1) &&& 6148914691236517205)) &&& 3689348814741910323) + ((lus (x0 - ((lus x0 1) &&& 6148914691236517205)) 2) &&& 3689348814741910323)) 4)) &&& 1085102592571150095) + (lus (((((x0 - ((lus x0 1) &&& 6148914691236517205)) &&& 3689348814741910323) + ((lus (x0 - ((lus x0 1) &&& 6148914691236517205)) 2) &&& 3689348814741910323)) + (lus (((x0 - ((lus x0 1) &&& 6148914691236517205)) &&& 3689348814741910323) + ((lus (x0 - ((lus x0 1) &&& 6148914691236517205)) 2) &&& 3689348814741910323)) 4)) &&& 1085102592571150095) 8)) + (lus ((((((x0 - ((lus x0 1) &&& 6148914691236517205)) &&& 3689348814741910323) + ((lus (x0 - ((lus x0 1) &&& 6148914691236517205)) 2) &&& 3689348814741910323)) + (lus (((x0 - ((lus x0 1) &&& 6148914691236517205)) &&& 3689348814741910323) + ((lus (x0 - ((lus x0 1) &&& 6148914691236517205)) 2) &&& 3689348814741910323)) 4)) &&& 1085102592571150095) + (lus (((((x0 - ((lus x0 1) &&& 6148914691236517205)) &&& 3689348814741910323) + ((lus (x0 - ((lus x0 1) &&& 6148914691236517205)) 2) &&& 3689348814741910323)) + (lus (((x0 - ((lus x0 1) &&& 6148914691236517205)) &&& 3689348814741910323) + ((lus (x0 - ((lus x0 1) &&& 6148914691236517205)) 2) &&& 3689348814741910323)) 4)) &&& 1085102592571150095) 8)) 16)) 32)) hx hb dJ13_bitCount_95d88_52 rfl ?_
  refine lv_ladd hx hb dJ13_bitCount_95d88_53 ?_
  refine lv_lstore_n (lv' := [(0, .long ((((((((x0 - ((lus x0 1) &&& 6148914691236517205)) &&& 3689348814741910323) + ((lus (x0 - ((lus x0 1) &&& 6148914691236517205)) 2) &&& 3689348814741910323)) + (lus (((x0 - ((lus x0 1) &&& 6148914691236517205)) &&& 3689348814741910323) + ((lus (x0 - ((lus x0 1) &&& 6148914691236517205)) 2) &&& 3689348814741910323)) 4)) &&& 1085102592571150095) + (lus (((((x0 - ((lus x0 1) &&& 6148914691236517205)) &&& 3689348814741910323) + ((lus (x0 - ((lus x0 1) &&& 6148914691236517205)) 2) &&& 3689348814741910323)) + (lus (((x0 - ((lus x0 1) &&& 6148914691236517205)) &&& 3689348814741910323) + ((lus (x0 - ((lus x0 1) &&& 6148914691236517205)) 2) &&& 3689348814741910323)) 4)) &&& 1085102592571150095) 8)) + (lus ((((((x0 - ((lus x0 1) &&& 6148914691236517205)) &&& 3689348814741910323) + ((lus (x0 - ((lus x0 1) &&& 6148914691236517205)) 2) &&& 3689348814741910323)) + (lus (((x0 - ((lus x0 1) &&& 6148914691236517205)) &&& 3689348814741910323) + ((lus (x0 - ((lus x0 1) &&& 6148914691236517205)) 2) &&& 3689348814741910323)) 4)) &&& 1085102592571150095) + (lus (((((x0 - ((lus x0 1) &&& 6148914691236517205)) &&& 3689348814741910323) + ((lus (x0 - ((lus x0 1) &&& 6148914691236517205)) 2) &&& 3689348814741910323)) + (lus (((x0 - ((lus x0 1) &&& 6148914691236517205)) &&& 3689348814741910323) + ((lus (x0 - ((lus x0 1) &&& 6148914691236517205)) 2) &&& 3689348814741910323)) 4)) &&& 1085102592571150095) 8)) 16)) + (lus (((((((x0 - ((lus x0 1) &&& 6148914691236517205)) &&& 3689348814741910323) + ((lus (x0 - ((lus x0 1) &&& 6148914691236517205)) 2) &&& 3689348814741910323)) + (lus (((x0 - ((lus x0 1) &&& 6148914691236517205)) &&& 3689348814741910323) + ((lus (x0 - ((lus x0 1) &&& 6148914691236517205)) 2) &&& 3689348814741910323)) 4)) &&& 1085102592571150095) + (lus (((((x0 - ((lus x0 1) &&& 6148914691236517205)) &&& 3689348814741910323) + ((lus (x0 - ((lus x0 1) &&& 6148914691236517205)) 2) &&& 3689348814741910323)) + (lus (((x0 - ((lus x0 1) &&& 6148914691236517205)) &&& 3689348814741910323) + ((lus (x0 - ((lus x0 1) &&& 6148914691236517205)) 2) &&& 3689348814741910323)) 4)) &&& 1085102592571150095) 8)) + (lus ((((((x0 - ((lus x0 1) &&& 6148914691236517205)) &&& 3689348814741910323) + ((lus (x0 - ((lus x0 1) &&& 6148914691236517205)) 2) &&& 3689348814741910323)) + (lus (((x0 - ((lus x0 1) &&& 6148914691236517205)) &&& 3689348814741910323) + ((lus (x0 - ((lus x0 1) &&& 6148914691236517205)) 2) &&& 3689348814741910323)) 4)) &&& 1085102592571150095) + (lus (((((x0 - ((lus x0 1) &&& 6148914691236517205)) &&& 3689348814741910323) + ((lus (x0 - ((lus x0 1) &&& 6148914691236517205)) 2) &&& 3689348814741910323)) + (lus (((x0 - ((lus x0 1) &&& 6148914691236517205)) &&& 3689348814741910323) + ((lus (x0 - ((lus x0 1) &&& 6148914691236517205)) 2) &&& 3689348814741910323)) 4)) &&& 1085102592571150095) 8)) 16)) 32)))]) hx hb dJ13_bitCount_95d88_54 rfl hl (by decide) rfl (fun ls hl => ?_)
  refine lv_lload_n hx hb dJ13_bitCount_95d88_55 rfl (lv_at hl 0 rfl) ?_
  refine lv_l2i (v := ((((((((x0 - ((lus x0 1) &&& 6148914691236517205)) &&& 3689348814741910323) + ((lus (x0 - ((lus x0 1) &&& 6148914691236517205)) 2) &&& 3689348814741910323)) + (lus (((x0 - ((lus x0 1) &&& 6148914691236517205)) &&& 3689348814741910323) + ((lus (x0 - ((lus x0 1) &&& 6148914691236517205)) 2) &&& 3689348814741910323)) 4)) &&& 1085102592571150095) + (lus (((((x0 - ((lus x0 1) &&& 6148914691236517205)) &&& 3689348814741910323) + ((lus (x0 - ((lus x0 1) &&& 6148914691236517205)) 2) &&& 3689348814741910323)) + (lus (((x0 - ((lus x0 1) &&& 6148914691236517205)) &&& 3689348814741910323) + ((lus (x0 - ((lus x0 1) &&& 6148914691236517205)) 2) &&& 3689348814741910323)) 4)) &&& 1085102592571150095) 8)) + (lus ((((((x0 - ((lus x0 1) &&& 6148914691236517205)) &&& 3689348814741910323) + ((lus (x0 - ((lus x0 1) &&& 6148914691236517205)) 2) &&& 3689348814741910323)) + (lus (((x0 - ((lus x0 1) &&& 6148914691236517205)) &&& 3689348814741910323) + ((lus (x0 - ((lus x0 1) &&& 6148914691236517205)) 2) &&& 3689348814741910323)) 4)) &&& 1085102592571150095) + (lus (((((x0 - ((lus x0 1) &&& 6148914691236517205)) &&& 3689348814741910323) + ((lus (x0 - ((lus x0 1) &&& 6148914691236517205)) 2) &&& 3689348814741910323)) + (lus (((x0 - ((lus x0 1) &&& 6148914691236517205)) &&& 3689348814741910323) + ((lus (x0 - ((lus x0 1) &&& 6148914691236517205)) 2) &&& 3689348814741910323)) 4)) &&& 1085102592571150095) 8)) 16)) + (lus (((((((x0 - ((lus x0 1) &&& 6148914691236517205)) &&& 3689348814741910323) + ((lus (x0 - ((lus x0 1) &&& 6148914691236517205)) 2) &&& 3689348814741910323)) + (lus (((x0 - ((lus x0 1) &&& 6148914691236517205)) &&& 3689348814741910323) + ((lus (x0 - ((lus x0 1) &&& 6148914691236517205)) 2) &&& 3689348814741910323)) 4)) &&& 1085102592571150095) + (lus (((((x0 - ((lus x0 1) &&& 6148914691236517205)) &&& 3689348814741910323) + ((lus (x0 - ((lus x0 1) &&& 6148914691236517205)) 2) &&& 3689348814741910323)) + (lus (((x0 - ((lus x0 1) &&& 6148914691236517205)) &&& 3689348814741910323) + ((lus (x0 - ((lus x0 1) &&& 6148914691236517205)) 2) &&& 3689348814741910323)) 4)) &&& 1085102592571150095) 8)) + (lus ((((((x0 - ((lus x0 1) &&& 6148914691236517205)) &&& 3689348814741910323) + ((lus (x0 - ((lus x0 1) &&& 6148914691236517205)) 2) &&& 3689348814741910323)) + (lus (((x0 - ((lus x0 1) &&& 6148914691236517205)) &&& 3689348814741910323) + ((lus (x0 - ((lus x0 1) &&& 6148914691236517205)) 2) &&& 3689348814741910323)) 4)) &&& 1085102592571150095) + (lus (((((x0 - ((lus x0 1) &&& 6148914691236517205)) &&& 3689348814741910323) + ((lus (x0 - ((lus x0 1) &&& 6148914691236517205)) 2) &&& 3689348814741910323)) + (lus (((x0 - ((lus x0 1) &&& 6148914691236517205)) &&& 3689348814741910323) + ((lus (x0 - ((lus x0 1) &&& 6148914691236517205)) 2) &&& 3689348814741910323)) 4)) &&& 1085102592571150095) 8)) 16)) 32)).toInt32) hx hb dJ13_bitCount_95d88_56 rfl ?_
  refine lv_bipush (v := 127) hx hb dJ13_bitCount_95d88_57 (by decide) ?_
  refine lv_iand hx hb dJ13_bitCount_95d88_59 ?_
  obtain rfl := Option.some.inj h
  exact hp_iret hx hb hr hlocks dJ13_bitCount_95d88_60
theorem ct_J13_bitCount_95d88 (l : Launch) (tw : Nat) (tt : Nat → Nat) (x0 : Int64) {q : Int32} (h : fn_J13_bitCount_95d88 x0 = some q) : Hp l yJ13_bitCount_95d88 wsJ13_bitCount_95d88 rm_J13_bitCount_95d88 [.long x0] (GP tw tt) (some (.int q)) := by
  refine Hp.of (cc := cJ13_bitCount_95d88) (nL := 2) (ret := (some .int)) (own := RJ13) (by decide) rfl rfl (Nat.le_of_ble_eq_true rfl) ?_
  intro p e s m below meth c ls C0 hB hl
  exact wk_J13_bitCount_95d88 C0 hB (hl := hl) (h := h)
abbrev rm_X3_bit : Room := { frames := 0, cells := 0, slots := 0, locals := 0 }
set_option maxHeartbeats 4000000 in
set_option maxRecDepth 100000 in
theorem wk_X3_bit {p : Program} {l : Launch} {e : Env} {s : State} {m : MethodId} {args : Array Value} {below : List Frame} {meth : Method} {c : Code} {tw : Nat} {tt : Nat → Nat} (C0 : Cx p s m args meth c cX3_bit (some .int) 3 wsX3_bit RX3) (hT0 : tW tw tt (fun _ => False) s s.heap) {q : Int32} (x0 : Int64) (x2 : Int32) (ls : Array Slot) (hl : lv_has ls 3 [(0, .long x0), (2, .int x2)]) (h : fn_X3_bit x0 x2 = some q) : W p l e rm_X3_bit s m args below meth c s.heap [] 0 0 (MQ below (HQ (some (.int q))) args s 0 0 (fun _ => False)) (F0 m 0 ls []) := by
  obtain ⟨hx, hb, hr, hml, hown, hts, hlocks⟩ := id C0
  have hS : va_S (fun _ => False) s.heap s.heap [] := va_S.rf
  unfold fn_X3_bit at h
  refine lv_lload_n hx hb dX3_bit_0 rfl (lv_at hl 0 rfl) ?_
  refine lv_iload_n hx hb dX3_bit_1 rfl (lv_at hl 1 rfl) ?_
  refine lv_lushr (v := (lus x0 x2)) hx hb dX3_bit_2 rfl ?_
  refine lv_lconst (v := 1) hx hb dX3_bit_3 (by decide) ?_
  refine lv_land hx hb dX3_bit_4 ?_
  refine lv_l2i (v := ((lus x0 x2) &&& 1).toInt32) hx hb dX3_bit_5 rfl ?_
  obtain rfl := Option.some.inj h
  exact hp_iret hx hb hr hlocks dX3_bit_6
theorem ct_X3_bit (l : Launch) (tw : Nat) (tt : Nat → Nat) (x0 : Int64) (x2 : Int32) {q : Int32} (h : fn_X3_bit x0 x2 = some q) : Hp l yX3_bit wsX3_bit rm_X3_bit [.long x0, .int x2] (GP tw tt) (some (.int q)) := by
  refine Hp.of (cc := cX3_bit) (nL := 3) (ret := (some .int)) (own := RX3) (by decide) rfl rfl (Nat.le_of_ble_eq_true rfl) ?_
  intro p e s m below meth c ls C0 hB hl
  exact wk_X3_bit C0 hB (hl := hl) (h := h)
abbrev rm_X2_termOf : Room := { frames := 2, cells := 0, slots := 0, locals := 42 }
set_option maxHeartbeats 4000000 in
set_option maxRecDepth 100000 in
theorem wk_X2_termOf_17_body {p : Program} {l : Launch} {e : Env} {s : State} {m : MethodId} {args : Array Value} {below : List Frame} {meth : Method} {c : Code} {tw : Nat} {tt : Nat → Nat} (C0 : Cx p s m args meth c cX2_termOf (some .int) 7 wsX2_termOf RX2) (hT0 : tW tw tt (fun _ => False) s s.heap) {q : Int32} (k17 : Int64 → Int32 → Int32 → Int32 → Option (Int32)) (hk17 : ∀ (x0 : Int64) (x2 : Int32) (x4 : Int32) (x5 : Int32) (ls : Array Slot) (hl : lv_has ls 7 [(0, .long x0), (2, .int x2), (4, .int x4), (5, .int x5)]) (h : k17 x0 x2 x4 x5 = some q), W p l e rm_X2_termOf s m args below meth c s.heap [] 0 0 (MQ below (HQ (some (.int q))) args s 0 0 (fun _ => False)) (F0 m 17 ls [])) (x0 : Int64) (x2 : Int32) (x4 : Int32) (x5 : Int32) (ls : Array Slot) (hl : lv_has ls 7 [(0, .long x0), (2, .int x2), (4, .int x4), (5, .int x5)]) (h : fn_X2_termOf_17_body k17 x0 x2 x4 x5 = some q) : W p l e rm_X2_termOf s m args below meth c s.heap [] 0 0 (MQ below (HQ (some (.int q))) args s 0 0 (fun _ => False)) (F0 m 17 ls []) := by
  obtain ⟨hx, hb, hr, hml, hown, hts, hlocks⟩ := id C0
  have hS : va_S (fun _ => False) s.heap s.heap [] := va_S.rf
  unfold fn_X2_termOf_17_body at h
  refine lv_iload hx hb dX2_termOf_17 (lv_at hl 3 rfl) ?_
  refine lv_bipush (v := 64) hx hb dX2_termOf_19 (by decide) ?_
  refine lv_icmp_ge (tgt := 59) hx hb dX2_termOf_21 (by decide) (fun c21 => ?_) (fun c21 => ?_)
  · replace h := ite_t h c21
    refine lv_bipush (v := (-4)) hx hb dX2_termOf_59 (by decide) ?_
    obtain rfl := Option.some.inj h
    exact hp_iret hx hb hr hlocks dX2_termOf_61
  · replace h := ite_f h c21
    refine lv_iload_n hx hb dX2_termOf_24 rfl (lv_at hl 1 rfl) ?_
    refine lv_iload hx hb dX2_termOf_25 (lv_at hl 3 rfl) ?_
    obtain ⟨q27, e27, h⟩ := Option.bind_eq_some_iff.mp h
    refine hp_S (As := [.int x2, .int x5]) (rest := []) ⟨hx, hb, hml, hown, hts⟩ (ct_X2_monomialAt l tw tt x2 x5 e27) (va_cwS 2 hts gX2_termOf_X2_monomialAt rfl rfl rfl (by decide +kernel) ⟨Nat.le_of_ble_eq_true rfl, Nat.le_of_ble_eq_true rfl⟩) GP.mv (GP.from hT0 hS) rfl hl.1 rfl (Nat.le_of_ble_eq_true rfl) dX2_termOf_27 ⟨Nat.zero_le _, Nat.zero_le _⟩ ?_
    refine W.eq (g2 := F0 m 30 ls [.int q27]) rfl ?_
    refine lv_istore (lv' := [(6, .int q27), (0, .long x0), (2, .int x2), (4, .int x4), (5, .int x5)]) hx hb dX2_termOf_30 hl (by decide) rfl (fun ls hl => ?_)
    refine lv_lload_n hx hb dX2_termOf_32 rfl (lv_at hl 1 rfl) ?_
    refine lv_iload hx hb dX2_termOf_33 (lv_at hl 0 rfl) ?_
    obtain ⟨q35, e35, h⟩ := Option.bind_eq_some_iff.mp h
    refine hp_S (As := [.long x0, .int q27]) (rest := []) ⟨hx, hb, hml, hown, hts⟩ (ct_X3_bit l tw tt x0 q27 e35) (va_cwS 2 hts gX2_termOf_X3_bit rfl rfl rfl (by decide +kernel) ⟨Nat.le_of_ble_eq_true rfl, Nat.le_of_ble_eq_true rfl⟩) GP.mv (GP.from hT0 hS) rfl hl.1 rfl (Nat.le_of_ble_eq_true rfl) dX2_termOf_35 ⟨Nat.zero_le _, Nat.zero_le _⟩ ?_
    refine W.eq (g2 := F0 m 38 ls [.int q35]) rfl ?_
    refine lv_iconst (v := 1) hx hb dX2_termOf_38 (by decide) ?_
    refine lv_icmp_ne (tgt := 53) hx hb dX2_termOf_39 (by decide) (fun c39 => ?_) (fun c39 => ?_)
    · replace h := ite_f h c39
      refine lv_iinc (v := (x5 + 1)) (lv' := [(5, .int (x5 + 1)), (6, .int q27), (0, .long x0), (2, .int x2), (4, .int x4)]) hx hb dX2_termOf_53 hl (k := 4) rfl rfl (by decide) rfl (fun ls hl => ?_)
      refine lv_goto (tgt := 17) hx hb dX2_termOf_56 (by decide) ?_
      exact hk17 x0 x2 x4 (x5 + 1) ls (lv_sub hl [2, 3, 4, 0] rfl) h
    · replace h := ite_t h c39
      refine lv_iload hx hb dX2_termOf_42 (lv_at hl 3 rfl) ?_
      refine lv_if_ne (tgt := 50) hx hb dX2_termOf_44 (by decide) (fun c44 => ?_) (fun c44 => ?_)
      · replace h := ite_f h c44
        refine lv_iinc (v := (x4 + (-1))) (lv' := [(4, .int (x4 + (-1))), (6, .int q27), (0, .long x0), (2, .int x2), (5, .int x5)]) hx hb dX2_termOf_50 hl (k := 3) rfl rfl (by decide) rfl (fun ls hl => ?_)
        refine lv_iinc (v := (x5 + 1)) (lv' := [(5, .int (x5 + 1)), (4, .int (x4 + (-1))), (6, .int q27), (0, .long x0), (2, .int x2)]) hx hb dX2_termOf_53 hl (k := 4) rfl rfl (by decide) rfl (fun ls hl => ?_)
        refine lv_goto (tgt := 17) hx hb dX2_termOf_56 (by decide) ?_
        exact hk17 x0 x2 (x4 + (-1)) (x5 + 1) ls (lv_sub hl [3, 4, 1, 0] rfl) h
      · replace h := ite_t h c44
        refine lv_iload hx hb dX2_termOf_47 (lv_at hl 0 rfl) ?_
        obtain rfl := Option.some.inj h
        exact hp_iret hx hb hr hlocks dX2_termOf_49
set_option maxHeartbeats 4000000 in
set_option maxRecDepth 100000 in
theorem wk_X2_termOf_17 {p : Program} {l : Launch} {e : Env} {s : State} {m : MethodId} {args : Array Value} {below : List Frame} {meth : Method} {c : Code} {tw : Nat} {tt : Nat → Nat} (C0 : Cx p s m args meth c cX2_termOf (some .int) 7 wsX2_termOf RX2) (hT0 : tW tw tt (fun _ => False) s s.heap) {q : Int32} : ∀ (n : Nat) (x0 : Int64) (x2 : Int32) (x4 : Int32) (x5 : Int32) (ls : Array Slot) (hl : lv_has ls 7 [(0, .long x0), (2, .int x2), (4, .int x4), (5, .int x5)]) (h : fn_X2_termOf_17 n x0 x2 x4 x5 = some q), W p l e rm_X2_termOf s m args below meth c s.heap [] 0 0 (MQ below (HQ (some (.int q))) args s 0 0 (fun _ => False)) (F0 m 17 ls []) := by
  intro n
  induction n with
  | zero => intro x0 x2 x4 x5 ls hl h; unfold fn_X2_termOf_17 at h; cases h
  | succ n ih => intro x0 x2 x4 x5 ls hl h; exact wk_X2_termOf_17_body C0 hT0 (k17 := fn_X2_termOf_17 n) (hk17 := ih) (hl := hl) (h := h)
set_option maxHeartbeats 4000000 in
set_option maxRecDepth 100000 in
theorem wk_X2_termOf {p : Program} {l : Launch} {e : Env} {s : State} {m : MethodId} {args : Array Value} {below : List Frame} {meth : Method} {c : Code} {tw : Nat} {tt : Nat → Nat} (C0 : Cx p s m args meth c cX2_termOf (some .int) 7 wsX2_termOf RX2) (hT0 : tW tw tt (fun _ => False) s s.heap) {q : Int32} (x0 : Int64) (x2 : Int32) (x3 : Int32) (ls : Array Slot) (hl : lv_has ls 7 [(0, .long x0), (2, .int x2), (3, .int x3)]) (h : fn_X2_termOf x0 x2 x3 = some q) : W p l e rm_X2_termOf s m args below meth c s.heap [] 0 0 (MQ below (HQ (some (.int q))) args s 0 0 (fun _ => False)) (F0 m 0 ls []) := by
  obtain ⟨hx, hb, hr, hml, hown, hts, hlocks⟩ := id C0
  have hS : va_S (fun _ => False) s.heap s.heap [] := va_S.rf
  unfold fn_X2_termOf at h
  refine lv_iload_n hx hb dX2_termOf_0 rfl (lv_at hl 2 rfl) ?_
  refine lv_lload_n hx hb dX2_termOf_1 rfl (lv_at hl 0 rfl) ?_
  obtain ⟨q2, e2, h⟩ := Option.bind_eq_some_iff.mp h
  refine hp_S (As := [.long x0]) (rest := [.int x3]) ⟨hx, hb, hml, hown, hts⟩ (ct_J13_bitCount_95d88 l tw tt x0 e2) (va_cwS 1 hts gX2_termOf_J13_bitCount_95d88 rfl rfl rfl (by decide +kernel) ⟨Nat.le_of_ble_eq_true rfl, Nat.le_of_ble_eq_true rfl⟩) GP.mv (GP.from hT0 hS) rfl hl.1 rfl (Nat.le_of_ble_eq_true rfl) dX2_termOf_2 ⟨Nat.zero_le _, Nat.zero_le _⟩ ?_
  refine W.eq (g2 := F0 m 5 ls [.int q2, .int x3]) rfl ?_
  refine lv_icmp_lt (tgt := 11) hx hb dX2_termOf_5 (by decide) (fun c5 => ?_) (fun c5 => ?_)
  · replace h := ite_t h c5
    refine lv_iload_n hx hb dX2_termOf_11 rfl (lv_at hl 2 rfl) ?_
    refine lv_istore (lv' := [(4, .int x3), (0, .long x0), (2, .int x2), (3, .int x3)]) hx hb dX2_termOf_12 hl (by decide) rfl (fun ls hl => ?_)
    refine lv_iconst (v := 0) hx hb dX2_termOf_14 (by decide) ?_
    refine lv_istore (lv' := [(5, .int 0), (4, .int x3), (0, .long x0), (2, .int x2), (3, .int x3)]) hx hb dX2_termOf_15 hl (by decide) rfl (fun ls hl => ?_)
    exact wk_X2_termOf_17 C0 hT0  FU x0 x2 x3 0 ls (lv_sub hl [2, 3, 1, 0] rfl) h
  · replace h := ite_f h c5
    refine lv_bipush (v := (-4)) hx hb dX2_termOf_8 (by decide) ?_
    obtain rfl := Option.some.inj h
    exact hp_iret hx hb hr hlocks dX2_termOf_10
theorem ct_X2_termOf (l : Launch) (tw : Nat) (tt : Nat → Nat) (x0 : Int64) (x2 : Int32) (x3 : Int32) {q : Int32} (h : fn_X2_termOf x0 x2 x3 = some q) : Hp l yX2_termOf wsX2_termOf rm_X2_termOf [.long x0, .int x2, .int x3] (GP tw tt) (some (.int q)) := by
  refine Hp.of (cc := cX2_termOf) (nL := 7) (ret := (some .int)) (own := RX2) (by decide) rfl rfl (Nat.le_of_ble_eq_true rfl) ?_
  intro p e s m below meth c ls C0 hB hl
  exact wk_X2_termOf C0 hB (hl := hl) (h := h)
abbrev rm_X3_ofMonomial : Room := { frames := 0, cells := 0, slots := 0, locals := 0 }
set_option maxHeartbeats 4000000 in
set_option maxRecDepth 100000 in
theorem wk_X3_ofMonomial {p : Program} {l : Launch} {e : Env} {s : State} {m : MethodId} {args : Array Value} {below : List Frame} {meth : Method} {c : Code} {tw : Nat} {tt : Nat → Nat} (C0 : Cx p s m args meth c cX3_ofMonomial (some .long) 1 wsX3_ofMonomial RX3) (hT0 : tW tw tt (fun _ => False) s s.heap) {q : Int64} (x0 : Int32) (ls : Array Slot) (hl : lv_has ls 1 [(0, .int x0)]) (h : fn_X3_ofMonomial x0 = some q) : W p l e rm_X3_ofMonomial s m args below meth c s.heap [] 0 0 (MQ below (HQ (some (.long q))) args s 0 0 (fun _ => False)) (F0 m 0 ls []) := by
  obtain ⟨hx, hb, hr, hml, hown, hts, hlocks⟩ := id C0
  have hS : va_S (fun _ => False) s.heap s.heap [] := va_S.rf
  unfold fn_X3_ofMonomial at h
  refine lv_lconst (v := 1) hx hb dX3_ofMonomial_0 (by decide) ?_
  refine lv_iload_n hx hb dX3_ofMonomial_1 rfl (lv_at hl 0 rfl) ?_
  refine lv_lshl (v := (lsh 1 x0)) hx hb dX3_ofMonomial_2 rfl ?_
  obtain rfl := Option.some.inj h
  exact hp_lret hx hb hr hlocks dX3_ofMonomial_3
theorem ct_X3_ofMonomial (l : Launch) (tw : Nat) (tt : Nat → Nat) (x0 : Int32) {q : Int64} (h : fn_X3_ofMonomial x0 = some q) : Hp l yX3_ofMonomial wsX3_ofMonomial rm_X3_ofMonomial [.int x0] (GP tw tt) (some (.long q)) := by
  refine Hp.of (cc := cX3_ofMonomial) (nL := 1) (ret := (some .long)) (own := RX3) (by decide) rfl rfl (Nat.le_of_ble_eq_true rfl) ?_
  intro p e s m below meth c ls C0 hB hl
  exact wk_X3_ofMonomial C0 hB (hl := hl) (h := h)
abbrev rm_X3_raised : Room := { frames := 1, cells := 0, slots := 0, locals := 20 }
set_option maxHeartbeats 4000000 in
set_option maxRecDepth 100000 in
theorem wk_X3_raised {p : Program} {l : Launch} {e : Env} {s : State} {m : MethodId} {args : Array Value} {below : List Frame} {meth : Method} {c : Code} {tw : Nat} {tt : Nat → Nat} (C0 : Cx p s m args meth c cX3_raised (some .long) 3 wsX3_raised RX3) (hT0 : tW tw tt (fun _ => False) s s.heap) {q : Int64} (x0 : Int64) (x2 : Int32) (ls : Array Slot) (hl : lv_has ls 3 [(0, .long x0), (2, .int x2)]) (h : fn_X3_raised x0 x2 = some q) : W p l e rm_X3_raised s m args below meth c s.heap [] 0 0 (MQ below (HQ (some (.long q))) args s 0 0 (fun _ => False)) (F0 m 0 ls []) := by
  obtain ⟨hx, hb, hr, hml, hown, hts, hlocks⟩ := id C0
  have hS : va_S (fun _ => False) s.heap s.heap [] := va_S.rf
  unfold fn_X3_raised at h
  refine lv_lload_n hx hb dX3_raised_0 rfl (lv_at hl 0 rfl) ?_
  refine lv_iload_n hx hb dX3_raised_1 rfl (lv_at hl 1 rfl) ?_
  obtain ⟨q2, e2, h⟩ := Option.bind_eq_some_iff.mp h
  refine hp_S (As := [.int x2]) (rest := [.long x0]) ⟨hx, hb, hml, hown, hts⟩ (ct_X3_without l tw tt x2 e2) (va_cwS 1 hts gX3_raised_X3_without rfl rfl rfl (by decide +kernel) ⟨Nat.le_of_ble_eq_true rfl, Nat.le_of_ble_eq_true rfl⟩) GP.mv (GP.from hT0 hS) rfl hl.1 rfl (Nat.le_of_ble_eq_true rfl) dX3_raised_2 ⟨Nat.zero_le _, Nat.zero_le _⟩ ?_
  refine W.eq (g2 := F0 m 5 ls [.long q2, .long x0]) rfl ?_
  refine lv_land hx hb dX3_raised_5 ?_
  refine lv_iconst (v := 1) hx hb dX3_raised_6 (by decide) ?_
  refine lv_iload_n hx hb dX3_raised_7 rfl (lv_at hl 1 rfl) ?_
  refine lv_ishl hx hb dX3_raised_8 ?_
  refine lv_lshl (v := (lsh (x0 &&& q2) (ish 1 x2))) hx hb dX3_raised_9 rfl ?_
  obtain rfl := Option.some.inj h
  exact hp_lret hx hb hr hlocks dX3_raised_10
theorem ct_X3_raised (l : Launch) (tw : Nat) (tt : Nat → Nat) (x0 : Int64) (x2 : Int32) {q : Int64} (h : fn_X3_raised x0 x2 = some q) : Hp l yX3_raised wsX3_raised rm_X3_raised [.long x0, .int x2] (GP tw tt) (some (.long q)) := by
  refine Hp.of (cc := cX3_raised) (nL := 3) (ret := (some .long)) (own := RX3) (by decide) rfl rfl (Nat.le_of_ble_eq_true rfl) ?_
  intro p e s m below meth c ls C0 hB hl
  exact wk_X3_raised C0 hB (hl := hl) (h := h)
abbrev rm_X3_transformed : Room := { frames := 2, cells := 0, slots := 0, locals := 42 }
set_option maxHeartbeats 4000000 in
set_option maxRecDepth 100000 in
theorem wk_X3_transformed_5_body {p : Program} {l : Launch} {e : Env} {s : State} {m : MethodId} {args : Array Value} {below : List Frame} {meth : Method} {c : Code} {tw : Nat} {tt : Nat → Nat} (C0 : Cx p s m args meth c cX3_transformed (some .long) 6 wsX3_transformed RX3) (hT0 : tW tw tt (fun _ => False) s s.heap) {q : Int64} (k5 : Int32 → Int64 → Int32 → Option (Int64)) (hk5 : ∀ (x2 : Int32) (x3 : Int64) (x5 : Int32) (ls : Array Slot) (hl : lv_has ls 6 [(2, .int x2), (3, .long x3), (5, .int x5)]) (h : k5 x2 x3 x5 = some q), W p l e rm_X3_transformed s m args below meth c s.heap [] 0 0 (MQ below (HQ (some (.long q))) args s 0 0 (fun _ => False)) (F0 m 5 ls [])) (x2 : Int32) (x3 : Int64) (x5 : Int32) (ls : Array Slot) (hl : lv_has ls 6 [(2, .int x2), (3, .long x3), (5, .int x5)]) (h : fn_X3_transformed_5_body k5 x2 x3 x5 = some q) : W p l e rm_X3_transformed s m args below meth c s.heap [] 0 0 (MQ below (HQ (some (.long q))) args s 0 0 (fun _ => False)) (F0 m 5 ls []) := by
  obtain ⟨hx, hb, hr, hml, hown, hts, hlocks⟩ := id C0
  have hS : va_S (fun _ => False) s.heap s.heap [] := va_S.rf
  unfold fn_X3_transformed_5_body at h
  refine lv_iload hx hb dX3_transformed_5 (lv_at hl 2 rfl) ?_
  refine lv_iload_n hx hb dX3_transformed_7 rfl (lv_at hl 0 rfl) ?_
  refine lv_icmp_ge (tgt := 26) hx hb dX3_transformed_8 (by decide) (fun c8 => ?_) (fun c8 => ?_)
  · replace h := ite_t h c8
    refine lv_lload_n hx hb dX3_transformed_26 rfl (lv_at hl 1 rfl) ?_
    obtain rfl := Option.some.inj h
    exact hp_lret hx hb hr hlocks dX3_transformed_27
  · replace h := ite_f h c8
    refine lv_lload_n hx hb dX3_transformed_11 rfl (lv_at hl 1 rfl) ?_
    refine lv_lload_n hx hb dX3_transformed_12 rfl (lv_at hl 1 rfl) ?_
    refine lv_iload hx hb dX3_transformed_13 (lv_at hl 2 rfl) ?_
    obtain ⟨q15, e15, h⟩ := Option.bind_eq_some_iff.mp h
    refine hp_S (As := [.long x3, .int x5]) (rest := [.long x3]) ⟨hx, hb, hml, hown, hts⟩ (ct_X3_raised l tw tt x3 x5 e15) (va_cwS 2 hts gX3_transformed_X3_raised rfl rfl rfl (by decide +kernel) ⟨Nat.le_of_ble_eq_true rfl, Nat.le_of_ble_eq_true rfl⟩) GP.mv (GP.from hT0 hS) rfl hl.1 rfl (Nat.le_of_ble_eq_true rfl) dX3_transformed_15 ⟨Nat.zero_le _, Nat.zero_le _⟩ ?_
    refine W.eq (g2 := F0 m 18 ls [.long q15, .long x3]) rfl ?_
    refine lv_lxor hx hb dX3_transformed_18 ?_
    refine lv_lstore_n (lv' := [(3, .long (x3 ^^^ q15)), (2, .int x2), (5, .int x5)]) hx hb dX3_transformed_19 rfl hl (by decide) rfl (fun ls hl => ?_)
    refine lv_iinc (v := (x5 + 1)) (lv' := [(5, .int (x5 + 1)), (3, .long (x3 ^^^ q15)), (2, .int x2)]) hx hb dX3_transformed_20 hl (k := 2) rfl rfl (by decide) rfl (fun ls hl => ?_)
    refine lv_goto (tgt := 5) hx hb dX3_transformed_23 (by decide) ?_
    exact hk5 x2 (x3 ^^^ q15) (x5 + 1) ls (lv_sub hl [2, 1, 0] rfl) h
set_option maxHeartbeats 4000000 in
set_option maxRecDepth 100000 in
theorem wk_X3_transformed_5 {p : Program} {l : Launch} {e : Env} {s : State} {m : MethodId} {args : Array Value} {below : List Frame} {meth : Method} {c : Code} {tw : Nat} {tt : Nat → Nat} (C0 : Cx p s m args meth c cX3_transformed (some .long) 6 wsX3_transformed RX3) (hT0 : tW tw tt (fun _ => False) s s.heap) {q : Int64} : ∀ (n : Nat) (x2 : Int32) (x3 : Int64) (x5 : Int32) (ls : Array Slot) (hl : lv_has ls 6 [(2, .int x2), (3, .long x3), (5, .int x5)]) (h : fn_X3_transformed_5 n x2 x3 x5 = some q), W p l e rm_X3_transformed s m args below meth c s.heap [] 0 0 (MQ below (HQ (some (.long q))) args s 0 0 (fun _ => False)) (F0 m 5 ls []) := by
  intro n
  induction n with
  | zero => intro x2 x3 x5 ls hl h; unfold fn_X3_transformed_5 at h; cases h
  | succ n ih => intro x2 x3 x5 ls hl h; exact wk_X3_transformed_5_body C0 hT0 (k5 := fn_X3_transformed_5 n) (hk5 := ih) (hl := hl) (h := h)
set_option maxHeartbeats 4000000 in
set_option maxRecDepth 100000 in
theorem wk_X3_transformed {p : Program} {l : Launch} {e : Env} {s : State} {m : MethodId} {args : Array Value} {below : List Frame} {meth : Method} {c : Code} {tw : Nat} {tt : Nat → Nat} (C0 : Cx p s m args meth c cX3_transformed (some .long) 6 wsX3_transformed RX3) (hT0 : tW tw tt (fun _ => False) s s.heap) {q : Int64} (x0 : Int64) (x2 : Int32) (ls : Array Slot) (hl : lv_has ls 6 [(0, .long x0), (2, .int x2)]) (h : fn_X3_transformed x0 x2 = some q) : W p l e rm_X3_transformed s m args below meth c s.heap [] 0 0 (MQ below (HQ (some (.long q))) args s 0 0 (fun _ => False)) (F0 m 0 ls []) := by
  obtain ⟨hx, hb, hr, hml, hown, hts, hlocks⟩ := id C0
  have hS : va_S (fun _ => False) s.heap s.heap [] := va_S.rf
  unfold fn_X3_transformed at h
  refine lv_lload_n hx hb dX3_transformed_0 rfl (lv_at hl 0 rfl) ?_
  refine lv_lstore_n (lv' := [(3, .long x0), (0, .long x0), (2, .int x2)]) hx hb dX3_transformed_1 rfl hl (by decide) rfl (fun ls hl => ?_)
  refine lv_iconst (v := 0) hx hb dX3_transformed_2 (by decide) ?_
  refine lv_istore (lv' := [(5, .int 0), (3, .long x0), (0, .long x0), (2, .int x2)]) hx hb dX3_transformed_3 hl (by decide) rfl (fun ls hl => ?_)
  exact wk_X3_transformed_5 C0 hT0  FU x2 x0 0 ls (lv_sub hl [3, 1, 0] rfl) h
theorem ct_X3_transformed (l : Launch) (tw : Nat) (tt : Nat → Nat) (x0 : Int64) (x2 : Int32) {q : Int64} (h : fn_X3_transformed x0 x2 = some q) : Hp l yX3_transformed wsX3_transformed rm_X3_transformed [.long x0, .int x2] (GP tw tt) (some (.long q)) := by
  refine Hp.of (cc := cX3_transformed) (nL := 6) (ret := (some .long)) (own := RX3) (by decide) rfl rfl (Nat.le_of_ble_eq_true rfl) ?_
  intro p e s m below meth c ls C0 hB hl
  exact wk_X3_transformed C0 hB (hl := hl) (h := h)
abbrev rm_X3_multiplied : Room := { frames := 3, cells := 0, slots := 0, locals := 67 }
set_option maxHeartbeats 4000000 in
set_option maxRecDepth 100000 in
theorem wk_X3_multiplied {p : Program} {l : Launch} {e : Env} {s : State} {m : MethodId} {args : Array Value} {below : List Frame} {meth : Method} {c : Code} {tw : Nat} {tt : Nat → Nat} (C0 : Cx p s m args meth c cX3_multiplied (some .long) 5 wsX3_multiplied RX3) (hT0 : tW tw tt (fun _ => False) s s.heap) {q : Int64} (x0 : Int64) (x2 : Int64) (x4 : Int32) (ls : Array Slot) (hl : lv_has ls 5 [(0, .long x0), (2, .long x2), (4, .int x4)]) (h : fn_X3_multiplied x0 x2 x4 = some q) : W p l e rm_X3_multiplied s m args below meth c s.heap [] 0 0 (MQ below (HQ (some (.long q))) args s 0 0 (fun _ => False)) (F0 m 0 ls []) := by
  obtain ⟨hx, hb, hr, hml, hown, hts, hlocks⟩ := id C0
  have hS : va_S (fun _ => False) s.heap s.heap [] := va_S.rf
  unfold fn_X3_multiplied at h
  refine lv_lload_n hx hb dX3_multiplied_0 rfl (lv_at hl 0 rfl) ?_
  refine lv_iload hx hb dX3_multiplied_1 (lv_at hl 2 rfl) ?_
  obtain ⟨q3, e3, h⟩ := Option.bind_eq_some_iff.mp h
  refine hp_S (As := [.long x0, .int x4]) (rest := []) ⟨hx, hb, hml, hown, hts⟩ (ct_X3_transformed l tw tt x0 x4 e3) (va_cwS 2 hts gX3_multiplied_X3_transformed rfl rfl rfl (by decide +kernel) ⟨Nat.le_of_ble_eq_true rfl, Nat.le_of_ble_eq_true rfl⟩) GP.mv (GP.from hT0 hS) rfl hl.1 rfl (Nat.le_of_ble_eq_true rfl) dX3_multiplied_3 ⟨Nat.zero_le _, Nat.zero_le _⟩ ?_
  refine W.eq (g2 := F0 m 6 ls [.long q3]) rfl ?_
  refine lv_lload_n hx hb dX3_multiplied_6 rfl (lv_at hl 1 rfl) ?_
  refine lv_iload hx hb dX3_multiplied_7 (lv_at hl 2 rfl) ?_
  obtain ⟨q9, e9, h⟩ := Option.bind_eq_some_iff.mp h
  refine hp_S (As := [.long x2, .int x4]) (rest := [.long q3]) ⟨hx, hb, hml, hown, hts⟩ (ct_X3_transformed l tw tt x2 x4 e9) (va_cwS 2 hts gX3_multiplied_X3_transformed rfl rfl rfl (by decide +kernel) ⟨Nat.le_of_ble_eq_true rfl, Nat.le_of_ble_eq_true rfl⟩) GP.mv (GP.from hT0 hS) rfl hl.1 rfl (Nat.le_of_ble_eq_true rfl) dX3_multiplied_9 ⟨Nat.zero_le _, Nat.zero_le _⟩ ?_
  refine W.eq (g2 := F0 m 12 ls [.long q9, .long q3]) rfl ?_
  refine lv_land hx hb dX3_multiplied_12 ?_
  refine lv_iload hx hb dX3_multiplied_13 (lv_at hl 2 rfl) ?_
  obtain ⟨q15, e15, h⟩ := Option.bind_eq_some_iff.mp h
  refine hp_S (As := [.long (q3 &&& q9), .int x4]) (rest := []) ⟨hx, hb, hml, hown, hts⟩ (ct_X3_transformed l tw tt (q3 &&& q9) x4 e15) (va_cwS 2 hts gX3_multiplied_X3_transformed rfl rfl rfl (by decide +kernel) ⟨Nat.le_of_ble_eq_true rfl, Nat.le_of_ble_eq_true rfl⟩) GP.mv (GP.from hT0 hS) rfl hl.1 rfl (Nat.le_of_ble_eq_true rfl) dX3_multiplied_15 ⟨Nat.zero_le _, Nat.zero_le _⟩ ?_
  refine W.eq (g2 := F0 m 18 ls [.long q15]) rfl ?_
  obtain rfl := Option.some.inj h
  exact hp_lret hx hb hr hlocks dX3_multiplied_18
theorem ct_X3_multiplied (l : Launch) (tw : Nat) (tt : Nat → Nat) (x0 : Int64) (x2 : Int64) (x4 : Int32) {q : Int64} (h : fn_X3_multiplied x0 x2 x4 = some q) : Hp l yX3_multiplied wsX3_multiplied rm_X3_multiplied [.long x0, .long x2, .int x4] (GP tw tt) (some (.long q)) := by
  refine Hp.of (cc := cX3_multiplied) (nL := 5) (ret := (some .long)) (own := RX3) (by decide) rfl rfl (Nat.le_of_ble_eq_true rfl) ?_
  intro p e s m below meth c ls C0 hB hl
  exact wk_X3_multiplied C0 hB (hl := hl) (h := h)
abbrev rm_X3_exchanged : Room := { frames := 1, cells := 0, slots := 0, locals := 20 }
theorem lk_X3_exchanged_c26 : Cond.constantLong RX3 26 (-1) ∈ wsX3_exchanged := by decide +kernel
set_option maxHeartbeats 4000000 in
set_option maxRecDepth 100000 in
theorem wk_X3_exchanged {p : Program} {l : Launch} {e : Env} {s : State} {m : MethodId} {args : Array Value} {below : List Frame} {meth : Method} {c : Code} {tw : Nat} {tt : Nat → Nat} (C0 : Cx p s m args meth c cX3_exchanged (some .long) 11 wsX3_exchanged RX3) (hT0 : tW tw tt (fun _ => False) s s.heap) {q : Int64} (x0 : Int64) (x2 : Int32) (x3 : Int32) (ls : Array Slot) (hl : lv_has ls 11 [(0, .long x0), (2, .int x2), (3, .int x3)]) (h : fn_X3_exchanged x0 x2 x3 = some q) : W p l e rm_X3_exchanged s m args below meth c s.heap [] 0 0 (MQ below (HQ (some (.long q))) args s 0 0 (fun _ => False)) (F0 m 0 ls []) := by
  obtain ⟨hx, hb, hr, hml, hown, hts, hlocks⟩ := id C0
  have hS : va_S (fun _ => False) s.heap s.heap [] := va_S.rf
  unfold fn_X3_exchanged at h
  refine lv_lload_n hx hb dX3_exchanged_0 rfl (lv_at hl 0 rfl) ?_
  refine lv_iload_n hx hb dX3_exchanged_1 rfl (lv_at hl 1 rfl) ?_
  obtain ⟨q2, e2, h⟩ := Option.bind_eq_some_iff.mp h
  refine hp_S (As := [.int x2]) (rest := [.long x0]) ⟨hx, hb, hml, hown, hts⟩ (ct_X3_without l tw tt x2 e2) (va_cwS 1 hts gX3_exchanged_X3_without rfl rfl rfl (by decide +kernel) ⟨Nat.le_of_ble_eq_true rfl, Nat.le_of_ble_eq_true rfl⟩) GP.mv (GP.from hT0 hS) rfl hl.1 rfl (Nat.le_of_ble_eq_true rfl) dX3_exchanged_2 ⟨Nat.zero_le _, Nat.zero_le _⟩ ?_
  refine W.eq (g2 := F0 m 5 ls [.long q2, .long x0]) rfl ?_
  refine lv_ldc2 (v := (-1)) hx hb hown (hts _ lk_X3_exchanged_c26) dX3_exchanged_5 ?_
  refine lv_lxor hx hb dX3_exchanged_8 ?_
  refine lv_land hx hb dX3_exchanged_9 ?_
  refine lv_iload_n hx hb dX3_exchanged_10 rfl (lv_at hl 2 rfl) ?_
  obtain ⟨q11, e11, h⟩ := Option.bind_eq_some_iff.mp h
  refine hp_S (As := [.int x3]) (rest := [.long (x0 &&& (q2 ^^^ (-1)))]) ⟨hx, hb, hml, hown, hts⟩ (ct_X3_without l tw tt x3 e11) (va_cwS 1 hts gX3_exchanged_X3_without rfl rfl rfl (by decide +kernel) ⟨Nat.le_of_ble_eq_true rfl, Nat.le_of_ble_eq_true rfl⟩) GP.mv (GP.from hT0 hS) rfl hl.1 rfl (Nat.le_of_ble_eq_true rfl) dX3_exchanged_11 ⟨Nat.zero_le _, Nat.zero_le _⟩ ?_
  refine W.eq (g2 := F0 m 14 ls [.long q11, .long (x0 &&& (q2 ^^^ (-1)))]) rfl ?_
  refine lv_land hx hb dX3_exchanged_14 ?_
  refine lv_lstore (lv' := [(4, .long ((x0 &&& (q2 ^^^ (-1))) &&& q11)), (0, .long x0), (2, .int x2), (3, .int x3)]) hx hb dX3_exchanged_15 hl (by decide) rfl (fun ls hl => ?_)
  refine lv_lload_n hx hb dX3_exchanged_17 rfl (lv_at hl 1 rfl) ?_
  refine lv_iload_n hx hb dX3_exchanged_18 rfl (lv_at hl 2 rfl) ?_
  obtain ⟨q19, e19, h⟩ := Option.bind_eq_some_iff.mp h
  refine hp_S (As := [.int x2]) (rest := [.long x0]) ⟨hx, hb, hml, hown, hts⟩ (ct_X3_without l tw tt x2 e19) (va_cwS 1 hts gX3_exchanged_X3_without rfl rfl rfl (by decide +kernel) ⟨Nat.le_of_ble_eq_true rfl, Nat.le_of_ble_eq_true rfl⟩) GP.mv (GP.from hT0 hS) rfl hl.1 rfl (Nat.le_of_ble_eq_true rfl) dX3_exchanged_19 ⟨Nat.zero_le _, Nat.zero_le _⟩ ?_
  refine W.eq (g2 := F0 m 22 ls [.long q19, .long x0]) rfl ?_
  refine lv_land hx hb dX3_exchanged_22 ?_
  refine lv_iload_n hx hb dX3_exchanged_23 rfl (lv_at hl 3 rfl) ?_
  obtain ⟨q24, e24, h⟩ := Option.bind_eq_some_iff.mp h
  refine hp_S (As := [.int x3]) (rest := [.long (x0 &&& q19)]) ⟨hx, hb, hml, hown, hts⟩ (ct_X3_without l tw tt x3 e24) (va_cwS 1 hts gX3_exchanged_X3_without rfl rfl rfl (by decide +kernel) ⟨Nat.le_of_ble_eq_true rfl, Nat.le_of_ble_eq_true rfl⟩) GP.mv (GP.from hT0 hS) rfl hl.1 rfl (Nat.le_of_ble_eq_true rfl) dX3_exchanged_24 ⟨Nat.zero_le _, Nat.zero_le _⟩ ?_
  refine W.eq (g2 := F0 m 27 ls [.long q24, .long (x0 &&& q19)]) rfl ?_
  refine lv_ldc2 (v := (-1)) hx hb hown (hts _ lk_X3_exchanged_c26) dX3_exchanged_27 ?_
  refine lv_lxor hx hb dX3_exchanged_30 ?_
  refine lv_land hx hb dX3_exchanged_31 ?_
  refine lv_lstore (lv' := [(6, .long ((x0 &&& q19) &&& (q24 ^^^ (-1)))), (4, .long ((x0 &&& (q2 ^^^ (-1))) &&& q11)), (0, .long x0), (2, .int x2), (3, .int x3)]) hx hb dX3_exchanged_32 hl (by decide) rfl (fun ls hl => ?_)
  refine lv_iconst (v := 1) hx hb dX3_exchanged_34 (by decide) ?_
  refine lv_iload_n hx hb dX3_exchanged_35 rfl (lv_at hl 4 rfl) ?_
  refine lv_ishl hx hb dX3_exchanged_36 ?_
  refine lv_iconst (v := 1) hx hb dX3_exchanged_37 (by decide) ?_
  refine lv_iload_n hx hb dX3_exchanged_38 rfl (lv_at hl 3 rfl) ?_
  refine lv_ishl hx hb dX3_exchanged_39 ?_
  refine lv_isub hx hb dX3_exchanged_40 ?_
  refine lv_istore (lv' := [(8, .int ((ish 1 x3) - (ish 1 x2))), (6, .long ((x0 &&& q19) &&& (q24 ^^^ (-1)))), (4, .long ((x0 &&& (q2 ^^^ (-1))) &&& q11)), (0, .long x0), (2, .int x2), (3, .int x3)]) hx hb dX3_exchanged_41 hl (by decide) rfl (fun ls hl => ?_)
  refine lv_lload_n hx hb dX3_exchanged_43 rfl (lv_at hl 3 rfl) ?_
  refine lv_lload hx hb dX3_exchanged_44 (lv_at hl 2 rfl) ?_
  refine lv_lxor hx hb dX3_exchanged_46 ?_
  refine lv_lload hx hb dX3_exchanged_47 (lv_at hl 1 rfl) ?_
  refine lv_lxor hx hb dX3_exchanged_49 ?_
  refine lv_lstore (lv' := [(9, .long ((x0 ^^^ ((x0 &&& (q2 ^^^ (-1))) &&& q11)) ^^^ ((x0 &&& q19) &&& (q24 ^^^ (-1))))), (8, .int ((ish 1 x3) - (ish 1 x2))), (6, .long ((x0 &&& q19) &&& (q24 ^^^ (-1)))), (4, .long ((x0 &&& (q2 ^^^ (-1))) &&& q11)), (0, .long x0), (2, .int x2), (3, .int x3)]) hx hb dX3_exchanged_50 hl (by decide) rfl (fun ls hl => ?_)
  refine lv_lload hx hb dX3_exchanged_52 (lv_at hl 0 rfl) ?_
  refine lv_lload hx hb dX3_exchanged_54 (lv_at hl 3 rfl) ?_
  refine lv_iload hx hb dX3_exchanged_56 (lv_at hl 1 rfl) ?_
  refine lv_lshl (v := (lsh ((x0 &&& (q2 ^^^ (-1))) &&& q11) ((ish 1 x3) - (ish 1 x2)))) hx hb dX3_exchanged_58 rfl ?_
  refine lv_lor hx hb dX3_exchanged_59 ?_
  refine lv_lload hx hb dX3_exchanged_60 (lv_at hl 2 rfl) ?_
  refine lv_iload hx hb dX3_exchanged_62 (lv_at hl 1 rfl) ?_
  refine lv_lushr (v := (lus ((x0 &&& q19) &&& (q24 ^^^ (-1))) ((ish 1 x3) - (ish 1 x2)))) hx hb dX3_exchanged_64 rfl ?_
  refine lv_lor hx hb dX3_exchanged_65 ?_
  obtain rfl := Option.some.inj h
  exact hp_lret hx hb hr hlocks dX3_exchanged_66
theorem ct_X3_exchanged (l : Launch) (tw : Nat) (tt : Nat → Nat) (x0 : Int64) (x2 : Int32) (x3 : Int32) {q : Int64} (h : fn_X3_exchanged x0 x2 x3 = some q) : Hp l yX3_exchanged wsX3_exchanged rm_X3_exchanged [.long x0, .int x2, .int x3] (GP tw tt) (some (.long q)) := by
  refine Hp.of (cc := cX3_exchanged) (nL := 11) (ret := (some .long)) (own := RX3) (by decide) rfl rfl (Nat.le_of_ble_eq_true rfl) ?_
  intro p e s m below meth c ls C0 hB hl
  exact wk_X3_exchanged C0 hB (hl := hl) (h := h)
abbrev rm_J6_bitCount_0f7a4 : Room := { frames := 0, cells := 0, slots := 0, locals := 0 }
theorem lk_J6_bitCount_0f7a4_c265 : Cond.constant RJ6 265 (1431655765) ∈ wsJ6_bitCount_0f7a4 := by decide +kernel
theorem lk_J6_bitCount_0f7a4_c266 : Cond.constant RJ6 266 (858993459) ∈ wsJ6_bitCount_0f7a4 := by decide +kernel
theorem lk_J6_bitCount_0f7a4_c267 : Cond.constant RJ6 267 (252645135) ∈ wsJ6_bitCount_0f7a4 := by decide +kernel
set_option maxHeartbeats 4000000 in
set_option maxRecDepth 100000 in
theorem wk_J6_bitCount_0f7a4 {p : Program} {l : Launch} {e : Env} {s : State} {m : MethodId} {args : Array Value} {below : List Frame} {meth : Method} {c : Code} {tw : Nat} {tt : Nat → Nat} (C0 : Cx p s m args meth c cJ6_bitCount_0f7a4 (some .int) 1 wsJ6_bitCount_0f7a4 RJ6) (hT0 : tW tw tt (fun _ => False) s s.heap) {q : Int32} (x0 : Int32) (ls : Array Slot) (hl : lv_has ls 1 [(0, .int x0)]) (h : fn_J6_bitCount_0f7a4 x0 = some q) : W p l e rm_J6_bitCount_0f7a4 s m args below meth c s.heap [] 0 0 (MQ below (HQ (some (.int q))) args s 0 0 (fun _ => False)) (F0 m 0 ls []) := by
  obtain ⟨hx, hb, hr, hml, hown, hts, hlocks⟩ := id C0
  have hS : va_S (fun _ => False) s.heap s.heap [] := va_S.rf
  unfold fn_J6_bitCount_0f7a4 at h
  refine lv_iload_n hx hb dJ6_bitCount_0f7a4_0 rfl (lv_at hl 0 rfl) ?_
  refine lv_iload_n hx hb dJ6_bitCount_0f7a4_1 rfl (lv_at hl 0 rfl) ?_
  refine lv_iconst (v := 1) hx hb dJ6_bitCount_0f7a4_2 (by decide) ?_
  refine lv_iushr (v := (ius x0 1)) hx hb dJ6_bitCount_0f7a4_3 rfl ?_
  refine lv_ldcw (v := 1431655765) hx hb hown (hts _ lk_J6_bitCount_0f7a4_c265) dJ6_bitCount_0f7a4_4 ?_
  refine lv_iand hx hb dJ6_bitCount_0f7a4_7 ?_
  refine lv_isub hx hb dJ6_bitCount_0f7a4_8 ?_
  refine lv_istore_n (lv' := [(0, .int (x0 - ((ius x0 1) &&& 1431655765)))]) hx hb dJ6_bitCount_0f7a4_9 rfl hl (by decide) rfl (fun ls hl => ?_)
  refine lv_iload_n hx hb dJ6_bitCount_0f7a4_10 rfl (lv_at hl 0 rfl) ?_
  refine lv_ldcw (v := 858993459) hx hb hown (hts _ lk_J6_bitCount_0f7a4_c266) dJ6_bitCount_0f7a4_11 ?_
  refine lv_iand hx hb dJ6_bitCount_0f7a4_14 ?_
  refine lv_iload_n hx hb dJ6_bitCount_0f7a4_15 rfl (lv_at hl 0 rfl) ?_
  refine lv_iconst (v := 2) hx hb dJ6_bitCount_0f7a4_16 (by decide) ?_
  refine lv_iushr (v := (ius (x0 - ((ius x0 1) &&& 1431655765)) 2)) hx hb dJ6_bitCount_0f7a4_17 rfl ?_
  refine lv_ldcw (v := 858993459) hx hb hown (hts _ lk_J6_bitCount_0f7a4_c266) dJ6_bitCount_0f7a4_18 ?_
  refine lv_iand hx hb dJ6_bitCount_0f7a4_21 ?_
  refine lv_iadd hx hb dJ6_bitCount_0f7a4_22 ?_
  refine lv_istore_n (lv' := [(0, .int (((x0 - ((ius x0 1) &&& 1431655765)) &&& 858993459) + ((ius (x0 - ((ius x0 1) &&& 1431655765)) 2) &&& 858993459)))]) hx hb dJ6_bitCount_0f7a4_23 rfl hl (by decide) rfl (fun ls hl => ?_)
  refine lv_iload_n hx hb dJ6_bitCount_0f7a4_24 rfl (lv_at hl 0 rfl) ?_
  refine lv_iload_n hx hb dJ6_bitCount_0f7a4_25 rfl (lv_at hl 0 rfl) ?_
  refine lv_iconst (v := 4) hx hb dJ6_bitCount_0f7a4_26 (by decide) ?_
  refine lv_iushr (v := (ius (((x0 - ((ius x0 1) &&& 1431655765)) &&& 858993459) + ((ius (x0 - ((ius x0 1) &&& 1431655765)) 2) &&& 858993459)) 4)) hx hb dJ6_bitCount_0f7a4_27 rfl ?_
  refine lv_iadd hx hb dJ6_bitCount_0f7a4_28 ?_
  refine lv_ldcw (v := 252645135) hx hb hown (hts _ lk_J6_bitCount_0f7a4_c267) dJ6_bitCount_0f7a4_29 ?_
  refine lv_iand hx hb dJ6_bitCount_0f7a4_32 ?_
  refine lv_istore_n (lv' := [(0, .int (((((x0 - ((ius x0 1) &&& 1431655765)) &&& 858993459) + ((ius (x0 - ((ius x0 1) &&& 1431655765)) 2) &&& 858993459)) + (ius (((x0 - ((ius x0 1) &&& 1431655765)) &&& 858993459) + ((ius (x0 - ((ius x0 1) &&& 1431655765)) 2) &&& 858993459)) 4)) &&& 252645135))]) hx hb dJ6_bitCount_0f7a4_33 rfl hl (by decide) rfl (fun ls hl => ?_)
  refine lv_iload_n hx hb dJ6_bitCount_0f7a4_34 rfl (lv_at hl 0 rfl) ?_
  refine lv_iload_n hx hb dJ6_bitCount_0f7a4_35 rfl (lv_at hl 0 rfl) ?_
  refine lv_bipush (v := 8) hx hb dJ6_bitCount_0f7a4_36 (by decide) ?_
  refine lv_iushr (v := (ius (((((x0 - ((ius x0 1) &&& 1431655765)) &&& 858993459) + ((ius (x0 - ((ius x0 1) &&& 1431655765)) 2) &&& 858993459)) + (ius (((x0 - ((ius x0 1) &&& 1431655765)) &&& 858993459) + ((ius (x0 - ((ius x0 1) &&& 1431655765)) 2) &&& 858993459)) 4)) &&& 252645135) 8)) hx hb dJ6_bitCount_0f7a4_38 rfl ?_
  refine lv_iadd hx hb dJ6_bitCount_0f7a4_39 ?_
  refine lv_istore_n (lv' := [(0, .int ((((((x0 - ((ius x0 1) &&& 1431655765)) &&& 858993459) + ((ius (x0 - ((ius x0 1) &&& 1431655765)) 2) &&& 858993459)) + (ius (((x0 - ((ius x0 1) &&& 1431655765)) &&& 858993459) + ((ius (x0 - ((ius x0 1) &&& 1431655765)) 2) &&& 858993459)) 4)) &&& 252645135) + (ius (((((x0 - ((ius x0 1) &&& 1431655765)) &&& 858993459) + ((ius (x0 - ((ius x0 1) &&& 1431655765)) 2) &&& 858993459)) + (ius (((x0 - ((ius x0 1) &&& 1431655765)) &&& 858993459) + ((ius (x0 - ((ius x0 1) &&& 1431655765)) 2) &&& 858993459)) 4)) &&& 252645135) 8)))]) hx hb dJ6_bitCount_0f7a4_40 rfl hl (by decide) rfl (fun ls hl => ?_)
  refine lv_iload_n hx hb dJ6_bitCount_0f7a4_41 rfl (lv_at hl 0 rfl) ?_
  refine lv_iload_n hx hb dJ6_bitCount_0f7a4_42 rfl (lv_at hl 0 rfl) ?_
  refine lv_bipush (v := 16) hx hb dJ6_bitCount_0f7a4_43 (by decide) ?_
  refine lv_iushr (v := (ius ((((((x0 - ((ius x0 1) &&& 1431655765)) &&& 858993459) + ((ius (x0 - ((ius x0 1) &&& 1431655765)) 2) &&& 858993459)) + (ius (((x0 - ((ius x0 1) &&& 1431655765)) &&& 858993459) + ((ius (x0 - ((ius x0 1) &&& 1431655765)) 2) &&& 858993459)) 4)) &&& 252645135) + (ius (((((x0 - ((ius x0 1) &&& 1431655765)) &&& 858993459) + ((ius (x0 - ((ius x0 1) &&& 1431655765)) 2) &&& 858993459)) + (ius (((x0 - ((ius x0 1) &&& 1431655765)) &&& 858993459) + ((ius (x0 - ((ius x0 1) &&& 1431655765)) 2) &&& 858993459)) 4)) &&& 252645135) 8)) 16)) hx hb dJ6_bitCount_0f7a4_45 rfl ?_
  refine lv_iadd hx hb dJ6_bitCount_0f7a4_46 ?_
  refine lv_istore_n (lv' := [(0, .int (((((((x0 - ((ius x0 1) &&& 1431655765)) &&& 858993459) + ((ius (x0 - ((ius x0 1) &&& 1431655765)) 2) &&& 858993459)) + (ius (((x0 - ((ius x0 1) &&& 1431655765)) &&& 858993459) + ((ius (x0 - ((ius x0 1) &&& 1431655765)) 2) &&& 858993459)) 4)) &&& 252645135) + (ius (((((x0 - ((ius x0 1) &&& 1431655765)) &&& 858993459) + ((ius (x0 - ((ius x0 1) &&& 1431655765)) 2) &&& 858993459)) + (ius (((x0 - ((ius x0 1) &&& 1431655765)) &&& 858993459) + ((ius (x0 - ((ius x0 1) &&& 1431655765)) 2) &&& 858993459)) 4)) &&& 252645135) 8)) + (ius ((((((x0 - ((ius x0 1) &&& 1431655765)) &&& 858993459) + ((ius (x0 - ((ius x0 1) &&& 1431655765)) 2) &&& 858993459)) + (ius (((x0 - ((ius x0 1) &&& 1431655765)) &&& 858993459) + ((ius (x0 - ((ius x0 1) &&& 1431655765)) 2) &&& 858993459)) 4)) &&& 252645135) + (ius (((((x0 - ((ius x0 1) &&& 1431655765)) &&& 858993459) + ((ius (x0 - ((ius x0 1) &&& 1431655765)) 2) &&& 858993459)) + (ius (((x0 - ((ius x0 1) &&& 1431655765)) &&& 858993459) + ((ius (x0 - ((ius x0 1) &&& 1431655765)) 2) &&& 858993459)) 4)) &&& 252645135) 8)) 16)))]) hx hb dJ6_bitCount_0f7a4_47 rfl hl (by decide) rfl (fun ls hl => ?_)
  refine lv_iload_n hx hb dJ6_bitCount_0f7a4_48 rfl (lv_at hl 0 rfl) ?_
  refine lv_bipush (v := 63) hx hb dJ6_bitCount_0f7a4_49 (by decide) ?_
  refine lv_iand hx hb dJ6_bitCount_0f7a4_51 ?_
  obtain rfl := Option.some.inj h
  exact hp_iret hx hb hr hlocks dJ6_bitCount_0f7a4_52
theorem ct_J6_bitCount_0f7a4 (l : Launch) (tw : Nat) (tt : Nat → Nat) (x0 : Int32) {q : Int32} (h : fn_J6_bitCount_0f7a4 x0 = some q) : Hp l yJ6_bitCount_0f7a4 wsJ6_bitCount_0f7a4 rm_J6_bitCount_0f7a4 [.int x0] (GP tw tt) (some (.int q)) := by
  refine Hp.of (cc := cJ6_bitCount_0f7a4) (nL := 1) (ret := (some .int)) (own := RJ6) (by decide) rfl rfl (Nat.le_of_ble_eq_true rfl) ?_
  intro p e s m below meth c ls C0 hB hl
  exact wk_J6_bitCount_0f7a4 C0 hB (hl := hl) (h := h)
abbrev rm_X4_widthOf : Room := { frames := 1, cells := 0, slots := 0, locals := 20 }
set_option maxHeartbeats 4000000 in
set_option maxRecDepth 100000 in
theorem wk_X4_widthOf {p : Program} {l : Launch} {e : Env} {s : State} {m : MethodId} {args : Array Value} {below : List Frame} {meth : Method} {c : Code} {tw : Nat} {tt : Nat → Nat} (C0 : Cx p s m args meth c cX4_widthOf (some .int) 1 wsX4_widthOf RX4) (hT0 : tW tw tt (fun _ => False) s s.heap) {q : Int32} (x0 : Int32) (ls : Array Slot) (hl : lv_has ls 1 [(0, .int x0)]) (h : fn_X4_widthOf x0 = some q) : W p l e rm_X4_widthOf s m args below meth c s.heap [] 0 0 (MQ below (HQ (some (.int q))) args s 0 0 (fun _ => False)) (F0 m 0 ls []) := by
  obtain ⟨hx, hb, hr, hml, hown, hts, hlocks⟩ := id C0
  have hS : va_S (fun _ => False) s.heap s.heap [] := va_S.rf
  unfold fn_X4_widthOf at h
  refine lv_iload_n hx hb dX4_widthOf_0 rfl (lv_at hl 0 rfl) ?_
  refine lv_if_ne (tgt := 8) hx hb dX4_widthOf_1 (by decide) (fun c1 => ?_) (fun c1 => ?_)
  · replace h := ite_f h c1
    refine lv_iload_n hx hb dX4_widthOf_8 rfl (lv_at hl 0 rfl) ?_
    obtain ⟨q9, e9, h⟩ := Option.bind_eq_some_iff.mp h
    refine hp_S (As := [.int x0]) (rest := []) ⟨hx, hb, hml, hown, hts⟩ (ct_J6_bitCount_0f7a4 l tw tt x0 e9) (va_cwS 1 hts gX4_widthOf_J6_bitCount_0f7a4 rfl rfl rfl (by decide +kernel) ⟨Nat.le_of_ble_eq_true rfl, Nat.le_of_ble_eq_true rfl⟩) GP.mv (GP.from hT0 hS) rfl hl.1 rfl (Nat.le_of_ble_eq_true rfl) dX4_widthOf_9 ⟨Nat.zero_le _, Nat.zero_le _⟩ ?_
    refine W.eq (g2 := F0 m 12 ls [.int q9]) rfl ?_
    obtain rfl := Option.some.inj h
    exact hp_iret hx hb hr hlocks dX4_widthOf_12
  · replace h := ite_t h c1
    refine lv_iconst (v := 1) hx hb dX4_widthOf_4 (by decide) ?_
    refine lv_goto (tgt := 12) hx hb dX4_widthOf_5 (by decide) ?_
    obtain rfl := Option.some.inj h
    exact hp_iret hx hb hr hlocks dX4_widthOf_12
theorem ct_X4_widthOf (l : Launch) (tw : Nat) (tt : Nat → Nat) (x0 : Int32) {q : Int32} (h : fn_X4_widthOf x0 = some q) : Hp l yX4_widthOf wsX4_widthOf rm_X4_widthOf [.int x0] (GP tw tt) (some (.int q)) := by
  refine Hp.of (cc := cX4_widthOf) (nL := 1) (ret := (some .int)) (own := RX4) (by decide) rfl rfl (Nat.le_of_ble_eq_true rfl) ?_
  intro p e s m below meth c ls C0 hB hl
  exact wk_X4_widthOf C0 hB (hl := hl) (h := h)
abbrev rm_X4_lengthOf : Room := { frames := 2, cells := 0, slots := 0, locals := 40 }
set_option maxHeartbeats 4000000 in
set_option maxRecDepth 100000 in
theorem wk_X4_lengthOf_12_body {p : Program} {l : Launch} {e : Env} {s : State} {m : MethodId} {args : Array Value} {below : List Frame} {meth : Method} {c : Code} {tw : Nat} {tt : Nat → Nat} (C0 : Cx p s m args meth c cX4_lengthOf (some .int) 4 wsX4_lengthOf RX4) (hT0 : tW tw tt (fun _ => False) s s.heap) {q : Int32} (k12 : Int64 → Int32 → Int32 → Option (Int32)) (hk12 : ∀ (x0 : Int64) (x2 : Int32) (x3 : Int32) (ls : Array Slot) (hl : lv_has ls 4 [(0, .long x0), (2, .int x2), (3, .int x3)]) (h : k12 x0 x2 x3 = some q), W p l e rm_X4_lengthOf s m args below meth c s.heap [] 0 0 (MQ below (HQ (some (.int q))) args s 0 0 (fun _ => False)) (F0 m 12 ls [])) (x0 : Int64) (x2 : Int32) (x3 : Int32) (ls : Array Slot) (hl : lv_has ls 4 [(0, .long x0), (2, .int x2), (3, .int x3)]) (h : fn_X4_lengthOf_12_body k12 x0 x2 x3 = some q) : W p l e rm_X4_lengthOf s m args below meth c s.heap [] 0 0 (MQ below (HQ (some (.int q))) args s 0 0 (fun _ => False)) (F0 m 12 ls []) := by
  obtain ⟨hx, hb, hr, hml, hown, hts, hlocks⟩ := id C0
  have hS : va_S (fun _ => False) s.heap s.heap [] := va_S.rf
  unfold fn_X4_lengthOf_12_body at h
  refine lv_iload_n hx hb dX4_lengthOf_12 rfl (lv_at hl 2 rfl) ?_
  refine lv_bipush (v := 64) hx hb dX4_lengthOf_13 (by decide) ?_
  refine lv_icmp_ge (tgt := 40) hx hb dX4_lengthOf_15 (by decide) (fun c15 => ?_) (fun c15 => ?_)
  · replace h := ite_t h c15
    refine lv_iload_n hx hb dX4_lengthOf_40 rfl (lv_at hl 1 rfl) ?_
    refine lv_lload_n hx hb dX4_lengthOf_41 rfl (lv_at hl 0 rfl) ?_
    obtain ⟨q42, e42, h⟩ := Option.bind_eq_some_iff.mp h
    refine hp_S (As := [.long x0]) (rest := [.int x2]) ⟨hx, hb, hml, hown, hts⟩ (ct_J13_bitCount_95d88 l tw tt x0 e42) (va_cwS 1 hts gX4_lengthOf_J13_bitCount_95d88 rfl rfl rfl (by decide +kernel) ⟨Nat.le_of_ble_eq_true rfl, Nat.le_of_ble_eq_true rfl⟩) GP.mv (GP.from hT0 hS) rfl hl.1 rfl (Nat.le_of_ble_eq_true rfl) dX4_lengthOf_42 ⟨Nat.zero_le _, Nat.zero_le _⟩ ?_
    refine W.eq (g2 := F0 m 45 ls [.int q42, .int x2]) rfl ?_
    refine lv_iadd hx hb dX4_lengthOf_45 ?_
    refine lv_iconst (v := 1) hx hb dX4_lengthOf_46 (by decide) ?_
    refine lv_isub hx hb dX4_lengthOf_47 ?_
    obtain rfl := Option.some.inj h
    exact hp_iret hx hb hr hlocks dX4_lengthOf_48
  · replace h := ite_f h c15
    refine lv_lload_n hx hb dX4_lengthOf_18 rfl (lv_at hl 0 rfl) ?_
    refine lv_iload_n hx hb dX4_lengthOf_19 rfl (lv_at hl 2 rfl) ?_
    obtain ⟨q20, e20, h⟩ := Option.bind_eq_some_iff.mp h
    refine hp_S (As := [.long x0, .int x3]) (rest := []) ⟨hx, hb, hml, hown, hts⟩ (ct_X3_bit l tw tt x0 x3 e20) (va_cwS 2 hts gX4_lengthOf_X3_bit rfl rfl rfl (by decide +kernel) ⟨Nat.le_of_ble_eq_true rfl, Nat.le_of_ble_eq_true rfl⟩) GP.mv (GP.from hT0 hS) rfl hl.1 rfl (Nat.le_of_ble_eq_true rfl) dX4_lengthOf_20 ⟨Nat.zero_le _, Nat.zero_le _⟩ ?_
    refine W.eq (g2 := F0 m 23 ls [.int q20]) rfl ?_
    refine lv_iconst (v := 1) hx hb dX4_lengthOf_23 (by decide) ?_
    refine lv_icmp_ne (tgt := 34) hx hb dX4_lengthOf_24 (by decide) (fun c24 => ?_) (fun c24 => ?_)
    · replace h := ite_f h c24
      refine lv_iinc (v := (x3 + 1)) (lv' := [(3, .int (x3 + 1)), (0, .long x0), (2, .int x2)]) hx hb dX4_lengthOf_34 hl (k := 2) rfl rfl (by decide) rfl (fun ls hl => ?_)
      refine lv_goto (tgt := 12) hx hb dX4_lengthOf_37 (by decide) ?_
      exact hk12 x0 x2 (x3 + 1) ls (lv_sub hl [1, 2, 0] rfl) h
    · replace h := ite_t h c24
      refine lv_iload_n hx hb dX4_lengthOf_27 rfl (lv_at hl 1 rfl) ?_
      refine lv_iload_n hx hb dX4_lengthOf_28 rfl (lv_at hl 2 rfl) ?_
      obtain ⟨q29, e29, h⟩ := Option.bind_eq_some_iff.mp h
      refine hp_S (As := [.int x3]) (rest := [.int x2]) ⟨hx, hb, hml, hown, hts⟩ (ct_X4_widthOf l tw tt x3 e29) (va_cwS 1 hts gX4_lengthOf_X4_widthOf rfl rfl rfl (by decide +kernel) ⟨Nat.le_of_ble_eq_true rfl, Nat.le_of_ble_eq_true rfl⟩) GP.mv (GP.from hT0 hS) rfl hl.1 rfl (Nat.le_of_ble_eq_true rfl) dX4_lengthOf_29 ⟨Nat.zero_le _, Nat.zero_le _⟩ ?_
      refine W.eq (g2 := F0 m 32 ls [.int q29, .int x2]) rfl ?_
      refine lv_iadd hx hb dX4_lengthOf_32 ?_
      refine lv_istore_n (lv' := [(2, .int (x2 + q29)), (0, .long x0), (3, .int x3)]) hx hb dX4_lengthOf_33 rfl hl (by decide) rfl (fun ls hl => ?_)
      refine lv_iinc (v := (x3 + 1)) (lv' := [(3, .int (x3 + 1)), (2, .int (x2 + q29)), (0, .long x0)]) hx hb dX4_lengthOf_34 hl (k := 2) rfl rfl (by decide) rfl (fun ls hl => ?_)
      refine lv_goto (tgt := 12) hx hb dX4_lengthOf_37 (by decide) ?_
      exact hk12 x0 (x2 + q29) (x3 + 1) ls (lv_sub hl [2, 1, 0] rfl) h
set_option maxHeartbeats 4000000 in
set_option maxRecDepth 100000 in
theorem wk_X4_lengthOf_12 {p : Program} {l : Launch} {e : Env} {s : State} {m : MethodId} {args : Array Value} {below : List Frame} {meth : Method} {c : Code} {tw : Nat} {tt : Nat → Nat} (C0 : Cx p s m args meth c cX4_lengthOf (some .int) 4 wsX4_lengthOf RX4) (hT0 : tW tw tt (fun _ => False) s s.heap) {q : Int32} : ∀ (n : Nat) (x0 : Int64) (x2 : Int32) (x3 : Int32) (ls : Array Slot) (hl : lv_has ls 4 [(0, .long x0), (2, .int x2), (3, .int x3)]) (h : fn_X4_lengthOf_12 n x0 x2 x3 = some q), W p l e rm_X4_lengthOf s m args below meth c s.heap [] 0 0 (MQ below (HQ (some (.int q))) args s 0 0 (fun _ => False)) (F0 m 12 ls []) := by
  intro n
  induction n with
  | zero => intro x0 x2 x3 ls hl h; unfold fn_X4_lengthOf_12 at h; cases h
  | succ n ih => intro x0 x2 x3 ls hl h; exact wk_X4_lengthOf_12_body C0 hT0 (k12 := fn_X4_lengthOf_12 n) (hk12 := ih) (hl := hl) (h := h)
set_option maxHeartbeats 4000000 in
set_option maxRecDepth 100000 in
theorem wk_X4_lengthOf {p : Program} {l : Launch} {e : Env} {s : State} {m : MethodId} {args : Array Value} {below : List Frame} {meth : Method} {c : Code} {tw : Nat} {tt : Nat → Nat} (C0 : Cx p s m args meth c cX4_lengthOf (some .int) 4 wsX4_lengthOf RX4) (hT0 : tW tw tt (fun _ => False) s s.heap) {q : Int32} (x0 : Int64) (ls : Array Slot) (hl : lv_has ls 4 [(0, .long x0)]) (h : fn_X4_lengthOf x0 = some q) : W p l e rm_X4_lengthOf s m args below meth c s.heap [] 0 0 (MQ below (HQ (some (.int q))) args s 0 0 (fun _ => False)) (F0 m 0 ls []) := by
  obtain ⟨hx, hb, hr, hml, hown, hts, hlocks⟩ := id C0
  have hS : va_S (fun _ => False) s.heap s.heap [] := va_S.rf
  unfold fn_X4_lengthOf at h
  refine lv_lload_n hx hb dX4_lengthOf_0 rfl (lv_at hl 0 rfl) ?_
  refine lv_lconst (v := 0) hx hb dX4_lengthOf_1 (by decide) ?_
  refine wl_ne (tgt := 8) hx hb dX4_lengthOf_2 dX4_lengthOf_3 (by decide) (fun c2 => ?_) (fun c2 => ?_)
  · replace h := ite_f h c2
    refine lv_iconst (v := 0) hx hb dX4_lengthOf_8 (by decide) ?_
    refine lv_istore_n (lv' := [(2, .int 0), (0, .long x0)]) hx hb dX4_lengthOf_9 rfl hl (by decide) rfl (fun ls hl => ?_)
    refine lv_iconst (v := 0) hx hb dX4_lengthOf_10 (by decide) ?_
    refine lv_istore_n (lv' := [(3, .int 0), (2, .int 0), (0, .long x0)]) hx hb dX4_lengthOf_11 rfl hl (by decide) rfl (fun ls hl => ?_)
    exact wk_X4_lengthOf_12 C0 hT0  FU x0 0 0 ls (lv_sub hl [2, 1, 0] rfl) h
  · replace h := ite_t h c2
    refine lv_iconst (v := 1) hx hb dX4_lengthOf_6 (by decide) ?_
    obtain rfl := Option.some.inj h
    exact hp_iret hx hb hr hlocks dX4_lengthOf_7
theorem ct_X4_lengthOf (l : Launch) (tw : Nat) (tt : Nat → Nat) (x0 : Int64) {q : Int32} (h : fn_X4_lengthOf x0 = some q) : Hp l yX4_lengthOf wsX4_lengthOf rm_X4_lengthOf [.long x0] (GP tw tt) (some (.int q)) := by
  refine Hp.of (cc := cX4_lengthOf) (nL := 4) (ret := (some .int)) (own := RX4) (by decide) rfl rfl (Nat.le_of_ble_eq_true rfl) ?_
  intro p e s m below meth c ls C0 hB hl
  exact wk_X4_lengthOf C0 hB (hl := hl) (h := h)
abbrev rm_X4_signOf : Room := { frames := 0, cells := 0, slots := 0, locals := 0 }
set_option maxHeartbeats 4000000 in
set_option maxRecDepth 100000 in
theorem wk_X4_signOf_4_body {p : Program} {l : Launch} {e : Env} {s : State} {m : MethodId} {args : Array Value} {below : List Frame} {meth : Method} {c : Code} {tw : Nat} {tt : Nat → Nat} (C0 : Cx p s m args meth c cX4_signOf (some .int) 4 wsX4_signOf RX4) (hT0 : tW tw tt (fun _ => False) s s.heap) {q : Int32} (k4 : Int32 → Int32 → Int32 → Option (Int32)) (hk4 : ∀ (x0 : Int32) (x2 : Int32) (x3 : Int32) (ls : Array Slot) (hl : lv_has ls 4 [(0, .int x0), (2, .int x2), (3, .int x3)]) (h : k4 x0 x2 x3 = some q), W p l e rm_X4_signOf s m args below meth c s.heap [] 0 0 (MQ below (HQ (some (.int q))) args s 0 0 (fun _ => False)) (F0 m 4 ls [])) (x0 : Int32) (x2 : Int32) (x3 : Int32) (ls : Array Slot) (hl : lv_has ls 4 [(0, .int x0), (2, .int x2), (3, .int x3)]) (h : fn_X4_signOf_4_body k4 x0 x2 x3 = some q) : W p l e rm_X4_signOf s m args below meth c s.heap [] 0 0 (MQ below (HQ (some (.int q))) args s 0 0 (fun _ => False)) (F0 m 4 ls []) := by
  obtain ⟨hx, hb, hr, hml, hown, hts, hlocks⟩ := id C0
  have hS : va_S (fun _ => False) s.heap s.heap [] := va_S.rf
  unfold fn_X4_signOf_4_body at h
  refine lv_iload_n hx hb dX4_signOf_4 rfl (lv_at hl 2 rfl) ?_
  refine lv_bipush (v := 6) hx hb dX4_signOf_5 (by decide) ?_
  refine lv_icmp_ge (tgt := 37) hx hb dX4_signOf_7 (by decide) (fun c7 => ?_) (fun c7 => ?_)
  · replace h := ite_t h c7
    refine lv_bipush (v := 49) hx hb dX4_signOf_37 (by decide) ?_
    obtain rfl := Option.some.inj h
    exact hp_iret hx hb hr hlocks dX4_signOf_39
  · replace h := ite_f h c7
    refine lv_iload_n hx hb dX4_signOf_10 rfl (lv_at hl 0 rfl) ?_
    refine lv_iload_n hx hb dX4_signOf_11 rfl (lv_at hl 2 rfl) ?_
    refine lv_ishr hx hb dX4_signOf_12 ?_
    refine lv_iconst (v := 1) hx hb dX4_signOf_13 (by decide) ?_
    refine lv_iand hx hb dX4_signOf_14 ?_
    refine lv_iconst (v := 1) hx hb dX4_signOf_15 (by decide) ?_
    refine lv_icmp_ne (tgt := 31) hx hb dX4_signOf_16 (by decide) (fun c16 => ?_) (fun c16 => ?_)
    · replace h := ite_f h c16
      refine lv_iinc (v := (x3 + 1)) (lv' := [(3, .int (x3 + 1)), (0, .int x0), (2, .int x2)]) hx hb dX4_signOf_31 hl (k := 2) rfl rfl (by decide) rfl (fun ls hl => ?_)
      refine lv_goto (tgt := 4) hx hb dX4_signOf_34 (by decide) ?_
      exact hk4 x0 x2 (x3 + 1) ls (lv_sub hl [1, 2, 0] rfl) h
    · replace h := ite_t h c16
      refine lv_iload_n hx hb dX4_signOf_19 rfl (lv_at hl 1 rfl) ?_
      refine lv_if_ne (tgt := 28) hx hb dX4_signOf_20 (by decide) (fun c20 => ?_) (fun c20 => ?_)
      · replace h := ite_f h c20
        refine lv_iinc (v := (x2 + (-1))) (lv' := [(2, .int (x2 + (-1))), (0, .int x0), (3, .int x3)]) hx hb dX4_signOf_28 hl (k := 1) rfl rfl (by decide) rfl (fun ls hl => ?_)
        refine lv_iinc (v := (x3 + 1)) (lv' := [(3, .int (x3 + 1)), (2, .int (x2 + (-1))), (0, .int x0)]) hx hb dX4_signOf_31 hl (k := 2) rfl rfl (by decide) rfl (fun ls hl => ?_)
        refine lv_goto (tgt := 4) hx hb dX4_signOf_34 (by decide) ?_
        exact hk4 x0 (x2 + (-1)) (x3 + 1) ls (lv_sub hl [2, 1, 0] rfl) h
      · replace h := ite_t h c20
        refine lv_bipush (v := 97) hx hb dX4_signOf_23 (by decide) ?_
        refine lv_iload_n hx hb dX4_signOf_25 rfl (lv_at hl 2 rfl) ?_
        refine lv_iadd hx hb dX4_signOf_26 ?_
        obtain rfl := Option.some.inj h
        exact hp_iret hx hb hr hlocks dX4_signOf_27
set_option maxHeartbeats 4000000 in
set_option maxRecDepth 100000 in
theorem wk_X4_signOf_4 {p : Program} {l : Launch} {e : Env} {s : State} {m : MethodId} {args : Array Value} {below : List Frame} {meth : Method} {c : Code} {tw : Nat} {tt : Nat → Nat} (C0 : Cx p s m args meth c cX4_signOf (some .int) 4 wsX4_signOf RX4) (hT0 : tW tw tt (fun _ => False) s s.heap) {q : Int32} : ∀ (n : Nat) (x0 : Int32) (x2 : Int32) (x3 : Int32) (ls : Array Slot) (hl : lv_has ls 4 [(0, .int x0), (2, .int x2), (3, .int x3)]) (h : fn_X4_signOf_4 n x0 x2 x3 = some q), W p l e rm_X4_signOf s m args below meth c s.heap [] 0 0 (MQ below (HQ (some (.int q))) args s 0 0 (fun _ => False)) (F0 m 4 ls []) := by
  intro n
  induction n with
  | zero => intro x0 x2 x3 ls hl h; unfold fn_X4_signOf_4 at h; cases h
  | succ n ih => intro x0 x2 x3 ls hl h; exact wk_X4_signOf_4_body C0 hT0 (k4 := fn_X4_signOf_4 n) (hk4 := ih) (hl := hl) (h := h)
set_option maxHeartbeats 4000000 in
set_option maxRecDepth 100000 in
theorem wk_X4_signOf {p : Program} {l : Launch} {e : Env} {s : State} {m : MethodId} {args : Array Value} {below : List Frame} {meth : Method} {c : Code} {tw : Nat} {tt : Nat → Nat} (C0 : Cx p s m args meth c cX4_signOf (some .int) 4 wsX4_signOf RX4) (hT0 : tW tw tt (fun _ => False) s s.heap) {q : Int32} (x0 : Int32) (x1 : Int32) (ls : Array Slot) (hl : lv_has ls 4 [(0, .int x0), (1, .int x1)]) (h : fn_X4_signOf x0 x1 = some q) : W p l e rm_X4_signOf s m args below meth c s.heap [] 0 0 (MQ below (HQ (some (.int q))) args s 0 0 (fun _ => False)) (F0 m 0 ls []) := by
  obtain ⟨hx, hb, hr, hml, hown, hts, hlocks⟩ := id C0
  have hS : va_S (fun _ => False) s.heap s.heap [] := va_S.rf
  unfold fn_X4_signOf at h
  refine lv_iload_n hx hb dX4_signOf_0 rfl (lv_at hl 1 rfl) ?_
  refine lv_istore_n (lv' := [(2, .int x1), (0, .int x0), (1, .int x1)]) hx hb dX4_signOf_1 rfl hl (by decide) rfl (fun ls hl => ?_)
  refine lv_iconst (v := 0) hx hb dX4_signOf_2 (by decide) ?_
  refine lv_istore_n (lv' := [(3, .int 0), (2, .int x1), (0, .int x0), (1, .int x1)]) hx hb dX4_signOf_3 rfl hl (by decide) rfl (fun ls hl => ?_)
  exact wk_X4_signOf_4 C0 hT0  FU x0 x1 0 ls (lv_sub hl [2, 1, 0] rfl) h
theorem ct_X4_signOf (l : Launch) (tw : Nat) (tt : Nat → Nat) (x0 : Int32) (x1 : Int32) {q : Int32} (h : fn_X4_signOf x0 x1 = some q) : Hp l yX4_signOf wsX4_signOf rm_X4_signOf [.int x0, .int x1] (GP tw tt) (some (.int q)) := by
  refine Hp.of (cc := cX4_signOf) (nL := 4) (ret := (some .int)) (own := RX4) (by decide) rfl rfl (Nat.le_of_ble_eq_true rfl) ?_
  intro p e s m below meth c ls C0 hB hl
  exact wk_X4_signOf C0 hB (hl := hl) (h := h)
abbrev rm_X4_characterOf : Room := { frames := 3, cells := 0, slots := 0, locals := 63 }
set_option maxHeartbeats 4000000 in
set_option maxRecDepth 100000 in
theorem wk_X4_characterOf_25_body {p : Program} {l : Launch} {e : Env} {s : State} {m : MethodId} {args : Array Value} {below : List Frame} {meth : Method} {c : Code} {tw : Nat} {tt : Nat → Nat} (C0 : Cx p s m args meth c cX4_characterOf (some .int) 7 wsX4_characterOf RX4) (hT0 : tW tw tt (fun _ => False) s s.heap) {q : Int32} (k25 : Int64 → Int32 → Int32 → Option (Int32)) (hk25 : ∀ (x0 : Int64) (x3 : Int32) (x4 : Int32) (ls : Array Slot) (hl : lv_has ls 7 [(0, .long x0), (3, .int x3), (4, .int x4)]) (h : k25 x0 x3 x4 = some q), W p l e rm_X4_characterOf s m args below meth c s.heap [] 0 0 (MQ below (HQ (some (.int q))) args s 0 0 (fun _ => False)) (F0 m 25 ls [])) (x0 : Int64) (x3 : Int32) (x4 : Int32) (ls : Array Slot) (hl : lv_has ls 7 [(0, .long x0), (3, .int x3), (4, .int x4)]) (h : fn_X4_characterOf_25_body k25 x0 x3 x4 = some q) : W p l e rm_X4_characterOf s m args below meth c s.heap [] 0 0 (MQ below (HQ (some (.int q))) args s 0 0 (fun _ => False)) (F0 m 25 ls []) := by
  obtain ⟨hx, hb, hr, hml, hown, hts, hlocks⟩ := id C0
  have hS : va_S (fun _ => False) s.heap s.heap [] := va_S.rf
  unfold fn_X4_characterOf_25_body at h
  refine lv_iload hx hb dX4_characterOf_25 (lv_at hl 2 rfl) ?_
  refine lv_bipush (v := 64) hx hb dX4_characterOf_27 (by decide) ?_
  refine lv_icmp_ge (tgt := 94) hx hb dX4_characterOf_29 (by decide) (fun c29 => ?_) (fun c29 => ?_)
  · replace h := ite_t h c29
    refine lv_bipush (v := (-4)) hx hb dX4_characterOf_94 (by decide) ?_
    obtain rfl := Option.some.inj h
    exact hp_iret hx hb hr hlocks dX4_characterOf_96
  · replace h := ite_f h c29
    refine lv_iconst (v := 0) hx hb dX4_characterOf_32 (by decide) ?_
    refine lv_iload hx hb dX4_characterOf_33 (lv_at hl 2 rfl) ?_
    obtain ⟨q35, e35, h⟩ := Option.bind_eq_some_iff.mp h
    refine hp_S (As := [.int 0, .int x4]) (rest := []) ⟨hx, hb, hml, hown, hts⟩ (ct_X2_monomialAt l tw tt 0 x4 e35) (va_cwS 2 hts gX4_characterOf_X2_monomialAt rfl rfl rfl (by decide +kernel) ⟨Nat.le_of_ble_eq_true rfl, Nat.le_of_ble_eq_true rfl⟩) GP.mv (GP.from hT0 hS) rfl hl.1 rfl (Nat.le_of_ble_eq_true rfl) dX4_characterOf_35 ⟨Nat.zero_le _, Nat.zero_le _⟩ ?_
    refine W.eq (g2 := F0 m 38 ls [.int q35]) rfl ?_
    refine lv_istore (lv' := [(5, .int q35), (0, .long x0), (3, .int x3), (4, .int x4)]) hx hb dX4_characterOf_38 hl (by decide) rfl (fun ls hl => ?_)
    refine lv_lload_n hx hb dX4_characterOf_40 rfl (lv_at hl 1 rfl) ?_
    refine lv_iload hx hb dX4_characterOf_41 (lv_at hl 0 rfl) ?_
    obtain ⟨q43, e43, h⟩ := Option.bind_eq_some_iff.mp h
    refine hp_S (As := [.long x0, .int q35]) (rest := []) ⟨hx, hb, hml, hown, hts⟩ (ct_X3_bit l tw tt x0 q35 e43) (va_cwS 2 hts gX4_characterOf_X3_bit rfl rfl rfl (by decide +kernel) ⟨Nat.le_of_ble_eq_true rfl, Nat.le_of_ble_eq_true rfl⟩) GP.mv (GP.from hT0 hS) rfl hl.1 rfl (Nat.le_of_ble_eq_true rfl) dX4_characterOf_43 ⟨Nat.zero_le _, Nat.zero_le _⟩ ?_
    refine W.eq (g2 := F0 m 46 ls [.int q43]) rfl ?_
    refine lv_iconst (v := 1) hx hb dX4_characterOf_46 (by decide) ?_
    refine lv_icmp_ne (tgt := 88) hx hb dX4_characterOf_47 (by decide) (fun c47 => ?_) (fun c47 => ?_)
    · replace h := ite_f h c47
      refine lv_iinc (v := (x4 + 1)) (lv' := [(4, .int (x4 + 1)), (5, .int q35), (0, .long x0), (3, .int x3)]) hx hb dX4_characterOf_88 hl (k := 3) rfl rfl (by decide) rfl (fun ls hl => ?_)
      refine lv_goto (tgt := 25) hx hb dX4_characterOf_91 (by decide) ?_
      exact hk25 x0 x3 (x4 + 1) ls (lv_sub hl [2, 3, 0] rfl) h
    · replace h := ite_t h c47
      refine lv_iload hx hb dX4_characterOf_50 (lv_at hl 0 rfl) ?_
      obtain ⟨q52, e52, h⟩ := Option.bind_eq_some_iff.mp h
      refine hp_S (As := [.int q35]) (rest := []) ⟨hx, hb, hml, hown, hts⟩ (ct_X4_widthOf l tw tt q35 e52) (va_cwS 1 hts gX4_characterOf_X4_widthOf rfl rfl rfl (by decide +kernel) ⟨Nat.le_of_ble_eq_true rfl, Nat.le_of_ble_eq_true rfl⟩) GP.mv (GP.from hT0 hS) rfl hl.1 rfl (Nat.le_of_ble_eq_true rfl) dX4_characterOf_52 ⟨Nat.zero_le _, Nat.zero_le _⟩ ?_
      refine W.eq (g2 := F0 m 55 ls [.int q52]) rfl ?_
      refine lv_istore (lv' := [(6, .int q52), (5, .int q35), (0, .long x0), (3, .int x3), (4, .int x4)]) hx hb dX4_characterOf_55 hl (by decide) rfl (fun ls hl => ?_)
      refine lv_iload_n hx hb dX4_characterOf_57 rfl (lv_at hl 3 rfl) ?_
      refine lv_iload hx hb dX4_characterOf_58 (lv_at hl 0 rfl) ?_
      refine lv_icmp_gt (tgt := 81) hx hb dX4_characterOf_60 (by decide) (fun c60 => ?_) (fun c60 => ?_)
      · replace h := ite_t h c60
        refine lv_iload_n hx hb dX4_characterOf_81 rfl (lv_at hl 3 rfl) ?_
        refine lv_iload hx hb dX4_characterOf_82 (lv_at hl 0 rfl) ?_
        refine lv_iconst (v := 1) hx hb dX4_characterOf_84 (by decide) ?_
        refine lv_iadd hx hb dX4_characterOf_85 ?_
        refine lv_isub hx hb dX4_characterOf_86 ?_
        refine lv_istore_n (lv' := [(3, .int (x3 - (q52 + 1))), (6, .int q52), (5, .int q35), (0, .long x0), (4, .int x4)]) hx hb dX4_characterOf_87 rfl hl (by decide) rfl (fun ls hl => ?_)
        refine lv_iinc (v := (x4 + 1)) (lv' := [(4, .int (x4 + 1)), (3, .int (x3 - (q52 + 1))), (6, .int q52), (5, .int q35), (0, .long x0)]) hx hb dX4_characterOf_88 hl (k := 4) rfl rfl (by decide) rfl (fun ls hl => ?_)
        refine lv_goto (tgt := 25) hx hb dX4_characterOf_91 (by decide) ?_
        exact hk25 x0 (x3 - (q52 + 1)) (x4 + 1) ls (lv_sub hl [4, 1, 0] rfl) h
      · replace h := ite_f h c60
        refine lv_iload_n hx hb dX4_characterOf_63 rfl (lv_at hl 3 rfl) ?_
        refine lv_iload hx hb dX4_characterOf_64 (lv_at hl 0 rfl) ?_
        refine lv_icmp_ne (tgt := 74) hx hb dX4_characterOf_66 (by decide) (fun c66 => ?_) (fun c66 => ?_)
        · replace h := ite_f h c66
          refine lv_iload hx hb dX4_characterOf_74 (lv_at hl 1 rfl) ?_
          refine lv_iload_n hx hb dX4_characterOf_76 rfl (lv_at hl 3 rfl) ?_
          obtain ⟨q77, e77, h⟩ := Option.bind_eq_some_iff.mp h
          refine hp_S (As := [.int q35, .int x3]) (rest := []) ⟨hx, hb, hml, hown, hts⟩ (ct_X4_signOf l tw tt q35 x3 e77) (va_cwS 2 hts gX4_characterOf_X4_signOf rfl rfl rfl (by decide +kernel) ⟨Nat.le_of_ble_eq_true rfl, Nat.le_of_ble_eq_true rfl⟩) GP.mv (GP.from hT0 hS) rfl hl.1 rfl (Nat.le_of_ble_eq_true rfl) dX4_characterOf_77 ⟨Nat.zero_le _, Nat.zero_le _⟩ ?_
          refine W.eq (g2 := F0 m 80 ls [.int q77]) rfl ?_
          obtain rfl := Option.some.inj h
          exact hp_iret hx hb hr hlocks dX4_characterOf_80
        · replace h := ite_t h c66
          refine lv_bipush (v := 43) hx hb dX4_characterOf_69 (by decide) ?_
          refine lv_goto (tgt := 80) hx hb dX4_characterOf_71 (by decide) ?_
          obtain rfl := Option.some.inj h
          exact hp_iret hx hb hr hlocks dX4_characterOf_80
set_option maxHeartbeats 4000000 in
set_option maxRecDepth 100000 in
theorem wk_X4_characterOf_25 {p : Program} {l : Launch} {e : Env} {s : State} {m : MethodId} {args : Array Value} {below : List Frame} {meth : Method} {c : Code} {tw : Nat} {tt : Nat → Nat} (C0 : Cx p s m args meth c cX4_characterOf (some .int) 7 wsX4_characterOf RX4) (hT0 : tW tw tt (fun _ => False) s s.heap) {q : Int32} : ∀ (n : Nat) (x0 : Int64) (x3 : Int32) (x4 : Int32) (ls : Array Slot) (hl : lv_has ls 7 [(0, .long x0), (3, .int x3), (4, .int x4)]) (h : fn_X4_characterOf_25 n x0 x3 x4 = some q), W p l e rm_X4_characterOf s m args below meth c s.heap [] 0 0 (MQ below (HQ (some (.int q))) args s 0 0 (fun _ => False)) (F0 m 25 ls []) := by
  intro n
  induction n with
  | zero => intro x0 x3 x4 ls hl h; unfold fn_X4_characterOf_25 at h; cases h
  | succ n ih => intro x0 x3 x4 ls hl h; exact wk_X4_characterOf_25_body C0 hT0 (k25 := fn_X4_characterOf_25 n) (hk25 := ih) (hl := hl) (h := h)
set_option maxHeartbeats 4000000 in
set_option maxRecDepth 100000 in
theorem wk_X4_characterOf {p : Program} {l : Launch} {e : Env} {s : State} {m : MethodId} {args : Array Value} {below : List Frame} {meth : Method} {c : Code} {tw : Nat} {tt : Nat → Nat} (C0 : Cx p s m args meth c cX4_characterOf (some .int) 7 wsX4_characterOf RX4) (hT0 : tW tw tt (fun _ => False) s s.heap) {q : Int32} (x0 : Int64) (x2 : Int32) (ls : Array Slot) (hl : lv_has ls 7 [(0, .long x0), (2, .int x2)]) (h : fn_X4_characterOf x0 x2 = some q) : W p l e rm_X4_characterOf s m args below meth c s.heap [] 0 0 (MQ below (HQ (some (.int q))) args s 0 0 (fun _ => False)) (F0 m 0 ls []) := by
  obtain ⟨hx, hb, hr, hml, hown, hts, hlocks⟩ := id C0
  have hS : va_S (fun _ => False) s.heap s.heap [] := va_S.rf
  unfold fn_X4_characterOf at h
  refine lv_iload_n hx hb dX4_characterOf_0 rfl (lv_at hl 1 rfl) ?_
  refine lv_lload_n hx hb dX4_characterOf_1 rfl (lv_at hl 0 rfl) ?_
  obtain ⟨q2, e2, h⟩ := Option.bind_eq_some_iff.mp h
  refine hp_S (As := [.long x0]) (rest := [.int x2]) ⟨hx, hb, hml, hown, hts⟩ (ct_X4_lengthOf l tw tt x0 e2) (va_cwS 1 hts gX4_characterOf_X4_lengthOf rfl rfl rfl (by decide +kernel) ⟨Nat.le_of_ble_eq_true rfl, Nat.le_of_ble_eq_true rfl⟩) GP.mv (GP.from hT0 hS) rfl hl.1 rfl (Nat.le_of_ble_eq_true rfl) dX4_characterOf_2 ⟨Nat.zero_le _, Nat.zero_le _⟩ ?_
  refine W.eq (g2 := F0 m 5 ls [.int q2, .int x2]) rfl ?_
  refine lv_icmp_lt (tgt := 11) hx hb dX4_characterOf_5 (by decide) (fun c5 => ?_) (fun c5 => ?_)
  · replace h := ite_t h c5
    refine lv_lload_n hx hb dX4_characterOf_11 rfl (lv_at hl 0 rfl) ?_
    refine lv_lconst (v := 0) hx hb dX4_characterOf_12 (by decide) ?_
    refine wl_ne (tgt := 20) hx hb dX4_characterOf_13 dX4_characterOf_14 (by decide) (fun c13 => ?_) (fun c13 => ?_)
    · replace h := ite_f h c13
      refine lv_iload_n hx hb dX4_characterOf_20 rfl (lv_at hl 1 rfl) ?_
      refine lv_istore_n (lv' := [(3, .int x2), (0, .long x0), (2, .int x2)]) hx hb dX4_characterOf_21 rfl hl (by decide) rfl (fun ls hl => ?_)
      refine lv_iconst (v := 0) hx hb dX4_characterOf_22 (by decide) ?_
      refine lv_istore (lv' := [(4, .int 0), (3, .int x2), (0, .long x0), (2, .int x2)]) hx hb dX4_characterOf_23 hl (by decide) rfl (fun ls hl => ?_)
      exact wk_X4_characterOf_25 C0 hT0  FU x0 x2 0 ls (lv_sub hl [2, 1, 0] rfl) h
    · replace h := ite_t h c13
      refine lv_bipush (v := 48) hx hb dX4_characterOf_17 (by decide) ?_
      obtain rfl := Option.some.inj h
      exact hp_iret hx hb hr hlocks dX4_characterOf_19
  · replace h := ite_f h c5
    refine lv_bipush (v := (-4)) hx hb dX4_characterOf_8 (by decide) ?_
    obtain rfl := Option.some.inj h
    exact hp_iret hx hb hr hlocks dX4_characterOf_10
theorem ct_X4_characterOf (l : Launch) (tw : Nat) (tt : Nat → Nat) (x0 : Int64) (x2 : Int32) {q : Int32} (h : fn_X4_characterOf x0 x2 = some q) : Hp l yX4_characterOf wsX4_characterOf rm_X4_characterOf [.long x0, .int x2] (GP tw tt) (some (.int q)) := by
  refine Hp.of (cc := cX4_characterOf) (nL := 7) (ret := (some .int)) (own := RX4) (by decide) rfl rfl (Nat.le_of_ble_eq_true rfl) ?_
  intro p e s m below meth c ls C0 hB hl
  exact wk_X4_characterOf C0 hB (hl := hl) (h := h)
abbrev rm_X5_append : Room := { frames := 0, cells := 0, slots := 0, locals := 0 }
theorem lk_X5_append_f15 : Cond.fieldLink RX5 15 "BooleanRing$Typed" "length" "I" ∈ wsX5_append := by decide +kernel
theorem lk_X5_append_f11 : Cond.fieldLink RX5 11 "BooleanRing$Typed" "text" "[C" ∈ wsX5_append := by decide +kernel
theorem ly_X5_append_X5 : ∀ w ∈ wsX50, w ∈ wsX5_append := by decide +kernel
set_option maxHeartbeats 4000000 in
set_option maxRecDepth 100000 in
theorem wk_X5_append {p : Program} {l : Launch} {e : Env} {s : State} {m : MethodId} {args : Array Value} {below : List Frame} {meth : Method} {c : Code} {D : va_G} {ca : Nat → ClassId} {a : Nat → Nat} {tw : Nat} {tt : Nat → Nat} (C0 : Cx p s m args meth c cX5_append (some .int) 2 wsX5_append RX5) (hap : ap_ok 9 a) (hK : va_K D vwCl (tys3 ca) s) (hT0 : tW tw tt (ad_of 9 a) s s.heap) {q : Int32 × XS} (v : XS) (H : Heap) (locs : List Loc) (x1 : Int32) (ls : Array Slot) (hP : va_P D vwCl (XW ca a v) H) (hS : va_S (ad_of 9 a) s.heap H locs) (hl : lv_has ls 2 [(0, .ref (a 7)), (1, .int x1)]) (h : fn_X5_append v x1 = some q) : W p l e rm_X5_append s m args below meth c H locs 0 0 (MQ below (PQ (some (.int q.1)) (fun H => va_P D vwCl (XW ca a q.2) H) (ad_of 9 a)) args s 0 0 (ad_of 9 a)) (F0 m 0 ls []) := by
  obtain ⟨hx, hb, hr, hml, hown, hts, hlocks⟩ := id C0
  have hD0 := fun v => XW_D (ca := ca) hap v
  unfold fn_X5_append at h
  refine lv_aload_n hx hb dX5_append_0 rfl (lv_at hl 0 rfl) ?_
  refine va_get (D := D) (ci := 2) (v := .int (x_len v)) (C := RX5) (T := TX5) (N := 2) hx hb hts ly_X5_append_X5 hown hK hP 7 rfl rfl 1 (by decide) (hts _ lk_X5_append_f15) (fun _ h9 => h9) rfl dX5_append_1 ?_
  refine lv_if_lt (tgt := 16) hx hb dX5_append_4 (by decide) (fun c4 => ?_) (fun c4 => ?_)
  · replace h := ite_t h c4
    refine lv_bipush (v := (-3)) hx hb dX5_append_16 (by decide) ?_
    obtain rfl := Option.some.inj h
    exact mp_iret hx hb hr hlocks hP hS dX5_append_18
  · replace h := ite_f h c4
    refine lv_aload_n hx hb dX5_append_7 rfl (lv_at hl 0 rfl) ?_
    refine va_get (D := D) (ci := 2) (v := .int (x_len v)) (C := RX5) (T := TX5) (N := 2) hx hb hts ly_X5_append_X5 hown hK hP 7 rfl rfl 1 (by decide) (hts _ lk_X5_append_f15) (fun _ h9 => h9) rfl dX5_append_8 ?_
    refine lv_bipush (v := 60) hx hb dX5_append_11 (by decide) ?_
    refine lv_icmp_lt (tgt := 19) hx hb dX5_append_13 (by decide) (fun c13 => ?_) (fun c13 => ?_)
    · replace h := ite_t h c13
      refine lv_aload_n hx hb dX5_append_19 rfl (lv_at hl 0 rfl) ?_
      refine va_get (D := D) (ci := 2) (v := .ref (a 8)) (C := RX5) (T := TX5) (N := 2) hx hb hts ly_X5_append_X5 hown hK hP 7 rfl rfl 0 (by decide) (hts _ lk_X5_append_f11) (fun _ h9 => h9) rfl dX5_append_20 ?_
      refine lv_aload_n hx hb dX5_append_23 rfl (lv_at hl 0 rfl) ?_
      refine va_get (D := D) (ci := 2) (v := .int (x_len v)) (C := RX5) (T := TX5) (N := 2) hx hb hts ly_X5_append_X5 hown hK hP 7 rfl rfl 1 (by decide) (hts _ lk_X5_append_f15) (fun _ h9 => h9) rfl dX5_append_24 ?_
      refine lv_iload_n hx hb dX5_append_27 rfl (lv_at hl 1 rfl) ?_
      obtain ⟨g28, e28, h⟩ := Option.bind_eq_some_iff.mp h
      refine wr_cast hx hb hK hP (hD0 v) hS 8 2 e28 rfl rfl dX5_append_28 (fun H locs hP hS => ?_)
      have hP : va_P D vwCl (XW ca a (xs_text v g28)) H := hP
      refine lv_aload_n hx hb dX5_append_29 rfl (lv_at hl 0 rfl) ?_
      refine lv_dup hx hb dX5_append_30 rfl ?_
      refine va_get (D := D) (ci := 2) (v := .int (x_len v)) (C := RX5) (T := TX5) (N := 2) hx hb hts ly_X5_append_X5 hown hK hP 7 rfl rfl 1 (by decide) (hts _ lk_X5_append_f15) (fun _ h9 => h9) rfl dX5_append_31 ?_
      refine lv_iconst (v := 1) hx hb dX5_append_34 (by decide) ?_
      refine lv_iadd hx hb dX5_append_35 ?_
      refine va_put (D := D) (ci := 2) (v := .int ((x_len v) + 1)) (ty := .int) (C := RX5) (T := TX5) (N := 2) hx hb hts ly_X5_append_X5 tyX5 tyX5_ok nmX5 hown hK hP (hD0 (xs_text v g28)) hS 7 rfl rfl 1 (by decide) (hts _ lk_X5_append_f15) (fun _ h9 => h9) rfl (by decide +kernel) rfl rfl (Nat.le_of_ble_eq_true rfl) dX5_append_36 (fun H locs hP _ hS => ?_)
      have hP : va_P D vwCl (XW ca a (xs_text (xs_len v ((x_len v) + 1)) g28)) H := hP
      refine lv_aload_n hx hb dX5_append_39 rfl (lv_at hl 0 rfl) ?_
      refine va_get (D := D) (ci := 2) (v := .int ((x_len v) + 1)) (C := RX5) (T := TX5) (N := 2) hx hb hts ly_X5_append_X5 hown hK hP 7 rfl rfl 1 (by decide) (hts _ lk_X5_append_f15) (fun _ h9 => h9) rfl dX5_append_40 ?_
      obtain rfl := Option.some.inj h
      exact mp_iret hx hb hr hlocks hP hS dX5_append_43
    · replace h := ite_f h c13
      refine lv_bipush (v := (-3)) hx hb dX5_append_16 (by decide) ?_
      obtain rfl := Option.some.inj h
      exact mp_iret hx hb hr hlocks hP hS dX5_append_18
theorem ct_X5_append (l : Launch) (D : va_G) (ca : Nat → ClassId) (a : Nat → Nat) (tw : Nat) (tt : Nat → Nat) (hap : ap_ok 9 a) (v : XS) (x1 : Int32) {q : Int32 × XS} (h : fn_X5_append v x1 = some q) : Mp l yX5_append wsX5_append rm_X5_append [.ref (a 7), .int x1] (GW D ca tw tt (ad_of 9 a) (XW ca a v)) (some (.int q.1)) (fun H => va_P D vwCl (XW ca a q.2) H) (ad_of 9 a) := by
  refine Mp.of (cc := cX5_append) (nL := 2) (ret := (some .int)) (own := RX5) (by decide) rfl rfl (Nat.le_of_ble_eq_true rfl) ?_
  intro p e s m below meth c ls C0 hB hl
  exact wk_X5_append C0 hap hB.2.1 hB.2.2 (hP := hB.1) (hS := va_S.rf) (hl := hl) (h := h)
