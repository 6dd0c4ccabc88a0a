/-! by program (gen.py): the machine does what the functions say -/
abbrev rm_X7_spreads : Room := { frames := 3, cells := 0, slots := 0, locals := 70 }
theorem lk_X7_spreads_f80 : Cond.fieldLink RX7 80 "BooleanRingModel" "founds" "I" ∈ wsX7_spreads := by decide +kernel
theorem lk_X7_spreads_f24 : Cond.fieldLink RX7 24 "BooleanRingModel" "found" "[J" ∈ wsX7_spreads := by decide +kernel
theorem ly_X7_spreads_X7 : ∀ w ∈ wsX70, w ∈ wsX7_spreads := by decide +kernel
set_option maxHeartbeats 4000000 in
set_option maxRecDepth 100000 in
theorem wk_X7_spreads_12_body {p : Program} {l : Launch} {e : Env} {s : State} {m : MethodId} {args : Array Value} {below : List Frame} {meth : Method} {c : Code} {D : va_G} {ca : Nat → ClassId} {b : Nat → Nat} {tw : Nat} {tt : Nat → Nat} (C0 : Cx p s m args meth c cX7_spreads (some .int) 3 wsX7_spreads RX7) (hap : ap_ok 6 b) (hK : va_K D vwCl (tys3 ca) s) (hT0 : tW tw tt (ad_of 6 b) s s.heap) {q : Int32 × YS} (k2 : YS → Int32 → Option (Int32 × YS)) (k12 : YS → Int32 → Int32 → Option (Int32 × YS)) (hk2 : ∀ (v : YS) (H : Heap) (locs : List Loc) (x1 : Int32) (ls : Array Slot) (hP : va_P D vwCl (YW ca b v) H) (hS : va_S (ad_of 6 b) s.heap H locs) (hl : lv_has ls 3 [(0, .ref (b 0)), (1, .int x1)]) (h : k2 v x1 = some q), W p l e rm_X7_spreads s m args below meth c H locs 0 0 (MQ below (PQ (some (.int q.1)) (fun H => va_P D vwCl (YW ca b q.2) H) (ad_of 6 b)) args s 0 0 (ad_of 6 b)) (F0 m 2 ls [])) (hk12 : ∀ (v : YS) (H : Heap) (locs : List Loc) (x1 : Int32) (x2 : Int32) (ls : Array Slot) (hP : va_P D vwCl (YW ca b v) H) (hS : va_S (ad_of 6 b) s.heap H locs) (hl : lv_has ls 3 [(0, .ref (b 0)), (1, .int x1), (2, .int x2)]) (h : k12 v x1 x2 = some q), W p l e rm_X7_spreads s m args below meth c H locs 0 0 (MQ below (PQ (some (.int q.1)) (fun H => va_P D vwCl (YW ca b q.2) H) (ad_of 6 b)) args s 0 0 (ad_of 6 b)) (F0 m 12 ls [])) (v : YS) (H : Heap) (locs : List Loc) (x1 : Int32) (x2 : Int32) (ls : Array Slot) (hP : va_P D vwCl (YW ca b v) H) (hS : va_S (ad_of 6 b) s.heap H locs) (hl : lv_has ls 3 [(0, .ref (b 0)), (1, .int x1), (2, .int x2)]) (h : fn_X7_spreads_12_body k2 k12 v x1 x2 = some q) : W p l e rm_X7_spreads s m args below meth c H locs 0 0 (MQ below (PQ (some (.int q.1)) (fun H => va_P D vwCl (YW ca b q.2) H) (ad_of 6 b)) args s 0 0 (ad_of 6 b)) (F0 m 12 ls []) := by
  obtain ⟨hx, hb, hr, hml, hown, hts, hlocks⟩ := id C0
  have hD0 := fun v => YW_D (ca := ca) hap v
  unfold fn_X7_spreads_12_body at h
  refine lv_aload_n hx hb dX7_spreads_12 rfl (lv_at hl 0 rfl) ?_
  refine lv_aload_n hx hb dX7_spreads_13 rfl (lv_at hl 0 rfl) ?_
  refine va_get (D := D) (ci := 4) (v := .ref (b 4)) (C := RX7) (T := TX7) (N := 9) hx hb hts ly_X7_spreads_X7 hown hK hP 0 rfl rfl 6 (by decide) (hts _ lk_X7_spreads_f24) (fun _ h9 => h9) rfl dX7_spreads_14 ?_
  refine lv_iload_n hx hb dX7_spreads_17 rfl (lv_at hl 1 rfl) ?_
  obtain ⟨q18, e18, h⟩ := Option.bind_eq_some_iff.mp h
  refine rd_lald hx hb hK hP 4 0 e18 rfl rfl dX7_spreads_18 ?_
  obtain ⟨q19, e19, h⟩ := Option.bind_eq_some_iff.mp h
  refine hp_V (As := [.long q18]) (rest := []) (b := (b 0)) ⟨hx, hb, hml, hown, hts⟩ (ct_X7_occurs l D ca b tw tt v q18 e19) (cwV 1 hts gX7_spreads_X7_occurs rfl rfl rfl (by decide +kernel) ⟨Nat.le_of_ble_eq_true rfl, Nat.le_of_ble_eq_true rfl⟩) (va_recv hK hP (ci := 4) (q0 := 0) rfl rfl) GW.mv (GW.from hP hK hT0 hS) rfl hl.1 rfl (Nat.le_of_ble_eq_true rfl) dX7_spreads_19 ⟨Nat.zero_le _, Nat.zero_le _⟩ ?_
  refine W.eq (g2 := F0 m 22 ls [.int q19]) rfl ?_
  refine lv_iload_n hx hb dX7_spreads_22 rfl (lv_at hl 2 rfl) ?_
  refine lv_ishr hx hb dX7_spreads_23 ?_
  refine lv_iconst (v := 1) hx hb dX7_spreads_24 (by decide) ?_
  refine lv_iand hx hb dX7_spreads_25 ?_
  refine lv_if_ne (tgt := 35) hx hb dX7_spreads_26 (by decide) (fun c26 => ?_) (fun c26 => ?_)
  · replace h := ite_f h c26
    refine lv_aload_n hx hb dX7_spreads_35 rfl (lv_at hl 0 rfl) ?_
    refine lv_aload_n hx hb dX7_spreads_36 rfl (lv_at hl 0 rfl) ?_
    refine lv_aload_n hx hb dX7_spreads_37 rfl (lv_at hl 0 rfl) ?_
    refine va_get (D := D) (ci := 4) (v := .ref (b 4)) (C := RX7) (T := TX7) (N := 9) hx hb hts ly_X7_spreads_X7 hown hK hP 0 rfl rfl 6 (by decide) (hts _ lk_X7_spreads_f24) (fun _ h9 => h9) rfl dX7_spreads_38 ?_
    refine lv_iload_n hx hb dX7_spreads_41 rfl (lv_at hl 1 rfl) ?_
    obtain ⟨q42, e42, h⟩ := Option.bind_eq_some_iff.mp h
    refine rd_lald hx hb hK hP 4 0 e42 rfl rfl dX7_spreads_42 ?_
    refine lv_iload_n hx hb dX7_spreads_43 rfl (lv_at hl 2 rfl) ?_
    obtain ⟨q44, e44, h⟩ := Option.bind_eq_some_iff.mp h
    refine hp_V (As := [.long q42, .int x2]) (rest := [.ref (b 0)]) (b := (b 0)) ⟨hx, hb, hml, hown, hts⟩ (ct_X7_upper l D ca b tw tt v q42 x2 e44) (cwV 2 hts gX7_spreads_X7_upper rfl rfl rfl (by decide +kernel) ⟨Nat.le_of_ble_eq_true rfl, Nat.le_of_ble_eq_true rfl⟩) (va_recv hK hP (ci := 4) (q0 := 0) rfl rfl) GW.mv (GW.from hP hK hT0 hS) rfl hl.1 rfl (Nat.le_of_ble_eq_true rfl) dX7_spreads_44 ⟨Nat.zero_le _, Nat.zero_le _⟩ ?_
    refine W.eq (g2 := F0 m 47 ls [.long q44, .ref (b 0)]) rfl ?_
    obtain ⟨q47, e47, h⟩ := Option.bind_eq_some_iff.mp h
    refine mp_V (As := [.long q44]) (rest := []) (b := (b 0)) ⟨hx, hb, hml, hown, hts⟩ (ct_X7_notes l D ca b tw tt hap v q44 e47) (cwV 1 hts gX7_spreads_X7_notes rfl rfl rfl (by decide +kernel) ⟨Nat.le_of_ble_eq_true rfl, Nat.le_of_ble_eq_true rfl⟩) (va_recv hK hP (ci := 4) (q0 := 0) rfl rfl) GW.mv (GW.from hP hK hT0 hS) hS rfl hl.1 rfl (Nat.le_of_ble_eq_true rfl) dX7_spreads_47 ⟨Nat.zero_le _, Nat.zero_le _⟩ (fun H locs hP hS => ?_)
    refine W.eq (g2 := F0 m 50 ls []) rfl ?_
    refine lv_aload_n hx hb dX7_spreads_50 rfl (lv_at hl 0 rfl) ?_
    refine lv_aload_n hx hb dX7_spreads_51 rfl (lv_at hl 0 rfl) ?_
    refine lv_aload_n hx hb dX7_spreads_52 rfl (lv_at hl 0 rfl) ?_
    refine va_get (D := D) (ci := 4) (v := .ref (b 4)) (C := RX7) (T := TX7) (N := 9) hx hb hts ly_X7_spreads_X7 hown hK hP 0 rfl rfl 6 (by decide) (hts _ lk_X7_spreads_f24) (fun _ h9 => h9) rfl dX7_spreads_53 ?_
    refine lv_iload_n hx hb dX7_spreads_56 rfl (lv_at hl 1 rfl) ?_
    obtain ⟨q57, e57, h⟩ := Option.bind_eq_some_iff.mp h
    refine rd_lald hx hb hK hP 4 0 e57 rfl rfl dX7_spreads_57 ?_
    refine lv_iload_n hx hb dX7_spreads_58 rfl (lv_at hl 2 rfl) ?_
    obtain ⟨q59, e59, h⟩ := Option.bind_eq_some_iff.mp h
    refine hp_V (As := [.long q57, .int x2]) (rest := [.ref (b 0)]) (b := (b 0)) ⟨hx, hb, hml, hown, hts⟩ (ct_X7_lower l D ca b tw tt q47 q57 x2 e59) (cwV 2 hts gX7_spreads_X7_lower rfl rfl rfl (by decide +kernel) ⟨Nat.le_of_ble_eq_true rfl, Nat.le_of_ble_eq_true rfl⟩) (va_recv hK hP (ci := 4) (q0 := 0) rfl rfl) GW.mv (GW.from hP hK hT0 hS) rfl hl.1 rfl (Nat.le_of_ble_eq_true rfl) dX7_spreads_59 ⟨Nat.zero_le _, Nat.zero_le _⟩ ?_
    refine W.eq (g2 := F0 m 62 ls [.long q59, .ref (b 0)]) rfl ?_
    obtain ⟨q62, e62, h⟩ := Option.bind_eq_some_iff.mp h
    refine mp_V (As := [.long q59]) (rest := []) (b := (b 0)) ⟨hx, hb, hml, hown, hts⟩ (ct_X7_notes l D ca b tw tt hap q47 q59 e62) (cwV 1 hts gX7_spreads_X7_notes rfl rfl rfl (by decide +kernel) ⟨Nat.le_of_ble_eq_true rfl, Nat.le_of_ble_eq_true rfl⟩) (va_recv hK hP (ci := 4) (q0 := 0) rfl rfl) GW.mv (GW.from hP hK hT0 hS) hS rfl hl.1 rfl (Nat.le_of_ble_eq_true rfl) dX7_spreads_62 ⟨Nat.zero_le _, Nat.zero_le _⟩ (fun H locs hP hS => ?_)
    refine W.eq (g2 := F0 m 65 ls []) rfl ?_
    refine lv_iinc (v := (x1 + 1)) (lv' := [(1, .int (x1 + 1)), (0, .ref (b 0)), (2, .int x2)]) hx hb dX7_spreads_65 hl (k := 1) rfl rfl (by decide) rfl (fun ls hl => ?_)
    refine lv_goto (tgt := 2) hx hb dX7_spreads_68 (by decide) ?_
    exact hk2 q62 H locs (x1 + 1) ls hP hS (lv_sub hl [1, 0] rfl) h
  · replace h := ite_t h c26
    refine lv_iinc (v := (x2 + 1)) (lv' := [(2, .int (x2 + 1)), (0, .ref (b 0)), (1, .int x1)]) hx hb dX7_spreads_29 hl (k := 2) rfl rfl (by decide) rfl (fun ls hl => ?_)
    refine lv_goto (tgt := 12) hx hb dX7_spreads_32 (by decide) ?_
    exact hk12 v H locs x1 (x2 + 1) ls hP hS (lv_sub hl [1, 2, 0] rfl) h
set_option maxHeartbeats 4000000 in
set_option maxRecDepth 100000 in
theorem wk_X7_spreads_12 {p : Program} {l : Launch} {e : Env} {s : State} {m : MethodId} {args : Array Value} {below : List Frame} {meth : Method} {c : Code} {D : va_G} {ca : Nat → ClassId} {b : Nat → Nat} {tw : Nat} {tt : Nat → Nat} (C0 : Cx p s m args meth c cX7_spreads (some .int) 3 wsX7_spreads RX7) (hap : ap_ok 6 b) (hK : va_K D vwCl (tys3 ca) s) (hT0 : tW tw tt (ad_of 6 b) s s.heap) {q : Int32 × YS} (k2 : YS → Int32 → Option (Int32 × YS)) (hk2 : ∀ (v : YS) (H : Heap) (locs : List Loc) (x1 : Int32) (ls : Array Slot) (hP : va_P D vwCl (YW ca b v) H) (hS : va_S (ad_of 6 b) s.heap H locs) (hl : lv_has ls 3 [(0, .ref (b 0)), (1, .int x1)]) (h : k2 v x1 = some q), W p l e rm_X7_spreads s m args below meth c H locs 0 0 (MQ below (PQ (some (.int q.1)) (fun H => va_P D vwCl (YW ca b q.2) H) (ad_of 6 b)) args s 0 0 (ad_of 6 b)) (F0 m 2 ls [])) : ∀ (n : Nat) (v : YS) (H : Heap) (locs : List Loc) (x1 : Int32) (x2 : Int32) (ls : Array Slot) (hP : va_P D vwCl (YW ca b v) H) (hS : va_S (ad_of 6 b) s.heap H locs) (hl : lv_has ls 3 [(0, .ref (b 0)), (1, .int x1), (2, .int x2)]) (h : fn_X7_spreads_12 k2 n v x1 x2 = some q), W p l e rm_X7_spreads s m args below meth c H locs 0 0 (MQ below (PQ (some (.int q.1)) (fun H => va_P D vwCl (YW ca b q.2) H) (ad_of 6 b)) args s 0 0 (ad_of 6 b)) (F0 m 12 ls []) := by
  intro n
  induction n with
  | zero => intro v H locs x1 x2 ls hP hS hl h; unfold fn_X7_spreads_12 at h; cases h
  | succ n ih => intro v H locs x1 x2 ls hP hS hl h; exact wk_X7_spreads_12_body C0 hap hK hT0 (k2 := k2) (hk2 := hk2) (k12 := fn_X7_spreads_12 k2 n) (hk12 := ih) (hl := hl) (hP := hP) (hS := hS) (h := h)
set_option maxHeartbeats 4000000 in
set_option maxRecDepth 100000 in
theorem wk_X7_spreads_2_body {p : Program} {l : Launch} {e : Env} {s : State} {m : MethodId} {args : Array Value} {below : List Frame} {meth : Method} {c : Code} {D : va_G} {ca : Nat → ClassId} {b : Nat → Nat} {tw : Nat} {tt : Nat → Nat} (C0 : Cx p s m args meth c cX7_spreads (some .int) 3 wsX7_spreads RX7) (hap : ap_ok 6 b) (hK : va_K D vwCl (tys3 ca) s) (hT0 : tW tw tt (ad_of 6 b) s s.heap) {q : Int32 × YS} (k2 : YS → Int32 → Option (Int32 × YS)) (hk2 : ∀ (v : YS) (H : Heap) (locs : List Loc) (x1 : Int32) (ls : Array Slot) (hP : va_P D vwCl (YW ca b v) H) (hS : va_S (ad_of 6 b) s.heap H locs) (hl : lv_has ls 3 [(0, .ref (b 0)), (1, .int x1)]) (h : k2 v x1 = some q), W p l e rm_X7_spreads s m args below meth c H locs 0 0 (MQ below (PQ (some (.int q.1)) (fun H => va_P D vwCl (YW ca b q.2) H) (ad_of 6 b)) args s 0 0 (ad_of 6 b)) (F0 m 2 ls [])) (v : YS) (H : Heap) (locs : List Loc) (x1 : Int32) (ls : Array Slot) (hP : va_P D vwCl (YW ca b v) H) (hS : va_S (ad_of 6 b) s.heap H locs) (hl : lv_has ls 3 [(0, .ref (b 0)), (1, .int x1)]) (h : fn_X7_spreads_2_body k2 v x1 = some q) : W p l e rm_X7_spreads s m args below meth c H locs 0 0 (MQ below (PQ (some (.int q.1)) (fun H => va_P D vwCl (YW ca b q.2) H) (ad_of 6 b)) args s 0 0 (ad_of 6 b)) (F0 m 2 ls []) := by
  obtain ⟨hx, hb, hr, hml, hown, hts, hlocks⟩ := id C0
  have hD0 := fun v => YW_D (ca := ca) hap v
  unfold fn_X7_spreads_2_body at h
  refine lv_iload_n hx hb dX7_spreads_2 rfl (lv_at hl 1 rfl) ?_
  refine lv_aload_n hx hb dX7_spreads_3 rfl (lv_at hl 0 rfl) ?_
  refine va_get (D := D) (ci := 4) (v := .int (y_founds v)) (C := RX7) (T := TX7) (N := 9) hx hb hts ly_X7_spreads_X7 hown hK hP 0 rfl rfl 7 (by decide) (hts _ lk_X7_spreads_f80) (fun _ h9 => h9) rfl dX7_spreads_4 ?_
  refine lv_icmp_ge (tgt := 71) hx hb dX7_spreads_7 (by decide) (fun c7 => ?_) (fun c7 => ?_)
  · replace h := ite_t h c7
    refine lv_aload_n hx hb dX7_spreads_71 rfl (lv_at hl 0 rfl) ?_
    refine va_get (D := D) (ci := 4) (v := .int (y_founds v)) (C := RX7) (T := TX7) (N := 9) hx hb hts ly_X7_spreads_X7 hown hK hP 0 rfl rfl 7 (by decide) (hts _ lk_X7_spreads_f80) (fun _ h9 => h9) rfl dX7_spreads_72 ?_
    obtain rfl := Option.some.inj h
    exact mp_iret hx hb hr hlocks hP hS dX7_spreads_75
  · replace h := ite_f h c7
    refine lv_iconst (v := 0) hx hb dX7_spreads_10 (by decide) ?_
    refine lv_istore_n (lv' := [(2, .int 0), (0, .ref (b 0)), (1, .int x1)]) hx hb dX7_spreads_11 rfl hl (by decide) rfl (fun ls hl => ?_)
    exact wk_X7_spreads_12 C0 hap hK hT0 (k2 := k2) (hk2 := hk2)  FU v H locs x1 0 ls hP hS (lv_sub hl [1, 2, 0] rfl) h
set_option maxHeartbeats 4000000 in
set_option maxRecDepth 100000 in
theorem wk_X7_spreads_2 {p : Program} {l : Launch} {e : Env} {s : State} {m : MethodId} {args : Array Value} {below : List Frame} {meth : Method} {c : Code} {D : va_G} {ca : Nat → ClassId} {b : Nat → Nat} {tw : Nat} {tt : Nat → Nat} (C0 : Cx p s m args meth c cX7_spreads (some .int) 3 wsX7_spreads RX7) (hap : ap_ok 6 b) (hK : va_K D vwCl (tys3 ca) s) (hT0 : tW tw tt (ad_of 6 b) s s.heap) {q : Int32 × YS} : ∀ (n : Nat) (v : YS) (H : Heap) (locs : List Loc) (x1 : Int32) (ls : Array Slot) (hP : va_P D vwCl (YW ca b v) H) (hS : va_S (ad_of 6 b) s.heap H locs) (hl : lv_has ls 3 [(0, .ref (b 0)), (1, .int x1)]) (h : fn_X7_spreads_2 n v x1 = some q), W p l e rm_X7_spreads s m args below meth c H locs 0 0 (MQ below (PQ (some (.int q.1)) (fun H => va_P D vwCl (YW ca b q.2) H) (ad_of 6 b)) args s 0 0 (ad_of 6 b)) (F0 m 2 ls []) := by
  intro n
  induction n with
  | zero => intro v H locs x1 ls hP hS hl h; unfold fn_X7_spreads_2 at h; cases h
  | succ n ih => intro v H locs x1 ls hP hS hl h; exact wk_X7_spreads_2_body C0 hap hK hT0 (k2 := fn_X7_spreads_2 n) (hk2 := ih) (hl := hl) (hP := hP) (hS := hS) (h := h)
set_option maxHeartbeats 4000000 in
set_option maxRecDepth 100000 in
theorem wk_X7_spreads {p : Program} {l : Launch} {e : Env} {s : State} {m : MethodId} {args : Array Value} {below : List Frame} {meth : Method} {c : Code} {D : va_G} {ca : Nat → ClassId} {b : Nat → Nat} {tw : Nat} {tt : Nat → Nat} (C0 : Cx p s m args meth c cX7_spreads (some .int) 3 wsX7_spreads RX7) (hap : ap_ok 6 b) (hK : va_K D vwCl (tys3 ca) s) (hT0 : tW tw tt (ad_of 6 b) s s.heap) {q : Int32 × YS} (v : YS) (H : Heap) (locs : List Loc) (ls : Array Slot) (hP : va_P D vwCl (YW ca b v) H) (hS : va_S (ad_of 6 b) s.heap H locs) (hl : lv_has ls 3 [(0, .ref (b 0))]) (h : fn_X7_spreads v  = some q) : W p l e rm_X7_spreads s m args below meth c H locs 0 0 (MQ below (PQ (some (.int q.1)) (fun H => va_P D vwCl (YW ca b q.2) H) (ad_of 6 b)) args s 0 0 (ad_of 6 b)) (F0 m 0 ls []) := by
  obtain ⟨hx, hb, hr, hml, hown, hts, hlocks⟩ := id C0
  have hD0 := fun v => YW_D (ca := ca) hap v
  unfold fn_X7_spreads at h
  refine lv_iconst (v := 0) hx hb dX7_spreads_0 (by decide) ?_
  refine lv_istore_n (lv' := [(1, .int 0), (0, .ref (b 0))]) hx hb dX7_spreads_1 rfl hl (by decide) rfl (fun ls hl => ?_)
  exact wk_X7_spreads_2 C0 hap hK hT0  FU v H locs 0 ls hP hS (lv_sub hl [1, 0] rfl) h
theorem ct_X7_spreads (l : Launch) (D : va_G) (ca : Nat → ClassId) (b : Nat → Nat) (tw : Nat) (tt : Nat → Nat) (hap : ap_ok 6 b) (v : YS) {q : Int32 × YS} (h : fn_X7_spreads v  = some q) : Mp l yX7_spreads wsX7_spreads rm_X7_spreads [.ref (b 0)] (GW D ca tw tt (ad_of 6 b) (YW ca b v)) (some (.int q.1)) (fun H => va_P D vwCl (YW ca b q.2) H) (ad_of 6 b) := by
  refine Mp.of (cc := cX7_spreads) (nL := 3) (ret := (some .int)) (own := RX7) (by decide) rfl rfl (Nat.le_of_ble_eq_true rfl) ?_
  intro p e s m below meth c ls C0 hB hl
  exact wk_X7_spreads C0 hap hB.2.1 hB.2.2 (hP := hB.1) (hS := va_S.rf) (hl := hl) (h := h)
abbrev rm_X7_size : Room := { frames := 4, cells := 0, slots := 0, locals := 92 }
theorem lk_X7_size_f80 : Cond.fieldLink RX7 80 "BooleanRingModel" "founds" "I" ∈ wsX7_size := by decide +kernel
theorem lk_X7_size_f13 : Cond.fieldLink RX7 13 "BooleanRingModel" "p" "[J" ∈ wsX7_size := by decide +kernel
theorem ly_X7_size_X7 : ∀ w ∈ wsX70, w ∈ wsX7_size := by decide +kernel
set_option maxHeartbeats 4000000 in
set_option maxRecDepth 100000 in
theorem wk_X7_size {p : Program} {l : Launch} {e : Env} {s : State} {m : MethodId} {args : Array Value} {below : List Frame} {meth : Method} {c : Code} {D : va_G} {ca : Nat → ClassId} {b : Nat → Nat} {tw : Nat} {tt : Nat → Nat} (C0 : Cx p s m args meth c cX7_size (some .int) 2 wsX7_size RX7) (hap : ap_ok 6 b) (hK : va_K D vwCl (tys3 ca) s) (hT0 : tW tw tt (ad_of 6 b) s s.heap) {q : Int32 × YS} (v : YS) (H : Heap) (locs : List Loc) (x1 : Int32) (ls : Array Slot) (hP : va_P D vwCl (YW ca b v) H) (hS : va_S (ad_of 6 b) s.heap H locs) (hl : lv_has ls 2 [(0, .ref (b 0)), (1, .int x1)]) (h : fn_X7_size v x1 = some q) : W p l e rm_X7_size s m args below meth c H locs 0 0 (MQ below (PQ (some (.int q.1)) (fun H => va_P D vwCl (YW ca b q.2) H) (ad_of 6 b)) args s 0 0 (ad_of 6 b)) (F0 m 0 ls []) := by
  obtain ⟨hx, hb, hr, hml, hown, hts, hlocks⟩ := id C0
  have hD0 := fun v => YW_D (ca := ca) hap v
  unfold fn_X7_size at h
  refine lv_iload_n hx hb dX7_size_0 rfl (lv_at hl 1 rfl) ?_
  obtain ⟨q1, e1, h⟩ := Option.bind_eq_some_iff.mp h
  refine hp_S (As := [.int x1]) (rest := []) ⟨hx, hb, hml, hown, hts⟩ (ct_X7_isRegister l tw tt x1 e1) (va_cwS 1 hts gX7_size_X7_isRegister rfl rfl rfl (by decide +kernel) ⟨Nat.le_of_ble_eq_true rfl, Nat.le_of_ble_eq_true rfl⟩) GP.mv (GP.from hT0 hS) rfl hl.1 rfl (Nat.le_of_ble_eq_true rfl) dX7_size_1 ⟨Nat.zero_le _, Nat.zero_le _⟩ ?_
  refine W.eq (g2 := F0 m 4 ls [.int q1]) rfl ?_
  refine lv_if_ne (tgt := 9) hx hb dX7_size_4 (by decide) (fun c4 => ?_) (fun c4 => ?_)
  · replace h := ite_f h c4
    refine lv_aload_n hx hb dX7_size_9 rfl (lv_at hl 0 rfl) ?_
    refine lv_iconst (v := 0) hx hb dX7_size_10 (by decide) ?_
    refine va_put (D := D) (ci := 4) (v := .int 0) (ty := .int) (C := RX7) (T := TX7) (N := 9) hx hb hts ly_X7_size_X7 tyX7 tyX7_ok nmX7 hown hK hP (hD0 v) hS 0 rfl rfl 7 (by decide) (hts _ lk_X7_size_f80) (fun _ h9 => h9) rfl (by decide +kernel) rfl rfl (Nat.le_of_ble_eq_true rfl) dX7_size_11 (fun H locs hP _ hS => ?_)
    have hP : va_P D vwCl (YW ca b (ys_founds v 0)) H := hP
    refine lv_aload_n hx hb dX7_size_14 rfl (lv_at hl 0 rfl) ?_
    refine lv_aload_n hx hb dX7_size_15 rfl (lv_at hl 0 rfl) ?_
    refine va_get (D := D) (ci := 4) (v := .ref (b 1)) (C := RX7) (T := TX7) (N := 9) hx hb hts ly_X7_size_X7 hown hK hP 0 rfl rfl 1 (by decide) (hts _ lk_X7_size_f13) (fun _ h9 => h9) rfl dX7_size_16 ?_
    refine lv_iload_n hx hb dX7_size_19 rfl (lv_at hl 1 rfl) ?_
    obtain ⟨q20, e20, h⟩ := Option.bind_eq_some_iff.mp h
    refine rd_lald hx hb hK hP 1 0 e20 rfl rfl dX7_size_20 ?_
    obtain ⟨q21, e21, h⟩ := Option.bind_eq_some_iff.mp h
    refine mp_V (As := [.long q20]) (rest := []) (b := (b 0)) ⟨hx, hb, hml, hown, hts⟩ (ct_X7_notes l D ca b tw tt hap (ys_founds v 0) q20 e21) (cwV 1 hts gX7_size_X7_notes rfl rfl rfl (by decide +kernel) ⟨Nat.le_of_ble_eq_true rfl, Nat.le_of_ble_eq_true rfl⟩) (va_recv hK hP (ci := 4) (q0 := 0) rfl rfl) GW.mv (GW.from hP hK hT0 hS) hS rfl hl.1 rfl (Nat.le_of_ble_eq_true rfl) dX7_size_21 ⟨Nat.zero_le _, Nat.zero_le _⟩ (fun H locs hP hS => ?_)
    refine W.eq (g2 := F0 m 24 ls []) rfl ?_
    refine lv_aload_n hx hb dX7_size_24 rfl (lv_at hl 0 rfl) ?_
    obtain ⟨q25, e25, h⟩ := Option.bind_eq_some_iff.mp h
    refine mp_V (As := []) (rest := []) (b := (b 0)) ⟨hx, hb, hml, hown, hts⟩ (ct_X7_spreads l D ca b tw tt hap q21  e25) (cwV 0 hts gX7_size_X7_spreads rfl rfl rfl (by decide +kernel) ⟨Nat.le_of_ble_eq_true rfl, Nat.le_of_ble_eq_true rfl⟩) (va_recv hK hP (ci := 4) (q0 := 0) rfl rfl) GW.mv (GW.from hP hK hT0 hS) hS rfl hl.1 rfl (Nat.le_of_ble_eq_true rfl) dX7_size_25 ⟨Nat.zero_le _, Nat.zero_le _⟩ (fun H locs hP hS => ?_)
    refine W.eq (g2 := F0 m 28 ls [.int q25.1]) rfl ?_
    obtain rfl := Option.some.inj h
    exact mp_iret hx hb hr hlocks hP hS dX7_size_28
  · replace h := ite_t h c4
    refine lv_iconst (v := (-1)) hx hb dX7_size_7 (by decide) ?_
    obtain rfl := Option.some.inj h
    exact mp_iret hx hb hr hlocks hP hS dX7_size_8
theorem ct_X7_size (l : Launch) (D : va_G) (ca : Nat → ClassId) (b : Nat → Nat) (tw : Nat) (tt : Nat → Nat) (hap : ap_ok 6 b) (v : YS) (x1 : Int32) {q : Int32 × YS} (h : fn_X7_size v x1 = some q) : Mp l yX7_size wsX7_size rm_X7_size [.ref (b 0), .int x1] (GW D ca tw tt (ad_of 6 b) (YW ca b v)) (some (.int q.1)) (fun H => va_P D vwCl (YW ca b q.2) H) (ad_of 6 b) := by
  refine Mp.of (cc := cX7_size) (nL := 2) (ret := (some .int)) (own := RX7) (by decide) rfl rfl (Nat.le_of_ble_eq_true rfl) ?_
  intro p e s m below meth c ls C0 hB hl
  exact wk_X7_size C0 hap hB.2.1 hB.2.2 (hP := hB.1) (hS := va_S.rf) (hl := hl) (h := h)
abbrev rm_X7_sharedSize : Room := { frames := 4, cells := 0, slots := 0, locals := 92 }
theorem lk_X7_sharedSize_f80 : Cond.fieldLink RX7 80 "BooleanRingModel" "founds" "I" ∈ wsX7_sharedSize := by decide +kernel
theorem lk_X7_sharedSize_f13 : Cond.fieldLink RX7 13 "BooleanRingModel" "p" "[J" ∈ wsX7_sharedSize := by decide +kernel
theorem ly_X7_sharedSize_X7 : ∀ w ∈ wsX70, w ∈ wsX7_sharedSize := by decide +kernel
set_option maxHeartbeats 4000000 in
set_option maxRecDepth 100000 in
theorem wk_X7_sharedSize_7_body {p : Program} {l : Launch} {e : Env} {s : State} {m : MethodId} {args : Array Value} {below : List Frame} {meth : Method} {c : Code} {D : va_G} {ca : Nat → ClassId} {b : Nat → Nat} {tw : Nat} {tt : Nat → Nat} (C0 : Cx p s m args meth c cX7_sharedSize (some .int) 2 wsX7_sharedSize RX7) (hap : ap_ok 6 b) (hK : va_K D vwCl (tys3 ca) s) (hT0 : tW tw tt (ad_of 6 b) s s.heap) {q : Int32 × YS} (k7 : YS → Int32 → Option (Int32 × YS)) (hk7 : ∀ (v : YS) (H : Heap) (locs : List Loc) (x1 : Int32) (ls : Array Slot) (hP : va_P D vwCl (YW ca b v) H) (hS : va_S (ad_of 6 b) s.heap H locs) (hl : lv_has ls 2 [(0, .ref (b 0)), (1, .int x1)]) (h : k7 v x1 = some q), W p l e rm_X7_sharedSize s m args below meth c H locs 0 0 (MQ below (PQ (some (.int q.1)) (fun H => va_P D vwCl (YW ca b q.2) H) (ad_of 6 b)) args s 0 0 (ad_of 6 b)) (F0 m 7 ls [])) (v : YS) (H : Heap) (locs : List Loc) (x1 : Int32) (ls : Array Slot) (hP : va_P D vwCl (YW ca b v) H) (hS : va_S (ad_of 6 b) s.heap H locs) (hl : lv_has ls 2 [(0, .ref (b 0)), (1, .int x1)]) (h : fn_X7_sharedSize_7_body k7 v x1 = some q) : W p l e rm_X7_sharedSize s m args below meth c H locs 0 0 (MQ below (PQ (some (.int q.1)) (fun H => va_P D vwCl (YW ca b q.2) H) (ad_of 6 b)) args s 0 0 (ad_of 6 b)) (F0 m 7 ls []) := by
  obtain ⟨hx, hb, hr, hml, hown, hts, hlocks⟩ := id C0
  have hD0 := fun v => YW_D (ca := ca) hap v
  unfold fn_X7_sharedSize_7_body at h
  refine lv_iload_n hx hb dX7_sharedSize_7 rfl (lv_at hl 1 rfl) ?_
  refine lv_bipush (v := 8) hx hb dX7_sharedSize_8 (by decide) ?_
  refine lv_icmp_ge (tgt := 29) hx hb dX7_sharedSize_10 (by decide) (fun c10 => ?_) (fun c10 => ?_)
  · replace h := ite_t h c10
    refine lv_aload_n hx hb dX7_sharedSize_29 rfl (lv_at hl 0 rfl) ?_
    obtain ⟨q30, e30, h⟩ := Option.bind_eq_some_iff.mp h
    refine mp_V (As := []) (rest := []) (b := (b 0)) ⟨hx, hb, hml, hown, hts⟩ (ct_X7_spreads l D ca b tw tt hap v  e30) (cwV 0 hts gX7_sharedSize_X7_spreads rfl rfl rfl (by decide +kernel) ⟨Nat.le_of_ble_eq_true rfl, Nat.le_of_ble_eq_true rfl⟩) (va_recv hK hP (ci := 4) (q0 := 0) rfl rfl) GW.mv (GW.from hP hK hT0 hS) hS rfl hl.1 rfl (Nat.le_of_ble_eq_true rfl) dX7_sharedSize_30 ⟨Nat.zero_le _, Nat.zero_le _⟩ (fun H locs hP hS => ?_)
    refine W.eq (g2 := F0 m 33 ls [.int q30.1]) rfl ?_
    obtain rfl := Option.some.inj h
    exact mp_iret hx hb hr hlocks hP hS dX7_sharedSize_33
  · replace h := ite_f h c10
    refine lv_aload_n hx hb dX7_sharedSize_13 rfl (lv_at hl 0 rfl) ?_
    refine lv_aload_n hx hb dX7_sharedSize_14 rfl (lv_at hl 0 rfl) ?_
    refine va_get (D := D) (ci := 4) (v := .ref (b 1)) (C := RX7) (T := TX7) (N := 9) hx hb hts ly_X7_sharedSize_X7 hown hK hP 0 rfl rfl 1 (by decide) (hts _ lk_X7_sharedSize_f13) (fun _ h9 => h9) rfl dX7_sharedSize_15 ?_
    refine lv_iload_n hx hb dX7_sharedSize_18 rfl (lv_at hl 1 rfl) ?_
    obtain ⟨q19, e19, h⟩ := Option.bind_eq_some_iff.mp h
    refine rd_lald hx hb hK hP 1 0 e19 rfl rfl dX7_sharedSize_19 ?_
    obtain ⟨q20, e20, h⟩ := Option.bind_eq_some_iff.mp h
    refine mp_V (As := [.long q19]) (rest := []) (b := (b 0)) ⟨hx, hb, hml, hown, hts⟩ (ct_X7_notes l D ca b tw tt hap v q19 e20) (cwV 1 hts gX7_sharedSize_X7_notes rfl rfl rfl (by decide +kernel) ⟨Nat.le_of_ble_eq_true rfl, Nat.le_of_ble_eq_true rfl⟩) (va_recv hK hP (ci := 4) (q0 := 0) rfl rfl) GW.mv (GW.from hP hK hT0 hS) hS rfl hl.1 rfl (Nat.le_of_ble_eq_true rfl) dX7_sharedSize_20 ⟨Nat.zero_le _, Nat.zero_le _⟩ (fun H locs hP hS => ?_)
    refine W.eq (g2 := F0 m 23 ls []) rfl ?_
    refine lv_iinc (v := (x1 + 1)) (lv' := [(1, .int (x1 + 1)), (0, .ref (b 0))]) hx hb dX7_sharedSize_23 hl (k := 1) rfl rfl (by decide) rfl (fun ls hl => ?_)
    refine lv_goto (tgt := 7) hx hb dX7_sharedSize_26 (by decide) ?_
    exact hk7 q20 H locs (x1 + 1) ls hP hS (lv_sub hl [1, 0] rfl) h
set_option maxHeartbeats 4000000 in
set_option maxRecDepth 100000 in
theorem wk_X7_sharedSize_7 {p : Program} {l : Launch} {e : Env} {s : State} {m : MethodId} {args : Array Value} {below : List Frame} {meth : Method} {c : Code} {D : va_G} {ca : Nat → ClassId} {b : Nat → Nat} {tw : Nat} {tt : Nat → Nat} (C0 : Cx p s m args meth c cX7_sharedSize (some .int) 2 wsX7_sharedSize RX7) (hap : ap_ok 6 b) (hK : va_K D vwCl (tys3 ca) s) (hT0 : tW tw tt (ad_of 6 b) s s.heap) {q : Int32 × YS} : ∀ (n : Nat) (v : YS) (H : Heap) (locs : List Loc) (x1 : Int32) (ls : Array Slot) (hP : va_P D vwCl (YW ca b v) H) (hS : va_S (ad_of 6 b) s.heap H locs) (hl : lv_has ls 2 [(0, .ref (b 0)), (1, .int x1)]) (h : fn_X7_sharedSize_7 n v x1 = some q), W p l e rm_X7_sharedSize s m args below meth c H locs 0 0 (MQ below (PQ (some (.int q.1)) (fun H => va_P D vwCl (YW ca b q.2) H) (ad_of 6 b)) args s 0 0 (ad_of 6 b)) (F0 m 7 ls []) := by
  intro n
  induction n with
  | zero => intro v H locs x1 ls hP hS hl h; unfold fn_X7_sharedSize_7 at h; cases h
  | succ n ih => intro v H locs x1 ls hP hS hl h; exact wk_X7_sharedSize_7_body C0 hap hK hT0 (k7 := fn_X7_sharedSize_7 n) (hk7 := ih) (hl := hl) (hP := hP) (hS := hS) (h := h)
set_option maxHeartbeats 4000000 in
set_option maxRecDepth 100000 in
theorem wk_X7_sharedSize {p : Program} {l : Launch} {e : Env} {s : State} {m : MethodId} {args : Array Value} {below : List Frame} {meth : Method} {c : Code} {D : va_G} {ca : Nat → ClassId} {b : Nat → Nat} {tw : Nat} {tt : Nat → Nat} (C0 : Cx p s m args meth c cX7_sharedSize (some .int) 2 wsX7_sharedSize RX7) (hap : ap_ok 6 b) (hK : va_K D vwCl (tys3 ca) s) (hT0 : tW tw tt (ad_of 6 b) s s.heap) {q : Int32 × YS} (v : YS) (H : Heap) (locs : List Loc) (ls : Array Slot) (hP : va_P D vwCl (YW ca b v) H) (hS : va_S (ad_of 6 b) s.heap H locs) (hl : lv_has ls 2 [(0, .ref (b 0))]) (h : fn_X7_sharedSize v  = some q) : W p l e rm_X7_sharedSize s m args below meth c H locs 0 0 (MQ below (PQ (some (.int q.1)) (fun H => va_P D vwCl (YW ca b q.2) H) (ad_of 6 b)) args s 0 0 (ad_of 6 b)) (F0 m 0 ls []) := by
  obtain ⟨hx, hb, hr, hml, hown, hts, hlocks⟩ := id C0
  have hD0 := fun v => YW_D (ca := ca) hap v
  unfold fn_X7_sharedSize at h
  refine lv_aload_n hx hb dX7_sharedSize_0 rfl (lv_at hl 0 rfl) ?_
  refine lv_iconst (v := 0) hx hb dX7_sharedSize_1 (by decide) ?_
  refine va_put (D := D) (ci := 4) (v := .int 0) (ty := .int) (C := RX7) (T := TX7) (N := 9) hx hb hts ly_X7_sharedSize_X7 tyX7 tyX7_ok nmX7 hown hK hP (hD0 v) hS 0 rfl rfl 7 (by decide) (hts _ lk_X7_sharedSize_f80) (fun _ h9 => h9) rfl (by decide +kernel) rfl rfl (Nat.le_of_ble_eq_true rfl) dX7_sharedSize_2 (fun H locs hP _ hS => ?_)
  have hP : va_P D vwCl (YW ca b (ys_founds v 0)) H := hP
  refine lv_iconst (v := 0) hx hb dX7_sharedSize_5 (by decide) ?_
  refine lv_istore_n (lv' := [(1, .int 0), (0, .ref (b 0))]) hx hb dX7_sharedSize_6 rfl hl (by decide) rfl (fun ls hl => ?_)
  exact wk_X7_sharedSize_7 C0 hap hK hT0  FU (ys_founds v 0) H locs 0 ls hP hS (lv_sub hl [1, 0] rfl) h
theorem ct_X7_sharedSize (l : Launch) (D : va_G) (ca : Nat → ClassId) (b : Nat → Nat) (tw : Nat) (tt : Nat → Nat) (hap : ap_ok 6 b) (v : YS) {q : Int32 × YS} (h : fn_X7_sharedSize v  = some q) : Mp l yX7_sharedSize wsX7_sharedSize rm_X7_sharedSize [.ref (b 0)] (GW D ca tw tt (ad_of 6 b) (YW ca b v)) (some (.int q.1)) (fun H => va_P D vwCl (YW ca b q.2) H) (ad_of 6 b) := by
  refine Mp.of (cc := cX7_sharedSize) (nL := 2) (ret := (some .int)) (own := RX7) (by decide) rfl rfl (Nat.le_of_ble_eq_true rfl) ?_
  intro p e s m below meth c ls C0 hB hl
  exact wk_X7_sharedSize C0 hap hB.2.1 hB.2.2 (hP := hB.1) (hS := va_S.rf) (hl := hl) (h := h)
abbrev rm_X7_isGreater : Room := { frames := 1, cells := 0, slots := 0, locals := 24 }
theorem lk_X7_isGreater_f7 : Cond.fieldLink RX7 7 "BooleanRingModel" "n" "I" ∈ wsX7_isGreater := by decide +kernel
theorem ly_X7_isGreater_X7 : ∀ w ∈ wsX70, w ∈ wsX7_isGreater := by decide +kernel
set_option maxHeartbeats 4000000 in
set_option maxRecDepth 100000 in
theorem wk_X7_isGreater_106 {p : Program} {l : Launch} {e : Env} {s : State} {m : MethodId} {args : Array Value} {below : List Frame} {meth : Method} {c : Code} {D : va_G} {ca : Nat → ClassId} {b : Nat → Nat} {tw : Nat} {tt : Nat → Nat} (C0 : Cx p s m args meth c cX7_isGreater (some .boolean) 7 wsX7_isGreater RX7) (hK : va_K D vwCl (tys3 ca) s) (hT0 : tW tw tt (ad_of 6 b) s s.heap) (v : YS) (hP : va_P D vwCl (YW ca b v) s.heap) {q : Int32} (y0 : Int32) (y1 : Int32) (ls : Array Slot) (hl : lv_has ls 7 []) (h : fn_X7_isGreater_106 v y0 y1 = some q) : W p l e rm_X7_isGreater s m args below meth c s.heap [] 0 0 (MQ below (HQ (some (.int q))) args s 0 0 (fun _ => False)) (F0 m 106 ls [.int y0, .int y1]) := by
  obtain ⟨hx, hb, hr, hml, hown, hts, hlocks⟩ := id C0
  have hS : va_S (ad_of 6 b) s.heap s.heap [] := va_S.rf
  unfold fn_X7_isGreater_106 at h
  refine lv_icmp_ne (tgt := 113) hx hb dX7_isGreater_106 (by decide) (fun c106 => ?_) (fun c106 => ?_)
  · replace h := ite_f h c106
    refine lv_iconst (v := 0) hx hb dX7_isGreater_113 (by decide) ?_
    obtain rfl := Option.some.inj h
    exact hp_zret hx hb hr hlocks rfl dX7_isGreater_114
  · replace h := ite_t h c106
    refine lv_iconst (v := 1) hx hb dX7_isGreater_109 (by decide) ?_
    refine lv_goto (tgt := 114) hx hb dX7_isGreater_110 (by decide) ?_
    obtain rfl := Option.some.inj h
    exact hp_zret hx hb hr hlocks rfl dX7_isGreater_114
set_option maxHeartbeats 4000000 in
set_option maxRecDepth 100000 in
theorem wk_X7_isGreater_62_body {p : Program} {l : Launch} {e : Env} {s : State} {m : MethodId} {args : Array Value} {below : List Frame} {meth : Method} {c : Code} {D : va_G} {ca : Nat → ClassId} {b : Nat → Nat} {tw : Nat} {tt : Nat → Nat} (C0 : Cx p s m args meth c cX7_isGreater (some .boolean) 7 wsX7_isGreater RX7) (hK : va_K D vwCl (tys3 ca) s) (hT0 : tW tw tt (ad_of 6 b) s s.heap) (v : YS) (hP : va_P D vwCl (YW ca b v) s.heap) {q : Int32} (k62 : Int32 → Int32 → Int32 → Int32 → Option (Int32)) (hk62 : ∀ (x1 : Int32) (x2 : Int32) (x4 : Int32) (x6 : Int32) (ls : Array Slot) (hl : lv_has ls 7 [(1, .int x1), (2, .int x2), (4, .int x4), (6, .int x6)]) (h : k62 x1 x2 x4 x6 = some q), W p l e rm_X7_isGreater s m args below meth c s.heap [] 0 0 (MQ below (HQ (some (.int q))) args s 0 0 (fun _ => False)) (F0 m 62 ls [])) (x1 : Int32) (x2 : Int32) (x4 : Int32) (x6 : Int32) (ls : Array Slot) (hl : lv_has ls 7 [(1, .int x1), (2, .int x2), (4, .int x4), (6, .int x6)]) (h : fn_X7_isGreater_62_body v k62 x1 x2 x4 x6 = some q) : W p l e rm_X7_isGreater s m args below meth c s.heap [] 0 0 (MQ below (HQ (some (.int q))) args s 0 0 (fun _ => False)) (F0 m 62 ls []) := by
  obtain ⟨hx, hb, hr, hml, hown, hts, hlocks⟩ := id C0
  have hS : va_S (ad_of 6 b) s.heap s.heap [] := va_S.rf
  unfold fn_X7_isGreater_62_body at h
  refine lv_iload hx hb dX7_isGreater_62 (lv_at hl 2 rfl) ?_
  refine lv_iload hx hb dX7_isGreater_64 (lv_at hl 3 rfl) ?_
  refine lv_ishr hx hb dX7_isGreater_66 ?_
  refine lv_iconst (v := 1) hx hb dX7_isGreater_67 (by decide) ?_
  refine lv_iand hx hb dX7_isGreater_68 ?_
  refine lv_if_ne (tgt := 90) hx hb dX7_isGreater_69 (by decide) (fun c69 => ?_) (fun c69 => ?_)
  · replace h := ite_f h c69
    refine lv_iload_n hx hb dX7_isGreater_90 rfl (lv_at hl 1 rfl) ?_
    refine lv_iload hx hb dX7_isGreater_91 (lv_at hl 3 rfl) ?_
    refine lv_ishr hx hb dX7_isGreater_93 ?_
    refine lv_iconst (v := 1) hx hb dX7_isGreater_94 (by decide) ?_
    refine lv_iand hx hb dX7_isGreater_95 ?_
    refine lv_iload_n hx hb dX7_isGreater_96 rfl (lv_at hl 0 rfl) ?_
    refine lv_iconst (v := 2) hx hb dX7_isGreater_97 (by decide) ?_
    refine lv_icmp_ne (tgt := 105) hx hb dX7_isGreater_98 (by decide) (fun c98 => ?_) (fun c98 => ?_)
    · replace h := ite_f h c98
      refine lv_iconst (v := 1) hx hb dX7_isGreater_105 (by decide) ?_
      exact wk_X7_isGreater_106 C0 hK hT0 v hP (ls := ls) (hl := (lv_sub hl [] rfl)) (h := h)
    · replace h := ite_t h c98
      refine lv_iconst (v := 0) hx hb dX7_isGreater_101 (by decide) ?_
      refine lv_goto (tgt := 106) hx hb dX7_isGreater_102 (by decide) ?_
      exact wk_X7_isGreater_106 C0 hK hT0 v hP (ls := ls) (hl := (lv_sub hl [] rfl)) (h := h)
  · replace h := ite_t h c69
    refine lv_iload hx hb dX7_isGreater_72 (lv_at hl 3 rfl) ?_
    refine lv_iload_n hx hb dX7_isGreater_74 rfl (lv_at hl 0 rfl) ?_
    refine lv_iconst (v := 2) hx hb dX7_isGreater_75 (by decide) ?_
    refine lv_icmp_ne (tgt := 83) hx hb dX7_isGreater_76 (by decide) (fun c76 => ?_) (fun c76 => ?_)
    · replace h := ite_f h c76
      refine lv_iconst (v := 1) hx hb dX7_isGreater_83 (by decide) ?_
      refine lv_iadd hx hb dX7_isGreater_84 ?_
      refine lv_istore (lv' := [(6, .int (x6 + 1)), (1, .int x1), (2, .int x2), (4, .int x4)]) hx hb dX7_isGreater_85 hl (by decide) rfl (fun ls hl => ?_)
      refine lv_goto (tgt := 62) hx hb dX7_isGreater_87 (by decide) ?_
      exact hk62 x1 x2 x4 (x6 + 1) ls (lv_sub hl [1, 2, 3, 0] rfl) h
    · replace h := ite_t h c76
      refine lv_iconst (v := (-1)) hx hb dX7_isGreater_79 (by decide) ?_
      refine lv_goto (tgt := 84) hx hb dX7_isGreater_80 (by decide) ?_
      refine lv_iadd hx hb dX7_isGreater_84 ?_
      refine lv_istore (lv' := [(6, .int (x6 + (-1))), (1, .int x1), (2, .int x2), (4, .int x4)]) hx hb dX7_isGreater_85 hl (by decide) rfl (fun ls hl => ?_)
      refine lv_goto (tgt := 62) hx hb dX7_isGreater_87 (by decide) ?_
      exact hk62 x1 x2 x4 (x6 + (-1)) ls (lv_sub hl [1, 2, 3, 0] rfl) h
set_option maxHeartbeats 4000000 in
set_option maxRecDepth 100000 in
theorem wk_X7_isGreater_62 {p : Program} {l : Launch} {e : Env} {s : State} {m : MethodId} {args : Array Value} {below : List Frame} {meth : Method} {c : Code} {D : va_G} {ca : Nat → ClassId} {b : Nat → Nat} {tw : Nat} {tt : Nat → Nat} (C0 : Cx p s m args meth c cX7_isGreater (some .boolean) 7 wsX7_isGreater RX7) (hK : va_K D vwCl (tys3 ca) s) (hT0 : tW tw tt (ad_of 6 b) s s.heap) (v : YS) (hP : va_P D vwCl (YW ca b v) s.heap) {q : Int32} : ∀ (n : Nat) (x1 : Int32) (x2 : Int32) (x4 : Int32) (x6 : Int32) (ls : Array Slot) (hl : lv_has ls 7 [(1, .int x1), (2, .int x2), (4, .int x4), (6, .int x6)]) (h : fn_X7_isGreater_62 v n x1 x2 x4 x6 = some q), W p l e rm_X7_isGreater s m args below meth c s.heap [] 0 0 (MQ below (HQ (some (.int q))) args s 0 0 (fun _ => False)) (F0 m 62 ls []) := by
  intro n
  induction n with
  | zero => intro x1 x2 x4 x6 ls hl h; unfold fn_X7_isGreater_62 at h; cases h
  | succ n ih => intro x1 x2 x4 x6 ls hl h; exact wk_X7_isGreater_62_body C0 hK hT0 v hP (k62 := fn_X7_isGreater_62 v n) (hk62 := ih) (hl := hl) (h := h)
set_option maxHeartbeats 4000000 in
set_option maxRecDepth 100000 in
theorem wk_X7_isGreater_60 {p : Program} {l : Launch} {e : Env} {s : State} {m : MethodId} {args : Array Value} {below : List Frame} {meth : Method} {c : Code} {D : va_G} {ca : Nat → ClassId} {b : Nat → Nat} {tw : Nat} {tt : Nat → Nat} (C0 : Cx p s m args meth c cX7_isGreater (some .boolean) 7 wsX7_isGreater RX7) (hK : va_K D vwCl (tys3 ca) s) (hT0 : tW tw tt (ad_of 6 b) s s.heap) (v : YS) (hP : va_P D vwCl (YW ca b v) s.heap) {q : Int32} (x1 : Int32) (x2 : Int32) (x4 : Int32) (y0 : Int32) (ls : Array Slot) (hl : lv_has ls 7 [(1, .int x1), (2, .int x2), (4, .int x4)]) (h : fn_X7_isGreater_60 v x1 x2 x4 y0 = some q) : W p l e rm_X7_isGreater s m args below meth c s.heap [] 0 0 (MQ below (HQ (some (.int q))) args s 0 0 (fun _ => False)) (F0 m 60 ls [.int y0]) := by
  obtain ⟨hx, hb, hr, hml, hown, hts, hlocks⟩ := id C0
  have hS : va_S (ad_of 6 b) s.heap s.heap [] := va_S.rf
  unfold fn_X7_isGreater_60 at h
  refine lv_istore (lv' := [(6, .int y0), (1, .int x1), (2, .int x2), (4, .int x4)]) hx hb dX7_isGreater_60 hl (by decide) rfl (fun ls hl => ?_)
  exact wk_X7_isGreater_62 C0 hK hT0 v hP  FU x1 x2 x4 y0 ls (lv_sub hl [1, 2, 3, 0] rfl) h
set_option maxHeartbeats 4000000 in
set_option maxRecDepth 100000 in
theorem wk_X7_isGreater_45 {p : Program} {l : Launch} {e : Env} {s : State} {m : MethodId} {args : Array Value} {below : List Frame} {meth : Method} {c : Code} {D : va_G} {ca : Nat → ClassId} {b : Nat → Nat} {tw : Nat} {tt : Nat → Nat} (C0 : Cx p s m args meth c cX7_isGreater (some .boolean) 7 wsX7_isGreater RX7) (hK : va_K D vwCl (tys3 ca) s) (hT0 : tW tw tt (ad_of 6 b) s s.heap) (v : YS) (hP : va_P D vwCl (YW ca b v) s.heap) {q : Int32} (x1 : Int32) (x2 : Int32) (x4 : Int32) (ls : Array Slot) (hl : lv_has ls 7 [(0, .ref (b 0)), (1, .int x1), (2, .int x2), (4, .int x4)]) (h : fn_X7_isGreater_45 v x1 x2 x4 = some q) : W p l e rm_X7_isGreater s m args below meth c s.heap [] 0 0 (MQ below (HQ (some (.int q))) args s 0 0 (fun _ => False)) (F0 m 45 ls []) := by
  obtain ⟨hx, hb, hr, hml, hown, hts, hlocks⟩ := id C0
  have hS : va_S (ad_of 6 b) s.heap s.heap [] := va_S.rf
  unfold fn_X7_isGreater_45 at h
  refine lv_iload_n hx hb dX7_isGreater_45 rfl (lv_at hl 1 rfl) ?_
  refine lv_iconst (v := 2) hx hb dX7_isGreater_46 (by decide) ?_
  refine lv_icmp_ne (tgt := 59) hx hb dX7_isGreater_47 (by decide) (fun c47 => ?_) (fun c47 => ?_)
  · replace h := ite_f h c47
    refine lv_iconst (v := 0) hx hb dX7_isGreater_59 (by decide) ?_
    exact wk_X7_isGreater_60 C0 hK hT0 v hP (ls := ls) (hl := (lv_sub hl [1, 2, 3] rfl)) (h := h)
  · replace h := ite_t h c47
    refine lv_aload_n hx hb dX7_isGreater_50 rfl (lv_at hl 0 rfl) ?_
    refine va_get (D := D) (ci := 4) (v := .int (y_n v)) (C := RX7) (T := TX7) (N := 9) hx hb hts ly_X7_isGreater_X7 hown hK hP 0 rfl rfl 0 (by decide) (hts _ lk_X7_isGreater_f7) (fun _ h9 => h9) rfl dX7_isGreater_51 ?_
    refine lv_iconst (v := 1) hx hb dX7_isGreater_54 (by decide) ?_
    refine lv_isub hx hb dX7_isGreater_55 ?_
    refine lv_goto (tgt := 60) hx hb dX7_isGreater_56 (by decide) ?_
    exact wk_X7_isGreater_60 C0 hK hT0 v hP (ls := ls) (hl := (lv_sub hl [1, 2, 3] rfl)) (h := h)
set_option maxHeartbeats 4000000 in
set_option maxRecDepth 100000 in
theorem wk_X7_isGreater {p : Program} {l : Launch} {e : Env} {s : State} {m : MethodId} {args : Array Value} {below : List Frame} {meth : Method} {c : Code} {D : va_G} {ca : Nat → ClassId} {b : Nat → Nat} {tw : Nat} {tt : Nat → Nat} (C0 : Cx p s m args meth c cX7_isGreater (some .boolean) 7 wsX7_isGreater RX7) (hK : va_K D vwCl (tys3 ca) s) (hT0 : tW tw tt (ad_of 6 b) s s.heap) (v : YS) (hP : va_P D vwCl (YW ca b v) s.heap) {q : Int32} (x1 : Int32) (x2 : Int32) (x3 : Int32) (ls : Array Slot) (hl : lv_has ls 7 [(0, .ref (b 0)), (1, .int x1), (2, .int x2), (3, .int x3)]) (h : fn_X7_isGreater v x1 x2 x3 = some q) : W p l e rm_X7_isGreater s m args below meth c s.heap [] 0 0 (MQ below (HQ (some (.int q))) args s 0 0 (fun _ => False)) (F0 m 0 ls []) := by
  obtain ⟨hx, hb, hr, hml, hown, hts, hlocks⟩ := id C0
  have hS : va_S (ad_of 6 b) s.heap s.heap [] := va_S.rf
  unfold fn_X7_isGreater at h
  refine lv_iload_n hx hb dX7_isGreater_0 rfl (lv_at hl 2 rfl) ?_
  refine lv_iload_n hx hb dX7_isGreater_1 rfl (lv_at hl 3 rfl) ?_
  refine lv_ixor hx hb dX7_isGreater_2 ?_
  refine lv_istore (lv' := [(4, .int (x2 ^^^ x3)), (0, .ref (b 0)), (1, .int x1), (2, .int x2), (3, .int x3)]) hx hb dX7_isGreater_3 hl (by decide) rfl (fun ls hl => ?_)
  refine lv_iload hx hb dX7_isGreater_5 (lv_at hl 0 rfl) ?_
  refine lv_if_ne (tgt := 12) hx hb dX7_isGreater_7 (by decide) (fun c7 => ?_) (fun c7 => ?_)
  · replace h := ite_f h c7
    refine lv_iload_n hx hb dX7_isGreater_12 rfl (lv_at hl 3 rfl) ?_
    refine lv_i2l (v := x2.toInt64) hx hb dX7_isGreater_13 rfl ?_
    obtain ⟨q14, e14, h⟩ := Option.bind_eq_some_iff.mp h
    refine hp_S (As := [.long x2.toInt64]) (rest := []) ⟨hx, hb, hml, hown, hts⟩ (ct_X7_many l tw tt x2.toInt64 e14) (va_cwS 1 hts gX7_isGreater_X7_many rfl rfl rfl (by decide +kernel) ⟨Nat.le_of_ble_eq_true rfl, Nat.le_of_ble_eq_true rfl⟩) GP.mv (GP.from hT0 hS) rfl hl.1 rfl (Nat.le_of_ble_eq_true rfl) dX7_isGreater_14 ⟨Nat.zero_le _, Nat.zero_le _⟩ ?_
    refine W.eq (g2 := F0 m 17 ls [.int q14]) rfl ?_
    refine lv_iload_n hx hb dX7_isGreater_17 rfl (lv_at hl 4 rfl) ?_
    refine lv_i2l (v := x3.toInt64) hx hb dX7_isGreater_18 rfl ?_
    obtain ⟨q19, e19, h⟩ := Option.bind_eq_some_iff.mp h
    refine hp_S (As := [.long x3.toInt64]) (rest := [.int q14]) ⟨hx, hb, hml, hown, hts⟩ (ct_X7_many l tw tt x3.toInt64 e19) (va_cwS 1 hts gX7_isGreater_X7_many rfl rfl rfl (by decide +kernel) ⟨Nat.le_of_ble_eq_true rfl, Nat.le_of_ble_eq_true rfl⟩) GP.mv (GP.from hT0 hS) rfl hl.1 rfl (Nat.le_of_ble_eq_true rfl) dX7_isGreater_19 ⟨Nat.zero_le _, Nat.zero_le _⟩ ?_
    refine W.eq (g2 := F0 m 22 ls [.int q19, .int q14]) rfl ?_
    refine lv_isub hx hb dX7_isGreater_22 ?_
    refine lv_istore (lv' := [(5, .int (q14 - q19)), (4, .int (x2 ^^^ x3)), (0, .ref (b 0)), (1, .int x1), (2, .int x2), (3, .int x3)]) hx hb dX7_isGreater_23 hl (by decide) rfl (fun ls hl => ?_)
    refine lv_iload_n hx hb dX7_isGreater_25 rfl (lv_at hl 3 rfl) ?_
    refine lv_if_le (tgt := 45) hx hb dX7_isGreater_26 (by decide) (fun c26 => ?_) (fun c26 => ?_)
    · replace h := ite_t h c26
      exact wk_X7_isGreater_45 C0 hK hT0 v hP (ls := ls) (hl := (lv_sub hl [2, 3, 4, 1] rfl)) (h := h)
    · replace h := ite_f h c26
      refine lv_iload hx hb dX7_isGreater_29 (lv_at hl 0 rfl) ?_
      refine lv_if_eq (tgt := 45) hx hb dX7_isGreater_31 (by decide) (fun c31 => ?_) (fun c31 => ?_)
      · replace h := ite_t h c31
        exact wk_X7_isGreater_45 C0 hK hT0 v hP (ls := ls) (hl := (lv_sub hl [2, 3, 4, 1] rfl)) (h := h)
      · replace h := ite_f h c31
        refine lv_iload hx hb dX7_isGreater_34 (lv_at hl 0 rfl) ?_
        refine lv_if_le (tgt := 43) hx hb dX7_isGreater_36 (by decide) (fun c36 => ?_) (fun c36 => ?_)
        · replace h := ite_t h c36
          refine lv_iconst (v := 0) hx hb dX7_isGreater_43 (by decide) ?_
          obtain rfl := Option.some.inj h
          exact hp_zret hx hb hr hlocks rfl dX7_isGreater_44
        · replace h := ite_f h c36
          refine lv_iconst (v := 1) hx hb dX7_isGreater_39 (by decide) ?_
          refine lv_goto (tgt := 44) hx hb dX7_isGreater_40 (by decide) ?_
          obtain rfl := Option.some.inj h
          exact hp_zret hx hb hr hlocks rfl dX7_isGreater_44
  · replace h := ite_t h c7
    refine lv_iconst (v := 0) hx hb dX7_isGreater_10 (by decide) ?_
    obtain rfl := Option.some.inj h
    exact hp_zret hx hb hr hlocks rfl dX7_isGreater_11
theorem ct_X7_isGreater (l : Launch) (D : va_G) (ca : Nat → ClassId) (b : Nat → Nat) (tw : Nat) (tt : Nat → Nat) (v : YS) (x1 : Int32) (x2 : Int32) (x3 : Int32) {q : Int32} (h : fn_X7_isGreater v x1 x2 x3 = some q) : Hp l yX7_isGreater wsX7_isGreater rm_X7_isGreater [.ref (b 0), .int x1, .int x2, .int x3] (GW D ca tw tt (ad_of 6 b) (YW ca b v)) (some (.int q)) := by
  refine Hp.of (cc := cX7_isGreater) (nL := 7) (ret := (some .boolean)) (own := RX7) (by decide) rfl rfl (Nat.le_of_ble_eq_true rfl) ?_
  intro p e s m below meth c ls C0 hB hl
  exact wk_X7_isGreater C0 hB.2.1 hB.2.2 v hB.1 (hl := hl) (h := h)
abbrev rm_X7_leads : Room := { frames := 2, cells := 0, slots := 0, locals := 50 }
theorem lk_X7_leads_f7 : Cond.fieldLink RX7 7 "BooleanRingModel" "n" "I" ∈ wsX7_leads := by decide +kernel
theorem ly_X7_leads_X7 : ∀ w ∈ wsX70, w ∈ wsX7_leads := by decide +kernel
set_option maxHeartbeats 4000000 in
set_option maxRecDepth 100000 in
theorem wk_X7_leads_48 {p : Program} {l : Launch} {e : Env} {s : State} {m : MethodId} {args : Array Value} {below : List Frame} {meth : Method} {c : Code} {D : va_G} {ca : Nat → ClassId} {b : Nat → Nat} {tw : Nat} {tt : Nat → Nat} (C0 : Cx p s m args meth c cX7_leads (some .int) 6 wsX7_leads RX7) (hK : va_K D vwCl (tys3 ca) s) (hT0 : tW tw tt (ad_of 6 b) s s.heap) (v : YS) (hP : va_P D vwCl (YW ca b v) s.heap) {q : Int32} (k6 : Int64 → Int32 → Int32 → Int32 → Option (Int32)) (hk6 : ∀ (x1 : Int64) (x3 : Int32) (x4 : Int32) (x5 : Int32) (ls : Array Slot) (hl : lv_has ls 6 [(0, .ref (b 0)), (1, .long x1), (3, .int x3), (4, .int x4), (5, .int x5)]) (h : k6 x1 x3 x4 x5 = some q), W p l e rm_X7_leads s m args below meth c s.heap [] 0 0 (MQ below (HQ (some (.int q))) args s 0 0 (fun _ => False)) (F0 m 6 ls [])) (x1 : Int64) (x3 : Int32) (x4 : Int32) (x5 : Int32) (ls : Array Slot) (hl : lv_has ls 6 [(0, .ref (b 0)), (1, .long x1), (3, .int x3), (4, .int x4), (5, .int x5)]) (h : fn_X7_leads_48 v k6 x1 x3 x4 x5 = some q) : W p l e rm_X7_leads s m args below meth c s.heap [] 0 0 (MQ below (HQ (some (.int q))) args s 0 0 (fun _ => False)) (F0 m 48 ls []) := by
  obtain ⟨hx, hb, hr, hml, hown, hts, hlocks⟩ := id C0
  have hS : va_S (ad_of 6 b) s.heap s.heap [] := va_S.rf
  unfold fn_X7_leads_48 at h
  refine lv_iload hx hb dX7_leads_48 (lv_at hl 3 rfl) ?_
  refine lv_istore (lv' := [(4, .int x4), (0, .ref (b 0)), (1, .long x1), (3, .int x3), (5, .int x5)]) hx hb dX7_leads_50 hl (by decide) rfl (fun ls hl => ?_)
  refine lv_iinc (v := (x5 + 1)) (lv' := [(5, .int (x5 + 1)), (4, .int x4), (0, .ref (b 0)), (1, .long x1), (3, .int x3)]) hx hb dX7_leads_52 hl (k := 4) rfl rfl (by decide) rfl (fun ls hl => ?_)
  refine lv_goto (tgt := 6) hx hb dX7_leads_55 (by decide) ?_
  exact hk6 x1 x3 x4 (x5 + 1) ls (lv_sub hl [2, 3, 4, 1, 0] rfl) h
set_option maxHeartbeats 4000000 in
set_option maxRecDepth 100000 in
theorem wk_X7_leads_6_body {p : Program} {l : Launch} {e : Env} {s : State} {m : MethodId} {args : Array Value} {below : List Frame} {meth : Method} {c : Code} {D : va_G} {ca : Nat → ClassId} {b : Nat → Nat} {tw : Nat} {tt : Nat → Nat} (C0 : Cx p s m args meth c cX7_leads (some .int) 6 wsX7_leads RX7) (hK : va_K D vwCl (tys3 ca) s) (hT0 : tW tw tt (ad_of 6 b) s s.heap) (v : YS) (hP : va_P D vwCl (YW ca b v) s.heap) {q : Int32} (k6 : Int64 → Int32 → Int32 → Int32 → Option (Int32)) (hk6 : ∀ (x1 : Int64) (x3 : Int32) (x4 : Int32) (x5 : Int32) (ls : Array Slot) (hl : lv_has ls 6 [(0, .ref (b 0)), (1, .long x1), (3, .int x3), (4, .int x4), (5, .int x5)]) (h : k6 x1 x3 x4 x5 = some q), W p l e rm_X7_leads s m args below meth c s.heap [] 0 0 (MQ below (HQ (some (.int q))) args s 0 0 (fun _ => False)) (F0 m 6 ls [])) (x1 : Int64) (x3 : Int32) (x4 : Int32) (x5 : Int32) (ls : Array Slot) (hl : lv_has ls 6 [(0, .ref (b 0)), (1, .long x1), (3, .int x3), (4, .int x4), (5, .int x5)]) (h : fn_X7_leads_6_body v k6 x1 x3 x4 x5 = some q) : W p l e rm_X7_leads s m args below meth c s.heap [] 0 0 (MQ below (HQ (some (.int q))) args s 0 0 (fun _ => False)) (F0 m 6 ls []) := by
  obtain ⟨hx, hb, hr, hml, hown, hts, hlocks⟩ := id C0
  have hS : va_S (ad_of 6 b) s.heap s.heap [] := va_S.rf
  unfold fn_X7_leads_6_body at h
  refine lv_iload hx hb dX7_leads_6 (lv_at hl 4 rfl) ?_
  refine lv_iconst (v := 1) hx hb dX7_leads_8 (by decide) ?_
  refine lv_aload_n hx hb dX7_leads_9 rfl (lv_at hl 0 rfl) ?_
  refine va_get (D := D) (ci := 4) (v := .int (y_n v)) (C := RX7) (T := TX7) (N := 9) hx hb hts ly_X7_leads_X7 hown hK hP 0 rfl rfl 0 (by decide) (hts _ lk_X7_leads_f7) (fun _ h9 => h9) rfl dX7_leads_10 ?_
  refine lv_ishl hx hb dX7_leads_13 ?_
  refine lv_icmp_ge (tgt := 58) hx hb dX7_leads_14 (by decide) (fun c14 => ?_) (fun c14 => ?_)
  · replace h := ite_t h c14
    refine lv_iload hx hb dX7_leads_58 (lv_at hl 3 rfl) ?_
    obtain rfl := Option.some.inj h
    exact hp_iret hx hb hr hlocks dX7_leads_60
  · replace h := ite_f h c14
    refine lv_lload_n hx hb dX7_leads_17 rfl (lv_at hl 1 rfl) ?_
    refine lv_iload hx hb dX7_leads_18 (lv_at hl 4 rfl) ?_
    obtain ⟨q20, e20, h⟩ := Option.bind_eq_some_iff.mp h
    refine hp_S (As := [.long x1, .int x5]) (rest := []) ⟨hx, hb, hml, hown, hts⟩ (ct_X7_has1 l tw tt x1 x5 e20) (va_cwS 2 hts gX7_leads_X7_has1 rfl rfl rfl (by decide +kernel) ⟨Nat.le_of_ble_eq_true rfl, Nat.le_of_ble_eq_true rfl⟩) GP.mv (GP.from hT0 hS) rfl hl.1 rfl (Nat.le_of_ble_eq_true rfl) dX7_leads_20 ⟨Nat.zero_le _, Nat.zero_le _⟩ ?_
    refine W.eq (g2 := F0 m 23 ls [.int q20]) rfl ?_
    refine lv_if_eq (tgt := 48) hx hb dX7_leads_23 (by decide) (fun c23 => ?_) (fun c23 => ?_)
    · replace h := ite_t h c23
      exact wk_X7_leads_48 C0 hK hT0 v hP (k6 := k6) (hk6 := hk6) (ls := ls) (hl := (lv_sub hl [0, 1, 2, 3, 4] rfl)) (h := h)
    · replace h := ite_f h c23
      refine lv_iload hx hb dX7_leads_26 (lv_at hl 3 rfl) ?_
      refine lv_if_lt (tgt := 43) hx hb dX7_leads_28 (by decide) (fun c28 => ?_) (fun c28 => ?_)
      · replace h := ite_t h c28
        refine lv_iload hx hb dX7_leads_43 (lv_at hl 4 rfl) ?_
        refine lv_goto (tgt := 50) hx hb dX7_leads_45 (by decide) ?_
        refine lv_istore (lv' := [(4, .int x5), (0, .ref (b 0)), (1, .long x1), (3, .int x3), (5, .int x5)]) hx hb dX7_leads_50 hl (by decide) rfl (fun ls hl => ?_)
        refine lv_iinc (v := (x5 + 1)) (lv' := [(5, .int (x5 + 1)), (4, .int x5), (0, .ref (b 0)), (1, .long x1), (3, .int x3)]) hx hb dX7_leads_52 hl (k := 4) rfl rfl (by decide) rfl (fun ls hl => ?_)
        refine lv_goto (tgt := 6) hx hb dX7_leads_55 (by decide) ?_
        exact hk6 x1 x3 x5 (x5 + 1) ls (lv_sub hl [2, 3, 4, 1, 0] rfl) h
      · replace h := ite_f h c28
        refine lv_aload_n hx hb dX7_leads_31 rfl (lv_at hl 0 rfl) ?_
        refine lv_iload_n hx hb dX7_leads_32 rfl (lv_at hl 2 rfl) ?_
        refine lv_iload hx hb dX7_leads_33 (lv_at hl 4 rfl) ?_
        refine lv_iload hx hb dX7_leads_35 (lv_at hl 3 rfl) ?_
        obtain ⟨q37, e37, h⟩ := Option.bind_eq_some_iff.mp h
        refine hp_V (As := [.int x3, .int x5, .int x4]) (rest := []) (b := (b 0)) ⟨hx, hb, hml, hown, hts⟩ (ct_X7_isGreater l D ca b tw tt v x3 x5 x4 e37) (cwV 3 hts gX7_leads_X7_isGreater rfl rfl rfl (by decide +kernel) ⟨Nat.le_of_ble_eq_true rfl, Nat.le_of_ble_eq_true rfl⟩) (va_recv hK hP (ci := 4) (q0 := 0) rfl rfl) GW.mv (GW.from hP hK hT0 hS) rfl hl.1 rfl (Nat.le_of_ble_eq_true rfl) dX7_leads_37 ⟨Nat.zero_le _, Nat.zero_le _⟩ ?_
        refine W.eq (g2 := F0 m 40 ls [.int q37]) rfl ?_
        refine lv_if_eq (tgt := 48) hx hb dX7_leads_40 (by decide) (fun c40 => ?_) (fun c40 => ?_)
        · replace h := ite_t h c40
          exact wk_X7_leads_48 C0 hK hT0 v hP (k6 := k6) (hk6 := hk6) (ls := ls) (hl := (lv_sub hl [0, 1, 2, 3, 4] rfl)) (h := h)
        · replace h := ite_f h c40
          refine lv_iload hx hb dX7_leads_43 (lv_at hl 4 rfl) ?_
          refine lv_goto (tgt := 50) hx hb dX7_leads_45 (by decide) ?_
          refine lv_istore (lv' := [(4, .int x5), (0, .ref (b 0)), (1, .long x1), (3, .int x3), (5, .int x5)]) hx hb dX7_leads_50 hl (by decide) rfl (fun ls hl => ?_)
          refine lv_iinc (v := (x5 + 1)) (lv' := [(5, .int (x5 + 1)), (4, .int x5), (0, .ref (b 0)), (1, .long x1), (3, .int x3)]) hx hb dX7_leads_52 hl (k := 4) rfl rfl (by decide) rfl (fun ls hl => ?_)
          refine lv_goto (tgt := 6) hx hb dX7_leads_55 (by decide) ?_
          exact hk6 x1 x3 x5 (x5 + 1) ls (lv_sub hl [2, 3, 4, 1, 0] rfl) h
set_option maxHeartbeats 4000000 in
set_option maxRecDepth 100000 in
theorem wk_X7_leads_6 {p : Program} {l : Launch} {e : Env} {s : State} {m : MethodId} {args : Array Value} {below : List Frame} {meth : Method} {c : Code} {D : va_G} {ca : Nat → ClassId} {b : Nat → Nat} {tw : Nat} {tt : Nat → Nat} (C0 : Cx p s m args meth c cX7_leads (some .int) 6 wsX7_leads RX7) (hK : va_K D vwCl (tys3 ca) s) (hT0 : tW tw tt (ad_of 6 b) s s.heap) (v : YS) (hP : va_P D vwCl (YW ca b v) s.heap) {q : Int32} : ∀ (n : Nat) (x1 : Int64) (x3 : Int32) (x4 : Int32) (x5 : Int32) (ls : Array Slot) (hl : lv_has ls 6 [(0, .ref (b 0)), (1, .long x1), (3, .int x3), (4, .int x4), (5, .int x5)]) (h : fn_X7_leads_6 v n x1 x3 x4 x5 = some q), W p l e rm_X7_leads s m args below meth c s.heap [] 0 0 (MQ below (HQ (some (.int q))) args s 0 0 (fun _ => False)) (F0 m 6 ls []) := by
  intro n
  induction n with
  | zero => intro x1 x3 x4 x5 ls hl h; unfold fn_X7_leads_6 at h; cases h
  | succ n ih => intro x1 x3 x4 x5 ls hl h; exact wk_X7_leads_6_body C0 hK hT0 v hP (k6 := fn_X7_leads_6 v n) (hk6 := ih) (hl := hl) (h := h)
set_option maxHeartbeats 4000000 in
set_option maxRecDepth 100000 in
theorem wk_X7_leads {p : Program} {l : Launch} {e : Env} {s : State} {m : MethodId} {args : Array Value} {below : List Frame} {meth : Method} {c : Code} {D : va_G} {ca : Nat → ClassId} {b : Nat → Nat} {tw : Nat} {tt : Nat → Nat} (C0 : Cx p s m args meth c cX7_leads (some .int) 6 wsX7_leads RX7) (hK : va_K D vwCl (tys3 ca) s) (hT0 : tW tw tt (ad_of 6 b) s s.heap) (v : YS) (hP : va_P D vwCl (YW ca b v) s.heap) {q : Int32} (x1 : Int64) (x3 : Int32) (ls : Array Slot) (hl : lv_has ls 6 [(0, .ref (b 0)), (1, .long x1), (3, .int x3)]) (h : fn_X7_leads v x1 x3 = some q) : W p l e rm_X7_leads s m args below meth c s.heap [] 0 0 (MQ below (HQ (some (.int q))) args s 0 0 (fun _ => False)) (F0 m 0 ls []) := by
  obtain ⟨hx, hb, hr, hml, hown, hts, hlocks⟩ := id C0
  have hS : va_S (ad_of 6 b) s.heap s.heap [] := va_S.rf
  unfold fn_X7_leads at h
  refine lv_iconst (v := (-1)) hx hb dX7_leads_0 (by decide) ?_
  refine lv_istore (lv' := [(4, .int (-1)), (0, .ref (b 0)), (1, .long x1), (3, .int x3)]) hx hb dX7_leads_1 hl (by decide) rfl (fun ls hl => ?_)
  refine lv_iconst (v := 0) hx hb dX7_leads_3 (by decide) ?_
  refine lv_istore (lv' := [(5, .int 0), (4, .int (-1)), (0, .ref (b 0)), (1, .long x1), (3, .int x3)]) hx hb dX7_leads_4 hl (by decide) rfl (fun ls hl => ?_)
  exact wk_X7_leads_6 C0 hK hT0 v hP  FU x1 x3 (-1) 0 ls (lv_sub hl [2, 3, 4, 1, 0] rfl) h
theorem ct_X7_leads (l : Launch) (D : va_G) (ca : Nat → ClassId) (b : Nat → Nat) (tw : Nat) (tt : Nat → Nat) (v : YS) (x1 : Int64) (x3 : Int32) {q : Int32} (h : fn_X7_leads v x1 x3 = some q) : Hp l yX7_leads wsX7_leads rm_X7_leads [.ref (b 0), .long x1, .int x3] (GW D ca tw tt (ad_of 6 b) (YW ca b v)) (some (.int q)) := by
  refine Hp.of (cc := cX7_leads) (nL := 6) (ret := (some .int)) (own := RX7) (by decide) rfl rfl (Nat.le_of_ble_eq_true rfl) ?_
  intro p e s m below meth c ls C0 hB hl
  exact wk_X7_leads C0 hB.2.1 hB.2.2 v hB.1 (hl := hl) (h := h)
abbrev rm_X7_termAt : Room := { frames := 3, cells := 0, slots := 0, locals := 75 }
theorem lk_X7_termAt_f13 : Cond.fieldLink RX7 13 "BooleanRingModel" "p" "[J" ∈ wsX7_termAt := by decide +kernel
theorem ly_X7_termAt_X7 : ∀ w ∈ wsX70, w ∈ wsX7_termAt := by decide +kernel
set_option maxHeartbeats 4000000 in
set_option maxRecDepth 100000 in
theorem wk_X7_termAt_64 {p : Program} {l : Launch} {e : Env} {s : State} {m : MethodId} {args : Array Value} {below : List Frame} {meth : Method} {c : Code} {D : va_G} {ca : Nat → ClassId} {b : Nat → Nat} {tw : Nat} {tt : Nat → Nat} (C0 : Cx p s m args meth c cX7_termAt (some .int) 7 wsX7_termAt RX7) (hK : va_K D vwCl (tys3 ca) s) (hT0 : tW tw tt (ad_of 6 b) s s.heap) (v : YS) (hP : va_P D vwCl (YW ca b v) s.heap) {q : Int32} (x2 : Int32) (x4 : Int64) (ls : Array Slot) (hl : lv_has ls 7 [(0, .ref (b 0)), (2, .int x2), (4, .long x4)]) (h : fn_X7_termAt_64 v x2 x4 = some q) : W p l e rm_X7_termAt s m args below meth c s.heap [] 0 0 (MQ below (HQ (some (.int q))) args s 0 0 (fun _ => False)) (F0 m 64 ls []) := by
  obtain ⟨hx, hb, hr, hml, hown, hts, hlocks⟩ := id C0
  have hS : va_S (ad_of 6 b) s.heap s.heap [] := va_S.rf
  unfold fn_X7_termAt_64 at h
  refine lv_lload hx hb dX7_termAt_64 (lv_at hl 2 rfl) ?_
  refine lv_lconst (v := 0) hx hb dX7_termAt_66 (by decide) ?_
  refine wl_ne (tgt := 76) hx hb dX7_termAt_67 dX7_termAt_68 (by decide) (fun c67 => ?_) (fun c67 => ?_)
  · replace h := ite_f h c67
    refine lv_aload_n hx hb dX7_termAt_76 rfl (lv_at hl 0 rfl) ?_
    refine lv_lload hx hb dX7_termAt_77 (lv_at hl 2 rfl) ?_
    refine lv_iload_n hx hb dX7_termAt_79 rfl (lv_at hl 1 rfl) ?_
    obtain ⟨q80, e80, h⟩ := Option.bind_eq_some_iff.mp h
    refine hp_V (As := [.long x4, .int x2]) (rest := []) (b := (b 0)) ⟨hx, hb, hml, hown, hts⟩ (ct_X7_leads l D ca b tw tt v x4 x2 e80) (cwV 2 hts gX7_termAt_X7_leads rfl rfl rfl (by decide +kernel) ⟨Nat.le_of_ble_eq_true rfl, Nat.le_of_ble_eq_true rfl⟩) (va_recv hK hP (ci := 4) (q0 := 0) rfl rfl) GW.mv (GW.from hP hK hT0 hS) rfl hl.1 rfl (Nat.le_of_ble_eq_true rfl) dX7_termAt_80 ⟨Nat.zero_le _, Nat.zero_le _⟩ ?_
    refine W.eq (g2 := F0 m 83 ls [.int q80]) rfl ?_
    obtain rfl := Option.some.inj h
    exact hp_iret hx hb hr hlocks dX7_termAt_83
  · replace h := ite_t h c67
    refine lv_bipush (v := (-4)) hx hb dX7_termAt_71 (by decide) ?_
    refine lv_goto (tgt := 83) hx hb dX7_termAt_73 (by decide) ?_
    obtain rfl := Option.some.inj h
    exact hp_iret hx hb hr hlocks dX7_termAt_83
set_option maxHeartbeats 4000000 in
set_option maxRecDepth 100000 in
theorem wk_X7_termAt_31_body {p : Program} {l : Launch} {e : Env} {s : State} {m : MethodId} {args : Array Value} {below : List Frame} {meth : Method} {c : Code} {D : va_G} {ca : Nat → ClassId} {b : Nat → Nat} {tw : Nat} {tt : Nat → Nat} (C0 : Cx p s m args meth c cX7_termAt (some .int) 7 wsX7_termAt RX7) (hK : va_K D vwCl (tys3 ca) s) (hT0 : tW tw tt (ad_of 6 b) s s.heap) (v : YS) (hP : va_P D vwCl (YW ca b v) s.heap) {q : Int32} (k31 : Int32 → Int32 → Int64 → Int32 → Option (Int32)) (hk31 : ∀ (x2 : Int32) (x3 : Int32) (x4 : Int64) (x6 : Int32) (ls : Array Slot) (hl : lv_has ls 7 [(0, .ref (b 0)), (2, .int x2), (3, .int x3), (4, .long x4), (6, .int x6)]) (h : k31 x2 x3 x4 x6 = some q), W p l e rm_X7_termAt s m args below meth c s.heap [] 0 0 (MQ below (HQ (some (.int q))) args s 0 0 (fun _ => False)) (F0 m 31 ls [])) (x2 : Int32) (x3 : Int32) (x4 : Int64) (x6 : Int32) (ls : Array Slot) (hl : lv_has ls 7 [(0, .ref (b 0)), (2, .int x2), (3, .int x3), (4, .long x4), (6, .int x6)]) (h : fn_X7_termAt_31_body v k31 x2 x3 x4 x6 = some q) : W p l e rm_X7_termAt s m args below meth c s.heap [] 0 0 (MQ below (HQ (some (.int q))) args s 0 0 (fun _ => False)) (F0 m 31 ls []) := by
  obtain ⟨hx, hb, hr, hml, hown, hts, hlocks⟩ := id C0
  have hS : va_S (ad_of 6 b) s.heap s.heap [] := va_S.rf
  unfold fn_X7_termAt_31_body at h
  refine lv_iload hx hb dX7_termAt_31 (lv_at hl 4 rfl) ?_
  refine lv_iload_n hx hb dX7_termAt_33 rfl (lv_at hl 2 rfl) ?_
  refine lv_icmp_ge (tgt := 64) hx hb dX7_termAt_34 (by decide) (fun c34 => ?_) (fun c34 => ?_)
  · replace h := ite_t h c34
    exact wk_X7_termAt_64 C0 hK hT0 v hP (ls := ls) (hl := (lv_sub hl [0, 1, 3] rfl)) (h := h)
  · replace h := ite_f h c34
    refine lv_lload hx hb dX7_termAt_37 (lv_at hl 3 rfl) ?_
    refine lv_lconst (v := 0) hx hb dX7_termAt_39 (by decide) ?_
    refine wl_eq (tgt := 64) hx hb dX7_termAt_40 dX7_termAt_41 (by decide) (fun c40 => ?_) (fun c40 => ?_)
    · replace h := ite_t h c40
      exact wk_X7_termAt_64 C0 hK hT0 v hP (ls := ls) (hl := (lv_sub hl [0, 1, 3] rfl)) (h := h)
    · replace h := ite_f h c40
      refine lv_lload hx hb dX7_termAt_44 (lv_at hl 3 rfl) ?_
      refine lv_lconst (v := 1) hx hb dX7_termAt_46 (by decide) ?_
      refine lv_aload_n hx hb dX7_termAt_47 rfl (lv_at hl 0 rfl) ?_
      refine lv_lload hx hb dX7_termAt_48 (lv_at hl 3 rfl) ?_
      refine lv_iload_n hx hb dX7_termAt_50 rfl (lv_at hl 1 rfl) ?_
      obtain ⟨q51, e51, h⟩ := Option.bind_eq_some_iff.mp h
      refine hp_V (As := [.long x4, .int x2]) (rest := [.long 1, .long x4]) (b := (b 0)) ⟨hx, hb, hml, hown, hts⟩ (ct_X7_leads l D ca b tw tt v x4 x2 e51) (cwV 2 hts gX7_termAt_X7_leads rfl rfl rfl (by decide +kernel) ⟨Nat.le_of_ble_eq_true rfl, Nat.le_of_ble_eq_true rfl⟩) (va_recv hK hP (ci := 4) (q0 := 0) rfl rfl) GW.mv (GW.from hP hK hT0 hS) rfl hl.1 rfl (Nat.le_of_ble_eq_true rfl) dX7_termAt_51 ⟨Nat.zero_le _, Nat.zero_le _⟩ ?_
      refine W.eq (g2 := F0 m 54 ls [.int q51, .long 1, .long x4]) rfl ?_
      refine lv_lshl (v := (lsh 1 q51)) hx hb dX7_termAt_54 rfl ?_
      refine lv_lxor hx hb dX7_termAt_55 ?_
      refine lv_lstore (lv' := [(4, .long (x4 ^^^ (lsh 1 q51))), (0, .ref (b 0)), (2, .int x2), (3, .int x3), (6, .int x6)]) hx hb dX7_termAt_56 hl (by decide) rfl (fun ls hl => ?_)
      refine lv_iinc (v := (x6 + 1)) (lv' := [(6, .int (x6 + 1)), (4, .long (x4 ^^^ (lsh 1 q51))), (0, .ref (b 0)), (2, .int x2), (3, .int x3)]) hx hb dX7_termAt_58 hl (k := 4) rfl rfl (by decide) rfl (fun ls hl => ?_)
      refine lv_goto (tgt := 31) hx hb dX7_termAt_61 (by decide) ?_
      exact hk31 x2 x3 (x4 ^^^ (lsh 1 q51)) (x6 + 1) ls (lv_sub hl [2, 3, 4, 1, 0] rfl) h
set_option maxHeartbeats 4000000 in
set_option maxRecDepth 100000 in
theorem wk_X7_termAt_31 {p : Program} {l : Launch} {e : Env} {s : State} {m : MethodId} {args : Array Value} {below : List Frame} {meth : Method} {c : Code} {D : va_G} {ca : Nat → ClassId} {b : Nat → Nat} {tw : Nat} {tt : Nat → Nat} (C0 : Cx p s m args meth c cX7_termAt (some .int) 7 wsX7_termAt RX7) (hK : va_K D vwCl (tys3 ca) s) (hT0 : tW tw tt (ad_of 6 b) s s.heap) (v : YS) (hP : va_P D vwCl (YW ca b v) s.heap) {q : Int32} : ∀ (n : Nat) (x2 : Int32) (x3 : Int32) (x4 : Int64) (x6 : Int32) (ls : Array Slot) (hl : lv_has ls 7 [(0, .ref (b 0)), (2, .int x2), (3, .int x3), (4, .long x4), (6, .int x6)]) (h : fn_X7_termAt_31 v n x2 x3 x4 x6 = some q), W p l e rm_X7_termAt s m args below meth c s.heap [] 0 0 (MQ below (HQ (some (.int q))) args s 0 0 (fun _ => False)) (F0 m 31 ls []) := by
  intro n
  induction n with
  | zero => intro x2 x3 x4 x6 ls hl h; unfold fn_X7_termAt_31 at h; cases h
  | succ n ih => intro x2 x3 x4 x6 ls hl h; exact wk_X7_termAt_31_body C0 hK hT0 v hP (k31 := fn_X7_termAt_31 v n) (hk31 := ih) (hl := hl) (h := h)
set_option maxHeartbeats 4000000 in
set_option maxRecDepth 100000 in
theorem wk_X7_termAt {p : Program} {l : Launch} {e : Env} {s : State} {m : MethodId} {args : Array Value} {below : List Frame} {meth : Method} {c : Code} {D : va_G} {ca : Nat → ClassId} {b : Nat → Nat} {tw : Nat} {tt : Nat → Nat} (C0 : Cx p s m args meth c cX7_termAt (some .int) 7 wsX7_termAt RX7) (hK : va_K D vwCl (tys3 ca) s) (hT0 : tW tw tt (ad_of 6 b) s s.heap) (v : YS) (hP : va_P D vwCl (YW ca b v) s.heap) {q : Int32} (x1 : Int32) (x2 : Int32) (x3 : Int32) (ls : Array Slot) (hl : lv_has ls 7 [(0, .ref (b 0)), (1, .int x1), (2, .int x2), (3, .int x3)]) (h : fn_X7_termAt v x1 x2 x3 = some q) : W p l e rm_X7_termAt s m args below meth c s.heap [] 0 0 (MQ below (HQ (some (.int q))) args s 0 0 (fun _ => False)) (F0 m 0 ls []) := by
  obtain ⟨hx, hb, hr, hml, hown, hts, hlocks⟩ := id C0
  have hS : va_S (ad_of 6 b) s.heap s.heap [] := va_S.rf
  unfold fn_X7_termAt at h
  refine lv_iload_n hx hb dX7_termAt_0 rfl (lv_at hl 1 rfl) ?_
  obtain ⟨q1, e1, h⟩ := Option.bind_eq_some_iff.mp h
  refine hp_S (As := [.int x1]) (rest := []) ⟨hx, hb, hml, hown, hts⟩ (ct_X7_isRegister l tw tt x1 e1) (va_cwS 1 hts gX7_termAt_X7_isRegister rfl rfl rfl (by decide +kernel) ⟨Nat.le_of_ble_eq_true rfl, Nat.le_of_ble_eq_true rfl⟩) GP.mv (GP.from hT0 hS) rfl hl.1 rfl (Nat.le_of_ble_eq_true rfl) dX7_termAt_1 ⟨Nat.zero_le _, Nat.zero_le _⟩ ?_
  refine W.eq (g2 := F0 m 4 ls [.int q1]) rfl ?_
  refine lv_if_eq (tgt := 18) hx hb dX7_termAt_4 (by decide) (fun c4 => ?_) (fun c4 => ?_)
  · replace h := ite_t h c4
    refine lv_iconst (v := (-1)) hx hb dX7_termAt_18 (by decide) ?_
    obtain rfl := Option.some.inj h
    exact hp_iret hx hb hr hlocks dX7_termAt_19
  · replace h := ite_f h c4
    refine lv_iload_n hx hb dX7_termAt_7 rfl (lv_at hl 2 rfl) ?_
    obtain ⟨q8, e8, h⟩ := Option.bind_eq_some_iff.mp h
    refine hp_S (As := [.int x2]) (rest := []) ⟨hx, hb, hml, hown, hts⟩ (ct_X7_isOrder l tw tt x2 e8) (va_cwS 1 hts gX7_termAt_X7_isOrder rfl rfl rfl (by decide +kernel) ⟨Nat.le_of_ble_eq_true rfl, Nat.le_of_ble_eq_true rfl⟩) GP.mv (GP.from hT0 hS) rfl hl.1 rfl (Nat.le_of_ble_eq_true rfl) dX7_termAt_8 ⟨Nat.zero_le _, Nat.zero_le _⟩ ?_
    refine W.eq (g2 := F0 m 11 ls [.int q8]) rfl ?_
    refine lv_if_eq (tgt := 18) hx hb dX7_termAt_11 (by decide) (fun c11 => ?_) (fun c11 => ?_)
    · replace h := ite_t h c11
      refine lv_iconst (v := (-1)) hx hb dX7_termAt_18 (by decide) ?_
      obtain rfl := Option.some.inj h
      exact hp_iret hx hb hr hlocks dX7_termAt_19
    · replace h := ite_f h c11
      refine lv_iload_n hx hb dX7_termAt_14 rfl (lv_at hl 3 rfl) ?_
      refine lv_if_ge (tgt := 20) hx hb dX7_termAt_15 (by decide) (fun c15 => ?_) (fun c15 => ?_)
      · replace h := ite_t h c15
        refine lv_aload_n hx hb dX7_termAt_20 rfl (lv_at hl 0 rfl) ?_
        refine va_get (D := D) (ci := 4) (v := .ref (b 1)) (C := RX7) (T := TX7) (N := 9) hx hb hts ly_X7_termAt_X7 hown hK hP 0 rfl rfl 1 (by decide) (hts _ lk_X7_termAt_f13) (fun _ h9 => h9) rfl dX7_termAt_21 ?_
        refine lv_iload_n hx hb dX7_termAt_24 rfl (lv_at hl 1 rfl) ?_
        obtain ⟨q25, e25, h⟩ := Option.bind_eq_some_iff.mp h
        refine rd_lald hx hb hK hP 1 0 e25 rfl rfl dX7_termAt_25 ?_
        refine lv_lstore (lv' := [(4, .long q25), (0, .ref (b 0)), (1, .int x1), (2, .int x2), (3, .int x3)]) hx hb dX7_termAt_26 hl (by decide) rfl (fun ls hl => ?_)
        refine lv_iconst (v := 0) hx hb dX7_termAt_28 (by decide) ?_
        refine lv_istore (lv' := [(6, .int 0), (4, .long q25), (0, .ref (b 0)), (1, .int x1), (2, .int x2), (3, .int x3)]) hx hb dX7_termAt_29 hl (by decide) rfl (fun ls hl => ?_)
        exact wk_X7_termAt_31 C0 hK hT0 v hP  FU x2 x3 q25 0 ls (lv_sub hl [2, 4, 5, 1, 0] rfl) h
      · replace h := ite_f h c15
        refine lv_iconst (v := (-1)) hx hb dX7_termAt_18 (by decide) ?_
        obtain rfl := Option.some.inj h
        exact hp_iret hx hb hr hlocks dX7_termAt_19
theorem ct_X7_termAt (l : Launch) (D : va_G) (ca : Nat → ClassId) (b : Nat → Nat) (tw : Nat) (tt : Nat → Nat) (v : YS) (x1 : Int32) (x2 : Int32) (x3 : Int32) {q : Int32} (h : fn_X7_termAt v x1 x2 x3 = some q) : Hp l yX7_termAt wsX7_termAt rm_X7_termAt [.ref (b 0), .int x1, .int x2, .int x3] (GW D ca tw tt (ad_of 6 b) (YW ca b v)) (some (.int q)) := by
  refine Hp.of (cc := cX7_termAt) (nL := 7) (ret := (some .int)) (own := RX7) (by decide) rfl rfl (Nat.le_of_ble_eq_true rfl) ?_
  intro p e s m below meth c ls C0 hB hl
  exact wk_X7_termAt C0 hB.2.1 hB.2.2 v hB.1 (hl := hl) (h := h)
abbrev rm_X7_value : Room := { frames := 2, cells := 0, slots := 0, locals := 48 }
theorem lk_X7_value_f13 : Cond.fieldLink RX7 13 "BooleanRingModel" "p" "[J" ∈ wsX7_value := by decide +kernel
theorem ly_X7_value_X7 : ∀ w ∈ wsX70, w ∈ wsX7_value := by decide +kernel
set_option maxHeartbeats 4000000 in
set_option maxRecDepth 100000 in
theorem wk_X7_value {p : Program} {l : Launch} {e : Env} {s : State} {m : MethodId} {args : Array Value} {below : List Frame} {meth : Method} {c : Code} {D : va_G} {ca : Nat → ClassId} {b : Nat → Nat} {tw : Nat} {tt : Nat → Nat} (C0 : Cx p s m args meth c cX7_value (some .int) 3 wsX7_value RX7) (hK : va_K D vwCl (tys3 ca) s) (hT0 : tW tw tt (ad_of 6 b) s s.heap) (v : YS) (hP : va_P D vwCl (YW ca b v) s.heap) {q : Int32} (x1 : Int32) (x2 : Int32) (ls : Array Slot) (hl : lv_has ls 3 [(0, .ref (b 0)), (1, .int x1), (2, .int x2)]) (h : fn_X7_value v x1 x2 = some q) : W p l e rm_X7_value s m args below meth c s.heap [] 0 0 (MQ below (HQ (some (.int q))) args s 0 0 (fun _ => False)) (F0 m 0 ls []) := by
  obtain ⟨hx, hb, hr, hml, hown, hts, hlocks⟩ := id C0
  have hS : va_S (ad_of 6 b) s.heap s.heap [] := va_S.rf
  unfold fn_X7_value at h
  refine lv_iload_n hx hb dX7_value_0 rfl (lv_at hl 1 rfl) ?_
  obtain ⟨q1, e1, h⟩ := Option.bind_eq_some_iff.mp h
  refine hp_S (As := [.int x1]) (rest := []) ⟨hx, hb, hml, hown, hts⟩ (ct_X7_isRegister l tw tt x1 e1) (va_cwS 1 hts gX7_value_X7_isRegister rfl rfl rfl (by decide +kernel) ⟨Nat.le_of_ble_eq_true rfl, Nat.le_of_ble_eq_true rfl⟩) GP.mv (GP.from hT0 hS) rfl hl.1 rfl (Nat.le_of_ble_eq_true rfl) dX7_value_1 ⟨Nat.zero_le _, Nat.zero_le _⟩ ?_
  refine W.eq (g2 := F0 m 4 ls [.int q1]) rfl ?_
  refine lv_if_eq (tgt := 33) hx hb dX7_value_4 (by decide) (fun c4 => ?_) (fun c4 => ?_)
  · replace h := ite_t h c4
    refine lv_iconst (v := (-1)) hx hb dX7_value_33 (by decide) ?_
    obtain rfl := Option.some.inj h
    exact hp_iret hx hb hr hlocks dX7_value_34
  · replace h := ite_f h c4
    refine lv_aload_n hx hb dX7_value_7 rfl (lv_at hl 0 rfl) ?_
    refine lv_iload_n hx hb dX7_value_8 rfl (lv_at hl 2 rfl) ?_
    obtain ⟨q9, e9, h⟩ := Option.bind_eq_some_iff.mp h
    refine hp_V (As := [.int x2]) (rest := []) (b := (b 0)) ⟨hx, hb, hml, hown, hts⟩ (ct_X7_isMask l D ca b tw tt v x2 e9) (cwV 1 hts gX7_value_X7_isMask rfl rfl rfl (by decide +kernel) ⟨Nat.le_of_ble_eq_true rfl, Nat.le_of_ble_eq_true rfl⟩) (va_recv hK hP (ci := 4) (q0 := 0) rfl rfl) GW.mv (GW.from hP hK hT0 hS) rfl hl.1 rfl (Nat.le_of_ble_eq_true rfl) dX7_value_9 ⟨Nat.zero_le _, Nat.zero_le _⟩ ?_
    refine W.eq (g2 := F0 m 12 ls [.int q9]) rfl ?_
    refine lv_if_eq (tgt := 33) hx hb dX7_value_12 (by decide) (fun c12 => ?_) (fun c12 => ?_)
    · replace h := ite_t h c12
      refine lv_iconst (v := (-1)) hx hb dX7_value_33 (by decide) ?_
      obtain rfl := Option.some.inj h
      exact hp_iret hx hb hr hlocks dX7_value_34
    · replace h := ite_f h c12
      refine lv_aload_n hx hb dX7_value_15 rfl (lv_at hl 0 rfl) ?_
      refine lv_aload_n hx hb dX7_value_16 rfl (lv_at hl 0 rfl) ?_
      refine va_get (D := D) (ci := 4) (v := .ref (b 1)) (C := RX7) (T := TX7) (N := 9) hx hb hts ly_X7_value_X7 hown hK hP 0 rfl rfl 1 (by decide) (hts _ lk_X7_value_f13) (fun _ h9 => h9) rfl dX7_value_17 ?_
      refine lv_iload_n hx hb dX7_value_20 rfl (lv_at hl 1 rfl) ?_
      obtain ⟨q21, e21, h⟩ := Option.bind_eq_some_iff.mp h
      refine rd_lald hx hb hK hP 1 0 e21 rfl rfl dX7_value_21 ?_
      obtain ⟨q22, e22, h⟩ := Option.bind_eq_some_iff.mp h
      refine hp_V (As := [.long q21]) (rest := []) (b := (b 0)) ⟨hx, hb, hml, hown, hts⟩ (ct_X7_values l D ca b tw tt v q21 e22) (cwV 1 hts gX7_value_X7_values rfl rfl rfl (by decide +kernel) ⟨Nat.le_of_ble_eq_true rfl, Nat.le_of_ble_eq_true rfl⟩) (va_recv hK hP (ci := 4) (q0 := 0) rfl rfl) GW.mv (GW.from hP hK hT0 hS) rfl hl.1 rfl (Nat.le_of_ble_eq_true rfl) dX7_value_22 ⟨Nat.zero_le _, Nat.zero_le _⟩ ?_
      refine W.eq (g2 := F0 m 25 ls [.long q22]) rfl ?_
      refine lv_iload_n hx hb dX7_value_25 rfl (lv_at hl 2 rfl) ?_
      refine lv_lshr (v := (lsr q22 x2)) hx hb dX7_value_26 rfl ?_
      refine lv_lconst (v := 1) hx hb dX7_value_27 (by decide) ?_
      refine lv_land hx hb dX7_value_28 ?_
      refine lv_l2i (v := ((lsr q22 x2) &&& 1).toInt32) hx hb dX7_value_29 rfl ?_
      refine lv_goto (tgt := 34) hx hb dX7_value_30 (by decide) ?_
      obtain rfl := Option.some.inj h
      exact hp_iret hx hb hr hlocks dX7_value_34
theorem ct_X7_value (l : Launch) (D : va_G) (ca : Nat → ClassId) (b : Nat → Nat) (tw : Nat) (tt : Nat → Nat) (v : YS) (x1 : Int32) (x2 : Int32) {q : Int32} (h : fn_X7_value v x1 x2 = some q) : Hp l yX7_value wsX7_value rm_X7_value [.ref (b 0), .int x1, .int x2] (GW D ca tw tt (ad_of 6 b) (YW ca b v)) (some (.int q)) := by
  refine Hp.of (cc := cX7_value) (nL := 3) (ret := (some .int)) (own := RX7) (by decide) rfl rfl (Nat.le_of_ble_eq_true rfl) ?_
  intro p e s m below meth c ls C0 hB hl
  exact wk_X7_value C0 hB.2.1 hB.2.2 v hB.1 (hl := hl) (h := h)
abbrev rm_X7_isSame : Room := { frames := 2, cells := 0, slots := 0, locals := 42 }
theorem lk_X7_isSame_f13 : Cond.fieldLink RX7 13 "BooleanRingModel" "p" "[J" ∈ wsX7_isSame := by decide +kernel
theorem ly_X7_isSame_X7 : ∀ w ∈ wsX70, w ∈ wsX7_isSame := by decide +kernel
set_option maxHeartbeats 4000000 in
set_option maxRecDepth 100000 in
theorem wk_X7_isSame {p : Program} {l : Launch} {e : Env} {s : State} {m : MethodId} {args : Array Value} {below : List Frame} {meth : Method} {c : Code} {D : va_G} {ca : Nat → ClassId} {b : Nat → Nat} {tw : Nat} {tt : Nat → Nat} (C0 : Cx p s m args meth c cX7_isSame (some .int) 3 wsX7_isSame RX7) (hK : va_K D vwCl (tys3 ca) s) (hT0 : tW tw tt (ad_of 6 b) s s.heap) (v : YS) (hP : va_P D vwCl (YW ca b v) s.heap) {q : Int32} (x1 : Int32) (x2 : Int32) (ls : Array Slot) (hl : lv_has ls 3 [(0, .ref (b 0)), (1, .int x1), (2, .int x2)]) (h : fn_X7_isSame v x1 x2 = some q) : W p l e rm_X7_isSame s m args below meth c s.heap [] 0 0 (MQ below (HQ (some (.int q))) args s 0 0 (fun _ => False)) (F0 m 0 ls []) := by
  obtain ⟨hx, hb, hr, hml, hown, hts, hlocks⟩ := id C0
  have hS : va_S (ad_of 6 b) s.heap s.heap [] := va_S.rf
  unfold fn_X7_isSame at h
  refine lv_iload_n hx hb dX7_isSame_0 rfl (lv_at hl 1 rfl) ?_
  obtain ⟨q1, e1, h⟩ := Option.bind_eq_some_iff.mp h
  refine hp_S (As := [.int x1]) (rest := []) ⟨hx, hb, hml, hown, hts⟩ (ct_X7_isRegister l tw tt x1 e1) (va_cwS 1 hts gX7_isSame_X7_isRegister rfl rfl rfl (by decide +kernel) ⟨Nat.le_of_ble_eq_true rfl, Nat.le_of_ble_eq_true rfl⟩) GP.mv (GP.from hT0 hS) rfl hl.1 rfl (Nat.le_of_ble_eq_true rfl) dX7_isSame_1 ⟨Nat.zero_le _, Nat.zero_le _⟩ ?_
  refine W.eq (g2 := F0 m 4 ls [.int q1]) rfl ?_
  refine lv_if_eq (tgt := 14) hx hb dX7_isSame_4 (by decide) (fun c4 => ?_) (fun c4 => ?_)
  · replace h := ite_t h c4
    refine lv_iconst (v := (-1)) hx hb dX7_isSame_14 (by decide) ?_
    refine lv_goto (tgt := 39) hx hb dX7_isSame_15 (by decide) ?_
    obtain rfl := Option.some.inj h
    exact hp_iret hx hb hr hlocks dX7_isSame_39
  · replace h := ite_f h c4
    refine lv_iload_n hx hb dX7_isSame_7 rfl (lv_at hl 2 rfl) ?_
    obtain ⟨q8, e8, h⟩ := Option.bind_eq_some_iff.mp h
    refine hp_S (As := [.int x2]) (rest := []) ⟨hx, hb, hml, hown, hts⟩ (ct_X7_isRegister l tw tt x2 e8) (va_cwS 1 hts gX7_isSame_X7_isRegister rfl rfl rfl (by decide +kernel) ⟨Nat.le_of_ble_eq_true rfl, Nat.le_of_ble_eq_true rfl⟩) GP.mv (GP.from hT0 hS) rfl hl.1 rfl (Nat.le_of_ble_eq_true rfl) dX7_isSame_8 ⟨Nat.zero_le _, Nat.zero_le _⟩ ?_
    refine W.eq (g2 := F0 m 11 ls [.int q8]) rfl ?_
    refine lv_if_ne (tgt := 18) hx hb dX7_isSame_11 (by decide) (fun c11 => ?_) (fun c11 => ?_)
    · replace h := ite_f h c11
      refine lv_aload_n hx hb dX7_isSame_18 rfl (lv_at hl 0 rfl) ?_
      refine va_get (D := D) (ci := 4) (v := .ref (b 1)) (C := RX7) (T := TX7) (N := 9) hx hb hts ly_X7_isSame_X7 hown hK hP 0 rfl rfl 1 (by decide) (hts _ lk_X7_isSame_f13) (fun _ h9 => h9) rfl dX7_isSame_19 ?_
      refine lv_iload_n hx hb dX7_isSame_22 rfl (lv_at hl 1 rfl) ?_
      obtain ⟨q23, e23, h⟩ := Option.bind_eq_some_iff.mp h
      refine rd_lald hx hb hK hP 1 0 e23 rfl rfl dX7_isSame_23 ?_
      refine lv_aload_n hx hb dX7_isSame_24 rfl (lv_at hl 0 rfl) ?_
      refine va_get (D := D) (ci := 4) (v := .ref (b 1)) (C := RX7) (T := TX7) (N := 9) hx hb hts ly_X7_isSame_X7 hown hK hP 0 rfl rfl 1 (by decide) (hts _ lk_X7_isSame_f13) (fun _ h9 => h9) rfl dX7_isSame_25 ?_
      refine lv_iload_n hx hb dX7_isSame_28 rfl (lv_at hl 2 rfl) ?_
      obtain ⟨q29, e29, h⟩ := Option.bind_eq_some_iff.mp h
      refine rd_lald hx hb hK hP 1 0 e29 rfl rfl dX7_isSame_29 ?_
      refine wl_ne (tgt := 38) hx hb dX7_isSame_30 dX7_isSame_31 (by decide) (fun c30 => ?_) (fun c30 => ?_)
      · replace h := ite_f h c30
        refine lv_iconst (v := 0) hx hb dX7_isSame_38 (by decide) ?_
        obtain rfl := Option.some.inj h
        exact hp_iret hx hb hr hlocks dX7_isSame_39
      · replace h := ite_t h c30
        refine lv_iconst (v := 1) hx hb dX7_isSame_34 (by decide) ?_
        refine lv_goto (tgt := 39) hx hb dX7_isSame_35 (by decide) ?_
        obtain rfl := Option.some.inj h
        exact hp_iret hx hb hr hlocks dX7_isSame_39
    · replace h := ite_t h c11
      refine lv_iconst (v := (-1)) hx hb dX7_isSame_14 (by decide) ?_
      refine lv_goto (tgt := 39) hx hb dX7_isSame_15 (by decide) ?_
      obtain rfl := Option.some.inj h
      exact hp_iret hx hb hr hlocks dX7_isSame_39
theorem ct_X7_isSame (l : Launch) (D : va_G) (ca : Nat → ClassId) (b : Nat → Nat) (tw : Nat) (tt : Nat → Nat) (v : YS) (x1 : Int32) (x2 : Int32) {q : Int32} (h : fn_X7_isSame v x1 x2 = some q) : Hp l yX7_isSame wsX7_isSame rm_X7_isSame [.ref (b 0), .int x1, .int x2] (GW D ca tw tt (ad_of 6 b) (YW ca b v)) (some (.int q)) := by
  refine Hp.of (cc := cX7_isSame) (nL := 3) (ret := (some .int)) (own := RX7) (by decide) rfl rfl (Nat.le_of_ble_eq_true rfl) ?_
  intro p e s m below meth c ls C0 hB hl
  exact wk_X7_isSame C0 hB.2.1 hB.2.2 v hB.1 (hl := hl) (h := h)
abbrev rm_X7_taker : Room := { frames := 3, cells := 0, slots := 0, locals := 75 }
theorem lk_X7_taker_f27 : Cond.fieldLink RX7 27 "BooleanRingModel" "by" "[J" ∈ wsX7_taker := by decide +kernel
theorem ly_X7_taker_X7 : ∀ w ∈ wsX70, w ∈ wsX7_taker := by decide +kernel
set_option maxHeartbeats 4000000 in
set_option maxRecDepth 100000 in
theorem wk_X7_taker_3_body {p : Program} {l : Launch} {e : Env} {s : State} {m : MethodId} {args : Array Value} {below : List Frame} {meth : Method} {c : Code} {D : va_G} {ca : Nat → ClassId} {b : Nat → Nat} {tw : Nat} {tt : Nat → Nat} (C0 : Cx p s m args meth c cX7_taker (some .int) 6 wsX7_taker RX7) (hK : va_K D vwCl (tys3 ca) s) (hT0 : tW tw tt (ad_of 6 b) s s.heap) (v : YS) (hP : va_P D vwCl (YW ca b v) s.heap) {q : Int32} (k3 : Int32 → Int32 → Int32 → Int32 → Option (Int32)) (hk3 : ∀ (x1 : Int32) (x2 : Int32) (x3 : Int32) (x4 : Int32) (ls : Array Slot) (hl : lv_has ls 6 [(0, .ref (b 0)), (1, .int x1), (2, .int x2), (3, .int x3), (4, .int x4)]) (h : k3 x1 x2 x3 x4 = some q), W p l e rm_X7_taker s m args below meth c s.heap [] 0 0 (MQ below (HQ (some (.int q))) args s 0 0 (fun _ => False)) (F0 m 3 ls [])) (x1 : Int32) (x2 : Int32) (x3 : Int32) (x4 : Int32) (ls : Array Slot) (hl : lv_has ls 6 [(0, .ref (b 0)), (1, .int x1), (2, .int x2), (3, .int x3), (4, .int x4)]) (h : fn_X7_taker_3_body v k3 x1 x2 x3 x4 = some q) : W p l e rm_X7_taker s m args below meth c s.heap [] 0 0 (MQ below (HQ (some (.int q))) args s 0 0 (fun _ => False)) (F0 m 3 ls []) := by
  obtain ⟨hx, hb, hr, hml, hown, hts, hlocks⟩ := id C0
  have hS : va_S (ad_of 6 b) s.heap s.heap [] := va_S.rf
  unfold fn_X7_taker_3_body at h
  refine lv_iload hx hb dX7_taker_3 (lv_at hl 4 rfl) ?_
  refine lv_bipush (v := 8) hx hb dX7_taker_5 (by decide) ?_
  refine lv_icmp_ge (tgt := 64) hx hb dX7_taker_7 (by decide) (fun c7 => ?_) (fun c7 => ?_)
  · replace h := ite_t h c7
    refine lv_iconst (v := (-1)) hx hb dX7_taker_64 (by decide) ?_
    obtain rfl := Option.some.inj h
    exact hp_iret hx hb hr hlocks dX7_taker_65
  · replace h := ite_f h c7
    refine lv_iload_n hx hb dX7_taker_10 rfl (lv_at hl 1 rfl) ?_
    refine lv_iload hx hb dX7_taker_11 (lv_at hl 4 rfl) ?_
    refine lv_ishr hx hb dX7_taker_13 ?_
    refine lv_iconst (v := 1) hx hb dX7_taker_14 (by decide) ?_
    refine lv_iand hx hb dX7_taker_15 ?_
    refine lv_iconst (v := 1) hx hb dX7_taker_16 (by decide) ?_
    refine lv_icmp_ne (tgt := 58) hx hb dX7_taker_17 (by decide) (fun c17 => ?_) (fun c17 => ?_)
    · replace h := ite_f h c17
      refine lv_iinc (v := (x4 + 1)) (lv' := [(4, .int (x4 + 1)), (0, .ref (b 0)), (1, .int x1), (2, .int x2), (3, .int x3)]) hx hb dX7_taker_58 hl (k := 4) rfl rfl (by decide) rfl (fun ls hl => ?_)
      refine lv_goto (tgt := 3) hx hb dX7_taker_61 (by decide) ?_
      exact hk3 x1 x2 x3 (x4 + 1) ls (lv_sub hl [1, 2, 3, 4, 0] rfl) h
    · replace h := ite_t h c17
      refine lv_aload_n hx hb dX7_taker_20 rfl (lv_at hl 0 rfl) ?_
      refine va_get (D := D) (ci := 4) (v := .ref (b 5)) (C := RX7) (T := TX7) (N := 9) hx hb hts ly_X7_taker_X7 hown hK hP 0 rfl rfl 8 (by decide) (hts _ lk_X7_taker_f27) (fun _ h9 => h9) rfl dX7_taker_21 ?_
      refine lv_iload hx hb dX7_taker_24 (lv_at hl 4 rfl) ?_
      obtain ⟨q26, e26, h⟩ := Option.bind_eq_some_iff.mp h
      refine rd_lald hx hb hK hP 5 0 e26 rfl rfl dX7_taker_26 ?_
      refine lv_lconst (v := 0) hx hb dX7_taker_27 (by decide) ?_
      refine wl_eq (tgt := 58) hx hb dX7_taker_28 dX7_taker_29 (by decide) (fun c28 => ?_) (fun c28 => ?_)
      · replace h := ite_t h c28
        refine lv_iinc (v := (x4 + 1)) (lv' := [(4, .int (x4 + 1)), (0, .ref (b 0)), (1, .int x1), (2, .int x2), (3, .int x3)]) hx hb dX7_taker_58 hl (k := 4) rfl rfl (by decide) rfl (fun ls hl => ?_)
        refine lv_goto (tgt := 3) hx hb dX7_taker_61 (by decide) ?_
        exact hk3 x1 x2 x3 (x4 + 1) ls (lv_sub hl [1, 2, 3, 4, 0] rfl) h
      · replace h := ite_f h c28
        refine lv_aload_n hx hb dX7_taker_32 rfl (lv_at hl 0 rfl) ?_
        refine lv_aload_n hx hb dX7_taker_33 rfl (lv_at hl 0 rfl) ?_
        refine va_get (D := D) (ci := 4) (v := .ref (b 5)) (C := RX7) (T := TX7) (N := 9) hx hb hts ly_X7_taker_X7 hown hK hP 0 rfl rfl 8 (by decide) (hts _ lk_X7_taker_f27) (fun _ h9 => h9) rfl dX7_taker_34 ?_
        refine lv_iload hx hb dX7_taker_37 (lv_at hl 4 rfl) ?_
        obtain ⟨q39, e39, h⟩ := Option.bind_eq_some_iff.mp h
        refine rd_lald hx hb hK hP 5 0 e39 rfl rfl dX7_taker_39 ?_
        refine lv_iload_n hx hb dX7_taker_40 rfl (lv_at hl 2 rfl) ?_
        obtain ⟨q41, e41, h⟩ := Option.bind_eq_some_iff.mp h
        refine hp_V (As := [.long q39, .int x2]) (rest := []) (b := (b 0)) ⟨hx, hb, hml, hown, hts⟩ (ct_X7_leads l D ca b tw tt v q39 x2 e41) (cwV 2 hts gX7_taker_X7_leads rfl rfl rfl (by decide +kernel) ⟨Nat.le_of_ble_eq_true rfl, Nat.le_of_ble_eq_true rfl⟩) (va_recv hK hP (ci := 4) (q0 := 0) rfl rfl) GW.mv (GW.from hP hK hT0 hS) rfl hl.1 rfl (Nat.le_of_ble_eq_true rfl) dX7_taker_41 ⟨Nat.zero_le _, Nat.zero_le _⟩ ?_
        refine W.eq (g2 := F0 m 44 ls [.int q41]) rfl ?_
        refine lv_istore (lv' := [(5, .int q41), (0, .ref (b 0)), (1, .int x1), (2, .int x2), (3, .int x3), (4, .int x4)]) hx hb dX7_taker_44 hl (by decide) rfl (fun ls hl => ?_)
        refine lv_iload hx hb dX7_taker_46 (lv_at hl 0 rfl) ?_
        refine lv_iload_n hx hb dX7_taker_48 rfl (lv_at hl 4 rfl) ?_
        refine lv_iconst (v := (-1)) hx hb dX7_taker_49 (by decide) ?_
        refine lv_ixor hx hb dX7_taker_50 ?_
        refine lv_iand hx hb dX7_taker_51 ?_
        refine lv_if_ne (tgt := 58) hx hb dX7_taker_52 (by decide) (fun c52 => ?_) (fun c52 => ?_)
        · replace h := ite_f h c52
          refine lv_iinc (v := (x4 + 1)) (lv' := [(4, .int (x4 + 1)), (5, .int q41), (0, .ref (b 0)), (1, .int x1), (2, .int x2), (3, .int x3)]) hx hb dX7_taker_58 hl (k := 5) rfl rfl (by decide) rfl (fun ls hl => ?_)
          refine lv_goto (tgt := 3) hx hb dX7_taker_61 (by decide) ?_
          exact hk3 x1 x2 x3 (x4 + 1) ls (lv_sub hl [2, 3, 4, 5, 0] rfl) h
        · replace h := ite_t h c52
          refine lv_iload hx hb dX7_taker_55 (lv_at hl 5 rfl) ?_
          obtain rfl := Option.some.inj h
          exact hp_iret hx hb hr hlocks dX7_taker_57
set_option maxHeartbeats 4000000 in
set_option maxRecDepth 100000 in
theorem wk_X7_taker_3 {p : Program} {l : Launch} {e : Env} {s : State} {m : MethodId} {args : Array Value} {below : List Frame} {meth : Method} {c : Code} {D : va_G} {ca : Nat → ClassId} {b : Nat → Nat} {tw : Nat} {tt : Nat → Nat} (C0 : Cx p s m args meth c cX7_taker (some .int) 6 wsX7_taker RX7) (hK : va_K D vwCl (tys3 ca) s) (hT0 : tW tw tt (ad_of 6 b) s s.heap) (v : YS) (hP : va_P D vwCl (YW ca b v) s.heap) {q : Int32} : ∀ (n : Nat) (x1 : Int32) (x2 : Int32) (x3 : Int32) (x4 : Int32) (ls : Array Slot) (hl : lv_has ls 6 [(0, .ref (b 0)), (1, .int x1), (2, .int x2), (3, .int x3), (4, .int x4)]) (h : fn_X7_taker_3 v n x1 x2 x3 x4 = some q), W p l e rm_X7_taker s m args below meth c s.heap [] 0 0 (MQ below (HQ (some (.int q))) args s 0 0 (fun _ => False)) (F0 m 3 ls []) := by
  intro n
  induction n with
  | zero => intro x1 x2 x3 x4 ls hl h; unfold fn_X7_taker_3 at h; cases h
  | succ n ih => intro x1 x2 x3 x4 ls hl h; exact wk_X7_taker_3_body C0 hK hT0 v hP (k3 := fn_X7_taker_3 v n) (hk3 := ih) (hl := hl) (h := h)
set_option maxHeartbeats 4000000 in
set_option maxRecDepth 100000 in
theorem wk_X7_taker {p : Program} {l : Launch} {e : Env} {s : State} {m : MethodId} {args : Array Value} {below : List Frame} {meth : Method} {c : Code} {D : va_G} {ca : Nat → ClassId} {b : Nat → Nat} {tw : Nat} {tt : Nat → Nat} (C0 : Cx p s m args meth c cX7_taker (some .int) 6 wsX7_taker RX7) (hK : va_K D vwCl (tys3 ca) s) (hT0 : tW tw tt (ad_of 6 b) s s.heap) (v : YS) (hP : va_P D vwCl (YW ca b v) s.heap) {q : Int32} (x1 : Int32) (x2 : Int32) (x3 : Int32) (ls : Array Slot) (hl : lv_has ls 6 [(0, .ref (b 0)), (1, .int x1), (2, .int x2), (3, .int x3)]) (h : fn_X7_taker v x1 x2 x3 = some q) : W p l e rm_X7_taker s m args below meth c s.heap [] 0 0 (MQ below (HQ (some (.int q))) args s 0 0 (fun _ => False)) (F0 m 0 ls []) := by
  obtain ⟨hx, hb, hr, hml, hown, hts, hlocks⟩ := id C0
  have hS : va_S (ad_of 6 b) s.heap s.heap [] := va_S.rf
  unfold fn_X7_taker at h
  refine lv_iconst (v := 0) hx hb dX7_taker_0 (by decide) ?_
  refine lv_istore (lv' := [(4, .int 0), (0, .ref (b 0)), (1, .int x1), (2, .int x2), (3, .int x3)]) hx hb dX7_taker_1 hl (by decide) rfl (fun ls hl => ?_)
  exact wk_X7_taker_3 C0 hK hT0 v hP  FU x1 x2 x3 0 ls (lv_sub hl [1, 2, 3, 4, 0] rfl) h
theorem ct_X7_taker (l : Launch) (D : va_G) (ca : Nat → ClassId) (b : Nat → Nat) (tw : Nat) (tt : Nat → Nat) (v : YS) (x1 : Int32) (x2 : Int32) (x3 : Int32) {q : Int32} (h : fn_X7_taker v x1 x2 x3 = some q) : Hp l yX7_taker wsX7_taker rm_X7_taker [.ref (b 0), .int x1, .int x2, .int x3] (GW D ca tw tt (ad_of 6 b) (YW ca b v)) (some (.int q)) := by
  refine Hp.of (cc := cX7_taker) (nL := 6) (ret := (some .int)) (own := RX7) (by decide) rfl rfl (Nat.le_of_ble_eq_true rfl) ?_
  intro p e s m below meth c ls C0 hB hl
  exact wk_X7_taker C0 hB.2.1 hB.2.2 v hB.1 (hl := hl) (h := h)
abbrev rm_X7_reduce : Room := { frames := 4, cells := 0, slots := 0, locals := 100 }
theorem lk_X7_reduce_f13 : Cond.fieldLink RX7 13 "BooleanRingModel" "p" "[J" ∈ wsX7_reduce := by decide +kernel
theorem lk_X7_reduce_c104 : Cond.constantLong RX7 104 (-1) ∈ wsX7_reduce := by decide +kernel
theorem lk_X7_reduce_f27 : Cond.fieldLink RX7 27 "BooleanRingModel" "by" "[J" ∈ wsX7_reduce := by decide +kernel
theorem ly_X7_reduce_X7 : ∀ w ∈ wsX70, w ∈ wsX7_reduce := by decide +kernel
set_option maxHeartbeats 4000000 in
set_option maxRecDepth 100000 in
theorem wk_X7_reduce_75_body {p : Program} {l : Launch} {e : Env} {s : State} {m : MethodId} {args : Array Value} {below : List Frame} {meth : Method} {c : Code} {D : va_G} {ca : Nat → ClassId} {b : Nat → Nat} {tw : Nat} {tt : Nat → Nat} (C0 : Cx p s m args meth c cX7_reduce (some .int) 12 wsX7_reduce RX7) (hap : ap_ok 6 b) (hK : va_K D vwCl (tys3 ca) s) (hT0 : tW tw tt (ad_of 6 b) s s.heap) {q : Int32 × YS} (k75 : YS → Int32 → Int32 → Int32 → Int64 → Int64 → Int32 → Option (Int32 × YS)) (hk75 : ∀ (v : YS) (H : Heap) (locs : List Loc) (x2 : Int32) (x3 : Int32) (x4 : Int32) (x5 : Int64) (x7 : Int64) (x9 : Int32) (ls : Array Slot) (hP : va_P D vwCl (YW ca b v) H) (hS : va_S (ad_of 6 b) s.heap H locs) (hl : lv_has ls 12 [(0, .ref (b 0)), (2, .int x2), (3, .int x3), (4, .int x4), (5, .long x5), (7, .long x7), (9, .int x9)]) (h : k75 v x2 x3 x4 x5 x7 x9 = some q), W p l e rm_X7_reduce s m args below meth c H locs 0 0 (MQ below (PQ (some (.int q.1)) (fun H => va_P D vwCl (YW ca b q.2) H) (ad_of 6 b)) args s 0 0 (ad_of 6 b)) (F0 m 75 ls [])) (v : YS) (H : Heap) (locs : List Loc) (x2 : Int32) (x3 : Int32) (x4 : Int32) (x5 : Int64) (x7 : Int64) (x9 : Int32) (ls : Array Slot) (hP : va_P D vwCl (YW ca b v) H) (hS : va_S (ad_of 6 b) s.heap H locs) (hl : lv_has ls 12 [(0, .ref (b 0)), (2, .int x2), (3, .int x3), (4, .int x4), (5, .long x5), (7, .long x7), (9, .int x9)]) (h : fn_X7_reduce_75_body k75 v x2 x3 x4 x5 x7 x9 = some q) : W p l e rm_X7_reduce s m args below meth c H locs 0 0 (MQ below (PQ (some (.int q.1)) (fun H => va_P D vwCl (YW ca b q.2) H) (ad_of 6 b)) args s 0 0 (ad_of 6 b)) (F0 m 75 ls []) := by
  obtain ⟨hx, hb, hr, hml, hown, hts, hlocks⟩ := id C0
  have hD0 := fun v => YW_D (ca := ca) hap v
  unfold fn_X7_reduce_75_body at h
  refine lv_lload hx hb dX7_reduce_75 (lv_at hl 4 rfl) ?_
  refine lv_lload hx hb dX7_reduce_77 (lv_at hl 5 rfl) ?_
  refine lv_ldc2 (v := (-1)) hx hb hown (hts _ lk_X7_reduce_c104) dX7_reduce_79 ?_
  refine lv_lxor hx hb dX7_reduce_82 ?_
  refine lv_land hx hb dX7_reduce_83 ?_
  refine lv_lconst (v := 0) hx hb dX7_reduce_84 (by decide) ?_
  refine wl_eq (tgt := 173) hx hb dX7_reduce_85 dX7_reduce_86 (by decide) (fun c85 => ?_) (fun c85 => ?_)
  · replace h := ite_t h c85
    refine lv_aload_n hx hb dX7_reduce_173 rfl (lv_at hl 0 rfl) ?_
    refine lv_iload hx hb dX7_reduce_174 (lv_at hl 3 rfl) ?_
    refine lv_lload hx hb dX7_reduce_176 (lv_at hl 4 rfl) ?_
    obtain ⟨q178, e178, h⟩ := Option.bind_eq_some_iff.mp h
    refine mp_V (As := [.int x4, .long x5]) (rest := []) (b := (b 0)) ⟨hx, hb, hml, hown, hts⟩ (ct_X7_gets l D ca b tw tt hap v x4 x5 e178) (cwV 2 hts gX7_reduce_X7_gets rfl rfl rfl (by decide +kernel) ⟨Nat.le_of_ble_eq_true rfl, Nat.le_of_ble_eq_true rfl⟩) (va_recv hK hP (ci := 4) (q0 := 0) rfl rfl) GW.mv (GW.from hP hK hT0 hS) hS rfl hl.1 rfl (Nat.le_of_ble_eq_true rfl) dX7_reduce_178 ⟨Nat.zero_le _, Nat.zero_le _⟩ (fun H locs hP hS => ?_)
    refine W.eq (g2 := F0 m 181 ls [.int q178.1]) rfl ?_
    refine lv_pop hx hb dX7_reduce_181 rfl ?_
    refine lv_iload hx hb dX7_reduce_182 (lv_at hl 6 rfl) ?_
    obtain rfl := Option.some.inj h
    exact mp_iret hx hb hr hlocks hP hS dX7_reduce_184
  · replace h := ite_f h c85
    refine lv_aload_n hx hb dX7_reduce_89 rfl (lv_at hl 0 rfl) ?_
    refine lv_lload hx hb dX7_reduce_90 (lv_at hl 4 rfl) ?_
    refine lv_lload hx hb dX7_reduce_92 (lv_at hl 5 rfl) ?_
    refine lv_ldc2 (v := (-1)) hx hb hown (hts _ lk_X7_reduce_c104) dX7_reduce_94 ?_
    refine lv_lxor hx hb dX7_reduce_97 ?_
    refine lv_land hx hb dX7_reduce_98 ?_
    refine lv_iload_n hx hb dX7_reduce_99 rfl (lv_at hl 2 rfl) ?_
    obtain ⟨q100, e100, h⟩ := Option.bind_eq_some_iff.mp h
    refine hp_V (As := [.long (x5 &&& (x7 ^^^ (-1))), .int x3]) (rest := []) (b := (b 0)) ⟨hx, hb, hml, hown, hts⟩ (ct_X7_leads l D ca b tw tt v (x5 &&& (x7 ^^^ (-1))) x3 e100) (cwV 2 hts gX7_reduce_X7_leads rfl rfl rfl (by decide +kernel) ⟨Nat.le_of_ble_eq_true rfl, Nat.le_of_ble_eq_true rfl⟩) (va_recv hK hP (ci := 4) (q0 := 0) rfl rfl) GW.mv (GW.from hP hK hT0 hS) rfl hl.1 rfl (Nat.le_of_ble_eq_true rfl) dX7_reduce_100 ⟨Nat.zero_le _, Nat.zero_le _⟩ ?_
    refine W.eq (g2 := F0 m 103 ls [.int q100]) rfl ?_
    refine lv_istore (lv' := [(10, .int q100), (0, .ref (b 0)), (2, .int x2), (3, .int x3), (4, .int x4), (5, .long x5), (7, .long x7), (9, .int x9)]) hx hb dX7_reduce_103 hl (by decide) rfl (fun ls hl => ?_)
    refine lv_aload_n hx hb dX7_reduce_105 rfl (lv_at hl 1 rfl) ?_
    refine lv_iload_n hx hb dX7_reduce_106 rfl (lv_at hl 2 rfl) ?_
    refine lv_iload_n hx hb dX7_reduce_107 rfl (lv_at hl 3 rfl) ?_
    refine lv_iload hx hb dX7_reduce_108 (lv_at hl 0 rfl) ?_
    obtain ⟨q110, e110, h⟩ := Option.bind_eq_some_iff.mp h
    refine hp_V (As := [.int x2, .int x3, .int q100]) (rest := []) (b := (b 0)) ⟨hx, hb, hml, hown, hts⟩ (ct_X7_taker l D ca b tw tt v x2 x3 q100 e110) (cwV 3 hts gX7_reduce_X7_taker rfl rfl rfl (by decide +kernel) ⟨Nat.le_of_ble_eq_true rfl, Nat.le_of_ble_eq_true rfl⟩) (va_recv hK hP (ci := 4) (q0 := 0) rfl rfl) GW.mv (GW.from hP hK hT0 hS) rfl hl.1 rfl (Nat.le_of_ble_eq_true rfl) dX7_reduce_110 ⟨Nat.zero_le _, Nat.zero_le _⟩ ?_
    refine W.eq (g2 := F0 m 113 ls [.int q110]) rfl ?_
    refine lv_istore (lv' := [(11, .int q110), (10, .int q100), (0, .ref (b 0)), (2, .int x2), (3, .int x3), (4, .int x4), (5, .long x5), (7, .long x7), (9, .int x9)]) hx hb dX7_reduce_113 hl (by decide) rfl (fun ls hl => ?_)
    refine lv_iload hx hb dX7_reduce_115 (lv_at hl 0 rfl) ?_
    refine lv_if_ge (tgt := 132) hx hb dX7_reduce_117 (by decide) (fun c117 => ?_) (fun c117 => ?_)
    · replace h := ite_t h c117
      refine lv_lload hx hb dX7_reduce_132 (lv_at hl 6 rfl) ?_
      refine lv_aload_n hx hb dX7_reduce_134 rfl (lv_at hl 2 rfl) ?_
      refine lv_lconst (v := 1) hx hb dX7_reduce_135 (by decide) ?_
      refine lv_iload hx hb dX7_reduce_136 (lv_at hl 1 rfl) ?_
      refine lv_aload_n hx hb dX7_reduce_138 rfl (lv_at hl 2 rfl) ?_
      refine lv_aload_n hx hb dX7_reduce_139 rfl (lv_at hl 2 rfl) ?_
      refine va_get (D := D) (ci := 4) (v := .ref (b 5)) (C := RX7) (T := TX7) (N := 9) hx hb hts ly_X7_reduce_X7 hown hK hP 0 rfl rfl 8 (by decide) (hts _ lk_X7_reduce_f27) (fun _ h9 => h9) rfl dX7_reduce_140 ?_
      refine lv_iload hx hb dX7_reduce_143 (lv_at hl 0 rfl) ?_
      obtain ⟨q145, e145, h⟩ := Option.bind_eq_some_iff.mp h
      refine rd_lald hx hb hK hP 5 0 e145 rfl rfl dX7_reduce_145 ?_
      refine lv_iload_n hx hb dX7_reduce_146 rfl (lv_at hl 4 rfl) ?_
      obtain ⟨q147, e147, h⟩ := Option.bind_eq_some_iff.mp h
      refine hp_V (As := [.long q145, .int x3]) (rest := [.int q100, .long 1, .ref (b 0), .long x5]) (b := (b 0)) ⟨hx, hb, hml, hown, hts⟩ (ct_X7_leads l D ca b tw tt v q145 x3 e147) (cwV 2 hts gX7_reduce_X7_leads rfl rfl rfl (by decide +kernel) ⟨Nat.le_of_ble_eq_true rfl, Nat.le_of_ble_eq_true rfl⟩) (va_recv hK hP (ci := 4) (q0 := 0) rfl rfl) GW.mv (GW.from hP hK hT0 hS) rfl hl.1 rfl (Nat.le_of_ble_eq_true rfl) dX7_reduce_147 ⟨Nat.zero_le _, Nat.zero_le _⟩ ?_
      refine W.eq (g2 := F0 m 150 ls [.int q147, .int q100, .long 1, .ref (b 0), .long x5]) rfl ?_
      refine lv_iconst (v := (-1)) hx hb dX7_reduce_150 (by decide) ?_
      refine lv_ixor hx hb dX7_reduce_151 ?_
      refine lv_iand hx hb dX7_reduce_152 ?_
      refine lv_lshl (v := (lsh 1 (q100 &&& (q147 ^^^ (-1))))) hx hb dX7_reduce_153 rfl ?_
      refine lv_aload_n hx hb dX7_reduce_154 rfl (lv_at hl 2 rfl) ?_
      refine va_get (D := D) (ci := 4) (v := .ref (b 5)) (C := RX7) (T := TX7) (N := 9) hx hb hts ly_X7_reduce_X7 hown hK hP 0 rfl rfl 8 (by decide) (hts _ lk_X7_reduce_f27) (fun _ h9 => h9) rfl dX7_reduce_155 ?_
      refine lv_iload hx hb dX7_reduce_158 (lv_at hl 0 rfl) ?_
      obtain ⟨q160, e160, h⟩ := Option.bind_eq_some_iff.mp h
      refine rd_lald hx hb hK hP 5 0 e160 rfl rfl dX7_reduce_160 ?_
      obtain ⟨q161, e161, h⟩ := Option.bind_eq_some_iff.mp h
      refine hp_V (As := [.long (lsh 1 (q100 &&& (q147 ^^^ (-1)))), .long q160]) (rest := [.long x5]) (b := (b 0)) ⟨hx, hb, hml, hown, hts⟩ (ct_X7_product1 l D ca b tw tt v (lsh 1 (q100 &&& (q147 ^^^ (-1)))) q160 e161) (cwV 2 hts gX7_reduce_X7_product1 rfl rfl rfl (by decide +kernel) ⟨Nat.le_of_ble_eq_true rfl, Nat.le_of_ble_eq_true rfl⟩) (va_recv hK hP (ci := 4) (q0 := 0) rfl rfl) GW.mv (GW.from hP hK hT0 hS) rfl hl.1 rfl (Nat.le_of_ble_eq_true rfl) dX7_reduce_161 ⟨Nat.zero_le _, Nat.zero_le _⟩ ?_
      refine W.eq (g2 := F0 m 164 ls [.long q161, .long x5]) rfl ?_
      refine lv_lxor hx hb dX7_reduce_164 ?_
      refine lv_lstore (lv' := [(5, .long (x5 ^^^ q161)), (11, .int q110), (10, .int q100), (0, .ref (b 0)), (2, .int x2), (3, .int x3), (4, .int x4), (7, .long x7), (9, .int x9)]) hx hb dX7_reduce_165 hl (by decide) rfl (fun ls hl => ?_)
      refine lv_iinc (v := (x9 + 1)) (lv' := [(9, .int (x9 + 1)), (5, .long (x5 ^^^ q161)), (11, .int q110), (10, .int q100), (0, .ref (b 0)), (2, .int x2), (3, .int x3), (4, .int x4), (7, .long x7)]) hx hb dX7_reduce_167 hl (k := 8) rfl rfl (by decide) rfl (fun ls hl => ?_)
      refine lv_goto (tgt := 75) hx hb dX7_reduce_170 (by decide) ?_
      exact hk75 v H locs x2 x3 x4 (x5 ^^^ q161) x7 (x9 + 1) ls hP hS (lv_sub hl [4, 5, 6, 7, 1, 8, 0] rfl) h
    · replace h := ite_f h c117
      refine lv_lload hx hb dX7_reduce_120 (lv_at hl 7 rfl) ?_
      refine lv_lconst (v := 1) hx hb dX7_reduce_122 (by decide) ?_
      refine lv_iload hx hb dX7_reduce_123 (lv_at hl 1 rfl) ?_
      refine lv_lshl (v := (lsh 1 q100)) hx hb dX7_reduce_125 rfl ?_
      refine lv_lor hx hb dX7_reduce_126 ?_
      refine lv_lstore (lv' := [(7, .long (x7 ||| (lsh 1 q100))), (11, .int q110), (10, .int q100), (0, .ref (b 0)), (2, .int x2), (3, .int x3), (4, .int x4), (5, .long x5), (9, .int x9)]) hx hb dX7_reduce_127 hl (by decide) rfl (fun ls hl => ?_)
      refine lv_goto (tgt := 170) hx hb dX7_reduce_129 (by decide) ?_
      refine lv_goto (tgt := 75) hx hb dX7_reduce_170 (by decide) ?_
      exact hk75 v H locs x2 x3 x4 x5 (x7 ||| (lsh 1 q100)) x9 ls hP hS (lv_sub hl [3, 4, 5, 6, 7, 0, 8] rfl) h
set_option maxHeartbeats 4000000 in
set_option maxRecDepth 100000 in
theorem wk_X7_reduce_75 {p : Program} {l : Launch} {e : Env} {s : State} {m : MethodId} {args : Array Value} {below : List Frame} {meth : Method} {c : Code} {D : va_G} {ca : Nat → ClassId} {b : Nat → Nat} {tw : Nat} {tt : Nat → Nat} (C0 : Cx p s m args meth c cX7_reduce (some .int) 12 wsX7_reduce RX7) (hap : ap_ok 6 b) (hK : va_K D vwCl (tys3 ca) s) (hT0 : tW tw tt (ad_of 6 b) s s.heap) {q : Int32 × YS} : ∀ (n : Nat) (v : YS) (H : Heap) (locs : List Loc) (x2 : Int32) (x3 : Int32) (x4 : Int32) (x5 : Int64) (x7 : Int64) (x9 : Int32) (ls : Array Slot) (hP : va_P D vwCl (YW ca b v) H) (hS : va_S (ad_of 6 b) s.heap H locs) (hl : lv_has ls 12 [(0, .ref (b 0)), (2, .int x2), (3, .int x3), (4, .int x4), (5, .long x5), (7, .long x7), (9, .int x9)]) (h : fn_X7_reduce_75 n v x2 x3 x4 x5 x7 x9 = some q), W p l e rm_X7_reduce s m args below meth c H locs 0 0 (MQ below (PQ (some (.int q.1)) (fun H => va_P D vwCl (YW ca b q.2) H) (ad_of 6 b)) args s 0 0 (ad_of 6 b)) (F0 m 75 ls []) := by
  intro n
  induction n with
  | zero => intro v H locs x2 x3 x4 x5 x7 x9 ls hP hS hl h; unfold fn_X7_reduce_75 at h; cases h
  | succ n ih => intro v H locs x2 x3 x4 x5 x7 x9 ls hP hS hl h; exact wk_X7_reduce_75_body C0 hap hK hT0 (k75 := fn_X7_reduce_75 n) (hk75 := ih) (hl := hl) (hP := hP) (hS := hS) (h := h)
set_option maxHeartbeats 4000000 in
set_option maxRecDepth 100000 in
theorem wk_X7_reduce_34_body {p : Program} {l : Launch} {e : Env} {s : State} {m : MethodId} {args : Array Value} {below : List Frame} {meth : Method} {c : Code} {D : va_G} {ca : Nat → ClassId} {b : Nat → Nat} {tw : Nat} {tt : Nat → Nat} (C0 : Cx p s m args meth c cX7_reduce (some .int) 12 wsX7_reduce RX7) (hap : ap_ok 6 b) (hK : va_K D vwCl (tys3 ca) s) (hT0 : tW tw tt (ad_of 6 b) s s.heap) {q : Int32 × YS} (k34 : YS → Int32 → Int32 → Int32 → Int32 → Int32 → Option (Int32 × YS)) (hk34 : ∀ (v : YS) (H : Heap) (locs : List Loc) (x1 : Int32) (x2 : Int32) (x3 : Int32) (x4 : Int32) (x5 : Int32) (ls : Array Slot) (hP : va_P D vwCl (YW ca b v) H) (hS : va_S (ad_of 6 b) s.heap H locs) (hl : lv_has ls 12 [(0, .ref (b 0)), (1, .int x1), (2, .int x2), (3, .int x3), (4, .int x4), (5, .int x5)]) (h : k34 v x1 x2 x3 x4 x5 = some q), W p l e rm_X7_reduce s m args below meth c H locs 0 0 (MQ below (PQ (some (.int q.1)) (fun H => va_P D vwCl (YW ca b q.2) H) (ad_of 6 b)) args s 0 0 (ad_of 6 b)) (F0 m 34 ls [])) (v : YS) (H : Heap) (locs : List Loc) (x1 : Int32) (x2 : Int32) (x3 : Int32) (x4 : Int32) (x5 : Int32) (ls : Array Slot) (hP : va_P D vwCl (YW ca b v) H) (hS : va_S (ad_of 6 b) s.heap H locs) (hl : lv_has ls 12 [(0, .ref (b 0)), (1, .int x1), (2, .int x2), (3, .int x3), (4, .int x4), (5, .int x5)]) (h : fn_X7_reduce_34_body k34 v x1 x2 x3 x4 x5 = some q) : W p l e rm_X7_reduce s m args below meth c H locs 0 0 (MQ below (PQ (some (.int q.1)) (fun H => va_P D vwCl (YW ca b q.2) H) (ad_of 6 b)) args s 0 0 (ad_of 6 b)) (F0 m 34 ls []) := by
  obtain ⟨hx, hb, hr, hml, hown, hts, hlocks⟩ := id C0
  have hD0 := fun v => YW_D (ca := ca) hap v
  unfold fn_X7_reduce_34_body at h
  refine lv_iload hx hb dX7_reduce_34 (lv_at hl 5 rfl) ?_
  refine lv_bipush (v := 8) hx hb dX7_reduce_36 (by decide) ?_
  refine lv_icmp_ge (tgt := 61) hx hb dX7_reduce_38 (by decide) (fun c38 => ?_) (fun c38 => ?_)
  · replace h := ite_t h c38
    refine lv_aload_n hx hb dX7_reduce_61 rfl (lv_at hl 0 rfl) ?_
    refine va_get (D := D) (ci := 4) (v := .ref (b 1)) (C := RX7) (T := TX7) (N := 9) hx hb hts ly_X7_reduce_X7 hown hK hP 0 rfl rfl 1 (by decide) (hts _ lk_X7_reduce_f13) (fun _ h9 => h9) rfl dX7_reduce_62 ?_
    refine lv_iload_n hx hb dX7_reduce_65 rfl (lv_at hl 1 rfl) ?_
    obtain ⟨q66, e66, h⟩ := Option.bind_eq_some_iff.mp h
    refine rd_lald hx hb hK hP 1 0 e66 rfl rfl dX7_reduce_66 ?_
    refine lv_lstore (lv' := [(5, .long q66), (0, .ref (b 0)), (1, .int x1), (2, .int x2), (3, .int x3), (4, .int x4)]) hx hb dX7_reduce_67 hl (by decide) rfl (fun ls hl => ?_)
    refine lv_lconst (v := 0) hx hb dX7_reduce_69 (by decide) ?_
    refine lv_lstore (lv' := [(7, .long 0), (5, .long q66), (0, .ref (b 0)), (1, .int x1), (2, .int x2), (3, .int x3), (4, .int x4)]) hx hb dX7_reduce_70 hl (by decide) rfl (fun ls hl => ?_)
    refine lv_iconst (v := 0) hx hb dX7_reduce_72 (by decide) ?_
    refine lv_istore (lv' := [(9, .int 0), (7, .long 0), (5, .long q66), (0, .ref (b 0)), (1, .int x1), (2, .int x2), (3, .int x3), (4, .int x4)]) hx hb dX7_reduce_73 hl (by decide) rfl (fun ls hl => ?_)
    exact wk_X7_reduce_75 C0 hap hK hT0  FU v H locs x2 x3 x4 q66 0 0 ls hP hS (lv_sub hl [3, 5, 6, 7, 2, 1, 0] rfl) h
  · replace h := ite_f h c38
    refine lv_aload_n hx hb dX7_reduce_41 rfl (lv_at hl 0 rfl) ?_
    refine va_get (D := D) (ci := 4) (v := .ref (b 5)) (C := RX7) (T := TX7) (N := 9) hx hb hts ly_X7_reduce_X7 hown hK hP 0 rfl rfl 8 (by decide) (hts _ lk_X7_reduce_f27) (fun _ h9 => h9) rfl dX7_reduce_42 ?_
    refine lv_iload hx hb dX7_reduce_45 (lv_at hl 5 rfl) ?_
    refine lv_aload_n hx hb dX7_reduce_47 rfl (lv_at hl 0 rfl) ?_
    refine va_get (D := D) (ci := 4) (v := .ref (b 1)) (C := RX7) (T := TX7) (N := 9) hx hb hts ly_X7_reduce_X7 hown hK hP 0 rfl rfl 1 (by decide) (hts _ lk_X7_reduce_f13) (fun _ h9 => h9) rfl dX7_reduce_48 ?_
    refine lv_iload hx hb dX7_reduce_51 (lv_at hl 5 rfl) ?_
    obtain ⟨q53, e53, h⟩ := Option.bind_eq_some_iff.mp h
    refine rd_lald hx hb hK hP 1 0 e53 rfl rfl dX7_reduce_53 ?_
    obtain ⟨g54, e54, h⟩ := Option.bind_eq_some_iff.mp h
    refine wr_last hx hb hK hP (hD0 v) hS 5 0 e54 rfl rfl dX7_reduce_54 (fun H locs hP hS => ?_)
    have hP : va_P D vwCl (YW ca b (ys_by v g54)) H := hP
    refine lv_iinc (v := (x5 + 1)) (lv' := [(5, .int (x5 + 1)), (0, .ref (b 0)), (1, .int x1), (2, .int x2), (3, .int x3), (4, .int x4)]) hx hb dX7_reduce_55 hl (k := 5) rfl rfl (by decide) rfl (fun ls hl => ?_)
    refine lv_goto (tgt := 34) hx hb dX7_reduce_58 (by decide) ?_
    exact hk34 (ys_by v g54) H locs x1 x2 x3 x4 (x5 + 1) ls hP hS (lv_sub hl [1, 2, 3, 4, 5, 0] rfl) h
set_option maxHeartbeats 4000000 in
set_option maxRecDepth 100000 in
theorem wk_X7_reduce_34 {p : Program} {l : Launch} {e : Env} {s : State} {m : MethodId} {args : Array Value} {below : List Frame} {meth : Method} {c : Code} {D : va_G} {ca : Nat → ClassId} {b : Nat → Nat} {tw : Nat} {tt : Nat → Nat} (C0 : Cx p s m args meth c cX7_reduce (some .int) 12 wsX7_reduce RX7) (hap : ap_ok 6 b) (hK : va_K D vwCl (tys3 ca) s) (hT0 : tW tw tt (ad_of 6 b) s s.heap) {q : Int32 × YS} : ∀ (n : Nat) (v : YS) (H : Heap) (locs : List Loc) (x1 : Int32) (x2 : Int32) (x3 : Int32) (x4 : Int32) (x5 : Int32) (ls : Array Slot) (hP : va_P D vwCl (YW ca b v) H) (hS : va_S (ad_of 6 b) s.heap H locs) (hl : lv_has ls 12 [(0, .ref (b 0)), (1, .int x1), (2, .int x2), (3, .int x3), (4, .int x4), (5, .int x5)]) (h : fn_X7_reduce_34 n v x1 x2 x3 x4 x5 = some q), W p l e rm_X7_reduce s m args below meth c H locs 0 0 (MQ below (PQ (some (.int q.1)) (fun H => va_P D vwCl (YW ca b q.2) H) (ad_of 6 b)) args s 0 0 (ad_of 6 b)) (F0 m 34 ls []) := by
  intro n
  induction n with
  | zero => intro v H locs x1 x2 x3 x4 x5 ls hP hS hl h; unfold fn_X7_reduce_34 at h; cases h
  | succ n ih => intro v H locs x1 x2 x3 x4 x5 ls hP hS hl h; exact wk_X7_reduce_34_body C0 hap hK hT0 (k34 := fn_X7_reduce_34 n) (hk34 := ih) (hl := hl) (hP := hP) (hS := hS) (h := h)
set_option maxHeartbeats 4000000 in
set_option maxRecDepth 100000 in
theorem wk_X7_reduce {p : Program} {l : Launch} {e : Env} {s : State} {m : MethodId} {args : Array Value} {below : List Frame} {meth : Method} {c : Code} {D : va_G} {ca : Nat → ClassId} {b : Nat → Nat} {tw : Nat} {tt : Nat → Nat} (C0 : Cx p s m args meth c cX7_reduce (some .int) 12 wsX7_reduce RX7) (hap : ap_ok 6 b) (hK : va_K D vwCl (tys3 ca) s) (hT0 : tW tw tt (ad_of 6 b) s s.heap) {q : Int32 × YS} (v : YS) (H : Heap) (locs : List Loc) (x1 : Int32) (x2 : Int32) (x3 : Int32) (x4 : Int32) (ls : Array Slot) (hP : va_P D vwCl (YW ca b v) H) (hS : va_S (ad_of 6 b) s.heap H locs) (hl : lv_has ls 12 [(0, .ref (b 0)), (1, .int x1), (2, .int x2), (3, .int x3), (4, .int x4)]) (h : fn_X7_reduce v x1 x2 x3 x4 = some q) : W p l e rm_X7_reduce s m args below meth c H locs 0 0 (MQ below (PQ (some (.int q.1)) (fun H => va_P D vwCl (YW ca b q.2) H) (ad_of 6 b)) args s 0 0 (ad_of 6 b)) (F0 m 0 ls []) := by
  obtain ⟨hx, hb, hr, hml, hown, hts, hlocks⟩ := id C0
  have hD0 := fun v => YW_D (ca := ca) hap v
  unfold fn_X7_reduce at h
  refine lv_iload_n hx hb dX7_reduce_0 rfl (lv_at hl 1 rfl) ?_
  obtain ⟨q1, e1, h⟩ := Option.bind_eq_some_iff.mp h
  refine hp_S (As := [.int x1]) (rest := []) ⟨hx, hb, hml, hown, hts⟩ (ct_X7_isRegister l tw tt x1 e1) (va_cwS 1 hts gX7_reduce_X7_isRegister rfl rfl rfl (by decide +kernel) ⟨Nat.le_of_ble_eq_true rfl, Nat.le_of_ble_eq_true rfl⟩) GP.mv (GP.from hT0 hS) rfl hl.1 rfl (Nat.le_of_ble_eq_true rfl) dX7_reduce_1 ⟨Nat.zero_le _, Nat.zero_le _⟩ ?_
  refine W.eq (g2 := F0 m 4 ls [.int q1]) rfl ?_
  refine lv_if_eq (tgt := 29) hx hb dX7_reduce_4 (by decide) (fun c4 => ?_) (fun c4 => ?_)
  · replace h := ite_t h c4
    refine lv_iconst (v := (-1)) hx hb dX7_reduce_29 (by decide) ?_
    obtain rfl := Option.some.inj h
    exact mp_iret hx hb hr hlocks hP hS dX7_reduce_30
  · replace h := ite_f h c4
    refine lv_iload_n hx hb dX7_reduce_7 rfl (lv_at hl 2 rfl) ?_
    obtain ⟨q8, e8, h⟩ := Option.bind_eq_some_iff.mp h
    refine hp_S (As := [.int x2]) (rest := []) ⟨hx, hb, hml, hown, hts⟩ (ct_X7_isSet l tw tt x2 e8) (va_cwS 1 hts gX7_reduce_X7_isSet rfl rfl rfl (by decide +kernel) ⟨Nat.le_of_ble_eq_true rfl, Nat.le_of_ble_eq_true rfl⟩) GP.mv (GP.from hT0 hS) rfl hl.1 rfl (Nat.le_of_ble_eq_true rfl) dX7_reduce_8 ⟨Nat.zero_le _, Nat.zero_le _⟩ ?_
    refine W.eq (g2 := F0 m 11 ls [.int q8]) rfl ?_
    refine lv_if_eq (tgt := 29) hx hb dX7_reduce_11 (by decide) (fun c11 => ?_) (fun c11 => ?_)
    · replace h := ite_t h c11
      refine lv_iconst (v := (-1)) hx hb dX7_reduce_29 (by decide) ?_
      obtain rfl := Option.some.inj h
      exact mp_iret hx hb hr hlocks hP hS dX7_reduce_30
    · replace h := ite_f h c11
      refine lv_iload_n hx hb dX7_reduce_14 rfl (lv_at hl 3 rfl) ?_
      obtain ⟨q15, e15, h⟩ := Option.bind_eq_some_iff.mp h
      refine hp_S (As := [.int x3]) (rest := []) ⟨hx, hb, hml, hown, hts⟩ (ct_X7_isOrder l tw tt x3 e15) (va_cwS 1 hts gX7_reduce_X7_isOrder rfl rfl rfl (by decide +kernel) ⟨Nat.le_of_ble_eq_true rfl, Nat.le_of_ble_eq_true rfl⟩) GP.mv (GP.from hT0 hS) rfl hl.1 rfl (Nat.le_of_ble_eq_true rfl) dX7_reduce_15 ⟨Nat.zero_le _, Nat.zero_le _⟩ ?_
      refine W.eq (g2 := F0 m 18 ls [.int q15]) rfl ?_
      refine lv_if_eq (tgt := 29) hx hb dX7_reduce_18 (by decide) (fun c18 => ?_) (fun c18 => ?_)
      · replace h := ite_t h c18
        refine lv_iconst (v := (-1)) hx hb dX7_reduce_29 (by decide) ?_
        obtain rfl := Option.some.inj h
        exact mp_iret hx hb hr hlocks hP hS dX7_reduce_30
      · replace h := ite_f h c18
        refine lv_iload hx hb dX7_reduce_21 (lv_at hl 4 rfl) ?_
        obtain ⟨q23, e23, h⟩ := Option.bind_eq_some_iff.mp h
        refine hp_S (As := [.int x4]) (rest := []) ⟨hx, hb, hml, hown, hts⟩ (ct_X7_isRegister l tw tt x4 e23) (va_cwS 1 hts gX7_reduce_X7_isRegister rfl rfl rfl (by decide +kernel) ⟨Nat.le_of_ble_eq_true rfl, Nat.le_of_ble_eq_true rfl⟩) GP.mv (GP.from hT0 hS) rfl hl.1 rfl (Nat.le_of_ble_eq_true rfl) dX7_reduce_23 ⟨Nat.zero_le _, Nat.zero_le _⟩ ?_
        refine W.eq (g2 := F0 m 26 ls [.int q23]) rfl ?_
        refine lv_if_ne (tgt := 31) hx hb dX7_reduce_26 (by decide) (fun c26 => ?_) (fun c26 => ?_)
        · replace h := ite_f h c26
          refine lv_iconst (v := 0) hx hb dX7_reduce_31 (by decide) ?_
          refine lv_istore (lv' := [(5, .int 0), (0, .ref (b 0)), (1, .int x1), (2, .int x2), (3, .int x3), (4, .int x4)]) hx hb dX7_reduce_32 hl (by decide) rfl (fun ls hl => ?_)
          exact wk_X7_reduce_34 C0 hap hK hT0  FU v H locs x1 x2 x3 x4 0 ls hP hS (lv_sub hl [1, 2, 3, 4, 5, 0] rfl) h
        · replace h := ite_t h c26
          refine lv_iconst (v := (-1)) hx hb dX7_reduce_29 (by decide) ?_
          obtain rfl := Option.some.inj h
          exact mp_iret hx hb hr hlocks hP hS dX7_reduce_30
theorem ct_X7_reduce (l : Launch) (D : va_G) (ca : Nat → ClassId) (b : Nat → Nat) (tw : Nat) (tt : Nat → Nat) (hap : ap_ok 6 b) (v : YS) (x1 : Int32) (x2 : Int32) (x3 : Int32) (x4 : Int32) {q : Int32 × YS} (h : fn_X7_reduce v x1 x2 x3 x4 = some q) : Mp l yX7_reduce wsX7_reduce rm_X7_reduce [.ref (b 0), .int x1, .int x2, .int x3, .int x4] (GW D ca tw tt (ad_of 6 b) (YW ca b v)) (some (.int q.1)) (fun H => va_P D vwCl (YW ca b q.2) H) (ad_of 6 b) := by
  refine Mp.of (cc := cX7_reduce) (nL := 12) (ret := (some .int)) (own := RX7) (by decide) rfl rfl (Nat.le_of_ble_eq_true rfl) ?_
  intro p e s m below meth c ls C0 hB hl
  exact wk_X7_reduce C0 hap hB.2.1 hB.2.2 (hP := hB.1) (hS := va_S.rf) (hl := hl) (h := h)
abbrev rm_X7_echelon : Room := { frames := 3, cells := 0, slots := 0, locals := 75 }
theorem lk_X7_echelon_f13 : Cond.fieldLink RX7 13 "BooleanRingModel" "p" "[J" ∈ wsX7_echelon := by decide +kernel
theorem lk_X7_echelon_f27 : Cond.fieldLink RX7 27 "BooleanRingModel" "by" "[J" ∈ wsX7_echelon := by decide +kernel
theorem ly_X7_echelon_X7 : ∀ w ∈ wsX70, w ∈ wsX7_echelon := by decide +kernel
set_option maxHeartbeats 4000000 in
set_option maxRecDepth 100000 in
theorem wk_X7_echelon_313 {p : Program} {l : Launch} {e : Env} {s : State} {m : MethodId} {args : Array Value} {below : List Frame} {meth : Method} {c : Code} {D : va_G} {ca : Nat → ClassId} {b : Nat → Nat} {tw : Nat} {tt : Nat → Nat} (C0 : Cx p s m args meth c cX7_echelon (some .int) 11 wsX7_echelon RX7) (hap : ap_ok 6 b) (hK : va_K D vwCl (tys3 ca) s) (hT0 : tW tw tt (ad_of 6 b) s s.heap) {q : Int32 × YS} (k272 : YS → Int32 → Int32 → Int32 → Int32 → Option (Int32 × YS)) (hk272 : ∀ (v : YS) (H : Heap) (locs : List Loc) (x1 : Int32) (x4 : Int32) (x6 : Int32) (x7 : Int32) (ls : Array Slot) (hP : va_P D vwCl (YW ca b v) H) (hS : va_S (ad_of 6 b) s.heap H locs) (hl : lv_has ls 11 [(0, .ref (b 0)), (1, .int x1), (4, .int x4), (6, .int x6), (7, .int x7)]) (h : k272 v x1 x4 x6 x7 = some q), W p l e rm_X7_echelon s m args below meth c H locs 0 0 (MQ below (PQ (some (.int q.1)) (fun H => va_P D vwCl (YW ca b q.2) H) (ad_of 6 b)) args s 0 0 (ad_of 6 b)) (F0 m 272 ls [])) (v : YS) (H : Heap) (locs : List Loc) (x1 : Int32) (x4 : Int32) (x6 : Int32) (x7 : Int32) (y0 : Int64) (y1 : Int32) (ls : Array Slot) (hP : va_P D vwCl (YW ca b v) H) (hS : va_S (ad_of 6 b) s.heap H locs) (hl : lv_has ls 11 [(0, .ref (b 0)), (1, .int x1), (4, .int x4), (6, .int x6), (7, .int x7)]) (h : fn_X7_echelon_313 k272 v x1 x4 x6 x7 y0 y1 = some q) : W p l e rm_X7_echelon s m args below meth c H locs 0 0 (MQ below (PQ (some (.int q.1)) (fun H => va_P D vwCl (YW ca b q.2) H) (ad_of 6 b)) args s 0 0 (ad_of 6 b)) (F0 m 313 ls [.long y0, .int y1, .ref (b 1)]) := by
  obtain ⟨hx, hb, hr, hml, hown, hts, hlocks⟩ := id C0
  have hD0 := fun v => YW_D (ca := ca) hap v
  unfold fn_X7_echelon_313 at h
  obtain ⟨g313, e313, h⟩ := Option.bind_eq_some_iff.mp h
  refine wr_last hx hb hK hP (hD0 v) hS 1 0 e313 rfl rfl dX7_echelon_313 (fun H locs hP hS => ?_)
  have hP : va_P D vwCl (YW ca b (ys_p v g313)) H := hP
  refine lv_iinc (v := (x6 + 1)) (lv' := [(6, .int (x6 + 1)), (0, .ref (b 0)), (1, .int x1), (4, .int x4), (7, .int x7)]) hx hb dX7_echelon_314 hl (k := 3) rfl rfl (by decide) rfl (fun ls hl => ?_)
  refine lv_iinc (v := (x7 + 1)) (lv' := [(7, .int (x7 + 1)), (6, .int (x6 + 1)), (0, .ref (b 0)), (1, .int x1), (4, .int x4)]) hx hb dX7_echelon_317 hl (k := 4) rfl rfl (by decide) rfl (fun ls hl => ?_)
  refine lv_goto (tgt := 272) hx hb dX7_echelon_320 (by decide) ?_
  exact hk272 (ys_p v g313) H locs x1 x4 (x6 + 1) (x7 + 1) ls hP hS (lv_sub hl [2, 3, 4, 1, 0] rfl) h
set_option maxHeartbeats 4000000 in
set_option maxRecDepth 100000 in
theorem wk_X7_echelon_272_body {p : Program} {l : Launch} {e : Env} {s : State} {m : MethodId} {args : Array Value} {below : List Frame} {meth : Method} {c : Code} {D : va_G} {ca : Nat → ClassId} {b : Nat → Nat} {tw : Nat} {tt : Nat → Nat} (C0 : Cx p s m args meth c cX7_echelon (some .int) 11 wsX7_echelon RX7) (hap : ap_ok 6 b) (hK : va_K D vwCl (tys3 ca) s) (hT0 : tW tw tt (ad_of 6 b) s s.heap) {q : Int32 × YS} (k272 : YS → Int32 → Int32 → Int32 → Int32 → Option (Int32 × YS)) (hk272 : ∀ (v : YS) (H : Heap) (locs : List Loc) (x1 : Int32) (x4 : Int32) (x6 : Int32) (x7 : Int32) (ls : Array Slot) (hP : va_P D vwCl (YW ca b v) H) (hS : va_S (ad_of 6 b) s.heap H locs) (hl : lv_has ls 11 [(0, .ref (b 0)), (1, .int x1), (4, .int x4), (6, .int x6), (7, .int x7)]) (h : k272 v x1 x4 x6 x7 = some q), W p l e rm_X7_echelon s m args below meth c H locs 0 0 (MQ below (PQ (some (.int q.1)) (fun H => va_P D vwCl (YW ca b q.2) H) (ad_of 6 b)) args s 0 0 (ad_of 6 b)) (F0 m 272 ls [])) (v : YS) (H : Heap) (locs : List Loc) (x1 : Int32) (x4 : Int32) (x6 : Int32) (x7 : Int32) (ls : Array Slot) (hP : va_P D vwCl (YW ca b v) H) (hS : va_S (ad_of 6 b) s.heap H locs) (hl : lv_has ls 11 [(0, .ref (b 0)), (1, .int x1), (4, .int x4), (6, .int x6), (7, .int x7)]) (h : fn_X7_echelon_272_body k272 v x1 x4 x6 x7 = some q) : W p l e rm_X7_echelon s m args below meth c H locs 0 0 (MQ below (PQ (some (.int q.1)) (fun H => va_P D vwCl (YW ca b q.2) H) (ad_of 6 b)) args s 0 0 (ad_of 6 b)) (F0 m 272 ls []) := by
  obtain ⟨hx, hb, hr, hml, hown, hts, hlocks⟩ := id C0
  have hD0 := fun v => YW_D (ca := ca) hap v
  unfold fn_X7_echelon_272_body at h
  refine lv_iload hx hb dX7_echelon_272 (lv_at hl 4 rfl) ?_
  refine lv_bipush (v := 8) hx hb dX7_echelon_274 (by decide) ?_
  refine lv_icmp_ge (tgt := 323) hx hb dX7_echelon_276 (by decide) (fun c276 => ?_) (fun c276 => ?_)
  · replace h := ite_t h c276
    refine lv_iload hx hb dX7_echelon_323 (lv_at hl 2 rfl) ?_
    obtain rfl := Option.some.inj h
    exact mp_iret hx hb hr hlocks hP hS dX7_echelon_325
  · replace h := ite_f h c276
    refine lv_iload_n hx hb dX7_echelon_279 rfl (lv_at hl 1 rfl) ?_
    refine lv_iload hx hb dX7_echelon_280 (lv_at hl 4 rfl) ?_
    refine lv_ishr hx hb dX7_echelon_282 ?_
    refine lv_iconst (v := 1) hx hb dX7_echelon_283 (by decide) ?_
    refine lv_iand hx hb dX7_echelon_284 ?_
    refine lv_iconst (v := 1) hx hb dX7_echelon_285 (by decide) ?_
    refine lv_icmp_ne (tgt := 317) hx hb dX7_echelon_286 (by decide) (fun c286 => ?_) (fun c286 => ?_)
    · replace h := ite_f h c286
      refine lv_iinc (v := (x7 + 1)) (lv' := [(7, .int (x7 + 1)), (0, .ref (b 0)), (1, .int x1), (4, .int x4), (6, .int x6)]) hx hb dX7_echelon_317 hl (k := 4) rfl rfl (by decide) rfl (fun ls hl => ?_)
      refine lv_goto (tgt := 272) hx hb dX7_echelon_320 (by decide) ?_
      exact hk272 v H locs x1 x4 x6 (x7 + 1) ls hP hS (lv_sub hl [1, 2, 3, 4, 0] rfl) h
    · replace h := ite_t h c286
      refine lv_aload_n hx hb dX7_echelon_289 rfl (lv_at hl 0 rfl) ?_
      refine va_get (D := D) (ci := 4) (v := .ref (b 1)) (C := RX7) (T := TX7) (N := 9) hx hb hts ly_X7_echelon_X7 hown hK hP 0 rfl rfl 1 (by decide) (hts _ lk_X7_echelon_f13) (fun _ h9 => h9) rfl dX7_echelon_290 ?_
      refine lv_iload hx hb dX7_echelon_293 (lv_at hl 4 rfl) ?_
      refine lv_iload hx hb dX7_echelon_295 (lv_at hl 3 rfl) ?_
      refine lv_iload hx hb dX7_echelon_297 (lv_at hl 2 rfl) ?_
      refine lv_icmp_ge (tgt := 312) hx hb dX7_echelon_299 (by decide) (fun c299 => ?_) (fun c299 => ?_)
      · replace h := ite_t h c299
        refine lv_lconst (v := 0) hx hb dX7_echelon_312 (by decide) ?_
        exact wk_X7_echelon_313 C0 hap hK hT0 (k272 := k272) (hk272 := hk272) (ls := ls) (hP := hP) (hS := hS) (hl := (lv_sub hl [0, 1, 2, 3, 4] rfl)) (h := h)
      · replace h := ite_f h c299
        refine lv_aload_n hx hb dX7_echelon_302 rfl (lv_at hl 0 rfl) ?_
        refine va_get (D := D) (ci := 4) (v := .ref (b 5)) (C := RX7) (T := TX7) (N := 9) hx hb hts ly_X7_echelon_X7 hown hK hP 0 rfl rfl 8 (by decide) (hts _ lk_X7_echelon_f27) (fun _ h9 => h9) rfl dX7_echelon_303 ?_
        refine lv_iload hx hb dX7_echelon_306 (lv_at hl 3 rfl) ?_
        obtain ⟨q308, e308, h⟩ := Option.bind_eq_some_iff.mp h
        refine rd_lald hx hb hK hP 5 0 e308 rfl rfl dX7_echelon_308 ?_
        refine lv_goto (tgt := 313) hx hb dX7_echelon_309 (by decide) ?_
        exact wk_X7_echelon_313 C0 hap hK hT0 (k272 := k272) (hk272 := hk272) (ls := ls) (hP := hP) (hS := hS) (hl := (lv_sub hl [0, 1, 2, 3, 4] rfl)) (h := h)
set_option maxHeartbeats 4000000 in
set_option maxRecDepth 100000 in
theorem wk_X7_echelon_272 {p : Program} {l : Launch} {e : Env} {s : State} {m : MethodId} {args : Array Value} {below : List Frame} {meth : Method} {c : Code} {D : va_G} {ca : Nat → ClassId} {b : Nat → Nat} {tw : Nat} {tt : Nat → Nat} (C0 : Cx p s m args meth c cX7_echelon (some .int) 11 wsX7_echelon RX7) (hap : ap_ok 6 b) (hK : va_K D vwCl (tys3 ca) s) (hT0 : tW tw tt (ad_of 6 b) s s.heap) {q : Int32 × YS} : ∀ (n : Nat) (v : YS) (H : Heap) (locs : List Loc) (x1 : Int32) (x4 : Int32) (x6 : Int32) (x7 : Int32) (ls : Array Slot) (hP : va_P D vwCl (YW ca b v) H) (hS : va_S (ad_of 6 b) s.heap H locs) (hl : lv_has ls 11 [(0, .ref (b 0)), (1, .int x1), (4, .int x4), (6, .int x6), (7, .int x7)]) (h : fn_X7_echelon_272 n v x1 x4 x6 x7 = some q), W p l e rm_X7_echelon s m args below meth c H locs 0 0 (MQ below (PQ (some (.int q.1)) (fun H => va_P D vwCl (YW ca b q.2) H) (ad_of 6 b)) args s 0 0 (ad_of 6 b)) (F0 m 272 ls []) := by
  intro n
  induction n with
  | zero => intro v H locs x1 x4 x6 x7 ls hP hS hl h; unfold fn_X7_echelon_272 at h; cases h
  | succ n ih => intro v H locs x1 x4 x6 x7 ls hP hS hl h; exact wk_X7_echelon_272_body C0 hap hK hT0 (k272 := fn_X7_echelon_272 n) (hk272 := ih) (hl := hl) (hP := hP) (hS := hS) (h := h)
set_option maxHeartbeats 4000000 in
set_option maxRecDepth 100000 in
theorem wk_X7_echelon_252 {p : Program} {l : Launch} {e : Env} {s : State} {m : MethodId} {args : Array Value} {below : List Frame} {meth : Method} {c : Code} {D : va_G} {ca : Nat → ClassId} {b : Nat → Nat} {tw : Nat} {tt : Nat → Nat} (C0 : Cx p s m args meth c cX7_echelon (some .int) 11 wsX7_echelon RX7) (hap : ap_ok 6 b) (hK : va_K D vwCl (tys3 ca) s) (hT0 : tW tw tt (ad_of 6 b) s s.heap) {q : Int32 × YS} (k210 : YS → Int32 → Int32 → Int32 → Int32 → Int32 → Int64 → Int32 → Int32 → Option (Int32 × YS)) (hk210 : ∀ (v : YS) (H : Heap) (locs : List Loc) (x1 : Int32) (x2 : Int32) (x3 : Int32) (x4 : Int32) (x5 : Int32) (x7 : Int64) (x9 : Int32) (x10 : Int32) (ls : Array Slot) (hP : va_P D vwCl (YW ca b v) H) (hS : va_S (ad_of 6 b) s.heap H locs) (hl : lv_has ls 11 [(0, .ref (b 0)), (1, .int x1), (2, .int x2), (3, .int x3), (4, .int x4), (5, .int x5), (7, .long x7), (9, .int x9), (10, .int x10)]) (h : k210 v x1 x2 x3 x4 x5 x7 x9 x10 = some q), W p l e rm_X7_echelon s m args below meth c H locs 0 0 (MQ below (PQ (some (.int q.1)) (fun H => va_P D vwCl (YW ca b q.2) H) (ad_of 6 b)) args s 0 0 (ad_of 6 b)) (F0 m 210 ls [])) (v : YS) (H : Heap) (locs : List Loc) (x1 : Int32) (x2 : Int32) (x3 : Int32) (x4 : Int32) (x5 : Int32) (x7 : Int64) (x9 : Int32) (x10 : Int32) (y0 : Int64) (y1 : Int64) (y2 : Int32) (ls : Array Slot) (hP : va_P D vwCl (YW ca b v) H) (hS : va_S (ad_of 6 b) s.heap H locs) (hl : lv_has ls 11 [(0, .ref (b 0)), (1, .int x1), (2, .int x2), (3, .int x3), (4, .int x4), (5, .int x5), (7, .long x7), (9, .int x9), (10, .int x10)]) (h : fn_X7_echelon_252 k210 v x1 x2 x3 x4 x5 x7 x9 x10 y0 y1 y2 = some q) : W p l e rm_X7_echelon s m args below meth c H locs 0 0 (MQ below (PQ (some (.int q.1)) (fun H => va_P D vwCl (YW ca b q.2) H) (ad_of 6 b)) args s 0 0 (ad_of 6 b)) (F0 m 252 ls [.long y0, .long y1, .int y2, .ref (b 5)]) := by
  obtain ⟨hx, hb, hr, hml, hown, hts, hlocks⟩ := id C0
  have hD0 := fun v => YW_D (ca := ca) hap v
  unfold fn_X7_echelon_252 at h
  refine lv_lxor hx hb dX7_echelon_252 ?_
  obtain ⟨g253, e253, h⟩ := Option.bind_eq_some_iff.mp h
  refine wr_last hx hb hK hP (hD0 v) hS 5 0 e253 rfl rfl dX7_echelon_253 (fun H locs hP hS => ?_)
  have hP : va_P D vwCl (YW ca b (ys_by v g253)) H := hP
  refine lv_iinc (v := (x10 + 1)) (lv' := [(10, .int (x10 + 1)), (0, .ref (b 0)), (1, .int x1), (2, .int x2), (3, .int x3), (4, .int x4), (5, .int x5), (7, .long x7), (9, .int x9)]) hx hb dX7_echelon_254 hl (k := 8) rfl rfl (by decide) rfl (fun ls hl => ?_)
  refine lv_goto (tgt := 210) hx hb dX7_echelon_257 (by decide) ?_
  exact hk210 (ys_by v g253) H locs x1 x2 x3 x4 x5 x7 x9 (x10 + 1) ls hP hS (lv_sub hl [1, 2, 3, 4, 5, 6, 7, 8, 0] rfl) h
set_option maxHeartbeats 4000000 in
set_option maxRecDepth 100000 in
theorem wk_X7_echelon_251 {p : Program} {l : Launch} {e : Env} {s : State} {m : MethodId} {args : Array Value} {below : List Frame} {meth : Method} {c : Code} {D : va_G} {ca : Nat → ClassId} {b : Nat → Nat} {tw : Nat} {tt : Nat → Nat} (C0 : Cx p s m args meth c cX7_echelon (some .int) 11 wsX7_echelon RX7) (hap : ap_ok 6 b) (hK : va_K D vwCl (tys3 ca) s) (hT0 : tW tw tt (ad_of 6 b) s s.heap) {q : Int32 × YS} (k210 : YS → Int32 → Int32 → Int32 → Int32 → Int32 → Int64 → Int32 → Int32 → Option (Int32 × YS)) (hk210 : ∀ (v : YS) (H : Heap) (locs : List Loc) (x1 : Int32) (x2 : Int32) (x3 : Int32) (x4 : Int32) (x5 : Int32) (x7 : Int64) (x9 : Int32) (x10 : Int32) (ls : Array Slot) (hP : va_P D vwCl (YW ca b v) H) (hS : va_S (ad_of 6 b) s.heap H locs) (hl : lv_has ls 11 [(0, .ref (b 0)), (1, .int x1), (2, .int x2), (3, .int x3), (4, .int x4), (5, .int x5), (7, .long x7), (9, .int x9), (10, .int x10)]) (h : k210 v x1 x2 x3 x4 x5 x7 x9 x10 = some q), W p l e rm_X7_echelon s m args below meth c H locs 0 0 (MQ below (PQ (some (.int q.1)) (fun H => va_P D vwCl (YW ca b q.2) H) (ad_of 6 b)) args s 0 0 (ad_of 6 b)) (F0 m 210 ls [])) (v : YS) (H : Heap) (locs : List Loc) (x1 : Int32) (x2 : Int32) (x3 : Int32) (x4 : Int32) (x5 : Int32) (x7 : Int64) (x9 : Int32) (x10 : Int32) (y0 : Int64) (y1 : Int32) (ls : Array Slot) (hP : va_P D vwCl (YW ca b v) H) (hS : va_S (ad_of 6 b) s.heap H locs) (hl : lv_has ls 11 [(0, .ref (b 0)), (1, .int x1), (2, .int x2), (3, .int x3), (4, .int x4), (5, .int x5), (7, .long x7), (9, .int x9), (10, .int x10)]) (h : fn_X7_echelon_251 k210 v x1 x2 x3 x4 x5 x7 x9 x10 y0 y1 = some q) : W p l e rm_X7_echelon s m args below meth c H locs 0 0 (MQ below (PQ (some (.int q.1)) (fun H => va_P D vwCl (YW ca b q.2) H) (ad_of 6 b)) args s 0 0 (ad_of 6 b)) (F0 m 251 ls [.long y0, .int y1, .ref (b 5)]) := by
  obtain ⟨hx, hb, hr, hml, hown, hts, hlocks⟩ := id C0
  have hD0 := fun v => YW_D (ca := ca) hap v
  unfold fn_X7_echelon_251 at h
  refine lv_lconst (v := 0) hx hb dX7_echelon_251 (by decide) ?_
  exact wk_X7_echelon_252 C0 hap hK hT0 (k210 := k210) (hk210 := hk210) (ls := ls) (hP := hP) (hS := hS) (hl := (lv_sub hl [0, 1, 2, 3, 4, 5, 6, 7, 8] rfl)) (h := h)
set_option maxHeartbeats 4000000 in
set_option maxRecDepth 100000 in
theorem wk_X7_echelon_210_body {p : Program} {l : Launch} {e : Env} {s : State} {m : MethodId} {args : Array Value} {below : List Frame} {meth : Method} {c : Code} {D : va_G} {ca : Nat → ClassId} {b : Nat → Nat} {tw : Nat} {tt : Nat → Nat} (C0 : Cx p s m args meth c cX7_echelon (some .int) 11 wsX7_echelon RX7) (hap : ap_ok 6 b) (hK : va_K D vwCl (tys3 ca) s) (hT0 : tW tw tt (ad_of 6 b) s s.heap) {q : Int32 × YS} (k70 : YS → Int32 → Int32 → Int32 → Int32 → Int32 → Option (Int32 × YS)) (k210 : YS → Int32 → Int32 → Int32 → Int32 → Int32 → Int64 → Int32 → Int32 → Option (Int32 × YS)) (hk70 : ∀ (v : YS) (H : Heap) (locs : List Loc) (x1 : Int32) (x2 : Int32) (x3 : Int32) (x4 : Int32) (x5 : Int32) (ls : Array Slot) (hP : va_P D vwCl (YW ca b v) H) (hS : va_S (ad_of 6 b) s.heap H locs) (hl : lv_has ls 11 [(0, .ref (b 0)), (1, .int x1), (2, .int x2), (3, .int x3), (4, .int x4), (5, .int x5)]) (h : k70 v x1 x2 x3 x4 x5 = some q), W p l e rm_X7_echelon s m args below meth c H locs 0 0 (MQ below (PQ (some (.int q.1)) (fun H => va_P D vwCl (YW ca b q.2) H) (ad_of 6 b)) args s 0 0 (ad_of 6 b)) (F0 m 70 ls [])) (hk210 : ∀ (v : YS) (H : Heap) (locs : List Loc) (x1 : Int32) (x2 : Int32) (x3 : Int32) (x4 : Int32) (x5 : Int32) (x7 : Int64) (x9 : Int32) (x10 : Int32) (ls : Array Slot) (hP : va_P D vwCl (YW ca b v) H) (hS : va_S (ad_of 6 b) s.heap H locs) (hl : lv_has ls 11 [(0, .ref (b 0)), (1, .int x1), (2, .int x2), (3, .int x3), (4, .int x4), (5, .int x5), (7, .long x7), (9, .int x9), (10, .int x10)]) (h : k210 v x1 x2 x3 x4 x5 x7 x9 x10 = some q), W p l e rm_X7_echelon s m args below meth c H locs 0 0 (MQ below (PQ (some (.int q.1)) (fun H => va_P D vwCl (YW ca b q.2) H) (ad_of 6 b)) args s 0 0 (ad_of 6 b)) (F0 m 210 ls [])) (v : YS) (H : Heap) (locs : List Loc) (x1 : Int32) (x2 : Int32) (x3 : Int32) (x4 : Int32) (x5 : Int32) (x7 : Int64) (x9 : Int32) (x10 : Int32) (ls : Array Slot) (hP : va_P D vwCl (YW ca b v) H) (hS : va_S (ad_of 6 b) s.heap H locs) (hl : lv_has ls 11 [(0, .ref (b 0)), (1, .int x1), (2, .int x2), (3, .int x3), (4, .int x4), (5, .int x5), (7, .long x7), (9, .int x9), (10, .int x10)]) (h : fn_X7_echelon_210_body k70 k210 v x1 x2 x3 x4 x5 x7 x9 x10 = some q) : W p l e rm_X7_echelon s m args below meth c H locs 0 0 (MQ below (PQ (some (.int q.1)) (fun H => va_P D vwCl (YW ca b q.2) H) (ad_of 6 b)) args s 0 0 (ad_of 6 b)) (F0 m 210 ls []) := by
  obtain ⟨hx, hb, hr, hml, hown, hts, hlocks⟩ := id C0
  have hD0 := fun v => YW_D (ca := ca) hap v
  unfold fn_X7_echelon_210_body at h
  refine lv_iload hx hb dX7_echelon_210 (lv_at hl 8 rfl) ?_
  refine lv_iload_n hx hb dX7_echelon_212 rfl (lv_at hl 3 rfl) ?_
  refine lv_icmp_ge (tgt := 260) hx hb dX7_echelon_213 (by decide) (fun c213 => ?_) (fun c213 => ?_)
  · replace h := ite_t h c213
    refine lv_iinc (v := (x4 + 1)) (lv' := [(4, .int (x4 + 1)), (0, .ref (b 0)), (1, .int x1), (2, .int x2), (3, .int x3), (5, .int x5), (7, .long x7), (9, .int x9), (10, .int x10)]) hx hb dX7_echelon_260 hl (k := 4) rfl rfl (by decide) rfl (fun ls hl => ?_)
    refine lv_goto (tgt := 70) hx hb dX7_echelon_263 (by decide) ?_
    exact hk70 v H locs x1 x2 x3 (x4 + 1) x5 ls hP hS (lv_sub hl [1, 2, 3, 4, 0, 5] rfl) h
  · replace h := ite_f h c213
    refine lv_aload_n hx hb dX7_echelon_216 rfl (lv_at hl 0 rfl) ?_
    refine va_get (D := D) (ci := 4) (v := .ref (b 5)) (C := RX7) (T := TX7) (N := 9) hx hb hts ly_X7_echelon_X7 hown hK hP 0 rfl rfl 8 (by decide) (hts _ lk_X7_echelon_f27) (fun _ h9 => h9) rfl dX7_echelon_217 ?_
    refine lv_iload hx hb dX7_echelon_220 (lv_at hl 8 rfl) ?_
    refine lv_dup2_11 hx hb dX7_echelon_222 rfl rfl ?_
    obtain ⟨q223, e223, h⟩ := Option.bind_eq_some_iff.mp h
    refine rd_lald hx hb hK hP 5 0 e223 rfl rfl dX7_echelon_223 ?_
    refine lv_iload hx hb dX7_echelon_224 (lv_at hl 8 rfl) ?_
    refine lv_iload hx hb dX7_echelon_226 (lv_at hl 4 rfl) ?_
    refine lv_icmp_eq (tgt := 251) hx hb dX7_echelon_228 (by decide) (fun c228 => ?_) (fun c228 => ?_)
    · replace h := ite_t h c228
      exact wk_X7_echelon_251 C0 hap hK hT0 (k210 := k210) (hk210 := hk210) (ls := ls) (hP := hP) (hS := hS) (hl := (lv_sub hl [0, 1, 2, 3, 4, 5, 6, 7, 8] rfl)) (h := h)
    · replace h := ite_f h c228
      refine lv_aload_n hx hb dX7_echelon_231 rfl (lv_at hl 0 rfl) ?_
      refine va_get (D := D) (ci := 4) (v := .ref (b 5)) (C := RX7) (T := TX7) (N := 9) hx hb hts ly_X7_echelon_X7 hown hK hP 0 rfl rfl 8 (by decide) (hts _ lk_X7_echelon_f27) (fun _ h9 => h9) rfl dX7_echelon_232 ?_
      refine lv_iload hx hb dX7_echelon_235 (lv_at hl 8 rfl) ?_
      obtain ⟨q237, e237, h⟩ := Option.bind_eq_some_iff.mp h
      refine rd_lald hx hb hK hP 5 0 e237 rfl rfl dX7_echelon_237 ?_
      refine lv_iload hx hb dX7_echelon_238 (lv_at hl 7 rfl) ?_
      obtain ⟨q240, e240, h⟩ := Option.bind_eq_some_iff.mp h
      refine hp_S (As := [.long q237, .int x9]) (rest := [.long q223, .int x10, .ref (b 5)]) ⟨hx, hb, hml, hown, hts⟩ (ct_X7_has1 l tw tt q237 x9 e240) (va_cwS 2 hts gX7_echelon_X7_has1 rfl rfl rfl (by decide +kernel) ⟨Nat.le_of_ble_eq_true rfl, Nat.le_of_ble_eq_true rfl⟩) GP.mv (GP.from hT0 hS) rfl hl.1 rfl (Nat.le_of_ble_eq_true rfl) dX7_echelon_240 ⟨Nat.zero_le _, Nat.zero_le _⟩ ?_
      refine W.eq (g2 := F0 m 243 ls [.int q240, .long q223, .int x10, .ref (b 5)]) rfl ?_
      refine lv_if_eq (tgt := 251) hx hb dX7_echelon_243 (by decide) (fun c243 => ?_) (fun c243 => ?_)
      · replace h := ite_t h c243
        exact wk_X7_echelon_251 C0 hap hK hT0 (k210 := k210) (hk210 := hk210) (ls := ls) (hP := hP) (hS := hS) (hl := (lv_sub hl [0, 1, 2, 3, 4, 5, 6, 7, 8] rfl)) (h := h)
      · replace h := ite_f h c243
        refine lv_lload hx hb dX7_echelon_246 (lv_at hl 6 rfl) ?_
        refine lv_goto (tgt := 252) hx hb dX7_echelon_248 (by decide) ?_
        exact wk_X7_echelon_252 C0 hap hK hT0 (k210 := k210) (hk210 := hk210) (ls := ls) (hP := hP) (hS := hS) (hl := (lv_sub hl [0, 1, 2, 3, 4, 5, 6, 7, 8] rfl)) (h := h)
set_option maxHeartbeats 4000000 in
set_option maxRecDepth 100000 in
theorem wk_X7_echelon_210 {p : Program} {l : Launch} {e : Env} {s : State} {m : MethodId} {args : Array Value} {below : List Frame} {meth : Method} {c : Code} {D : va_G} {ca : Nat → ClassId} {b : Nat → Nat} {tw : Nat} {tt : Nat → Nat} (C0 : Cx p s m args meth c cX7_echelon (some .int) 11 wsX7_echelon RX7) (hap : ap_ok 6 b) (hK : va_K D vwCl (tys3 ca) s) (hT0 : tW tw tt (ad_of 6 b) s s.heap) {q : Int32 × YS} (k70 : YS → Int32 → Int32 → Int32 → Int32 → Int32 → Option (Int32 × YS)) (hk70 : ∀ (v : YS) (H : Heap) (locs : List Loc) (x1 : Int32) (x2 : Int32) (x3 : Int32) (x4 : Int32) (x5 : Int32) (ls : Array Slot) (hP : va_P D vwCl (YW ca b v) H) (hS : va_S (ad_of 6 b) s.heap H locs) (hl : lv_has ls 11 [(0, .ref (b 0)), (1, .int x1), (2, .int x2), (3, .int x3), (4, .int x4), (5, .int x5)]) (h : k70 v x1 x2 x3 x4 x5 = some q), W p l e rm_X7_echelon s m args below meth c H locs 0 0 (MQ below (PQ (some (.int q.1)) (fun H => va_P D vwCl (YW ca b q.2) H) (ad_of 6 b)) args s 0 0 (ad_of 6 b)) (F0 m 70 ls [])) : ∀ (n : Nat) (v : YS) (H : Heap) (locs : List Loc) (x1 : Int32) (x2 : Int32) (x3 : Int32) (x4 : Int32) (x5 : Int32) (x7 : Int64) (x9 : Int32) (x10 : Int32) (ls : Array Slot) (hP : va_P D vwCl (YW ca b v) H) (hS : va_S (ad_of 6 b) s.heap H locs) (hl : lv_has ls 11 [(0, .ref (b 0)), (1, .int x1), (2, .int x2), (3, .int x3), (4, .int x4), (5, .int x5), (7, .long x7), (9, .int x9), (10, .int x10)]) (h : fn_X7_echelon_210 k70 n v x1 x2 x3 x4 x5 x7 x9 x10 = some q), W p l e rm_X7_echelon s m args below meth c H locs 0 0 (MQ below (PQ (some (.int q.1)) (fun H => va_P D vwCl (YW ca b q.2) H) (ad_of 6 b)) args s 0 0 (ad_of 6 b)) (F0 m 210 ls []) := by
  intro n
  induction n with
  | zero => intro v H locs x1 x2 x3 x4 x5 x7 x9 x10 ls hP hS hl h; unfold fn_X7_echelon_210 at h; cases h
  | succ n ih => intro v H locs x1 x2 x3 x4 x5 x7 x9 x10 ls hP hS hl h; exact wk_X7_echelon_210_body C0 hap hK hT0 (k70 := k70) (hk70 := hk70) (k210 := fn_X7_echelon_210 k70 n) (hk210 := ih) (hl := hl) (hP := hP) (hS := hS) (h := h)
set_option maxHeartbeats 4000000 in
set_option maxRecDepth 100000 in
theorem wk_X7_echelon_159 {p : Program} {l : Launch} {e : Env} {s : State} {m : MethodId} {args : Array Value} {below : List Frame} {meth : Method} {c : Code} {D : va_G} {ca : Nat → ClassId} {b : Nat → Nat} {tw : Nat} {tt : Nat → Nat} (C0 : Cx p s m args meth c cX7_echelon (some .int) 11 wsX7_echelon RX7) (hap : ap_ok 6 b) (hK : va_K D vwCl (tys3 ca) s) (hT0 : tW tw tt (ad_of 6 b) s s.heap) {q : Int32 × YS} (k70 : YS → Int32 → Int32 → Int32 → Int32 → Int32 → Option (Int32 × YS)) (hk70 : ∀ (v : YS) (H : Heap) (locs : List Loc) (x1 : Int32) (x2 : Int32) (x3 : Int32) (x4 : Int32) (x5 : Int32) (ls : Array Slot) (hP : va_P D vwCl (YW ca b v) H) (hS : va_S (ad_of 6 b) s.heap H locs) (hl : lv_has ls 11 [(0, .ref (b 0)), (1, .int x1), (2, .int x2), (3, .int x3), (4, .int x4), (5, .int x5)]) (h : k70 v x1 x2 x3 x4 x5 = some q), W p l e rm_X7_echelon s m args below meth c H locs 0 0 (MQ below (PQ (some (.int q.1)) (fun H => va_P D vwCl (YW ca b q.2) H) (ad_of 6 b)) args s 0 0 (ad_of 6 b)) (F0 m 70 ls [])) (v : YS) (H : Heap) (locs : List Loc) (x1 : Int32) (x2 : Int32) (x3 : Int32) (x4 : Int32) (x6 : Int32) (y0 : Int32) (ls : Array Slot) (hP : va_P D vwCl (YW ca b v) H) (hS : va_S (ad_of 6 b) s.heap H locs) (hl : lv_has ls 11 [(0, .ref (b 0)), (1, .int x1), (2, .int x2), (3, .int x3), (4, .int x4), (6, .int x6)]) (h : fn_X7_echelon_159 k70 v x1 x2 x3 x4 x6 y0 = some q) : W p l e rm_X7_echelon s m args below meth c H locs 0 0 (MQ below (PQ (some (.int q.1)) (fun H => va_P D vwCl (YW ca b q.2) H) (ad_of 6 b)) args s 0 0 (ad_of 6 b)) (F0 m 159 ls [.int y0]) := by
  obtain ⟨hx, hb, hr, hml, hown, hts, hlocks⟩ := id C0
  have hD0 := fun v => YW_D (ca := ca) hap v
  unfold fn_X7_echelon_159 at h
  refine lv_istore (lv' := [(5, .int y0), (0, .ref (b 0)), (1, .int x1), (2, .int x2), (3, .int x3), (4, .int x4), (6, .int x6)]) hx hb dX7_echelon_159 hl (by decide) rfl (fun ls hl => ?_)
  refine lv_iload hx hb dX7_echelon_161 (lv_at hl 0 rfl) ?_
  refine lv_if_eq (tgt := 263) hx hb dX7_echelon_163 (by decide) (fun c163 => ?_) (fun c163 => ?_)
  · replace h := ite_t h c163
    refine lv_goto (tgt := 70) hx hb dX7_echelon_263 (by decide) ?_
    exact hk70 v H locs x1 x2 x3 x4 y0 ls hP hS (lv_sub hl [1, 2, 3, 4, 5, 0] rfl) h
  · replace h := ite_f h c163
    refine lv_aload_n hx hb dX7_echelon_166 rfl (lv_at hl 1 rfl) ?_
    refine va_get (D := D) (ci := 4) (v := .ref (b 5)) (C := RX7) (T := TX7) (N := 9) hx hb hts ly_X7_echelon_X7 hown hK hP 0 rfl rfl 8 (by decide) (hts _ lk_X7_echelon_f27) (fun _ h9 => h9) rfl dX7_echelon_167 ?_
    refine lv_iload hx hb dX7_echelon_170 (lv_at hl 6 rfl) ?_
    obtain ⟨q172, e172, h⟩ := Option.bind_eq_some_iff.mp h
    refine rd_lald hx hb hK hP 5 0 e172 rfl rfl dX7_echelon_172 ?_
    refine lv_lstore (lv' := [(7, .long q172), (5, .int y0), (0, .ref (b 0)), (1, .int x1), (2, .int x2), (3, .int x3), (4, .int x4), (6, .int x6)]) hx hb dX7_echelon_173 hl (by decide) rfl (fun ls hl => ?_)
    refine lv_aload_n hx hb dX7_echelon_175 rfl (lv_at hl 2 rfl) ?_
    refine va_get (D := D) (ci := 4) (v := .ref (b 5)) (C := RX7) (T := TX7) (N := 9) hx hb hts ly_X7_echelon_X7 hown hK hP 0 rfl rfl 8 (by decide) (hts _ lk_X7_echelon_f27) (fun _ h9 => h9) rfl dX7_echelon_176 ?_
    refine lv_iload hx hb dX7_echelon_179 (lv_at hl 7 rfl) ?_
    refine lv_aload_n hx hb dX7_echelon_181 rfl (lv_at hl 2 rfl) ?_
    refine va_get (D := D) (ci := 4) (v := .ref (b 5)) (C := RX7) (T := TX7) (N := 9) hx hb hts ly_X7_echelon_X7 hown hK hP 0 rfl rfl 8 (by decide) (hts _ lk_X7_echelon_f27) (fun _ h9 => h9) rfl dX7_echelon_182 ?_
    refine lv_iload hx hb dX7_echelon_185 (lv_at hl 6 rfl) ?_
    obtain ⟨q187, e187, h⟩ := Option.bind_eq_some_iff.mp h
    refine rd_lald hx hb hK hP 5 0 e187 rfl rfl dX7_echelon_187 ?_
    obtain ⟨g188, e188, h⟩ := Option.bind_eq_some_iff.mp h
    refine wr_last hx hb hK hP (hD0 v) hS 5 0 e188 rfl rfl dX7_echelon_188 (fun H locs hP hS => ?_)
    have hP : va_P D vwCl (YW ca b (ys_by v g188)) H := hP
    refine lv_aload_n hx hb dX7_echelon_189 rfl (lv_at hl 2 rfl) ?_
    refine va_get (D := D) (ci := 4) (v := .ref (b 5)) (C := RX7) (T := TX7) (N := 9) hx hb hts ly_X7_echelon_X7 hown hK hP 0 rfl rfl 8 (by decide) (hts _ lk_X7_echelon_f27) (fun _ h9 => h9) rfl dX7_echelon_190 ?_
    refine lv_iload hx hb dX7_echelon_193 (lv_at hl 6 rfl) ?_
    refine lv_lload hx hb dX7_echelon_195 (lv_at hl 0 rfl) ?_
    obtain ⟨g197, e197, h⟩ := Option.bind_eq_some_iff.mp h
    refine wr_last hx hb hK hP (hD0 (ys_by v g188)) hS 5 0 e197 rfl rfl dX7_echelon_197 (fun H locs hP hS => ?_)
    have hP : va_P D vwCl (YW ca b (ys_by v g197)) H := hP
    refine lv_aload_n hx hb dX7_echelon_198 rfl (lv_at hl 2 rfl) ?_
    refine lv_lload hx hb dX7_echelon_199 (lv_at hl 0 rfl) ?_
    refine lv_iload_n hx hb dX7_echelon_201 rfl (lv_at hl 4 rfl) ?_
    obtain ⟨q202, e202, h⟩ := Option.bind_eq_some_iff.mp h
    refine hp_V (As := [.long q172, .int x2]) (rest := []) (b := (b 0)) ⟨hx, hb, hml, hown, hts⟩ (ct_X7_leads l D ca b tw tt (ys_by v g197) q172 x2 e202) (cwV 2 hts gX7_echelon_X7_leads rfl rfl rfl (by decide +kernel) ⟨Nat.le_of_ble_eq_true rfl, Nat.le_of_ble_eq_true rfl⟩) (va_recv hK hP (ci := 4) (q0 := 0) rfl rfl) GW.mv (GW.from hP hK hT0 hS) rfl hl.1 rfl (Nat.le_of_ble_eq_true rfl) dX7_echelon_202 ⟨Nat.zero_le _, Nat.zero_le _⟩ ?_
    refine W.eq (g2 := F0 m 205 ls [.int q202]) rfl ?_
    refine lv_istore (lv' := [(9, .int q202), (7, .long q172), (5, .int y0), (0, .ref (b 0)), (1, .int x1), (2, .int x2), (3, .int x3), (4, .int x4), (6, .int x6)]) hx hb dX7_echelon_205 hl (by decide) rfl (fun ls hl => ?_)
    refine lv_iconst (v := 0) hx hb dX7_echelon_207 (by decide) ?_
    refine lv_istore (lv' := [(10, .int 0), (9, .int q202), (7, .long q172), (5, .int y0), (0, .ref (b 0)), (1, .int x1), (2, .int x2), (3, .int x3), (4, .int x4), (6, .int x6)]) hx hb dX7_echelon_208 hl (by decide) rfl (fun ls hl => ?_)
    exact wk_X7_echelon_210 C0 hap hK hT0 (k70 := k70) (hk70 := hk70)  FU (ys_by v g197) H locs x1 x2 x3 x4 y0 q172 q202 0 ls hP hS (lv_sub hl [4, 5, 6, 7, 8, 3, 2, 1, 0] rfl) h
set_option maxHeartbeats 4000000 in
set_option maxRecDepth 100000 in
theorem wk_X7_echelon_139 {p : Program} {l : Launch} {e : Env} {s : State} {m : MethodId} {args : Array Value} {below : List Frame} {meth : Method} {c : Code} {D : va_G} {ca : Nat → ClassId} {b : Nat → Nat} {tw : Nat} {tt : Nat → Nat} (C0 : Cx p s m args meth c cX7_echelon (some .int) 11 wsX7_echelon RX7) (hap : ap_ok 6 b) (hK : va_K D vwCl (tys3 ca) s) (hT0 : tW tw tt (ad_of 6 b) s s.heap) {q : Int32 × YS} (k82 : YS → Int32 → Int32 → Int32 → Int32 → Int32 → Int32 → Option (Int32 × YS)) (hk82 : ∀ (v : YS) (H : Heap) (locs : List Loc) (x1 : Int32) (x2 : Int32) (x3 : Int32) (x4 : Int32) (x6 : Int32) (x7 : Int32) (ls : Array Slot) (hP : va_P D vwCl (YW ca b v) H) (hS : va_S (ad_of 6 b) s.heap H locs) (hl : lv_has ls 11 [(0, .ref (b 0)), (1, .int x1), (2, .int x2), (3, .int x3), (4, .int x4), (6, .int x6), (7, .int x7)]) (h : k82 v x1 x2 x3 x4 x6 x7 = some q), W p l e rm_X7_echelon s m args below meth c H locs 0 0 (MQ below (PQ (some (.int q.1)) (fun H => va_P D vwCl (YW ca b q.2) H) (ad_of 6 b)) args s 0 0 (ad_of 6 b)) (F0 m 82 ls [])) (v : YS) (H : Heap) (locs : List Loc) (x1 : Int32) (x2 : Int32) (x3 : Int32) (x4 : Int32) (x6 : Int32) (x7 : Int32) (ls : Array Slot) (hP : va_P D vwCl (YW ca b v) H) (hS : va_S (ad_of 6 b) s.heap H locs) (hl : lv_has ls 11 [(0, .ref (b 0)), (1, .int x1), (2, .int x2), (3, .int x3), (4, .int x4), (6, .int x6), (7, .int x7)]) (h : fn_X7_echelon_139 k82 v x1 x2 x3 x4 x6 x7 = some q) : W p l e rm_X7_echelon s m args below meth c H locs 0 0 (MQ below (PQ (some (.int q.1)) (fun H => va_P D vwCl (YW ca b q.2) H) (ad_of 6 b)) args s 0 0 (ad_of 6 b)) (F0 m 139 ls []) := by
  obtain ⟨hx, hb, hr, hml, hown, hts, hlocks⟩ := id C0
  have hD0 := fun v => YW_D (ca := ca) hap v
  unfold fn_X7_echelon_139 at h
  refine lv_iload hx hb dX7_echelon_139 (lv_at hl 5 rfl) ?_
  refine lv_istore (lv' := [(6, .int x6), (0, .ref (b 0)), (1, .int x1), (2, .int x2), (3, .int x3), (4, .int x4), (7, .int x7)]) hx hb dX7_echelon_141 hl (by decide) rfl (fun ls hl => ?_)
  refine lv_iinc (v := (x7 + 1)) (lv' := [(7, .int (x7 + 1)), (6, .int x6), (0, .ref (b 0)), (1, .int x1), (2, .int x2), (3, .int x3), (4, .int x4)]) hx hb dX7_echelon_143 hl (k := 6) rfl rfl (by decide) rfl (fun ls hl => ?_)
  refine lv_goto (tgt := 82) hx hb dX7_echelon_146 (by decide) ?_
  exact hk82 v H locs x1 x2 x3 x4 x6 (x7 + 1) ls hP hS (lv_sub hl [2, 3, 4, 5, 6, 1, 0] rfl) h
set_option maxHeartbeats 4000000 in
set_option maxRecDepth 100000 in
theorem wk_X7_echelon_82_body {p : Program} {l : Launch} {e : Env} {s : State} {m : MethodId} {args : Array Value} {below : List Frame} {meth : Method} {c : Code} {D : va_G} {ca : Nat → ClassId} {b : Nat → Nat} {tw : Nat} {tt : Nat → Nat} (C0 : Cx p s m args meth c cX7_echelon (some .int) 11 wsX7_echelon RX7) (hap : ap_ok 6 b) (hK : va_K D vwCl (tys3 ca) s) (hT0 : tW tw tt (ad_of 6 b) s s.heap) {q : Int32 × YS} (k70 : YS → Int32 → Int32 → Int32 → Int32 → Int32 → Option (Int32 × YS)) (k82 : YS → Int32 → Int32 → Int32 → Int32 → Int32 → Int32 → Option (Int32 × YS)) (hk70 : ∀ (v : YS) (H : Heap) (locs : List Loc) (x1 : Int32) (x2 : Int32) (x3 : Int32) (x4 : Int32) (x5 : Int32) (ls : Array Slot) (hP : va_P D vwCl (YW ca b v) H) (hS : va_S (ad_of 6 b) s.heap H locs) (hl : lv_has ls 11 [(0, .ref (b 0)), (1, .int x1), (2, .int x2), (3, .int x3), (4, .int x4), (5, .int x5)]) (h : k70 v x1 x2 x3 x4 x5 = some q), W p l e rm_X7_echelon s m args below meth c H locs 0 0 (MQ below (PQ (some (.int q.1)) (fun H => va_P D vwCl (YW ca b q.2) H) (ad_of 6 b)) args s 0 0 (ad_of 6 b)) (F0 m 70 ls [])) (hk82 : ∀ (v : YS) (H : Heap) (locs : List Loc) (x1 : Int32) (x2 : Int32) (x3 : Int32) (x4 : Int32) (x6 : Int32) (x7 : Int32) (ls : Array Slot) (hP : va_P D vwCl (YW ca b v) H) (hS : va_S (ad_of 6 b) s.heap H locs) (hl : lv_has ls 11 [(0, .ref (b 0)), (1, .int x1), (2, .int x2), (3, .int x3), (4, .int x4), (6, .int x6), (7, .int x7)]) (h : k82 v x1 x2 x3 x4 x6 x7 = some q), W p l e rm_X7_echelon s m args below meth c H locs 0 0 (MQ below (PQ (some (.int q.1)) (fun H => va_P D vwCl (YW ca b q.2) H) (ad_of 6 b)) args s 0 0 (ad_of 6 b)) (F0 m 82 ls [])) (v : YS) (H : Heap) (locs : List Loc) (x1 : Int32) (x2 : Int32) (x3 : Int32) (x4 : Int32) (x6 : Int32) (x7 : Int32) (ls : Array Slot) (hP : va_P D vwCl (YW ca b v) H) (hS : va_S (ad_of 6 b) s.heap H locs) (hl : lv_has ls 11 [(0, .ref (b 0)), (1, .int x1), (2, .int x2), (3, .int x3), (4, .int x4), (6, .int x6), (7, .int x7)]) (h : fn_X7_echelon_82_body k70 k82 v x1 x2 x3 x4 x6 x7 = some q) : W p l e rm_X7_echelon s m args below meth c H locs 0 0 (MQ below (PQ (some (.int q.1)) (fun H => va_P D vwCl (YW ca b q.2) H) (ad_of 6 b)) args s 0 0 (ad_of 6 b)) (F0 m 82 ls []) := by
  obtain ⟨hx, hb, hr, hml, hown, hts, hlocks⟩ := id C0
  have hD0 := fun v => YW_D (ca := ca) hap v
  unfold fn_X7_echelon_82_body at h
  refine lv_iload hx hb dX7_echelon_82 (lv_at hl 6 rfl) ?_
  refine lv_iload_n hx hb dX7_echelon_84 rfl (lv_at hl 3 rfl) ?_
  refine lv_icmp_ge (tgt := 149) hx hb dX7_echelon_85 (by decide) (fun c85 => ?_) (fun c85 => ?_)
  · replace h := ite_t h c85
    refine lv_iload hx hb dX7_echelon_149 (lv_at hl 5 rfl) ?_
    refine lv_if_lt (tgt := 158) hx hb dX7_echelon_151 (by decide) (fun c151 => ?_) (fun c151 => ?_)
    · replace h := ite_t h c151
      refine lv_iconst (v := 0) hx hb dX7_echelon_158 (by decide) ?_
      exact wk_X7_echelon_159 C0 hap hK hT0 (k70 := k70) (hk70 := hk70) (ls := ls) (hP := hP) (hS := hS) (hl := (lv_sub hl [0, 1, 2, 3, 4, 5] rfl)) (h := h)
    · replace h := ite_f h c151
      refine lv_iconst (v := 1) hx hb dX7_echelon_154 (by decide) ?_
      refine lv_goto (tgt := 159) hx hb dX7_echelon_155 (by decide) ?_
      exact wk_X7_echelon_159 C0 hap hK hT0 (k70 := k70) (hk70 := hk70) (ls := ls) (hP := hP) (hS := hS) (hl := (lv_sub hl [0, 1, 2, 3, 4, 5] rfl)) (h := h)
  · replace h := ite_f h c85
    refine lv_aload_n hx hb dX7_echelon_88 rfl (lv_at hl 0 rfl) ?_
    refine lv_aload_n hx hb dX7_echelon_89 rfl (lv_at hl 0 rfl) ?_
    refine va_get (D := D) (ci := 4) (v := .ref (b 5)) (C := RX7) (T := TX7) (N := 9) hx hb hts ly_X7_echelon_X7 hown hK hP 0 rfl rfl 8 (by decide) (hts _ lk_X7_echelon_f27) (fun _ h9 => h9) rfl dX7_echelon_90 ?_
    refine lv_iload hx hb dX7_echelon_93 (lv_at hl 6 rfl) ?_
    obtain ⟨q95, e95, h⟩ := Option.bind_eq_some_iff.mp h
    refine rd_lald hx hb hK hP 5 0 e95 rfl rfl dX7_echelon_95 ?_
    refine lv_iload_n hx hb dX7_echelon_96 rfl (lv_at hl 2 rfl) ?_
    obtain ⟨q97, e97, h⟩ := Option.bind_eq_some_iff.mp h
    refine hp_V (As := [.long q95, .int x2]) (rest := []) (b := (b 0)) ⟨hx, hb, hml, hown, hts⟩ (ct_X7_leads l D ca b tw tt v q95 x2 e97) (cwV 2 hts gX7_echelon_X7_leads rfl rfl rfl (by decide +kernel) ⟨Nat.le_of_ble_eq_true rfl, Nat.le_of_ble_eq_true rfl⟩) (va_recv hK hP (ci := 4) (q0 := 0) rfl rfl) GW.mv (GW.from hP hK hT0 hS) rfl hl.1 rfl (Nat.le_of_ble_eq_true rfl) dX7_echelon_97 ⟨Nat.zero_le _, Nat.zero_le _⟩ ?_
    refine W.eq (g2 := F0 m 100 ls [.int q97]) rfl ?_
    refine lv_istore (lv' := [(8, .int q97), (0, .ref (b 0)), (1, .int x1), (2, .int x2), (3, .int x3), (4, .int x4), (6, .int x6), (7, .int x7)]) hx hb dX7_echelon_100 hl (by decide) rfl (fun ls hl => ?_)
    refine lv_iload hx hb dX7_echelon_102 (lv_at hl 0 rfl) ?_
    refine lv_if_lt (tgt := 139) hx hb dX7_echelon_104 (by decide) (fun c104 => ?_) (fun c104 => ?_)
    · replace h := ite_t h c104
      exact wk_X7_echelon_139 C0 hap hK hT0 (k82 := k82) (hk82 := hk82) (ls := ls) (hP := hP) (hS := hS) (hl := (lv_sub hl [1, 2, 3, 4, 5, 6, 7] rfl)) (h := h)
    · replace h := ite_f h c104
      refine lv_iload hx hb dX7_echelon_107 (lv_at hl 6 rfl) ?_
      refine lv_if_lt (tgt := 134) hx hb dX7_echelon_109 (by decide) (fun c109 => ?_) (fun c109 => ?_)
      · replace h := ite_t h c109
        refine lv_iload hx hb dX7_echelon_134 (lv_at hl 7 rfl) ?_
        refine lv_goto (tgt := 141) hx hb dX7_echelon_136 (by decide) ?_
        refine lv_istore (lv' := [(6, .int x7), (8, .int q97), (0, .ref (b 0)), (1, .int x1), (2, .int x2), (3, .int x3), (4, .int x4), (7, .int x7)]) hx hb dX7_echelon_141 hl (by decide) rfl (fun ls hl => ?_)
        refine lv_iinc (v := (x7 + 1)) (lv' := [(7, .int (x7 + 1)), (6, .int x7), (8, .int q97), (0, .ref (b 0)), (1, .int x1), (2, .int x2), (3, .int x3), (4, .int x4)]) hx hb dX7_echelon_143 hl (k := 7) rfl rfl (by decide) rfl (fun ls hl => ?_)
        refine lv_goto (tgt := 82) hx hb dX7_echelon_146 (by decide) ?_
        exact hk82 v H locs x1 x2 x3 x4 x7 (x7 + 1) ls hP hS (lv_sub hl [3, 4, 5, 6, 7, 1, 0] rfl) h
      · replace h := ite_f h c109
        refine lv_aload_n hx hb dX7_echelon_112 rfl (lv_at hl 1 rfl) ?_
        refine lv_iload_n hx hb dX7_echelon_113 rfl (lv_at hl 3 rfl) ?_
        refine lv_iload hx hb dX7_echelon_114 (lv_at hl 0 rfl) ?_
        refine lv_aload_n hx hb dX7_echelon_116 rfl (lv_at hl 1 rfl) ?_
        refine lv_aload_n hx hb dX7_echelon_117 rfl (lv_at hl 1 rfl) ?_
        refine va_get (D := D) (ci := 4) (v := .ref (b 5)) (C := RX7) (T := TX7) (N := 9) hx hb hts ly_X7_echelon_X7 hown hK hP 0 rfl rfl 8 (by decide) (hts _ lk_X7_echelon_f27) (fun _ h9 => h9) rfl dX7_echelon_118 ?_
        refine lv_iload hx hb dX7_echelon_121 (lv_at hl 6 rfl) ?_
        obtain ⟨q123, e123, h⟩ := Option.bind_eq_some_iff.mp h
        refine rd_lald hx hb hK hP 5 0 e123 rfl rfl dX7_echelon_123 ?_
        refine lv_iload_n hx hb dX7_echelon_124 rfl (lv_at hl 3 rfl) ?_
        obtain ⟨q125, e125, h⟩ := Option.bind_eq_some_iff.mp h
        refine hp_V (As := [.long q123, .int x2]) (rest := [.int q97, .int x2, .ref (b 0)]) (b := (b 0)) ⟨hx, hb, hml, hown, hts⟩ (ct_X7_leads l D ca b tw tt v q123 x2 e125) (cwV 2 hts gX7_echelon_X7_leads rfl rfl rfl (by decide +kernel) ⟨Nat.le_of_ble_eq_true rfl, Nat.le_of_ble_eq_true rfl⟩) (va_recv hK hP (ci := 4) (q0 := 0) rfl rfl) GW.mv (GW.from hP hK hT0 hS) rfl hl.1 rfl (Nat.le_of_ble_eq_true rfl) dX7_echelon_125 ⟨Nat.zero_le _, Nat.zero_le _⟩ ?_
        refine W.eq (g2 := F0 m 128 ls [.int q125, .int q97, .int x2, .ref (b 0)]) rfl ?_
        obtain ⟨q128, e128, h⟩ := Option.bind_eq_some_iff.mp h
        refine hp_V (As := [.int x2, .int q97, .int q125]) (rest := []) (b := (b 0)) ⟨hx, hb, hml, hown, hts⟩ (ct_X7_isGreater l D ca b tw tt v x2 q97 q125 e128) (cwV 3 hts gX7_echelon_X7_isGreater rfl rfl rfl (by decide +kernel) ⟨Nat.le_of_ble_eq_true rfl, Nat.le_of_ble_eq_true rfl⟩) (va_recv hK hP (ci := 4) (q0 := 0) rfl rfl) GW.mv (GW.from hP hK hT0 hS) rfl hl.1 rfl (Nat.le_of_ble_eq_true rfl) dX7_echelon_128 ⟨Nat.zero_le _, Nat.zero_le _⟩ ?_
        refine W.eq (g2 := F0 m 131 ls [.int q128]) rfl ?_
        refine lv_if_eq (tgt := 139) hx hb dX7_echelon_131 (by decide) (fun c131 => ?_) (fun c131 => ?_)
        · replace h := ite_t h c131
          exact wk_X7_echelon_139 C0 hap hK hT0 (k82 := k82) (hk82 := hk82) (ls := ls) (hP := hP) (hS := hS) (hl := (lv_sub hl [1, 2, 3, 4, 5, 6, 7] rfl)) (h := h)
        · replace h := ite_f h c131
          refine lv_iload hx hb dX7_echelon_134 (lv_at hl 7 rfl) ?_
          refine lv_goto (tgt := 141) hx hb dX7_echelon_136 (by decide) ?_
          refine lv_istore (lv' := [(6, .int x7), (8, .int q97), (0, .ref (b 0)), (1, .int x1), (2, .int x2), (3, .int x3), (4, .int x4), (7, .int x7)]) hx hb dX7_echelon_141 hl (by decide) rfl (fun ls hl => ?_)
          refine lv_iinc (v := (x7 + 1)) (lv' := [(7, .int (x7 + 1)), (6, .int x7), (8, .int q97), (0, .ref (b 0)), (1, .int x1), (2, .int x2), (3, .int x3), (4, .int x4)]) hx hb dX7_echelon_143 hl (k := 7) rfl rfl (by decide) rfl (fun ls hl => ?_)
          refine lv_goto (tgt := 82) hx hb dX7_echelon_146 (by decide) ?_
          exact hk82 v H locs x1 x2 x3 x4 x7 (x7 + 1) ls hP hS (lv_sub hl [3, 4, 5, 6, 7, 1, 0] rfl) h
set_option maxHeartbeats 4000000 in
set_option maxRecDepth 100000 in
theorem wk_X7_echelon_82 {p : Program} {l : Launch} {e : Env} {s : State} {m : MethodId} {args : Array Value} {below : List Frame} {meth : Method} {c : Code} {D : va_G} {ca : Nat → ClassId} {b : Nat → Nat} {tw : Nat} {tt : Nat → Nat} (C0 : Cx p s m args meth c cX7_echelon (some .int) 11 wsX7_echelon RX7) (hap : ap_ok 6 b) (hK : va_K D vwCl (tys3 ca) s) (hT0 : tW tw tt (ad_of 6 b) s s.heap) {q : Int32 × YS} (k70 : YS → Int32 → Int32 → Int32 → Int32 → Int32 → Option (Int32 × YS)) (hk70 : ∀ (v : YS) (H : Heap) (locs : List Loc) (x1 : Int32) (x2 : Int32) (x3 : Int32) (x4 : Int32) (x5 : Int32) (ls : Array Slot) (hP : va_P D vwCl (YW ca b v) H) (hS : va_S (ad_of 6 b) s.heap H locs) (hl : lv_has ls 11 [(0, .ref (b 0)), (1, .int x1), (2, .int x2), (3, .int x3), (4, .int x4), (5, .int x5)]) (h : k70 v x1 x2 x3 x4 x5 = some q), W p l e rm_X7_echelon s m args below meth c H locs 0 0 (MQ below (PQ (some (.int q.1)) (fun H => va_P D vwCl (YW ca b q.2) H) (ad_of 6 b)) args s 0 0 (ad_of 6 b)) (F0 m 70 ls [])) : ∀ (n : Nat) (v : YS) (H : Heap) (locs : List Loc) (x1 : Int32) (x2 : Int32) (x3 : Int32) (x4 : Int32) (x6 : Int32) (x7 : Int32) (ls : Array Slot) (hP : va_P D vwCl (YW ca b v) H) (hS : va_S (ad_of 6 b) s.heap H locs) (hl : lv_has ls 11 [(0, .ref (b 0)), (1, .int x1), (2, .int x2), (3, .int x3), (4, .int x4), (6, .int x6), (7, .int x7)]) (h : fn_X7_echelon_82 k70 n v x1 x2 x3 x4 x6 x7 = some q), W p l e rm_X7_echelon s m args below meth c H locs 0 0 (MQ below (PQ (some (.int q.1)) (fun H => va_P D vwCl (YW ca b q.2) H) (ad_of 6 b)) args s 0 0 (ad_of 6 b)) (F0 m 82 ls []) := by
  intro n
  induction n with
  | zero => intro v H locs x1 x2 x3 x4 x6 x7 ls hP hS hl h; unfold fn_X7_echelon_82 at h; cases h
  | succ n ih => intro v H locs x1 x2 x3 x4 x6 x7 ls hP hS hl h; exact wk_X7_echelon_82_body C0 hap hK hT0 (k70 := k70) (hk70 := hk70) (k82 := fn_X7_echelon_82 k70 n) (hk82 := ih) (hl := hl) (hP := hP) (hS := hS) (h := h)
set_option maxHeartbeats 4000000 in
set_option maxRecDepth 100000 in
theorem wk_X7_echelon_70_body {p : Program} {l : Launch} {e : Env} {s : State} {m : MethodId} {args : Array Value} {below : List Frame} {meth : Method} {c : Code} {D : va_G} {ca : Nat → ClassId} {b : Nat → Nat} {tw : Nat} {tt : Nat → Nat} (C0 : Cx p s m args meth c cX7_echelon (some .int) 11 wsX7_echelon RX7) (hap : ap_ok 6 b) (hK : va_K D vwCl (tys3 ca) s) (hT0 : tW tw tt (ad_of 6 b) s s.heap) {q : Int32 × YS} (k70 : YS → Int32 → Int32 → Int32 → Int32 → Int32 → Option (Int32 × YS)) (hk70 : ∀ (v : YS) (H : Heap) (locs : List Loc) (x1 : Int32) (x2 : Int32) (x3 : Int32) (x4 : Int32) (x5 : Int32) (ls : Array Slot) (hP : va_P D vwCl (YW ca b v) H) (hS : va_S (ad_of 6 b) s.heap H locs) (hl : lv_has ls 11 [(0, .ref (b 0)), (1, .int x1), (2, .int x2), (3, .int x3), (4, .int x4), (5, .int x5)]) (h : k70 v x1 x2 x3 x4 x5 = some q), W p l e rm_X7_echelon s m args below meth c H locs 0 0 (MQ below (PQ (some (.int q.1)) (fun H => va_P D vwCl (YW ca b q.2) H) (ad_of 6 b)) args s 0 0 (ad_of 6 b)) (F0 m 70 ls [])) (v : YS) (H : Heap) (locs : List Loc) (x1 : Int32) (x2 : Int32) (x3 : Int32) (x4 : Int32) (x5 : Int32) (ls : Array Slot) (hP : va_P D vwCl (YW ca b v) H) (hS : va_S (ad_of 6 b) s.heap H locs) (hl : lv_has ls 11 [(0, .ref (b 0)), (1, .int x1), (2, .int x2), (3, .int x3), (4, .int x4), (5, .int x5)]) (h : fn_X7_echelon_70_body k70 v x1 x2 x3 x4 x5 = some q) : W p l e rm_X7_echelon s m args below meth c H locs 0 0 (MQ below (PQ (some (.int q.1)) (fun H => va_P D vwCl (YW ca b q.2) H) (ad_of 6 b)) args s 0 0 (ad_of 6 b)) (F0 m 70 ls []) := by
  obtain ⟨hx, hb, hr, hml, hown, hts, hlocks⟩ := id C0
  have hD0 := fun v => YW_D (ca := ca) hap v
  unfold fn_X7_echelon_70_body at h
  refine lv_iload hx hb dX7_echelon_70 (lv_at hl 5 rfl) ?_
  refine lv_if_eq (tgt := 266) hx hb dX7_echelon_72 (by decide) (fun c72 => ?_) (fun c72 => ?_)
  · replace h := ite_t h c72
    refine lv_iconst (v := 0) hx hb dX7_echelon_266 (by decide) ?_
    refine lv_istore (lv' := [(6, .int 0), (0, .ref (b 0)), (1, .int x1), (2, .int x2), (3, .int x3), (4, .int x4), (5, .int x5)]) hx hb dX7_echelon_267 hl (by decide) rfl (fun ls hl => ?_)
    refine lv_iconst (v := 0) hx hb dX7_echelon_269 (by decide) ?_
    refine lv_istore (lv' := [(7, .int 0), (6, .int 0), (0, .ref (b 0)), (1, .int x1), (2, .int x2), (3, .int x3), (4, .int x4), (5, .int x5)]) hx hb dX7_echelon_270 hl (by decide) rfl (fun ls hl => ?_)
    exact wk_X7_echelon_272 C0 hap hK hT0  FU v H locs x1 x4 0 0 ls hP hS (lv_sub hl [2, 3, 6, 1, 0] rfl) h
  · replace h := ite_f h c72
    refine lv_iconst (v := (-1)) hx hb dX7_echelon_75 (by decide) ?_
    refine lv_istore (lv' := [(6, .int (-1)), (0, .ref (b 0)), (1, .int x1), (2, .int x2), (3, .int x3), (4, .int x4), (5, .int x5)]) hx hb dX7_echelon_76 hl (by decide) rfl (fun ls hl => ?_)
    refine lv_iload hx hb dX7_echelon_78 (lv_at hl 5 rfl) ?_
    refine lv_istore (lv' := [(7, .int x4), (6, .int (-1)), (0, .ref (b 0)), (1, .int x1), (2, .int x2), (3, .int x3), (4, .int x4), (5, .int x5)]) hx hb dX7_echelon_80 hl (by decide) rfl (fun ls hl => ?_)
    exact wk_X7_echelon_82 C0 hap hK hT0 (k70 := k70) (hk70 := hk70)  FU v H locs x1 x2 x3 x4 (-1) x4 ls hP hS (lv_sub hl [2, 3, 4, 5, 6, 1, 0] rfl) h
set_option maxHeartbeats 4000000 in
set_option maxRecDepth 100000 in
theorem wk_X7_echelon_70 {p : Program} {l : Launch} {e : Env} {s : State} {m : MethodId} {args : Array Value} {below : List Frame} {meth : Method} {c : Code} {D : va_G} {ca : Nat → ClassId} {b : Nat → Nat} {tw : Nat} {tt : Nat → Nat} (C0 : Cx p s m args meth c cX7_echelon (some .int) 11 wsX7_echelon RX7) (hap : ap_ok 6 b) (hK : va_K D vwCl (tys3 ca) s) (hT0 : tW tw tt (ad_of 6 b) s s.heap) {q : Int32 × YS} : ∀ (n : Nat) (v : YS) (H : Heap) (locs : List Loc) (x1 : Int32) (x2 : Int32) (x3 : Int32) (x4 : Int32) (x5 : Int32) (ls : Array Slot) (hP : va_P D vwCl (YW ca b v) H) (hS : va_S (ad_of 6 b) s.heap H locs) (hl : lv_has ls 11 [(0, .ref (b 0)), (1, .int x1), (2, .int x2), (3, .int x3), (4, .int x4), (5, .int x5)]) (h : fn_X7_echelon_70 n v x1 x2 x3 x4 x5 = some q), W p l e rm_X7_echelon s m args below meth c H locs 0 0 (MQ below (PQ (some (.int q.1)) (fun H => va_P D vwCl (YW ca b q.2) H) (ad_of 6 b)) args s 0 0 (ad_of 6 b)) (F0 m 70 ls []) := by
  intro n
  induction n with
  | zero => intro v H locs x1 x2 x3 x4 x5 ls hP hS hl h; unfold fn_X7_echelon_70 at h; cases h
  | succ n ih => intro v H locs x1 x2 x3 x4 x5 ls hP hS hl h; exact wk_X7_echelon_70_body C0 hap hK hT0 (k70 := fn_X7_echelon_70 n) (hk70 := ih) (hl := hl) (hP := hP) (hS := hS) (h := h)
set_option maxHeartbeats 4000000 in
set_option maxRecDepth 100000 in
theorem wk_X7_echelon_25_body {p : Program} {l : Launch} {e : Env} {s : State} {m : MethodId} {args : Array Value} {below : List Frame} {meth : Method} {c : Code} {D : va_G} {ca : Nat → ClassId} {b : Nat → Nat} {tw : Nat} {tt : Nat → Nat} (C0 : Cx p s m args meth c cX7_echelon (some .int) 11 wsX7_echelon RX7) (hap : ap_ok 6 b) (hK : va_K D vwCl (tys3 ca) s) (hT0 : tW tw tt (ad_of 6 b) s s.heap) {q : Int32 × YS} (k25 : YS → Int32 → Int32 → Int32 → Int32 → Option (Int32 × YS)) (hk25 : ∀ (v : YS) (H : Heap) (locs : List Loc) (x1 : Int32) (x2 : Int32) (x3 : Int32) (x4 : Int32) (ls : Array Slot) (hP : va_P D vwCl (YW ca b v) H) (hS : va_S (ad_of 6 b) s.heap H locs) (hl : lv_has ls 11 [(0, .ref (b 0)), (1, .int x1), (2, .int x2), (3, .int x3), (4, .int x4)]) (h : k25 v x1 x2 x3 x4 = some q), W p l e rm_X7_echelon s m args below meth c H locs 0 0 (MQ below (PQ (some (.int q.1)) (fun H => va_P D vwCl (YW ca b q.2) H) (ad_of 6 b)) args s 0 0 (ad_of 6 b)) (F0 m 25 ls [])) (v : YS) (H : Heap) (locs : List Loc) (x1 : Int32) (x2 : Int32) (x3 : Int32) (x4 : Int32) (ls : Array Slot) (hP : va_P D vwCl (YW ca b v) H) (hS : va_S (ad_of 6 b) s.heap H locs) (hl : lv_has ls 11 [(0, .ref (b 0)), (1, .int x1), (2, .int x2), (3, .int x3), (4, .int x4)]) (h : fn_X7_echelon_25_body k25 v x1 x2 x3 x4 = some q) : W p l e rm_X7_echelon s m args below meth c H locs 0 0 (MQ below (PQ (some (.int q.1)) (fun H => va_P D vwCl (YW ca b q.2) H) (ad_of 6 b)) args s 0 0 (ad_of 6 b)) (F0 m 25 ls []) := by
  obtain ⟨hx, hb, hr, hml, hown, hts, hlocks⟩ := id C0
  have hD0 := fun v => YW_D (ca := ca) hap v
  unfold fn_X7_echelon_25_body at h
  refine lv_iload hx hb dX7_echelon_25 (lv_at hl 4 rfl) ?_
  refine lv_bipush (v := 8) hx hb dX7_echelon_27 (by decide) ?_
  refine lv_icmp_ge (tgt := 64) hx hb dX7_echelon_29 (by decide) (fun c29 => ?_) (fun c29 => ?_)
  · replace h := ite_t h c29
    refine lv_iconst (v := 0) hx hb dX7_echelon_64 (by decide) ?_
    refine lv_istore (lv' := [(4, .int 0), (0, .ref (b 0)), (1, .int x1), (2, .int x2), (3, .int x3)]) hx hb dX7_echelon_65 hl (by decide) rfl (fun ls hl => ?_)
    refine lv_iconst (v := 1) hx hb dX7_echelon_67 (by decide) ?_
    refine lv_istore (lv' := [(5, .int 1), (4, .int 0), (0, .ref (b 0)), (1, .int x1), (2, .int x2), (3, .int x3)]) hx hb dX7_echelon_68 hl (by decide) rfl (fun ls hl => ?_)
    exact wk_X7_echelon_70 C0 hap hK hT0  FU v H locs x1 x2 x3 0 1 ls hP hS (lv_sub hl [2, 3, 4, 5, 1, 0] rfl) h
  · replace h := ite_f h c29
    refine lv_iload_n hx hb dX7_echelon_32 rfl (lv_at hl 1 rfl) ?_
    refine lv_iload hx hb dX7_echelon_33 (lv_at hl 4 rfl) ?_
    refine lv_ishr hx hb dX7_echelon_35 ?_
    refine lv_iconst (v := 1) hx hb dX7_echelon_36 (by decide) ?_
    refine lv_iand hx hb dX7_echelon_37 ?_
    refine lv_iconst (v := 1) hx hb dX7_echelon_38 (by decide) ?_
    refine lv_icmp_ne (tgt := 58) hx hb dX7_echelon_39 (by decide) (fun c39 => ?_) (fun c39 => ?_)
    · replace h := ite_f h c39
      refine lv_iinc (v := (x4 + 1)) (lv' := [(4, .int (x4 + 1)), (0, .ref (b 0)), (1, .int x1), (2, .int x2), (3, .int x3)]) hx hb dX7_echelon_58 hl (k := 4) rfl rfl (by decide) rfl (fun ls hl => ?_)
      refine lv_goto (tgt := 25) hx hb dX7_echelon_61 (by decide) ?_
      exact hk25 v H locs x1 x2 x3 (x4 + 1) ls hP hS (lv_sub hl [1, 2, 3, 4, 0] rfl) h
    · replace h := ite_t h c39
      refine lv_aload_n hx hb dX7_echelon_42 rfl (lv_at hl 0 rfl) ?_
      refine va_get (D := D) (ci := 4) (v := .ref (b 5)) (C := RX7) (T := TX7) (N := 9) hx hb hts ly_X7_echelon_X7 hown hK hP 0 rfl rfl 8 (by decide) (hts _ lk_X7_echelon_f27) (fun _ h9 => h9) rfl dX7_echelon_43 ?_
      refine lv_iload_n hx hb dX7_echelon_46 rfl (lv_at hl 3 rfl) ?_
      refine lv_aload_n hx hb dX7_echelon_47 rfl (lv_at hl 0 rfl) ?_
      refine va_get (D := D) (ci := 4) (v := .ref (b 1)) (C := RX7) (T := TX7) (N := 9) hx hb hts ly_X7_echelon_X7 hown hK hP 0 rfl rfl 1 (by decide) (hts _ lk_X7_echelon_f13) (fun _ h9 => h9) rfl dX7_echelon_48 ?_
      refine lv_iload hx hb dX7_echelon_51 (lv_at hl 4 rfl) ?_
      obtain ⟨q53, e53, h⟩ := Option.bind_eq_some_iff.mp h
      refine rd_lald hx hb hK hP 1 0 e53 rfl rfl dX7_echelon_53 ?_
      obtain ⟨g54, e54, h⟩ := Option.bind_eq_some_iff.mp h
      refine wr_last hx hb hK hP (hD0 v) hS 5 0 e54 rfl rfl dX7_echelon_54 (fun H locs hP hS => ?_)
      have hP : va_P D vwCl (YW ca b (ys_by v g54)) H := hP
      refine lv_iinc (v := (x3 + 1)) (lv' := [(3, .int (x3 + 1)), (0, .ref (b 0)), (1, .int x1), (2, .int x2), (4, .int x4)]) hx hb dX7_echelon_55 hl (k := 3) rfl rfl (by decide) rfl (fun ls hl => ?_)
      refine lv_iinc (v := (x4 + 1)) (lv' := [(4, .int (x4 + 1)), (3, .int (x3 + 1)), (0, .ref (b 0)), (1, .int x1), (2, .int x2)]) hx hb dX7_echelon_58 hl (k := 4) rfl rfl (by decide) rfl (fun ls hl => ?_)
      refine lv_goto (tgt := 25) hx hb dX7_echelon_61 (by decide) ?_
      exact hk25 (ys_by v g54) H locs x1 x2 (x3 + 1) (x4 + 1) ls hP hS (lv_sub hl [2, 3, 4, 1, 0] rfl) h
set_option maxHeartbeats 4000000 in
set_option maxRecDepth 100000 in
theorem wk_X7_echelon_25 {p : Program} {l : Launch} {e : Env} {s : State} {m : MethodId} {args : Array Value} {below : List Frame} {meth : Method} {c : Code} {D : va_G} {ca : Nat → ClassId} {b : Nat → Nat} {tw : Nat} {tt : Nat → Nat} (C0 : Cx p s m args meth c cX7_echelon (some .int) 11 wsX7_echelon RX7) (hap : ap_ok 6 b) (hK : va_K D vwCl (tys3 ca) s) (hT0 : tW tw tt (ad_of 6 b) s s.heap) {q : Int32 × YS} : ∀ (n : Nat) (v : YS) (H : Heap) (locs : List Loc) (x1 : Int32) (x2 : Int32) (x3 : Int32) (x4 : Int32) (ls : Array Slot) (hP : va_P D vwCl (YW ca b v) H) (hS : va_S (ad_of 6 b) s.heap H locs) (hl : lv_has ls 11 [(0, .ref (b 0)), (1, .int x1), (2, .int x2), (3, .int x3), (4, .int x4)]) (h : fn_X7_echelon_25 n v x1 x2 x3 x4 = some q), W p l e rm_X7_echelon s m args below meth c H locs 0 0 (MQ below (PQ (some (.int q.1)) (fun H => va_P D vwCl (YW ca b q.2) H) (ad_of 6 b)) args s 0 0 (ad_of 6 b)) (F0 m 25 ls []) := by
  intro n
  induction n with
  | zero => intro v H locs x1 x2 x3 x4 ls hP hS hl h; unfold fn_X7_echelon_25 at h; cases h
  | succ n ih => intro v H locs x1 x2 x3 x4 ls hP hS hl h; exact wk_X7_echelon_25_body C0 hap hK hT0 (k25 := fn_X7_echelon_25 n) (hk25 := ih) (hl := hl) (hP := hP) (hS := hS) (h := h)
set_option maxHeartbeats 4000000 in
set_option maxRecDepth 100000 in
theorem wk_X7_echelon {p : Program} {l : Launch} {e : Env} {s : State} {m : MethodId} {args : Array Value} {below : List Frame} {meth : Method} {c : Code} {D : va_G} {ca : Nat → ClassId} {b : Nat → Nat} {tw : Nat} {tt : Nat → Nat} (C0 : Cx p s m args meth c cX7_echelon (some .int) 11 wsX7_echelon RX7) (hap : ap_ok 6 b) (hK : va_K D vwCl (tys3 ca) s) (hT0 : tW tw tt (ad_of 6 b) s s.heap) {q : Int32 × YS} (v : YS) (H : Heap) (locs : List Loc) (x1 : Int32) (x2 : Int32) (ls : Array Slot) (hP : va_P D vwCl (YW ca b v) H) (hS : va_S (ad_of 6 b) s.heap H locs) (hl : lv_has ls 11 [(0, .ref (b 0)), (1, .int x1), (2, .int x2)]) (h : fn_X7_echelon v x1 x2 = some q) : W p l e rm_X7_echelon s m args below meth c H locs 0 0 (MQ below (PQ (some (.int q.1)) (fun H => va_P D vwCl (YW ca b q.2) H) (ad_of 6 b)) args s 0 0 (ad_of 6 b)) (F0 m 0 ls []) := by
  obtain ⟨hx, hb, hr, hml, hown, hts, hlocks⟩ := id C0
  have hD0 := fun v => YW_D (ca := ca) hap v
  unfold fn_X7_echelon at h
  refine lv_iload_n hx hb dX7_echelon_0 rfl (lv_at hl 1 rfl) ?_
  obtain ⟨q1, e1, h⟩ := Option.bind_eq_some_iff.mp h
  refine hp_S (As := [.int x1]) (rest := []) ⟨hx, hb, hml, hown, hts⟩ (ct_X7_isSet l tw tt x1 e1) (va_cwS 1 hts gX7_echelon_X7_isSet rfl rfl rfl (by decide +kernel) ⟨Nat.le_of_ble_eq_true rfl, Nat.le_of_ble_eq_true rfl⟩) GP.mv (GP.from hT0 hS) rfl hl.1 rfl (Nat.le_of_ble_eq_true rfl) dX7_echelon_1 ⟨Nat.zero_le _, Nat.zero_le _⟩ ?_
  refine W.eq (g2 := F0 m 4 ls [.int q1]) rfl ?_
  refine lv_if_eq (tgt := 14) hx hb dX7_echelon_4 (by decide) (fun c4 => ?_) (fun c4 => ?_)
  · replace h := ite_t h c4
    refine lv_iconst (v := (-1)) hx hb dX7_echelon_14 (by decide) ?_
    obtain rfl := Option.some.inj h
    exact mp_iret hx hb hr hlocks hP hS dX7_echelon_15
  · replace h := ite_f h c4
    refine lv_iload_n hx hb dX7_echelon_7 rfl (lv_at hl 2 rfl) ?_
    obtain ⟨q8, e8, h⟩ := Option.bind_eq_some_iff.mp h
    refine hp_S (As := [.int x2]) (rest := []) ⟨hx, hb, hml, hown, hts⟩ (ct_X7_isOrder l tw tt x2 e8) (va_cwS 1 hts gX7_echelon_X7_isOrder rfl rfl rfl (by decide +kernel) ⟨Nat.le_of_ble_eq_true rfl, Nat.le_of_ble_eq_true rfl⟩) GP.mv (GP.from hT0 hS) rfl hl.1 rfl (Nat.le_of_ble_eq_true rfl) dX7_echelon_8 ⟨Nat.zero_le _, Nat.zero_le _⟩ ?_
    refine W.eq (g2 := F0 m 11 ls [.int q8]) rfl ?_
    refine lv_if_ne (tgt := 16) hx hb dX7_echelon_11 (by decide) (fun c11 => ?_) (fun c11 => ?_)
    · replace h := ite_f h c11
      refine lv_aload_n hx hb dX7_echelon_16 rfl (lv_at hl 0 rfl) ?_
      obtain ⟨q17, e17, h⟩ := Option.bind_eq_some_iff.mp h
      refine mp_V (As := []) (rest := []) (b := (b 0)) ⟨hx, hb, hml, hown, hts⟩ (ct_X7_records l D ca b tw tt hap v  e17) (cwV 0 hts gX7_echelon_X7_records rfl rfl rfl (by decide +kernel) ⟨Nat.le_of_ble_eq_true rfl, Nat.le_of_ble_eq_true rfl⟩) (va_recv hK hP (ci := 4) (q0 := 0) rfl rfl) GW.mv (GW.from hP hK hT0 hS) hS rfl hl.1 rfl (Nat.le_of_ble_eq_true rfl) dX7_echelon_17 ⟨Nat.zero_le _, Nat.zero_le _⟩ (fun H locs hP hS => ?_)
      refine W.eq (g2 := F0 m 20 ls []) rfl ?_
      refine lv_iconst (v := 0) hx hb dX7_echelon_20 (by decide) ?_
      refine lv_istore_n (lv' := [(3, .int 0), (0, .ref (b 0)), (1, .int x1), (2, .int x2)]) hx hb dX7_echelon_21 rfl hl (by decide) rfl (fun ls hl => ?_)
      refine lv_iconst (v := 0) hx hb dX7_echelon_22 (by decide) ?_
      refine lv_istore (lv' := [(4, .int 0), (3, .int 0), (0, .ref (b 0)), (1, .int x1), (2, .int x2)]) hx hb dX7_echelon_23 hl (by decide) rfl (fun ls hl => ?_)
      exact wk_X7_echelon_25 C0 hap hK hT0  FU q17 H locs x1 x2 0 0 ls hP hS (lv_sub hl [2, 3, 4, 1, 0] rfl) h
    · replace h := ite_t h c11
      refine lv_iconst (v := (-1)) hx hb dX7_echelon_14 (by decide) ?_
      obtain rfl := Option.some.inj h
      exact mp_iret hx hb hr hlocks hP hS dX7_echelon_15
theorem ct_X7_echelon (l : Launch) (D : va_G) (ca : Nat → ClassId) (b : Nat → Nat) (tw : Nat) (tt : Nat → Nat) (hap : ap_ok 6 b) (v : YS) (x1 : Int32) (x2 : Int32) {q : Int32 × YS} (h : fn_X7_echelon v x1 x2 = some q) : Mp l yX7_echelon wsX7_echelon rm_X7_echelon [.ref (b 0), .int x1, .int x2] (GW D ca tw tt (ad_of 6 b) (YW ca b v)) (some (.int q.1)) (fun H => va_P D vwCl (YW ca b q.2) H) (ad_of 6 b) := by
  refine Mp.of (cc := cX7_echelon) (nL := 11) (ret := (some .int)) (own := RX7) (by decide) rfl rfl (Nat.le_of_ble_eq_true rfl) ?_
  intro p e s m below meth c ls C0 hB hl
  exact wk_X7_echelon C0 hap hB.2.1 hB.2.2 (hP := hB.1) (hS := va_S.rf) (hl := hl) (h := h)
