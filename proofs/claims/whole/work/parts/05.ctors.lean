/-! by program (ctorgen.py): the constructors -/
set_option maxHeartbeats 4000000 in
set_option maxRecDepth 100000 in
theorem ct_X0_init (l : Launch) (D : va_G) (h0 sz : Nat) : Met l yX0_init wsX0_init ({ frames := 1, cells := 1, slots := 504, locals := 12 }) (va_Pc [.ref h0] (fun U => U.heap.size = sz ∧ va_P D vwCl [(h0, .inr (0, [.null, .int 0]))] U.heap ∧ va_K D vwCl [] U ∧ va_D (fun _ => True) [(h0, .inr (0, [.null, .int 0]))])) (va_Qv (fun u : Nat × ClassId => True) (fun u t => va_P D vwCl [(h0, .inr (0, [.ref u.1, .int 0])), (u.1, .inl (u.2, 504, .inr (.inl (fun _ => 0))))] t.heap ∧ va_K D vwCl [(u.2, .long)] t ∧ va_D (va_A [(h0, .inr (0, [.null, .int 0]))] sz) [(h0, .inr (0, [.ref u.1, .int 0])), (u.1, .inl (u.2, 504, .inr (.inl (fun _ => 0))))]) (va_A [(h0, .inr (0, [.null, .int 0]))] sz)) 1 504 (va_A [(h0, .inr (0, [.null, .int 0]))] sz) := by
  refine Met.ofW (cc := cX0_init) (maxL := 1) (ret := none) (by decide) rfl ?_
  intro p e s m args below meth c s₁ B hml hv
  obtain ⟨rfl, hsz, hP, hK, hD0⟩ := hv
  have hx := B.exec
  have hb := B.bytes
  have hr := B.returns
  have hts := atoms_spec (ws := wsX0_init) B.pre
  have hown : s.vm.findClass RX0 = some m.cls := findClass_of_methodNamed B.named
  have hlocks := B.notSynchronized
  have hin : meth.name = "<init>" := (name_of_methodNamed B.named B.method).1
  subst hsz
  have hD := hD0.self (sz := s.heap.size)
  generalize hAe : va_A [(h0, .inr (0, [.null, .int 0]))] s.heap.size = A at hD ⊢
  have hA : ∀ q : Nat, s.heap.size ≤ q → A q := fun q h => by rw [← hAe]; exact Or.inr h
  have hS : va_S A s.heap s.heap [] := va_S.rf
  have hl := lv_entry ([.ref h0]) (n := 1) (Nat.le_of_ble_eq_true rfl)
  rw [lg_entry_eq]
  generalize (lg_sl ([.ref h0]) ++ List.replicate (1 - (lg_sl ([.ref h0])).length) Slot.unset).toArray = ls at hl ⊢
  have hl : lv_has ls 1 [(0, .ref h0)] := hl
  refine lv_aload_n hx hb dX0_init_0 rfl (lv_at hl 0 rfl) ?_
  refine W.objInit hx hb hown (hts (Cond.methodLink RX0 3 objectInit) (by decide +kernel)) (hts (Cond.instanceMethod objectInit) (by decide +kernel)) (hts (Cond.code objectInit ⟨#[0xb1]⟩ 1 none) (by decide +kernel)) rfl (by rw [hml]; exact hl.1) rfl dX0_init_1 (Nat.le_of_ble_eq_true rfl) (Nat.le_of_ble_eq_true rfl) ?_
  refine W.eq (g2 := F0 m 4 ls []) rfl ?_
  refine lv_aload_n hx hb dX0_init_4 rfl (lv_at hl 0 rfl) ?_
  refine lv_sipush (v := 504) hx hb dX0_init_5 (by decide) ?_
  refine va_newa (atype := .long) (a0 := (504, .inr (.inl (fun _ => 0)))) hx hb (hts (Cond.arrayClass .long) (by decide +kernel)) rfl hK hP hD hS hA (fun _ => rfl) (by decide) (by decide) (Nat.le_of_ble_eq_true rfl) (Nat.le_of_ble_eq_true rfl) (Nat.le_of_ble_eq_true rfl) dX0_init_8 (fun q8 k8 H hK hP hD hS => ?_)
  have hK : va_K D vwCl [(k8, .long)] s := hK
  have hP : va_P D vwCl [(h0, .inr (0, [.null, .int 0])), (q8, .inl (k8, 504, .inr (.inl (fun _ => 0))))] H := hP
  have hD : va_D A [(h0, .inr (0, [.null, .int 0])), (q8, .inl (k8, 504, .inr (.inl (fun _ => 0))))] := hD
  refine W.widen (k := 1) (n := 504) (Nat.le_of_ble_eq_true rfl) (Nat.le_of_ble_eq_true rfl) ?_
  refine va_putF (D := D) (ci := 0) (v := .ref q8) (ty := .array .long) (C := RX0) (T := TX0) (N := 2) hx hb hts (by decide +kernel) tyX0 tyX0_ok nmX0 hown hK hP hD hS 0 rfl rfl 0 (by decide) (hts (Cond.fieldLink RX0 9 "BooleanRing$Diagrams" "found" "[J") (by decide +kernel)) (fun _ h9 => h9) rfl hin rfl (by decide +kernel) rfl rfl (Nat.le_of_ble_eq_true rfl) dX0_init_10 (fun H locs hP hD hS => ?_)
  have hP : va_P D vwCl [(h0, .inr (0, [.ref q8, .int 0])), (q8, .inl (k8, 504, .inr (.inl (fun _ => 0))))] H := hP
  have hD : va_D A [(h0, .inr (0, [.ref q8, .int 0])), (q8, .inl (k8, 504, .inr (.inl (fun _ => 0))))] := hD
  refine lv_aload_n hx hb dX0_init_13 rfl (lv_at hl 0 rfl) ?_
  refine lv_iconst (v := 0) hx hb dX0_init_14 (by decide) ?_
  refine va_put (D := D) (ci := 0) (v := .int 0) (ty := .int) (C := RX0) (T := TX0) (N := 2) hx hb hts (by decide +kernel) tyX0 tyX0_ok nmX0 hown hK hP hD hS 0 rfl rfl 1 (by decide) (hts (Cond.fieldLink RX0 15 "BooleanRing$Diagrams" "count" "I") (by decide +kernel)) (fun _ h9 => h9) rfl (by decide +kernel) rfl rfl (Nat.le_of_ble_eq_true rfl) dX0_init_15 (fun H locs hP hD hS => ?_)
  have hP : va_P D vwCl [(h0, .inr (0, [.ref q8, .int 0])), (q8, .inl (k8, 504, .inr (.inl (fun _ => 0))))] H := hP
  have hD : va_D A [(h0, .inr (0, [.ref q8, .int 0])), (q8, .inl (k8, 504, .inr (.inl (fun _ => 0))))] := hD
  exact W.vret hx hb hr (fun t ht hW => ⟨⟨(q8, k8), rfl, trivial, by rw [ht]; exact hP, va_K.moved hW.alike hK, hD⟩, hS.F ht⟩) hS.2.2 dX0_init_18
set_option maxHeartbeats 4000000 in
set_option maxRecDepth 100000 in
theorem ct_X1_init (l : Launch) (D : va_G) (h0 sz : Nat) : Met l yX1_init wsX1_init ({ frames := 1, cells := 1, slots := 48, locals := 12 }) (va_Pc [.ref h0] (fun U => U.heap.size = sz ∧ va_P D vwCl [(h0, .inr (1, [.null, .int 0]))] U.heap ∧ va_K D vwCl [] U ∧ va_D (fun _ => True) [(h0, .inr (1, [.null, .int 0]))])) (va_Qv (fun u : Nat × ClassId => True) (fun u t => va_P D vwCl [(h0, .inr (1, [.ref u.1, .int 0])), (u.1, .inl (u.2, 48, .inr (.inl (fun _ => 0))))] t.heap ∧ va_K D vwCl [(u.2, .long)] t ∧ va_D (va_A [(h0, .inr (1, [.null, .int 0]))] sz) [(h0, .inr (1, [.ref u.1, .int 0])), (u.1, .inl (u.2, 48, .inr (.inl (fun _ => 0))))]) (va_A [(h0, .inr (1, [.null, .int 0]))] sz)) 1 48 (va_A [(h0, .inr (1, [.null, .int 0]))] sz) := by
  refine Met.ofW (cc := cX1_init) (maxL := 1) (ret := none) (by decide) rfl ?_
  intro p e s m args below meth c s₁ B hml hv
  obtain ⟨rfl, hsz, hP, hK, hD0⟩ := hv
  have hx := B.exec
  have hb := B.bytes
  have hr := B.returns
  have hts := atoms_spec (ws := wsX1_init) B.pre
  have hown : s.vm.findClass RX1 = some m.cls := findClass_of_methodNamed B.named
  have hlocks := B.notSynchronized
  have hin : meth.name = "<init>" := (name_of_methodNamed B.named B.method).1
  subst hsz
  have hD := hD0.self (sz := s.heap.size)
  generalize hAe : va_A [(h0, .inr (1, [.null, .int 0]))] s.heap.size = A at hD ⊢
  have hA : ∀ q : Nat, s.heap.size ≤ q → A q := fun q h => by rw [← hAe]; exact Or.inr h
  have hS : va_S A s.heap s.heap [] := va_S.rf
  have hl := lv_entry ([.ref h0]) (n := 1) (Nat.le_of_ble_eq_true rfl)
  rw [lg_entry_eq]
  generalize (lg_sl ([.ref h0]) ++ List.replicate (1 - (lg_sl ([.ref h0])).length) Slot.unset).toArray = ls at hl ⊢
  have hl : lv_has ls 1 [(0, .ref h0)] := hl
  refine lv_aload_n hx hb dX1_init_0 rfl (lv_at hl 0 rfl) ?_
  refine W.objInit hx hb hown (hts (Cond.methodLink RX1 3 objectInit) (by decide +kernel)) (hts (Cond.instanceMethod objectInit) (by decide +kernel)) (hts (Cond.code objectInit ⟨#[0xb1]⟩ 1 none) (by decide +kernel)) rfl (by rw [hml]; exact hl.1) rfl dX1_init_1 (Nat.le_of_ble_eq_true rfl) (Nat.le_of_ble_eq_true rfl) ?_
  refine W.eq (g2 := F0 m 4 ls []) rfl ?_
  refine lv_aload_n hx hb dX1_init_4 rfl (lv_at hl 0 rfl) ?_
  refine lv_bipush (v := 48) hx hb dX1_init_5 (by decide) ?_
  refine va_newa (atype := .long) (a0 := (48, .inr (.inl (fun _ => 0)))) hx hb (hts (Cond.arrayClass .long) (by decide +kernel)) rfl hK hP hD hS hA (fun _ => rfl) (by decide) (by decide) (Nat.le_of_ble_eq_true rfl) (Nat.le_of_ble_eq_true rfl) (Nat.le_of_ble_eq_true rfl) dX1_init_7 (fun q7 k7 H hK hP hD hS => ?_)
  have hK : va_K D vwCl [(k7, .long)] s := hK
  have hP : va_P D vwCl [(h0, .inr (1, [.null, .int 0])), (q7, .inl (k7, 48, .inr (.inl (fun _ => 0))))] H := hP
  have hD : va_D A [(h0, .inr (1, [.null, .int 0])), (q7, .inl (k7, 48, .inr (.inl (fun _ => 0))))] := hD
  refine W.widen (k := 1) (n := 48) (Nat.le_of_ble_eq_true rfl) (Nat.le_of_ble_eq_true rfl) ?_
  refine va_putF (D := D) (ci := 1) (v := .ref q7) (ty := .array .long) (C := RX1) (T := TX1) (N := 2) hx hb hts (by decide +kernel) tyX1 tyX1_ok nmX1 hown hK hP hD hS 0 rfl rfl 0 (by decide) (hts (Cond.fieldLink RX1 11 "BooleanRing$History" "states" "[J") (by decide +kernel)) (fun _ h9 => h9) rfl hin rfl (by decide +kernel) rfl rfl (Nat.le_of_ble_eq_true rfl) dX1_init_9 (fun H locs hP hD hS => ?_)
  have hP : va_P D vwCl [(h0, .inr (1, [.ref q7, .int 0])), (q7, .inl (k7, 48, .inr (.inl (fun _ => 0))))] H := hP
  have hD : va_D A [(h0, .inr (1, [.ref q7, .int 0])), (q7, .inl (k7, 48, .inr (.inl (fun _ => 0))))] := hD
  refine lv_aload_n hx hb dX1_init_12 rfl (lv_at hl 0 rfl) ?_
  refine lv_iconst (v := 0) hx hb dX1_init_13 (by decide) ?_
  refine va_put (D := D) (ci := 1) (v := .int 0) (ty := .int) (C := RX1) (T := TX1) (N := 2) hx hb hts (by decide +kernel) tyX1 tyX1_ok nmX1 hown hK hP hD hS 0 rfl rfl 1 (by decide) (hts (Cond.fieldLink RX1 15 "BooleanRing$History" "kept" "I") (by decide +kernel)) (fun _ h9 => h9) rfl (by decide +kernel) rfl rfl (Nat.le_of_ble_eq_true rfl) dX1_init_14 (fun H locs hP hD hS => ?_)
  have hP : va_P D vwCl [(h0, .inr (1, [.ref q7, .int 0])), (q7, .inl (k7, 48, .inr (.inl (fun _ => 0))))] H := hP
  have hD : va_D A [(h0, .inr (1, [.ref q7, .int 0])), (q7, .inl (k7, 48, .inr (.inl (fun _ => 0))))] := hD
  exact W.vret hx hb hr (fun t ht hW => ⟨⟨(q7, k7), rfl, trivial, by rw [ht]; exact hP, va_K.moved hW.alike hK, hD⟩, hS.F ht⟩) hS.2.2 dX1_init_17
set_option maxHeartbeats 4000000 in
set_option maxRecDepth 100000 in
theorem ct_X5_init (l : Launch) (D : va_G) (h0 sz : Nat) : Met l yX5_init wsX5_init ({ frames := 1, cells := 1, slots := 60, locals := 12 }) (va_Pc [.ref h0] (fun U => U.heap.size = sz ∧ va_P D vwCl [(h0, .inr (2, [.null, .int 0]))] U.heap ∧ va_K D vwCl [] U ∧ va_D (fun _ => True) [(h0, .inr (2, [.null, .int 0]))])) (va_Qv (fun u : Nat × ClassId => True) (fun u t => va_P D vwCl [(h0, .inr (2, [.ref u.1, .int 0])), (u.1, .inl (u.2, 60, .inl (fun _ => 0)))] t.heap ∧ va_K D vwCl [(u.2, .char)] t ∧ va_D (va_A [(h0, .inr (2, [.null, .int 0]))] sz) [(h0, .inr (2, [.ref u.1, .int 0])), (u.1, .inl (u.2, 60, .inl (fun _ => 0)))]) (va_A [(h0, .inr (2, [.null, .int 0]))] sz)) 1 60 (va_A [(h0, .inr (2, [.null, .int 0]))] sz) := by
  refine Met.ofW (cc := cX5_init) (maxL := 1) (ret := none) (by decide) rfl ?_
  intro p e s m args below meth c s₁ B hml hv
  obtain ⟨rfl, hsz, hP, hK, hD0⟩ := hv
  have hx := B.exec
  have hb := B.bytes
  have hr := B.returns
  have hts := atoms_spec (ws := wsX5_init) B.pre
  have hown : s.vm.findClass RX5 = some m.cls := findClass_of_methodNamed B.named
  have hlocks := B.notSynchronized
  have hin : meth.name = "<init>" := (name_of_methodNamed B.named B.method).1
  subst hsz
  have hD := hD0.self (sz := s.heap.size)
  generalize hAe : va_A [(h0, .inr (2, [.null, .int 0]))] s.heap.size = A at hD ⊢
  have hA : ∀ q : Nat, s.heap.size ≤ q → A q := fun q h => by rw [← hAe]; exact Or.inr h
  have hS : va_S A s.heap s.heap [] := va_S.rf
  have hl := lv_entry ([.ref h0]) (n := 1) (Nat.le_of_ble_eq_true rfl)
  rw [lg_entry_eq]
  generalize (lg_sl ([.ref h0]) ++ List.replicate (1 - (lg_sl ([.ref h0])).length) Slot.unset).toArray = ls at hl ⊢
  have hl : lv_has ls 1 [(0, .ref h0)] := hl
  refine lv_aload_n hx hb dX5_init_0 rfl (lv_at hl 0 rfl) ?_
  refine W.objInit hx hb hown (hts (Cond.methodLink RX5 3 objectInit) (by decide +kernel)) (hts (Cond.instanceMethod objectInit) (by decide +kernel)) (hts (Cond.code objectInit ⟨#[0xb1]⟩ 1 none) (by decide +kernel)) rfl (by rw [hml]; exact hl.1) rfl dX5_init_1 (Nat.le_of_ble_eq_true rfl) (Nat.le_of_ble_eq_true rfl) ?_
  refine W.eq (g2 := F0 m 4 ls []) rfl ?_
  refine lv_aload_n hx hb dX5_init_4 rfl (lv_at hl 0 rfl) ?_
  refine lv_bipush (v := 60) hx hb dX5_init_5 (by decide) ?_
  refine va_newa (atype := .char) (a0 := (60, .inl (fun _ => 0))) hx hb (hts (Cond.arrayClass .char) (by decide +kernel)) rfl hK hP hD hS hA (fun _ => rfl) (by decide) (by decide) (Nat.le_of_ble_eq_true rfl) (Nat.le_of_ble_eq_true rfl) (Nat.le_of_ble_eq_true rfl) dX5_init_7 (fun q7 k7 H hK hP hD hS => ?_)
  have hK : va_K D vwCl [(k7, .char)] s := hK
  have hP : va_P D vwCl [(h0, .inr (2, [.null, .int 0])), (q7, .inl (k7, 60, .inl (fun _ => 0)))] H := hP
  have hD : va_D A [(h0, .inr (2, [.null, .int 0])), (q7, .inl (k7, 60, .inl (fun _ => 0)))] := hD
  refine W.widen (k := 1) (n := 60) (Nat.le_of_ble_eq_true rfl) (Nat.le_of_ble_eq_true rfl) ?_
  refine va_putF (D := D) (ci := 2) (v := .ref q7) (ty := .array .char) (C := RX5) (T := TX5) (N := 2) hx hb hts (by decide +kernel) tyX5 tyX5_ok nmX5 hown hK hP hD hS 0 rfl rfl 0 (by decide) (hts (Cond.fieldLink RX5 11 "BooleanRing$Typed" "text" "[C") (by decide +kernel)) (fun _ h9 => h9) rfl hin rfl (by decide +kernel) rfl rfl (Nat.le_of_ble_eq_true rfl) dX5_init_9 (fun H locs hP hD hS => ?_)
  have hP : va_P D vwCl [(h0, .inr (2, [.ref q7, .int 0])), (q7, .inl (k7, 60, .inl (fun _ => 0)))] H := hP
  have hD : va_D A [(h0, .inr (2, [.ref q7, .int 0])), (q7, .inl (k7, 60, .inl (fun _ => 0)))] := hD
  refine lv_aload_n hx hb dX5_init_12 rfl (lv_at hl 0 rfl) ?_
  refine lv_iconst (v := 0) hx hb dX5_init_13 (by decide) ?_
  refine va_put (D := D) (ci := 2) (v := .int 0) (ty := .int) (C := RX5) (T := TX5) (N := 2) hx hb hts (by decide +kernel) tyX5 tyX5_ok nmX5 hown hK hP hD hS 0 rfl rfl 1 (by decide) (hts (Cond.fieldLink RX5 15 "BooleanRing$Typed" "length" "I") (by decide +kernel)) (fun _ h9 => h9) rfl (by decide +kernel) rfl rfl (Nat.le_of_ble_eq_true rfl) dX5_init_14 (fun H locs hP hD hS => ?_)
  have hP : va_P D vwCl [(h0, .inr (2, [.ref q7, .int 0])), (q7, .inl (k7, 60, .inl (fun _ => 0)))] H := hP
  have hD : va_D A [(h0, .inr (2, [.ref q7, .int 0])), (q7, .inl (k7, 60, .inl (fun _ => 0)))] := hD
  exact W.vret hx hb hr (fun t ht hW => ⟨⟨(q7, k7), rfl, trivial, by rw [ht]; exact hP, va_K.moved hW.alike hK, hD⟩, hS.F ht⟩) hS.2.2 dX5_init_17
set_option maxHeartbeats 4000000 in
set_option maxRecDepth 100000 in
theorem ct_X6_init (l : Launch) (D : va_G) (h0 sz : Nat) : Met l yX6_init wsX6_init ({ frames := 2, cells := 8, slots := 634, locals := 32 }) (va_Pc [.ref h0] (fun U => U.heap.size = sz ∧ va_P D vwCl [(h0, .inr (3, [.null, .null, .null, .null, .null, .int 0]))] U.heap ∧ va_K D vwCl [] U ∧ va_D (fun _ => True) [(h0, .inr (3, [.null, .null, .null, .null, .null, .int 0]))] ∧ va_Nw (.methodLinkNest RX6 19 yX1_init "BooleanRing") U ∧ va_Nw (.methodLinkNest RX6 26 yX0_init "BooleanRing") U ∧ va_Nw (.methodLinkNest RX6 33 yX5_init "BooleanRing") U)) (va_Qv (fun u : (Nat → Nat) × (Nat → ClassId) => u.1 0 = h0) (fun u t => va_P D vwCl [((u.1 0), .inr (3, [.ref (u.1 1), .ref (u.1 2), .ref (u.1 3), .ref (u.1 5), .ref (u.1 7), .int 4])), ((u.1 1), .inl ((u.2 0), 8, .inr (.inl (fun _ => 0)))), ((u.1 2), .inl ((u.2 1), 8, .inl (fun _ => 0))), ((u.1 3), .inr (1, [.ref (u.1 4), .int 0])), ((u.1 4), .inl ((u.2 2), 48, .inr (.inl (fun _ => 0)))), ((u.1 5), .inr (0, [.ref (u.1 6), .int 0])), ((u.1 6), .inl ((u.2 3), 504, .inr (.inl (fun _ => 0)))), ((u.1 7), .inr (2, [.ref (u.1 8), .int 0])), ((u.1 8), .inl ((u.2 4), 60, .inl (fun _ => 0)))] t.heap ∧ va_K D vwCl [((u.2 0), .long), ((u.2 1), .int), ((u.2 2), .long), ((u.2 3), .long), ((u.2 4), .char)] t ∧ va_D (va_A [(h0, .inr (3, [.null, .null, .null, .null, .null, .int 0]))] sz) [((u.1 0), .inr (3, [.ref (u.1 1), .ref (u.1 2), .ref (u.1 3), .ref (u.1 5), .ref (u.1 7), .int 4])), ((u.1 1), .inl ((u.2 0), 8, .inr (.inl (fun _ => 0)))), ((u.1 2), .inl ((u.2 1), 8, .inl (fun _ => 0))), ((u.1 3), .inr (1, [.ref (u.1 4), .int 0])), ((u.1 4), .inl ((u.2 2), 48, .inr (.inl (fun _ => 0)))), ((u.1 5), .inr (0, [.ref (u.1 6), .int 0])), ((u.1 6), .inl ((u.2 3), 504, .inr (.inl (fun _ => 0)))), ((u.1 7), .inr (2, [.ref (u.1 8), .int 0])), ((u.1 8), .inl ((u.2 4), 60, .inl (fun _ => 0)))]) (va_A [(h0, .inr (3, [.null, .null, .null, .null, .null, .int 0]))] sz)) 8 634 (va_A [(h0, .inr (3, [.null, .null, .null, .null, .null, .int 0]))] sz) := by
  refine Met.ofW (cc := cX6_init) (maxL := 1) (ret := none) (by decide) rfl ?_
  intro p e s m args below meth c s₁ B hml hv
  obtain ⟨rfl, hsz, hP, hK, hD0, hn19, hn26, hn33⟩ := hv
  have hx := B.exec
  have hb := B.bytes
  have hr := B.returns
  have hts := atoms_spec (ws := wsX6_init) B.pre
  have hown : s.vm.findClass RX6 = some m.cls := findClass_of_methodNamed B.named
  have hlocks := B.notSynchronized
  have hin : meth.name = "<init>" := (name_of_methodNamed B.named B.method).1
  subst hsz
  have hD := hD0.self (sz := s.heap.size)
  generalize hAe : va_A [(h0, .inr (3, [.null, .null, .null, .null, .null, .int 0]))] s.heap.size = A at hD ⊢
  have hA : ∀ q : Nat, s.heap.size ≤ q → A q := fun q h => by rw [← hAe]; exact Or.inr h
  have hS : va_S A s.heap s.heap [] := va_S.rf
  have hl := lv_entry ([.ref h0]) (n := 1) (Nat.le_of_ble_eq_true rfl)
  rw [lg_entry_eq]
  generalize (lg_sl ([.ref h0]) ++ List.replicate (1 - (lg_sl ([.ref h0])).length) Slot.unset).toArray = ls at hl ⊢
  have hl : lv_has ls 1 [(0, .ref h0)] := hl
  refine lv_aload_n hx hb dX6_init_0 rfl (lv_at hl 0 rfl) ?_
  refine W.objInit hx hb hown (hts (Cond.methodLink RX6 3 objectInit) (by decide +kernel)) (hts (Cond.instanceMethod objectInit) (by decide +kernel)) (hts (Cond.code objectInit ⟨#[0xb1]⟩ 1 none) (by decide +kernel)) rfl (by rw [hml]; exact hl.1) rfl dX6_init_1 (Nat.le_of_ble_eq_true rfl) (Nat.le_of_ble_eq_true rfl) ?_
  refine W.eq (g2 := F0 m 4 ls []) rfl ?_
  refine lv_aload_n hx hb dX6_init_4 rfl (lv_at hl 0 rfl) ?_
  refine lv_bipush (v := 8) hx hb dX6_init_5 (by decide) ?_
  refine va_newa (atype := .long) (a0 := (8, .inr (.inl (fun _ => 0)))) hx hb (hts (Cond.arrayClass .long) (by decide +kernel)) rfl hK hP hD hS hA (fun _ => rfl) (by decide) (by decide) (Nat.le_of_ble_eq_true rfl) (Nat.le_of_ble_eq_true rfl) (Nat.le_of_ble_eq_true rfl) dX6_init_7 (fun q7 k7 H hK hP hD hS => ?_)
  have hK : va_K D vwCl [(k7, .long)] s := hK
  have hP : va_P D vwCl [(h0, .inr (3, [.null, .null, .null, .null, .null, .int 0])), (q7, .inl (k7, 8, .inr (.inl (fun _ => 0))))] H := hP
  have hD : va_D A [(h0, .inr (3, [.null, .null, .null, .null, .null, .int 0])), (q7, .inl (k7, 8, .inr (.inl (fun _ => 0))))] := hD
  refine W.widen (k := 1) (n := 8) (Nat.le_of_ble_eq_true rfl) (Nat.le_of_ble_eq_true rfl) ?_
  refine va_putF (D := D) (ci := 3) (v := .ref q7) (ty := .array .long) (C := RX6) (T := TX6) (N := 6) hx hb hts (by decide +kernel) tyX6 tyX6_ok nmX6 hown hK hP hD hS 0 rfl rfl 0 (by decide) (hts (Cond.fieldLink RX6 9 "BooleanRing" "registers" "[J") (by decide +kernel)) (fun _ h9 => h9) rfl hin rfl (by decide +kernel) rfl rfl (Nat.le_of_ble_eq_true rfl) dX6_init_9 (fun H locs hP hD hS => ?_)
  have hP : va_P D vwCl [(h0, .inr (3, [.ref q7, .null, .null, .null, .null, .int 0])), (q7, .inl (k7, 8, .inr (.inl (fun _ => 0))))] H := hP
  have hD : va_D A [(h0, .inr (3, [.ref q7, .null, .null, .null, .null, .int 0])), (q7, .inl (k7, 8, .inr (.inl (fun _ => 0))))] := hD
  refine lv_aload_n hx hb dX6_init_12 rfl (lv_at hl 0 rfl) ?_
  refine lv_bipush (v := 8) hx hb dX6_init_13 (by decide) ?_
  refine va_newa (atype := .int) (a0 := (8, .inl (fun _ => 0))) hx hb (hts (Cond.arrayClass .int) (by decide +kernel)) rfl hK hP hD hS hA (fun _ => rfl) (by decide) (by decide) (Nat.le_of_ble_eq_true rfl) (Nat.le_of_ble_eq_true rfl) (Nat.le_of_ble_eq_true rfl) dX6_init_15 (fun q15 k15 H hK hP hD hS => ?_)
  have hK : va_K D vwCl [(k7, .long), (k15, .int)] s := hK
  have hP : va_P D vwCl [(h0, .inr (3, [.ref q7, .null, .null, .null, .null, .int 0])), (q7, .inl (k7, 8, .inr (.inl (fun _ => 0)))), (q15, .inl (k15, 8, .inl (fun _ => 0)))] H := hP
  have hD : va_D A [(h0, .inr (3, [.ref q7, .null, .null, .null, .null, .int 0])), (q7, .inl (k7, 8, .inr (.inl (fun _ => 0)))), (q15, .inl (k15, 8, .inl (fun _ => 0)))] := hD
  refine W.widen (k := 2) (n := 16) (Nat.le_of_ble_eq_true rfl) (Nat.le_of_ble_eq_true rfl) ?_
  refine va_putF (D := D) (ci := 3) (v := .ref q15) (ty := .array .int) (C := RX6) (T := TX6) (N := 6) hx hb hts (by decide +kernel) tyX6 tyX6_ok nmX6 hown hK hP hD hS 0 rfl rfl 1 (by decide) (hts (Cond.fieldLink RX6 13 "BooleanRing" "leading" "[I") (by decide +kernel)) (fun _ h9 => h9) rfl hin rfl (by decide +kernel) rfl rfl (Nat.le_of_ble_eq_true rfl) dX6_init_17 (fun H locs hP hD hS => ?_)
  have hP : va_P D vwCl [(h0, .inr (3, [.ref q7, .ref q15, .null, .null, .null, .int 0])), (q7, .inl (k7, 8, .inr (.inl (fun _ => 0)))), (q15, .inl (k15, 8, .inl (fun _ => 0)))] H := hP
  have hD : va_D A [(h0, .inr (3, [.ref q7, .ref q15, .null, .null, .null, .int 0])), (q7, .inl (k7, 8, .inr (.inl (fun _ => 0)))), (q15, .inl (k15, 8, .inl (fun _ => 0)))] := hD
  refine lv_aload_n hx hb dX6_init_20 rfl (lv_at hl 0 rfl) ?_
  refine va_new (ci := 1) (fs := [.null, .int 0]) (C := RX1) (T := TX1) (N := 2) hx hb hts (by decide +kernel) tyX1 tyX1_ok hown (hts (Cond.classLink RX6 17 RX1) (by decide +kernel)) (hts (Cond.instantiable RX1 2) (by decide +kernel)) (hts (Cond.initialized RX1) (by decide +kernel)) hK hP hD hS hA rfl (fun j hj => by rcases (show j = 0 ∨ j = 1 by omega) with rfl | rfl <;> rfl) (Nat.le_of_ble_eq_true rfl) (Nat.le_of_ble_eq_true rfl) dX6_init_21 (fun q21 H hP hD hS => ?_)
  have hP : va_P D vwCl [(h0, .inr (3, [.ref q7, .ref q15, .null, .null, .null, .int 0])), (q7, .inl (k7, 8, .inr (.inl (fun _ => 0)))), (q15, .inl (k15, 8, .inl (fun _ => 0))), (q21, .inr (1, [.null, .int 0]))] H := hP
  have hD : va_D A [(h0, .inr (3, [.ref q7, .ref q15, .null, .null, .null, .int 0])), (q7, .inl (k7, 8, .inr (.inl (fun _ => 0)))), (q15, .inl (k15, 8, .inl (fun _ => 0))), (q21, .inr (1, [.null, .int 0]))] := hD
  refine W.widen (k := 3) (n := 18) (Nat.le_of_ble_eq_true rfl) (Nat.le_of_ble_eq_true rfl) ?_
  refine lv_dup hx hb dX6_init_24 rfl ?_
  have hPc := hP.sub (ws' := [(q21, .inr (1, [.null, .int 0]))]) [3] rfl
  have hDc := hD.sub (ws' := [(q21, .inr (1, [.null, .int 0]))]) [3] (by decide) rfl
  have hKc := hK.sub (tys' := []) [] rfl
  have hFc := va_free (wc := [(q21, .inr (1, [.null, .int 0]))]) hD hS hA [3] rfl
  refine va_callv (va_runIN (As := []) (rest := [.ref q21, .ref h0]) (b := q21) ⟨hx, hb, hml, hown, hts⟩ (ct_X1_init l D q21 H.size) ⟨va_cnB (host := "BooleanRing") 0 hts gX6_init_X1_init_n19 rfl rfl rfl hn19 (hts (Cond.initialized RX1) (by decide +kernel)) (by decide +kernel) ⟨Nat.le_of_ble_eq_true rfl, Nat.le_of_ble_eq_true rfl⟩, rfl, (hts (Cond.instanceMethod yX1_init) (by decide +kernel))⟩ ⟨fun a U g mk q => by obtain ⟨q0, q1, qP, qK, qD⟩ := q; exact ⟨q0, q1, qP, va_K.moved (u := U) (U := U.calling g mk a) (Vm.Alike.refl U.vm) qK, qD⟩, fun U hU hW => ⟨rfl, by rw [hU], by rw [hU]; exact hPc, va_K.moved hW.alike hKc, hDc.weaken (fun _ _ _ _ => trivial)⟩⟩ rfl rfl hl.1 rfl (lv_room (Nat.le_of_ble_eq_true rfl)) dX6_init_25 ⟨Nat.le_of_ble_eq_true rfl, Nat.le_of_ble_eq_true rfl⟩) hS (fun q _ h => hFc q h) hFc (fun u t H1 locs ht hvm hw hB hz1 hk1 hS => ?_)
  obtain ⟨q25, k25⟩ := u
  obtain ⟨hP1, hK1, hD1⟩ := hB
  rw [ht] at hP1
  have hK1 := va_K.moved hvm.symm hK1
  obtain ⟨hP, hD⟩ := va_join (wr := [(h0, .inr (3, [.ref q7, .ref q15, .null, .null, .null, .int 0])), (q7, .inl (k7, 8, .inr (.inl (fun _ => 0)))), (q15, .inl (k15, 8, .inl (fun _ => 0)))]) (w1 := [(q21, .inr (1, [.ref q25, .int 0])), (q25, .inl (k25, 48, .inr (.inl (fun _ => 0))))]) hP hD [3] [0, 1, 2] rfl rfl (by decide) (by decide) hk1 hFc hP1 hD1
  have hK := (hK.sub (tys' := [(k7, .long), (k15, .int)]) [0, 1] rfl).app hK1
  generalize H1 = H at hP hS ⊢
  have hK : va_K D vwCl [(k7, .long), (k15, .int), (k25, .long)] s := hK
  have hP : va_P D vwCl [(h0, .inr (3, [.ref q7, .ref q15, .null, .null, .null, .int 0])), (q7, .inl (k7, 8, .inr (.inl (fun _ => 0)))), (q15, .inl (k15, 8, .inl (fun _ => 0))), (q21, .inr (1, [.ref q25, .int 0])), (q25, .inl (k25, 48, .inr (.inl (fun _ => 0))))] H := hP
  have hD : va_D A [(h0, .inr (3, [.ref q7, .ref q15, .null, .null, .null, .int 0])), (q7, .inl (k7, 8, .inr (.inl (fun _ => 0)))), (q15, .inl (k15, 8, .inl (fun _ => 0))), (q21, .inr (1, [.ref q25, .int 0])), (q25, .inl (k25, 48, .inr (.inl (fun _ => 0))))] := hD
  refine W.widen (k := 4) (n := 66) (Nat.le_of_ble_eq_true rfl) (Nat.le_of_ble_eq_true rfl) ?_
  refine W.eq (g2 := F0 m 28 ls [.ref q21, .ref h0]) rfl ?_
  refine va_putF (D := D) (ci := 3) (v := .ref q21) (ty := .object "BooleanRing$History") (C := RX6) (T := TX6) (N := 6) hx hb hts (by decide +kernel) tyX6 tyX6_ok nmX6 hown hK hP hD hS 0 rfl rfl 2 (by decide) (hts (Cond.fieldLink RX6 20 "BooleanRing" "history" "LBooleanRing$History;") (by decide +kernel)) (fun _ h9 => h9) rfl hin rfl (by decide +kernel) rfl rfl (Nat.le_of_ble_eq_true rfl) dX6_init_28 (fun H locs hP hD hS => ?_)
  have hP : va_P D vwCl [(h0, .inr (3, [.ref q7, .ref q15, .ref q21, .null, .null, .int 0])), (q7, .inl (k7, 8, .inr (.inl (fun _ => 0)))), (q15, .inl (k15, 8, .inl (fun _ => 0))), (q21, .inr (1, [.ref q25, .int 0])), (q25, .inl (k25, 48, .inr (.inl (fun _ => 0))))] H := hP
  have hD : va_D A [(h0, .inr (3, [.ref q7, .ref q15, .ref q21, .null, .null, .int 0])), (q7, .inl (k7, 8, .inr (.inl (fun _ => 0)))), (q15, .inl (k15, 8, .inl (fun _ => 0))), (q21, .inr (1, [.ref q25, .int 0])), (q25, .inl (k25, 48, .inr (.inl (fun _ => 0))))] := hD
  refine lv_aload_n hx hb dX6_init_31 rfl (lv_at hl 0 rfl) ?_
  refine va_new (ci := 0) (fs := [.null, .int 0]) (C := RX0) (T := TX0) (N := 2) hx hb hts (by decide +kernel) tyX0 tyX0_ok hown (hts (Cond.classLink RX6 24 RX0) (by decide +kernel)) (hts (Cond.instantiable RX0 2) (by decide +kernel)) (hts (Cond.initialized RX0) (by decide +kernel)) hK hP hD hS hA rfl (fun j hj => by rcases (show j = 0 ∨ j = 1 by omega) with rfl | rfl <;> rfl) (Nat.le_of_ble_eq_true rfl) (Nat.le_of_ble_eq_true rfl) dX6_init_32 (fun q32 H hP hD hS => ?_)
  have hP : va_P D vwCl [(h0, .inr (3, [.ref q7, .ref q15, .ref q21, .null, .null, .int 0])), (q7, .inl (k7, 8, .inr (.inl (fun _ => 0)))), (q15, .inl (k15, 8, .inl (fun _ => 0))), (q21, .inr (1, [.ref q25, .int 0])), (q25, .inl (k25, 48, .inr (.inl (fun _ => 0)))), (q32, .inr (0, [.null, .int 0]))] H := hP
  have hD : va_D A [(h0, .inr (3, [.ref q7, .ref q15, .ref q21, .null, .null, .int 0])), (q7, .inl (k7, 8, .inr (.inl (fun _ => 0)))), (q15, .inl (k15, 8, .inl (fun _ => 0))), (q21, .inr (1, [.ref q25, .int 0])), (q25, .inl (k25, 48, .inr (.inl (fun _ => 0)))), (q32, .inr (0, [.null, .int 0]))] := hD
  refine W.widen (k := 5) (n := 68) (Nat.le_of_ble_eq_true rfl) (Nat.le_of_ble_eq_true rfl) ?_
  refine lv_dup hx hb dX6_init_35 rfl ?_
  have hPc := hP.sub (ws' := [(q32, .inr (0, [.null, .int 0]))]) [5] rfl
  have hDc := hD.sub (ws' := [(q32, .inr (0, [.null, .int 0]))]) [5] (by decide) rfl
  have hKc := hK.sub (tys' := []) [] rfl
  have hFc := va_free (wc := [(q32, .inr (0, [.null, .int 0]))]) hD hS hA [5] rfl
  refine va_callv (va_runIN (As := []) (rest := [.ref q32, .ref h0]) (b := q32) ⟨hx, hb, hml, hown, hts⟩ (ct_X0_init l D q32 H.size) ⟨va_cnB (host := "BooleanRing") 0 hts gX6_init_X0_init_n26 rfl rfl rfl hn26 (hts (Cond.initialized RX0) (by decide +kernel)) (by decide +kernel) ⟨Nat.le_of_ble_eq_true rfl, Nat.le_of_ble_eq_true rfl⟩, rfl, (hts (Cond.instanceMethod yX0_init) (by decide +kernel))⟩ ⟨fun a U g mk q => by obtain ⟨q0, q1, qP, qK, qD⟩ := q; exact ⟨q0, q1, qP, va_K.moved (u := U) (U := U.calling g mk a) (Vm.Alike.refl U.vm) qK, qD⟩, fun U hU hW => ⟨rfl, by rw [hU], by rw [hU]; exact hPc, va_K.moved hW.alike hKc, hDc.weaken (fun _ _ _ _ => trivial)⟩⟩ rfl rfl hl.1 rfl (lv_room (Nat.le_of_ble_eq_true rfl)) dX6_init_36 ⟨Nat.le_of_ble_eq_true rfl, Nat.le_of_ble_eq_true rfl⟩) hS (fun q _ h => hFc q h) hFc (fun u t H1 locs ht hvm hw hB hz1 hk1 hS => ?_)
  obtain ⟨q36, k36⟩ := u
  obtain ⟨hP1, hK1, hD1⟩ := hB
  rw [ht] at hP1
  have hK1 := va_K.moved hvm.symm hK1
  obtain ⟨hP, hD⟩ := va_join (wr := [(h0, .inr (3, [.ref q7, .ref q15, .ref q21, .null, .null, .int 0])), (q7, .inl (k7, 8, .inr (.inl (fun _ => 0)))), (q15, .inl (k15, 8, .inl (fun _ => 0))), (q21, .inr (1, [.ref q25, .int 0])), (q25, .inl (k25, 48, .inr (.inl (fun _ => 0))))]) (w1 := [(q32, .inr (0, [.ref q36, .int 0])), (q36, .inl (k36, 504, .inr (.inl (fun _ => 0))))]) hP hD [5] [0, 1, 2, 3, 4] rfl rfl (by decide) (by decide) hk1 hFc hP1 hD1
  have hK := (hK.sub (tys' := [(k7, .long), (k15, .int), (k25, .long)]) [0, 1, 2] rfl).app hK1
  generalize H1 = H at hP hS ⊢
  have hK : va_K D vwCl [(k7, .long), (k15, .int), (k25, .long), (k36, .long)] s := hK
  have hP : va_P D vwCl [(h0, .inr (3, [.ref q7, .ref q15, .ref q21, .null, .null, .int 0])), (q7, .inl (k7, 8, .inr (.inl (fun _ => 0)))), (q15, .inl (k15, 8, .inl (fun _ => 0))), (q21, .inr (1, [.ref q25, .int 0])), (q25, .inl (k25, 48, .inr (.inl (fun _ => 0)))), (q32, .inr (0, [.ref q36, .int 0])), (q36, .inl (k36, 504, .inr (.inl (fun _ => 0))))] H := hP
  have hD : va_D A [(h0, .inr (3, [.ref q7, .ref q15, .ref q21, .null, .null, .int 0])), (q7, .inl (k7, 8, .inr (.inl (fun _ => 0)))), (q15, .inl (k15, 8, .inl (fun _ => 0))), (q21, .inr (1, [.ref q25, .int 0])), (q25, .inl (k25, 48, .inr (.inl (fun _ => 0)))), (q32, .inr (0, [.ref q36, .int 0])), (q36, .inl (k36, 504, .inr (.inl (fun _ => 0))))] := hD
  refine W.widen (k := 6) (n := 572) (Nat.le_of_ble_eq_true rfl) (Nat.le_of_ble_eq_true rfl) ?_
  refine W.eq (g2 := F0 m 39 ls [.ref q32, .ref h0]) rfl ?_
  refine va_putF (D := D) (ci := 3) (v := .ref q32) (ty := .object "BooleanRing$Diagrams") (C := RX6) (T := TX6) (N := 6) hx hb hts (by decide +kernel) tyX6 tyX6_ok nmX6 hown hK hP hD hS 0 rfl rfl 3 (by decide) (hts (Cond.fieldLink RX6 27 "BooleanRing" "diagrams" "LBooleanRing$Diagrams;") (by decide +kernel)) (fun _ h9 => h9) rfl hin rfl (by decide +kernel) rfl rfl (Nat.le_of_ble_eq_true rfl) dX6_init_39 (fun H locs hP hD hS => ?_)
  have hP : va_P D vwCl [(h0, .inr (3, [.ref q7, .ref q15, .ref q21, .ref q32, .null, .int 0])), (q7, .inl (k7, 8, .inr (.inl (fun _ => 0)))), (q15, .inl (k15, 8, .inl (fun _ => 0))), (q21, .inr (1, [.ref q25, .int 0])), (q25, .inl (k25, 48, .inr (.inl (fun _ => 0)))), (q32, .inr (0, [.ref q36, .int 0])), (q36, .inl (k36, 504, .inr (.inl (fun _ => 0))))] H := hP
  have hD : va_D A [(h0, .inr (3, [.ref q7, .ref q15, .ref q21, .ref q32, .null, .int 0])), (q7, .inl (k7, 8, .inr (.inl (fun _ => 0)))), (q15, .inl (k15, 8, .inl (fun _ => 0))), (q21, .inr (1, [.ref q25, .int 0])), (q25, .inl (k25, 48, .inr (.inl (fun _ => 0)))), (q32, .inr (0, [.ref q36, .int 0])), (q36, .inl (k36, 504, .inr (.inl (fun _ => 0))))] := hD
  refine lv_aload_n hx hb dX6_init_42 rfl (lv_at hl 0 rfl) ?_
  refine va_new (ci := 2) (fs := [.null, .int 0]) (C := RX5) (T := TX5) (N := 2) hx hb hts (by decide +kernel) tyX5 tyX5_ok hown (hts (Cond.classLink RX6 31 RX5) (by decide +kernel)) (hts (Cond.instantiable RX5 2) (by decide +kernel)) (hts (Cond.initialized RX5) (by decide +kernel)) hK hP hD hS hA rfl (fun j hj => by rcases (show j = 0 ∨ j = 1 by omega) with rfl | rfl <;> rfl) (Nat.le_of_ble_eq_true rfl) (Nat.le_of_ble_eq_true rfl) dX6_init_43 (fun q43 H hP hD hS => ?_)
  have hP : va_P D vwCl [(h0, .inr (3, [.ref q7, .ref q15, .ref q21, .ref q32, .null, .int 0])), (q7, .inl (k7, 8, .inr (.inl (fun _ => 0)))), (q15, .inl (k15, 8, .inl (fun _ => 0))), (q21, .inr (1, [.ref q25, .int 0])), (q25, .inl (k25, 48, .inr (.inl (fun _ => 0)))), (q32, .inr (0, [.ref q36, .int 0])), (q36, .inl (k36, 504, .inr (.inl (fun _ => 0)))), (q43, .inr (2, [.null, .int 0]))] H := hP
  have hD : va_D A [(h0, .inr (3, [.ref q7, .ref q15, .ref q21, .ref q32, .null, .int 0])), (q7, .inl (k7, 8, .inr (.inl (fun _ => 0)))), (q15, .inl (k15, 8, .inl (fun _ => 0))), (q21, .inr (1, [.ref q25, .int 0])), (q25, .inl (k25, 48, .inr (.inl (fun _ => 0)))), (q32, .inr (0, [.ref q36, .int 0])), (q36, .inl (k36, 504, .inr (.inl (fun _ => 0)))), (q43, .inr (2, [.null, .int 0]))] := hD
  refine W.widen (k := 7) (n := 574) (Nat.le_of_ble_eq_true rfl) (Nat.le_of_ble_eq_true rfl) ?_
  refine lv_dup hx hb dX6_init_46 rfl ?_
  have hPc := hP.sub (ws' := [(q43, .inr (2, [.null, .int 0]))]) [7] rfl
  have hDc := hD.sub (ws' := [(q43, .inr (2, [.null, .int 0]))]) [7] (by decide) rfl
  have hKc := hK.sub (tys' := []) [] rfl
  have hFc := va_free (wc := [(q43, .inr (2, [.null, .int 0]))]) hD hS hA [7] rfl
  refine va_callv (va_runIN (As := []) (rest := [.ref q43, .ref h0]) (b := q43) ⟨hx, hb, hml, hown, hts⟩ (ct_X5_init l D q43 H.size) ⟨va_cnB (host := "BooleanRing") 0 hts gX6_init_X5_init_n33 rfl rfl rfl hn33 (hts (Cond.initialized RX5) (by decide +kernel)) (by decide +kernel) ⟨Nat.le_of_ble_eq_true rfl, Nat.le_of_ble_eq_true rfl⟩, rfl, (hts (Cond.instanceMethod yX5_init) (by decide +kernel))⟩ ⟨fun a U g mk q => by obtain ⟨q0, q1, qP, qK, qD⟩ := q; exact ⟨q0, q1, qP, va_K.moved (u := U) (U := U.calling g mk a) (Vm.Alike.refl U.vm) qK, qD⟩, fun U hU hW => ⟨rfl, by rw [hU], by rw [hU]; exact hPc, va_K.moved hW.alike hKc, hDc.weaken (fun _ _ _ _ => trivial)⟩⟩ rfl rfl hl.1 rfl (lv_room (Nat.le_of_ble_eq_true rfl)) dX6_init_47 ⟨Nat.le_of_ble_eq_true rfl, Nat.le_of_ble_eq_true rfl⟩) hS (fun q _ h => hFc q h) hFc (fun u t H1 locs ht hvm hw hB hz1 hk1 hS => ?_)
  obtain ⟨q47, k47⟩ := u
  obtain ⟨hP1, hK1, hD1⟩ := hB
  rw [ht] at hP1
  have hK1 := va_K.moved hvm.symm hK1
  obtain ⟨hP, hD⟩ := va_join (wr := [(h0, .inr (3, [.ref q7, .ref q15, .ref q21, .ref q32, .null, .int 0])), (q7, .inl (k7, 8, .inr (.inl (fun _ => 0)))), (q15, .inl (k15, 8, .inl (fun _ => 0))), (q21, .inr (1, [.ref q25, .int 0])), (q25, .inl (k25, 48, .inr (.inl (fun _ => 0)))), (q32, .inr (0, [.ref q36, .int 0])), (q36, .inl (k36, 504, .inr (.inl (fun _ => 0))))]) (w1 := [(q43, .inr (2, [.ref q47, .int 0])), (q47, .inl (k47, 60, .inl (fun _ => 0)))]) hP hD [7] [0, 1, 2, 3, 4, 5, 6] rfl rfl (by decide) (by decide) hk1 hFc hP1 hD1
  have hK := (hK.sub (tys' := [(k7, .long), (k15, .int), (k25, .long), (k36, .long)]) [0, 1, 2, 3] rfl).app hK1
  generalize H1 = H at hP hS ⊢
  have hK : va_K D vwCl [(k7, .long), (k15, .int), (k25, .long), (k36, .long), (k47, .char)] s := hK
  have hP : va_P D vwCl [(h0, .inr (3, [.ref q7, .ref q15, .ref q21, .ref q32, .null, .int 0])), (q7, .inl (k7, 8, .inr (.inl (fun _ => 0)))), (q15, .inl (k15, 8, .inl (fun _ => 0))), (q21, .inr (1, [.ref q25, .int 0])), (q25, .inl (k25, 48, .inr (.inl (fun _ => 0)))), (q32, .inr (0, [.ref q36, .int 0])), (q36, .inl (k36, 504, .inr (.inl (fun _ => 0)))), (q43, .inr (2, [.ref q47, .int 0])), (q47, .inl (k47, 60, .inl (fun _ => 0)))] H := hP
  have hD : va_D A [(h0, .inr (3, [.ref q7, .ref q15, .ref q21, .ref q32, .null, .int 0])), (q7, .inl (k7, 8, .inr (.inl (fun _ => 0)))), (q15, .inl (k15, 8, .inl (fun _ => 0))), (q21, .inr (1, [.ref q25, .int 0])), (q25, .inl (k25, 48, .inr (.inl (fun _ => 0)))), (q32, .inr (0, [.ref q36, .int 0])), (q36, .inl (k36, 504, .inr (.inl (fun _ => 0)))), (q43, .inr (2, [.ref q47, .int 0])), (q47, .inl (k47, 60, .inl (fun _ => 0)))] := hD
  refine W.widen (k := 8) (n := 634) (Nat.le_of_ble_eq_true rfl) (Nat.le_of_ble_eq_true rfl) ?_
  refine W.eq (g2 := F0 m 50 ls [.ref q43, .ref h0]) rfl ?_
  refine va_putF (D := D) (ci := 3) (v := .ref q43) (ty := .object "BooleanRing$Typed") (C := RX6) (T := TX6) (N := 6) hx hb hts (by decide +kernel) tyX6 tyX6_ok nmX6 hown hK hP hD hS 0 rfl rfl 4 (by decide) (hts (Cond.fieldLink RX6 34 "BooleanRing" "typed" "LBooleanRing$Typed;") (by decide +kernel)) (fun _ h9 => h9) rfl hin rfl (by decide +kernel) rfl rfl (Nat.le_of_ble_eq_true rfl) dX6_init_50 (fun H locs hP hD hS => ?_)
  have hP : va_P D vwCl [(h0, .inr (3, [.ref q7, .ref q15, .ref q21, .ref q32, .ref q43, .int 0])), (q7, .inl (k7, 8, .inr (.inl (fun _ => 0)))), (q15, .inl (k15, 8, .inl (fun _ => 0))), (q21, .inr (1, [.ref q25, .int 0])), (q25, .inl (k25, 48, .inr (.inl (fun _ => 0)))), (q32, .inr (0, [.ref q36, .int 0])), (q36, .inl (k36, 504, .inr (.inl (fun _ => 0)))), (q43, .inr (2, [.ref q47, .int 0])), (q47, .inl (k47, 60, .inl (fun _ => 0)))] H := hP
  have hD : va_D A [(h0, .inr (3, [.ref q7, .ref q15, .ref q21, .ref q32, .ref q43, .int 0])), (q7, .inl (k7, 8, .inr (.inl (fun _ => 0)))), (q15, .inl (k15, 8, .inl (fun _ => 0))), (q21, .inr (1, [.ref q25, .int 0])), (q25, .inl (k25, 48, .inr (.inl (fun _ => 0)))), (q32, .inr (0, [.ref q36, .int 0])), (q36, .inl (k36, 504, .inr (.inl (fun _ => 0)))), (q43, .inr (2, [.ref q47, .int 0])), (q47, .inl (k47, 60, .inl (fun _ => 0)))] := hD
  refine lv_aload_n hx hb dX6_init_53 rfl (lv_at hl 0 rfl) ?_
  refine lv_iconst (v := 4) hx hb dX6_init_54 (by decide) ?_
  refine va_put (D := D) (ci := 3) (v := .int 4) (ty := .int) (C := RX6) (T := TX6) (N := 6) hx hb hts (by decide +kernel) tyX6 tyX6_ok nmX6 hown hK hP hD hS 0 rfl rfl 5 (by decide) (hts (Cond.fieldLink RX6 38 "BooleanRing" "n" "I") (by decide +kernel)) (fun _ h9 => h9) rfl (by decide +kernel) rfl rfl (Nat.le_of_ble_eq_true rfl) dX6_init_55 (fun H locs hP hD hS => ?_)
  have hP : va_P D vwCl [(h0, .inr (3, [.ref q7, .ref q15, .ref q21, .ref q32, .ref q43, .int 4])), (q7, .inl (k7, 8, .inr (.inl (fun _ => 0)))), (q15, .inl (k15, 8, .inl (fun _ => 0))), (q21, .inr (1, [.ref q25, .int 0])), (q25, .inl (k25, 48, .inr (.inl (fun _ => 0)))), (q32, .inr (0, [.ref q36, .int 0])), (q36, .inl (k36, 504, .inr (.inl (fun _ => 0)))), (q43, .inr (2, [.ref q47, .int 0])), (q47, .inl (k47, 60, .inl (fun _ => 0)))] H := hP
  have hD : va_D A [(h0, .inr (3, [.ref q7, .ref q15, .ref q21, .ref q32, .ref q43, .int 4])), (q7, .inl (k7, 8, .inr (.inl (fun _ => 0)))), (q15, .inl (k15, 8, .inl (fun _ => 0))), (q21, .inr (1, [.ref q25, .int 0])), (q25, .inl (k25, 48, .inr (.inl (fun _ => 0)))), (q32, .inr (0, [.ref q36, .int 0])), (q36, .inl (k36, 504, .inr (.inl (fun _ => 0)))), (q43, .inr (2, [.ref q47, .int 0])), (q47, .inl (k47, 60, .inl (fun _ => 0)))] := hD
  exact W.vret hx hb hr (fun t ht hW => ⟨⟨(fun i => match i with | 0 => h0 | 1 => q7 | 2 => q15 | 3 => q21 | 4 => q25 | 5 => q32 | 6 => q36 | 7 => q43 | _ => q47, fun i => match i with | 0 => k7 | 1 => k15 | 2 => k25 | 3 => k36 | _ => k47), rfl, rfl, by rw [ht]; exact hP, va_K.moved hW.alike hK, hD⟩, hS.F ht⟩) hS.2.2 dX6_init_58
set_option maxHeartbeats 4000000 in
set_option maxRecDepth 100000 in
theorem ct_X7_init (l : Launch) (D : va_G) (h0 sz : Nat) : Met l yX7_init wsX7_init ({ frames := 1, cells := 5, slots := 1148, locals := 12 }) (va_Pc [.ref h0] (fun U => U.heap.size = sz ∧ va_P D vwCl [(h0, .inr (4, [.int 0, .null, .null, .int 0, .null, .int 0, .null, .int 0, .null]))] U.heap ∧ va_K D vwCl [] U ∧ va_D (fun _ => True) [(h0, .inr (4, [.int 0, .null, .null, .int 0, .null, .int 0, .null, .int 0, .null]))])) (va_Qv (fun u : (Nat → Nat) × (Nat → ClassId) => u.1 0 = h0) (fun u t => va_P D vwCl [((u.1 0), .inr (4, [.int 4, .ref (u.1 1), .ref (u.1 2), .int 0, .ref (u.1 3), .int 0, .ref (u.1 4), .int 0, .ref (u.1 5)])), ((u.1 1), .inl ((u.2 0), 8, .inr (.inl (fun _ => 0)))), ((u.1 2), .inl ((u.2 1), 48, .inr (.inl (fun _ => 0)))), ((u.1 3), .inl ((u.2 2), 60, .inl (fun _ => 0))), ((u.1 4), .inl ((u.2 3), 1024, .inr (.inl (fun _ => 0)))), ((u.1 5), .inl ((u.2 4), 8, .inr (.inl (fun _ => 0))))] t.heap ∧ va_K D vwCl [((u.2 0), .long), ((u.2 1), .long), ((u.2 2), .char), ((u.2 3), .long), ((u.2 4), .long)] t ∧ va_D (va_A [(h0, .inr (4, [.int 0, .null, .null, .int 0, .null, .int 0, .null, .int 0, .null]))] sz) [((u.1 0), .inr (4, [.int 4, .ref (u.1 1), .ref (u.1 2), .int 0, .ref (u.1 3), .int 0, .ref (u.1 4), .int 0, .ref (u.1 5)])), ((u.1 1), .inl ((u.2 0), 8, .inr (.inl (fun _ => 0)))), ((u.1 2), .inl ((u.2 1), 48, .inr (.inl (fun _ => 0)))), ((u.1 3), .inl ((u.2 2), 60, .inl (fun _ => 0))), ((u.1 4), .inl ((u.2 3), 1024, .inr (.inl (fun _ => 0)))), ((u.1 5), .inl ((u.2 4), 8, .inr (.inl (fun _ => 0))))]) (va_A [(h0, .inr (4, [.int 0, .null, .null, .int 0, .null, .int 0, .null, .int 0, .null]))] sz)) 5 1148 (va_A [(h0, .inr (4, [.int 0, .null, .null, .int 0, .null, .int 0, .null, .int 0, .null]))] sz) := by
  refine Met.ofW (cc := cX7_init) (maxL := 1) (ret := none) (by decide) rfl ?_
  intro p e s m args below meth c s₁ B hml hv
  obtain ⟨rfl, hsz, hP, hK, hD0⟩ := hv
  have hx := B.exec
  have hb := B.bytes
  have hr := B.returns
  have hts := atoms_spec (ws := wsX7_init) B.pre
  have hown : s.vm.findClass RX7 = some m.cls := findClass_of_methodNamed B.named
  have hlocks := B.notSynchronized
  have hin : meth.name = "<init>" := (name_of_methodNamed B.named B.method).1
  subst hsz
  have hD := hD0.self (sz := s.heap.size)
  generalize hAe : va_A [(h0, .inr (4, [.int 0, .null, .null, .int 0, .null, .int 0, .null, .int 0, .null]))] s.heap.size = A at hD ⊢
  have hA : ∀ q : Nat, s.heap.size ≤ q → A q := fun q h => by rw [← hAe]; exact Or.inr h
  have hS : va_S A s.heap s.heap [] := va_S.rf
  have hl := lv_entry ([.ref h0]) (n := 1) (Nat.le_of_ble_eq_true rfl)
  rw [lg_entry_eq]
  generalize (lg_sl ([.ref h0]) ++ List.replicate (1 - (lg_sl ([.ref h0])).length) Slot.unset).toArray = ls at hl ⊢
  have hl : lv_has ls 1 [(0, .ref h0)] := hl
  refine lv_aload_n hx hb dX7_init_0 rfl (lv_at hl 0 rfl) ?_
  refine W.objInit hx hb hown (hts (Cond.methodLink RX7 1 objectInit) (by decide +kernel)) (hts (Cond.instanceMethod objectInit) (by decide +kernel)) (hts (Cond.code objectInit ⟨#[0xb1]⟩ 1 none) (by decide +kernel)) rfl (by rw [hml]; exact hl.1) rfl dX7_init_1 (Nat.le_of_ble_eq_true rfl) (Nat.le_of_ble_eq_true rfl) ?_
  refine W.eq (g2 := F0 m 4 ls []) rfl ?_
  refine lv_aload_n hx hb dX7_init_4 rfl (lv_at hl 0 rfl) ?_
  refine lv_iconst (v := 4) hx hb dX7_init_5 (by decide) ?_
  refine va_put (D := D) (ci := 4) (v := .int 4) (ty := .int) (C := RX7) (T := TX7) (N := 9) hx hb hts (by decide +kernel) tyX7 tyX7_ok nmX7 hown hK hP hD hS 0 rfl rfl 0 (by decide) (hts (Cond.fieldLink RX7 7 "BooleanRingModel" "n" "I") (by decide +kernel)) (fun _ h9 => h9) rfl (by decide +kernel) rfl rfl (Nat.le_of_ble_eq_true rfl) dX7_init_6 (fun H locs hP hD hS => ?_)
  have hP : va_P D vwCl [(h0, .inr (4, [.int 4, .null, .null, .int 0, .null, .int 0, .null, .int 0, .null]))] H := hP
  have hD : va_D A [(h0, .inr (4, [.int 4, .null, .null, .int 0, .null, .int 0, .null, .int 0, .null]))] := hD
  refine lv_aload_n hx hb dX7_init_9 rfl (lv_at hl 0 rfl) ?_
  refine lv_bipush (v := 8) hx hb dX7_init_10 (by decide) ?_
  refine va_newa (atype := .long) (a0 := (8, .inr (.inl (fun _ => 0)))) hx hb (hts (Cond.arrayClass .long) (by decide +kernel)) rfl hK hP hD hS hA (fun _ => rfl) (by decide) (by decide) (Nat.le_of_ble_eq_true rfl) (Nat.le_of_ble_eq_true rfl) (Nat.le_of_ble_eq_true rfl) dX7_init_12 (fun q12 k12 H hK hP hD hS => ?_)
  have hK : va_K D vwCl [(k12, .long)] s := hK
  have hP : va_P D vwCl [(h0, .inr (4, [.int 4, .null, .null, .int 0, .null, .int 0, .null, .int 0, .null])), (q12, .inl (k12, 8, .inr (.inl (fun _ => 0))))] H := hP
  have hD : va_D A [(h0, .inr (4, [.int 4, .null, .null, .int 0, .null, .int 0, .null, .int 0, .null])), (q12, .inl (k12, 8, .inr (.inl (fun _ => 0))))] := hD
  refine W.widen (k := 1) (n := 8) (Nat.le_of_ble_eq_true rfl) (Nat.le_of_ble_eq_true rfl) ?_
  refine va_putF (D := D) (ci := 4) (v := .ref q12) (ty := .array .long) (C := RX7) (T := TX7) (N := 9) hx hb hts (by decide +kernel) tyX7 tyX7_ok nmX7 hown hK hP hD hS 0 rfl rfl 1 (by decide) (hts (Cond.fieldLink RX7 13 "BooleanRingModel" "p" "[J") (by decide +kernel)) (fun _ h9 => h9) rfl hin rfl (by decide +kernel) rfl rfl (Nat.le_of_ble_eq_true rfl) dX7_init_14 (fun H locs hP hD hS => ?_)
  have hP : va_P D vwCl [(h0, .inr (4, [.int 4, .ref q12, .null, .int 0, .null, .int 0, .null, .int 0, .null])), (q12, .inl (k12, 8, .inr (.inl (fun _ => 0))))] H := hP
  have hD : va_D A [(h0, .inr (4, [.int 4, .ref q12, .null, .int 0, .null, .int 0, .null, .int 0, .null])), (q12, .inl (k12, 8, .inr (.inl (fun _ => 0))))] := hD
  refine lv_aload_n hx hb dX7_init_17 rfl (lv_at hl 0 rfl) ?_
  refine lv_bipush (v := 48) hx hb dX7_init_18 (by decide) ?_
  refine va_newa (atype := .long) (a0 := (48, .inr (.inl (fun _ => 0)))) hx hb (hts (Cond.arrayClass .long) (by decide +kernel)) rfl hK hP hD hS hA (fun _ => rfl) (by decide) (by decide) (Nat.le_of_ble_eq_true rfl) (Nat.le_of_ble_eq_true rfl) (Nat.le_of_ble_eq_true rfl) dX7_init_20 (fun q20 k20 H hK hP hD hS => ?_)
  have hK : va_K D vwCl [(k12, .long), (k20, .long)] s := hK
  have hP : va_P D vwCl [(h0, .inr (4, [.int 4, .ref q12, .null, .int 0, .null, .int 0, .null, .int 0, .null])), (q12, .inl (k12, 8, .inr (.inl (fun _ => 0)))), (q20, .inl (k20, 48, .inr (.inl (fun _ => 0))))] H := hP
  have hD : va_D A [(h0, .inr (4, [.int 4, .ref q12, .null, .int 0, .null, .int 0, .null, .int 0, .null])), (q12, .inl (k12, 8, .inr (.inl (fun _ => 0)))), (q20, .inl (k20, 48, .inr (.inl (fun _ => 0))))] := hD
  refine W.widen (k := 2) (n := 56) (Nat.le_of_ble_eq_true rfl) (Nat.le_of_ble_eq_true rfl) ?_
  refine va_putF (D := D) (ci := 4) (v := .ref q20) (ty := .array .long) (C := RX7) (T := TX7) (N := 9) hx hb hts (by decide +kernel) tyX7 tyX7_ok nmX7 hown hK hP hD hS 0 rfl rfl 2 (by decide) (hts (Cond.fieldLink RX7 17 "BooleanRingModel" "was" "[J") (by decide +kernel)) (fun _ h9 => h9) rfl hin rfl (by decide +kernel) rfl rfl (Nat.le_of_ble_eq_true rfl) dX7_init_22 (fun H locs hP hD hS => ?_)
  have hP : va_P D vwCl [(h0, .inr (4, [.int 4, .ref q12, .ref q20, .int 0, .null, .int 0, .null, .int 0, .null])), (q12, .inl (k12, 8, .inr (.inl (fun _ => 0)))), (q20, .inl (k20, 48, .inr (.inl (fun _ => 0))))] H := hP
  have hD : va_D A [(h0, .inr (4, [.int 4, .ref q12, .ref q20, .int 0, .null, .int 0, .null, .int 0, .null])), (q12, .inl (k12, 8, .inr (.inl (fun _ => 0)))), (q20, .inl (k20, 48, .inr (.inl (fun _ => 0))))] := hD
  refine lv_aload_n hx hb dX7_init_25 rfl (lv_at hl 0 rfl) ?_
  refine lv_bipush (v := 60) hx hb dX7_init_26 (by decide) ?_
  refine va_newa (atype := .char) (a0 := (60, .inl (fun _ => 0))) hx hb (hts (Cond.arrayClass .char) (by decide +kernel)) rfl hK hP hD hS hA (fun _ => rfl) (by decide) (by decide) (Nat.le_of_ble_eq_true rfl) (Nat.le_of_ble_eq_true rfl) (Nat.le_of_ble_eq_true rfl) dX7_init_28 (fun q28 k28 H hK hP hD hS => ?_)
  have hK : va_K D vwCl [(k12, .long), (k20, .long), (k28, .char)] s := hK
  have hP : va_P D vwCl [(h0, .inr (4, [.int 4, .ref q12, .ref q20, .int 0, .null, .int 0, .null, .int 0, .null])), (q12, .inl (k12, 8, .inr (.inl (fun _ => 0)))), (q20, .inl (k20, 48, .inr (.inl (fun _ => 0)))), (q28, .inl (k28, 60, .inl (fun _ => 0)))] H := hP
  have hD : va_D A [(h0, .inr (4, [.int 4, .ref q12, .ref q20, .int 0, .null, .int 0, .null, .int 0, .null])), (q12, .inl (k12, 8, .inr (.inl (fun _ => 0)))), (q20, .inl (k20, 48, .inr (.inl (fun _ => 0)))), (q28, .inl (k28, 60, .inl (fun _ => 0)))] := hD
  refine W.widen (k := 3) (n := 116) (Nat.le_of_ble_eq_true rfl) (Nat.le_of_ble_eq_true rfl) ?_
  refine va_putF (D := D) (ci := 4) (v := .ref q28) (ty := .array .char) (C := RX7) (T := TX7) (N := 9) hx hb hts (by decide +kernel) tyX7 tyX7_ok nmX7 hown hK hP hD hS 0 rfl rfl 4 (by decide) (hts (Cond.fieldLink RX7 20 "BooleanRingModel" "text" "[C") (by decide +kernel)) (fun _ h9 => h9) rfl hin rfl (by decide +kernel) rfl rfl (Nat.le_of_ble_eq_true rfl) dX7_init_30 (fun H locs hP hD hS => ?_)
  have hP : va_P D vwCl [(h0, .inr (4, [.int 4, .ref q12, .ref q20, .int 0, .ref q28, .int 0, .null, .int 0, .null])), (q12, .inl (k12, 8, .inr (.inl (fun _ => 0)))), (q20, .inl (k20, 48, .inr (.inl (fun _ => 0)))), (q28, .inl (k28, 60, .inl (fun _ => 0)))] H := hP
  have hD : va_D A [(h0, .inr (4, [.int 4, .ref q12, .ref q20, .int 0, .ref q28, .int 0, .null, .int 0, .null])), (q12, .inl (k12, 8, .inr (.inl (fun _ => 0)))), (q20, .inl (k20, 48, .inr (.inl (fun _ => 0)))), (q28, .inl (k28, 60, .inl (fun _ => 0)))] := hD
  refine lv_aload_n hx hb dX7_init_33 rfl (lv_at hl 0 rfl) ?_
  refine lv_sipush (v := 1024) hx hb dX7_init_34 (by decide) ?_
  refine va_newa (atype := .long) (a0 := (1024, .inr (.inl (fun _ => 0)))) hx hb (hts (Cond.arrayClass .long) (by decide +kernel)) rfl hK hP hD hS hA (fun _ => rfl) (by decide) (by decide) (Nat.le_of_ble_eq_true rfl) (Nat.le_of_ble_eq_true rfl) (Nat.le_of_ble_eq_true rfl) dX7_init_37 (fun q37 k37 H hK hP hD hS => ?_)
  have hK : va_K D vwCl [(k12, .long), (k20, .long), (k28, .char), (k37, .long)] s := hK
  have hP : va_P D vwCl [(h0, .inr (4, [.int 4, .ref q12, .ref q20, .int 0, .ref q28, .int 0, .null, .int 0, .null])), (q12, .inl (k12, 8, .inr (.inl (fun _ => 0)))), (q20, .inl (k20, 48, .inr (.inl (fun _ => 0)))), (q28, .inl (k28, 60, .inl (fun _ => 0))), (q37, .inl (k37, 1024, .inr (.inl (fun _ => 0))))] H := hP
  have hD : va_D A [(h0, .inr (4, [.int 4, .ref q12, .ref q20, .int 0, .ref q28, .int 0, .null, .int 0, .null])), (q12, .inl (k12, 8, .inr (.inl (fun _ => 0)))), (q20, .inl (k20, 48, .inr (.inl (fun _ => 0)))), (q28, .inl (k28, 60, .inl (fun _ => 0))), (q37, .inl (k37, 1024, .inr (.inl (fun _ => 0))))] := hD
  refine W.widen (k := 4) (n := 1140) (Nat.le_of_ble_eq_true rfl) (Nat.le_of_ble_eq_true rfl) ?_
  refine va_putF (D := D) (ci := 4) (v := .ref q37) (ty := .array .long) (C := RX7) (T := TX7) (N := 9) hx hb hts (by decide +kernel) tyX7 tyX7_ok nmX7 hown hK hP hD hS 0 rfl rfl 6 (by decide) (hts (Cond.fieldLink RX7 24 "BooleanRingModel" "found" "[J") (by decide +kernel)) (fun _ h9 => h9) rfl hin rfl (by decide +kernel) rfl rfl (Nat.le_of_ble_eq_true rfl) dX7_init_39 (fun H locs hP hD hS => ?_)
  have hP : va_P D vwCl [(h0, .inr (4, [.int 4, .ref q12, .ref q20, .int 0, .ref q28, .int 0, .ref q37, .int 0, .null])), (q12, .inl (k12, 8, .inr (.inl (fun _ => 0)))), (q20, .inl (k20, 48, .inr (.inl (fun _ => 0)))), (q28, .inl (k28, 60, .inl (fun _ => 0))), (q37, .inl (k37, 1024, .inr (.inl (fun _ => 0))))] H := hP
  have hD : va_D A [(h0, .inr (4, [.int 4, .ref q12, .ref q20, .int 0, .ref q28, .int 0, .ref q37, .int 0, .null])), (q12, .inl (k12, 8, .inr (.inl (fun _ => 0)))), (q20, .inl (k20, 48, .inr (.inl (fun _ => 0)))), (q28, .inl (k28, 60, .inl (fun _ => 0))), (q37, .inl (k37, 1024, .inr (.inl (fun _ => 0))))] := hD
  refine lv_aload_n hx hb dX7_init_42 rfl (lv_at hl 0 rfl) ?_
  refine lv_bipush (v := 8) hx hb dX7_init_43 (by decide) ?_
  refine va_newa (atype := .long) (a0 := (8, .inr (.inl (fun _ => 0)))) hx hb (hts (Cond.arrayClass .long) (by decide +kernel)) rfl hK hP hD hS hA (fun _ => rfl) (by decide) (by decide) (Nat.le_of_ble_eq_true rfl) (Nat.le_of_ble_eq_true rfl) (Nat.le_of_ble_eq_true rfl) dX7_init_45 (fun q45 k45 H hK hP hD hS => ?_)
  have hK : va_K D vwCl [(k12, .long), (k20, .long), (k28, .char), (k37, .long), (k45, .long)] s := hK
  have hP : va_P D vwCl [(h0, .inr (4, [.int 4, .ref q12, .ref q20, .int 0, .ref q28, .int 0, .ref q37, .int 0, .null])), (q12, .inl (k12, 8, .inr (.inl (fun _ => 0)))), (q20, .inl (k20, 48, .inr (.inl (fun _ => 0)))), (q28, .inl (k28, 60, .inl (fun _ => 0))), (q37, .inl (k37, 1024, .inr (.inl (fun _ => 0)))), (q45, .inl (k45, 8, .inr (.inl (fun _ => 0))))] H := hP
  have hD : va_D A [(h0, .inr (4, [.int 4, .ref q12, .ref q20, .int 0, .ref q28, .int 0, .ref q37, .int 0, .null])), (q12, .inl (k12, 8, .inr (.inl (fun _ => 0)))), (q20, .inl (k20, 48, .inr (.inl (fun _ => 0)))), (q28, .inl (k28, 60, .inl (fun _ => 0))), (q37, .inl (k37, 1024, .inr (.inl (fun _ => 0)))), (q45, .inl (k45, 8, .inr (.inl (fun _ => 0))))] := hD
  refine W.widen (k := 5) (n := 1148) (Nat.le_of_ble_eq_true rfl) (Nat.le_of_ble_eq_true rfl) ?_
  refine va_putF (D := D) (ci := 4) (v := .ref q45) (ty := .array .long) (C := RX7) (T := TX7) (N := 9) hx hb hts (by decide +kernel) tyX7 tyX7_ok nmX7 hown hK hP hD hS 0 rfl rfl 8 (by decide) (hts (Cond.fieldLink RX7 27 "BooleanRingModel" "by" "[J") (by decide +kernel)) (fun _ h9 => h9) rfl hin rfl (by decide +kernel) rfl rfl (Nat.le_of_ble_eq_true rfl) dX7_init_47 (fun H locs hP hD hS => ?_)
  have hP : va_P D vwCl [(h0, .inr (4, [.int 4, .ref q12, .ref q20, .int 0, .ref q28, .int 0, .ref q37, .int 0, .ref q45])), (q12, .inl (k12, 8, .inr (.inl (fun _ => 0)))), (q20, .inl (k20, 48, .inr (.inl (fun _ => 0)))), (q28, .inl (k28, 60, .inl (fun _ => 0))), (q37, .inl (k37, 1024, .inr (.inl (fun _ => 0)))), (q45, .inl (k45, 8, .inr (.inl (fun _ => 0))))] H := hP
  have hD : va_D A [(h0, .inr (4, [.int 4, .ref q12, .ref q20, .int 0, .ref q28, .int 0, .ref q37, .int 0, .ref q45])), (q12, .inl (k12, 8, .inr (.inl (fun _ => 0)))), (q20, .inl (k20, 48, .inr (.inl (fun _ => 0)))), (q28, .inl (k28, 60, .inl (fun _ => 0))), (q37, .inl (k37, 1024, .inr (.inl (fun _ => 0)))), (q45, .inl (k45, 8, .inr (.inl (fun _ => 0))))] := hD
  exact W.vret hx hb hr (fun t ht hW => ⟨⟨(fun i => match i with | 0 => h0 | 1 => q12 | 2 => q20 | 3 => q28 | 4 => q37 | _ => q45, fun i => match i with | 0 => k12 | 1 => k20 | 2 => k28 | 3 => k37 | _ => k45), rfl, rfl, by rw [ht]; exact hP, va_K.moved hW.alike hK, hD⟩, hS.F ht⟩) hS.2.2 dX7_init_50
