/-! the law from its entry -/
def ca3 (k : Nat → ClassId) : Nat → ClassId := fun i => match i with
  | 0 => k 0
  | 1 => k 1
  | _ => k 4
set_option maxRecDepth 100000 in
theorem st_W : ∀ j, j < 6 → Cond.eq (.elem (.static "BooleanRing$Poly" "WITHOUT" "[J") (.int (Int32.ofNat j))) (.long (kW j)) ∈ flatC (Jvm.Cond.and given_1 narrow_1) := by decide +kernel
set_option maxRecDepth 100000 in
theorem st_0 : ∀ j, j < 64 → Cond.eq (.elem (.static "BooleanRing$Orders" "BY_LEX" "[I") (.int (Int32.ofNat j))) (.int (kT 0 j)) ∈ flatC (Jvm.Cond.and given_1 narrow_1) := by decide +kernel
set_option maxRecDepth 100000 in
theorem st_1 : ∀ j, j < 64 → Cond.eq (.elem (.static "BooleanRing$Orders" "BY_GRADED" "[I") (.int (Int32.ofNat j))) (.int (kT 1 j)) ∈ flatC (Jvm.Cond.and given_1 narrow_1) := by decide +kernel
set_option maxRecDepth 100000 in
theorem st_2 : ∀ j, j < 64 → Cond.eq (.elem (.static "BooleanRing$Orders" "BY_REVERSE" "[I") (.int (Int32.ofNat j))) (.int (kT 2 j)) ∈ flatC (Jvm.Cond.and given_1 narrow_1) := by decide +kernel
set_option maxHeartbeats 4000000 in
set_option maxRecDepth 100000 in
/-- the static tables at the start -/
theorem st_all {s : State} {scr : Nat} (hgv : (Jvm.Cond.and given_1 narrow_1).before #[Value.ref scr] s = true) (hts : ∀ w ∈ lw_tbl, w.before #[Value.ref scr] s = true) : ∃ (tw : Nat) (tt : Nat → Nat), tW tw tt (lA s) s s.heap := by
  have hs := flat_of_before _ hgv
  have hA : ∀ q : Nat, q < s.heap.size → ¬ lA s q := fun q h => Nat.not_le.mpr h
  obtain ⟨tw, ew, hw⟩ := va_Tof (tm := .static "BooleanRing$Poly" "WITHOUT" "[J") (ty := .long) (N := 6) (f := fun j => .long (kW j)) (by decide) (hs _ (by decide +kernel)) (va_eqt (hs _ (by decide +kernel))) (fun j hj => va_eqtl (hs _ (st_W j hj))) hA
  obtain ⟨t0, e0, h0⟩ := va_Tof (tm := .static "BooleanRing$Orders" "BY_LEX" "[I") (ty := .int) (N := 64) (f := fun j => .int (kT 0 j)) (by decide) (hs _ (by decide +kernel)) (va_eqt (hs _ (by decide +kernel))) (fun j hj => va_eqt (hs _ (st_0 j hj))) hA
  obtain ⟨t1, e1, h1⟩ := va_Tof (tm := .static "BooleanRing$Orders" "BY_GRADED" "[I") (ty := .int) (N := 64) (f := fun j => .int (kT 1 j)) (by decide) (hs _ (by decide +kernel)) (va_eqt (hs _ (by decide +kernel))) (fun j hj => va_eqt (hs _ (st_1 j hj))) hA
  obtain ⟨t2, e2, h2⟩ := va_Tof (tm := .static "BooleanRing$Orders" "BY_REVERSE" "[I") (ty := .int) (N := 64) (f := fun j => .int (kT 2 j)) (by decide) (hs _ (by decide +kernel)) (va_eqt (hs _ (by decide +kernel))) (fun j hj => va_eqt (hs _ (st_2 j hj))) hA
  have iP := hts (.initialized "BooleanRing$Poly") (List.mem_of_getElem? (i := 34) (by decide +kernel))
  have iO := hts (.initialized "BooleanRing$Orders") (List.mem_of_getElem? (i := 38) (by decide +kernel))
  refine ⟨tw, fun k => match k with | 0 => t0 | 1 => t1 | _ => t2, va_Zof (hts (.laysStatic "BooleanRing$Poly" "WITHOUT" "[J") (List.mem_of_getElem? (i := 181) (by decide +kernel))) iP ew hA, hw, va_Zof (hts (.laysStatic "BooleanRing$Orders" "BY_LEX" "[I") (List.mem_of_getElem? (i := 265) (by decide +kernel))) iO e0 hA, va_Zof (hts (.laysStatic "BooleanRing$Orders" "BY_GRADED" "[I") (List.mem_of_getElem? (i := 267) (by decide +kernel))) iO e1 hA, va_Zof (hts (.laysStatic "BooleanRing$Orders" "BY_REVERSE" "[I") (List.mem_of_getElem? (i := 269) (by decide +kernel))) iO e2 hA, ?_⟩
  intro k
  match k with
  | 0 => exact h0
  | 1 => exact h1
  | k + 2 => exact h2
set_option maxHeartbeats 4000000 in
set_option maxRecDepth 100000 in
/-- from the entry, for every script of at most 2560 ints, the law comes to its end with true -/
theorem whole_start {p : Program} {e : Env} {s : State} {m : MethodId} {below : List Frame} {meth : Method} {c : Code} (l : Launch) (hflags : l.flags = flags0) {b L : Nat} {xs : Nat → Int32} (hL : L ≤ 2560) (C0 : lw_At p s m meth c b L xs) : W p l e room_1 s m #[Value.ref b] below meth c s.heap [] 0 0 (lw_Z below #[Value.ref b] s) (entryFrame m ([Value.ref b] : List Value).toArray 4) := by
  obtain ⟨hx, hb, hr, hml, hown, hts, hX, hbl, hlocks, hgv⟩ := id C0
  have hown : s.vm.findClass RL = some m.cls := hown
  have htl : ∀ w ∈ wsL_law, w.before #[Value.ref b] s = true := fun w h => hts w (wsL_law_in w h)
  obtain ⟨tw, tt, hT⟩ := st_all hgv hts
  have hA : ∀ q : Nat, s.heap.size ≤ q → lA s q := fun _ h => h
  obtain ⟨c0, iS0, hKn0⟩ := u_known (C := RX0) (T := TX0) (N := 2) (n := 2) hts inX0 (hts (.instantiable RX0 2) (List.mem_of_getElem? (i := 65) (by decide +kernel)))
  obtain ⟨c1, iS1, hKn1⟩ := u_known (C := RX1) (T := TX1) (N := 2) (n := 2) hts inX1 (hts (.instantiable RX1 2) (List.mem_of_getElem? (i := 50) (by decide +kernel)))
  obtain ⟨c2, iS2, hKn2⟩ := u_known (C := RX5) (T := TX5) (N := 2) (n := 2) hts inX5 (hts (.instantiable RX5 2) (List.mem_of_getElem? (i := 78) (by decide +kernel)))
  obtain ⟨c3, iS3, hKn3⟩ := u_known (C := RX6) (T := TX6) (N := 6) (n := 6) hts inX6 (hts (.instantiable RX6 6) (List.mem_of_getElem? (i := 42) (by decide +kernel)))
  obtain ⟨c4, iS4, hKn4⟩ := u_known (C := RX7) (T := TX7) (N := 9) (n := 9) hts inX7 (hts (.instantiable RX7 9) (List.mem_of_getElem? (i := 470) (by decide +kernel)))
  obtain ⟨D, hKc⟩ : ∃ D : va_G, ∀ (k : Nat) (q : vw_C), vwCl[k]? = some q → u_Kn s q.1 q.2.1 q.2.2 (D.1 k) (D.2 k) := by
    refine ⟨(fun k => match k with | 0 => c0 | 1 => c1 | 2 => c2 | 3 => c3 | _ => c4, fun k => match k with | 0 => iS0 | 1 => iS1 | 2 => iS2 | 3 => iS3 | _ => iS4), ?_⟩
    intro k q hq
    match k, hq with
    | 0, hq => cases hq; exact hKn0
    | 1, hq => cases hq; exact hKn1
    | 2, hq => cases hq; exact hKn2
    | 3, hq => cases hq; exact hKn3
    | 4, hq => cases hq; exact hKn4
    | k + 5, hq => simp [vwCl] at hq
  have hS : va_S (lA s) s.heap s.heap [] := va_S.rf
  have hK : va_K D vwCl [] s := ⟨hKc, fun k q h => by simp at h⟩
  have hP : va_P D vwCl [] s.heap := fun k q h => by simp at h
  have hD : va_D (lA s) [] := ⟨fun i j p q h => by simp at h, fun k q h => by simp at h⟩
  have hl := lv_entry ([.ref b]) (n := 4) (Nat.le_of_ble_eq_true rfl)
  rw [lg_entry_eq]
  generalize (lg_sl ([.ref b]) ++ List.replicate (4 - (lg_sl ([.ref b])).length) Slot.unset).toArray = ls at hl ⊢
  have hl : lv_has ls 4 [(0, .ref b)] := hl
  refine va_new (ci := 3) (fs := [.null, .null, .null, .null, .null, .int 0]) (C := RX6) (T := TX6) (N := 6) hx hb hts inX6 tyX6 tyX6_ok hown (hts (.classLink RL 7 RX6) (List.mem_of_getElem? (i := 41) (by decide +kernel))) (hts (.instantiable RX6 6) (List.mem_of_getElem? (i := 42) (by decide +kernel))) (hts (.initialized RX6) (List.mem_of_getElem? (i := 28) (by decide +kernel))) hK hP hD hS hA rfl (fun j hj => by rcases (show j = 0 ∨ j = 1 ∨ j = 2 ∨ j = 3 ∨ j = 4 ∨ j = 5 by omega) with rfl | rfl | rfl | rfl | rfl | rfl <;> rfl) (Nat.le_of_ble_eq_true rfl) (Nat.le_of_ble_eq_true rfl) dL_law_0 (fun q0 H hP hD hS => ?_)
  have hP : va_P D vwCl [(q0, .inr (3, [.null, .null, .null, .null, .null, .int 0]))] H := hP
  have hD : va_D (lA s) [(q0, .inr (3, [.null, .null, .null, .null, .null, .int 0]))] := hD
  refine W.widen (k := 1) (n := 6) (Nat.le_of_ble_eq_true rfl) (Nat.le_of_ble_eq_true rfl) ?_
  refine lv_dup hx hb dL_law_3 rfl ?_
  have hFc := va_free (wc := [(q0, .inr (3, [.null, .null, .null, .null, .null, .int 0]))]) hD hS hA [0] rfl
  have n1 := va_Nw.of rfl (hts (.methodLinkNest RX6 19 yX1_init "BooleanRing") (List.mem_of_getElem? (i := 51) (by decide +kernel)))
  have n2 := va_Nw.of rfl (hts (.methodLinkNest RX6 26 yX0_init "BooleanRing") (List.mem_of_getElem? (i := 66) (by decide +kernel)))
  have n3 := va_Nw.of rfl (hts (.methodLinkNest RX6 33 yX5_init "BooleanRing") (List.mem_of_getElem? (i := 79) (by decide +kernel)))
  refine va_callv (va_runI (As := []) (rest := [.ref q0]) ⟨hx, hb, hml, hown, htl⟩ (ct_X6_init l D q0 H.size) (cwI 0 htl gL_law_X6_init rfl rfl rfl (hts (.initialized RX6) (List.mem_of_getElem? (i := 28) (by decide +kernel))) (hts (.methodLink RL 9 yX6_init) (List.mem_of_getElem? (i := 43) (by decide +kernel))) (hts (.instanceMethod yX6_init) (List.mem_of_getElem? (i := 44) (by decide +kernel))) rfl (by decide +kernel) ⟨Nat.le_of_ble_eq_true rfl, Nat.le_of_ble_eq_true rfl⟩) ⟨fun a U g mk q => by obtain ⟨q0, q1, qP, qK, qD, m1, m2, m3⟩ := q; exact ⟨q0, q1, qP, va_K.moved (u := U) (U := U.calling g mk a) (Vm.Alike.refl U.vm) qK, qD, va_Nw.same rfl rfl m1, va_Nw.same rfl rfl m2, va_Nw.same rfl rfl m3⟩, fun U hU hW => ⟨rfl, by rw [hU], by rw [hU]; exact hP, va_K.moved hW.alike hK, hD.weaken (fun _ _ _ _ => trivial), va_Nw.warmM hW n1, va_Nw.warmM hW n2, va_Nw.warmM hW n3⟩⟩ rfl rfl hl.1 rfl (lv_room (Nat.le_of_ble_eq_true rfl)) dL_law_4 ⟨Nat.le_of_ble_eq_true rfl, Nat.le_of_ble_eq_true rfl⟩) hS (fun q _ h => hFc q h) hFc (fun u t H1 locs ht hvm hw hB hz1 hk1 hS => ?_)
  obtain ⟨ux, kx⟩ := u
  obtain ⟨hP1, hK1, hD1⟩ := hB
  rw [ht] at hP1
  have hK1 := va_K.moved hvm.symm hK1
  have hw : ux 0 = q0 := hw
  obtain ⟨hP, hD⟩ := va_join (wr := []) (w1 := [(ux 0, .inr (3, [.ref (ux 1), .ref (ux 2), .ref (ux 3), .ref (ux 5), .ref (ux 7), .int 4])), (ux 1, .inl (kx 0, 8, .inr (.inl (fun _ => 0)))), (ux 2, .inl (kx 1, 8, .inl (fun _ => 0))), (ux 3, .inr (1, [.ref (ux 4), .int 0])), (ux 4, .inl (kx 2, 48, .inr (.inl (fun _ => 0)))), (ux 5, .inr (0, [.ref (ux 6), .int 0])), (ux 6, .inl (kx 3, 504, .inr (.inl (fun _ => 0)))), (ux 7, .inr (2, [.ref (ux 8), .int 0])), (ux 8, .inl (kx 4, 60, .inl (fun _ => 0)))]) hP hD [0] [] rfl rfl (by decide) (by decide) hk1 hFc hP1 hD1
  generalize H1 = H at hP hS ⊢
  have hP : va_P D vwCl [(ux 0, .inr (3, [.ref (ux 1), .ref (ux 2), .ref (ux 3), .ref (ux 5), .ref (ux 7), .int 4])), (ux 1, .inl (kx 0, 8, .inr (.inl (fun _ => 0)))), (ux 2, .inl (kx 1, 8, .inl (fun _ => 0))), (ux 3, .inr (1, [.ref (ux 4), .int 0])), (ux 4, .inl (kx 2, 48, .inr (.inl (fun _ => 0)))), (ux 5, .inr (0, [.ref (ux 6), .int 0])), (ux 6, .inl (kx 3, 504, .inr (.inl (fun _ => 0)))), (ux 7, .inr (2, [.ref (ux 8), .int 0])), (ux 8, .inl (kx 4, 60, .inl (fun _ => 0)))] H := hP
  have hD : va_D (lA s) [(ux 0, .inr (3, [.ref (ux 1), .ref (ux 2), .ref (ux 3), .ref (ux 5), .ref (ux 7), .int 4])), (ux 1, .inl (kx 0, 8, .inr (.inl (fun _ => 0)))), (ux 2, .inl (kx 1, 8, .inl (fun _ => 0))), (ux 3, .inr (1, [.ref (ux 4), .int 0])), (ux 4, .inl (kx 2, 48, .inr (.inl (fun _ => 0)))), (ux 5, .inr (0, [.ref (ux 6), .int 0])), (ux 6, .inl (kx 3, 504, .inr (.inl (fun _ => 0)))), (ux 7, .inr (2, [.ref (ux 8), .int 0])), (ux 8, .inl (kx 4, 60, .inl (fun _ => 0)))] := hD
  have hK : va_K D vwCl [(kx 0, .long), (kx 1, .int), (kx 2, .long), (kx 3, .long), (kx 4, .char)] s := hK1
  refine W.widen (k := 9) (n := 640) (Nat.le_of_ble_eq_true rfl) (Nat.le_of_ble_eq_true rfl) ?_
  refine W.eq (g2 := F0 m 7 ls [.ref (ux 0)]) (by rw [hw]) ?_
  refine lv_astore_n (lv' := [(1, .ref (ux 0)), (0, .ref b)]) hx hb dL_law_7 rfl hl (by decide) rfl (fun ls hl => ?_)
  refine va_new (ci := 4) (fs := [.int 0, .null, .null, .int 0, .null, .int 0, .null, .int 0, .null]) (C := RX7) (T := TX7) (N := 9) hx hb hts inX7 tyX7 tyX7_ok hown (hts (.classLink RL 10 RX7) (List.mem_of_getElem? (i := 469) (by decide +kernel))) (hts (.instantiable RX7 9) (List.mem_of_getElem? (i := 470) (by decide +kernel))) (hts (.initialized RX7) (List.mem_of_getElem? (i := 32) (by decide +kernel))) hK hP hD hS hA rfl (fun j hj => by rcases (show j = 0 ∨ j = 1 ∨ j = 2 ∨ j = 3 ∨ j = 4 ∨ j = 5 ∨ j = 6 ∨ j = 7 ∨ j = 8 by omega) with rfl | rfl | rfl | rfl | rfl | rfl | rfl | rfl | rfl <;> rfl) (Nat.le_of_ble_eq_true rfl) (Nat.le_of_ble_eq_true rfl) dL_law_8 (fun q1 H hP hD hS => ?_)
  have hP : va_P D vwCl ([(ux 0, .inr (3, [.ref (ux 1), .ref (ux 2), .ref (ux 3), .ref (ux 5), .ref (ux 7), .int 4])), (ux 1, .inl (kx 0, 8, .inr (.inl (fun _ => 0)))), (ux 2, .inl (kx 1, 8, .inl (fun _ => 0))), (ux 3, .inr (1, [.ref (ux 4), .int 0])), (ux 4, .inl (kx 2, 48, .inr (.inl (fun _ => 0)))), (ux 5, .inr (0, [.ref (ux 6), .int 0])), (ux 6, .inl (kx 3, 504, .inr (.inl (fun _ => 0)))), (ux 7, .inr (2, [.ref (ux 8), .int 0])), (ux 8, .inl (kx 4, 60, .inl (fun _ => 0)))] ++ [(q1, .inr (4, [.int 0, .null, .null, .int 0, .null, .int 0, .null, .int 0, .null]))]) H := hP
  have hD : va_D (lA s) ([(ux 0, .inr (3, [.ref (ux 1), .ref (ux 2), .ref (ux 3), .ref (ux 5), .ref (ux 7), .int 4])), (ux 1, .inl (kx 0, 8, .inr (.inl (fun _ => 0)))), (ux 2, .inl (kx 1, 8, .inl (fun _ => 0))), (ux 3, .inr (1, [.ref (ux 4), .int 0])), (ux 4, .inl (kx 2, 48, .inr (.inl (fun _ => 0)))), (ux 5, .inr (0, [.ref (ux 6), .int 0])), (ux 6, .inl (kx 3, 504, .inr (.inl (fun _ => 0)))), (ux 7, .inr (2, [.ref (ux 8), .int 0])), (ux 8, .inl (kx 4, 60, .inl (fun _ => 0)))] ++ [(q1, .inr (4, [.int 0, .null, .null, .int 0, .null, .int 0, .null, .int 0, .null]))]) := hD
  refine W.widen (k := 10) (n := 649) (Nat.le_of_ble_eq_true rfl) (Nat.le_of_ble_eq_true rfl) ?_
  refine lv_dup hx hb dL_law_11 rfl ?_
  have hPc := hP.sub (ws' := [(q1, .inr (4, [.int 0, .null, .null, .int 0, .null, .int 0, .null, .int 0, .null]))]) [9] rfl
  have hDc := hD.sub (ws' := [(q1, .inr (4, [.int 0, .null, .null, .int 0, .null, .int 0, .null, .int 0, .null]))]) [9] (by decide) rfl
  have hKc := hK.sub (tys' := []) [] rfl
  have hFc := va_free (wc := [(q1, .inr (4, [.int 0, .null, .null, .int 0, .null, .int 0, .null, .int 0, .null]))]) hD hS hA [9] rfl
  refine va_callv (va_runI (As := []) (rest := [.ref q1]) ⟨hx, hb, hml, hown, htl⟩ (ct_X7_init l D q1 H.size) (cwI 0 htl gL_law_X7_init rfl rfl rfl (hts (.initialized RX7) (List.mem_of_getElem? (i := 32) (by decide +kernel))) (hts (.methodLink RL 12 yX7_init) (List.mem_of_getElem? (i := 471) (by decide +kernel))) (hts (.instanceMethod yX7_init) (List.mem_of_getElem? (i := 472) (by decide +kernel))) rfl (by decide +kernel) ⟨Nat.le_of_ble_eq_true rfl, Nat.le_of_ble_eq_true rfl⟩) ⟨fun a U g mk q => by obtain ⟨q0, q1, qP, qK, qD⟩ := q; exact ⟨q0, q1, qP, va_K.moved (u := U) (U := U.calling g mk a) (Vm.Alike.refl U.vm) qK, qD⟩, fun U hU hW => ⟨rfl, by rw [hU], by rw [hU]; exact hPc, va_K.moved hW.alike hKc, hDc.weaken (fun _ _ _ _ => trivial)⟩⟩ rfl rfl hl.1 rfl (lv_room (Nat.le_of_ble_eq_true rfl)) dL_law_12 ⟨Nat.le_of_ble_eq_true rfl, Nat.le_of_ble_eq_true rfl⟩) hS (fun q _ h => hFc q h) hFc (fun u t H1 locs ht hvm hw2 hB hz1 hk1 hS => ?_)
  obtain ⟨uy, ky⟩ := u
  obtain ⟨hP1, hK1, hD1⟩ := hB
  rw [ht] at hP1
  have hK1 := va_K.moved hvm.symm hK1
  have hw2 : uy 0 = q1 := hw2
  obtain ⟨hP, hD⟩ := va_join (wr := [(ux 0, .inr (3, [.ref (ux 1), .ref (ux 2), .ref (ux 3), .ref (ux 5), .ref (ux 7), .int 4])), (ux 1, .inl (kx 0, 8, .inr (.inl (fun _ => 0)))), (ux 2, .inl (kx 1, 8, .inl (fun _ => 0))), (ux 3, .inr (1, [.ref (ux 4), .int 0])), (ux 4, .inl (kx 2, 48, .inr (.inl (fun _ => 0)))), (ux 5, .inr (0, [.ref (ux 6), .int 0])), (ux 6, .inl (kx 3, 504, .inr (.inl (fun _ => 0)))), (ux 7, .inr (2, [.ref (ux 8), .int 0])), (ux 8, .inl (kx 4, 60, .inl (fun _ => 0)))]) (w1 := [(uy 0, .inr (4, [.int 4, .ref (uy 1), .ref (uy 2), .int 0, .ref (uy 3), .int 0, .ref (uy 4), .int 0, .ref (uy 5)])), (uy 1, .inl (ky 0, 8, .inr (.inl (fun _ => 0)))), (uy 2, .inl (ky 1, 48, .inr (.inl (fun _ => 0)))), (uy 3, .inl (ky 2, 60, .inl (fun _ => 0))), (uy 4, .inl (ky 3, 1024, .inr (.inl (fun _ => 0)))), (uy 5, .inl (ky 4, 8, .inr (.inl (fun _ => 0))))]) hP hD [9] [0, 1, 2, 3, 4, 5, 6, 7, 8] rfl rfl (by decide) (by decide) hk1 hFc hP1 hD1
  have hK := hK.app hK1
  generalize H1 = H at hP hS ⊢
  have hP : va_P D vwCl ([(ux 0, .inr (3, [.ref (ux 1), .ref (ux 2), .ref (ux 3), .ref (ux 5), .ref (ux 7), .int 4])), (ux 1, .inl (kx 0, 8, .inr (.inl (fun _ => 0)))), (ux 2, .inl (kx 1, 8, .inl (fun _ => 0))), (ux 3, .inr (1, [.ref (ux 4), .int 0])), (ux 4, .inl (kx 2, 48, .inr (.inl (fun _ => 0)))), (ux 5, .inr (0, [.ref (ux 6), .int 0])), (ux 6, .inl (kx 3, 504, .inr (.inl (fun _ => 0)))), (ux 7, .inr (2, [.ref (ux 8), .int 0])), (ux 8, .inl (kx 4, 60, .inl (fun _ => 0)))] ++ [(uy 0, .inr (4, [.int 4, .ref (uy 1), .ref (uy 2), .int 0, .ref (uy 3), .int 0, .ref (uy 4), .int 0, .ref (uy 5)])), (uy 1, .inl (ky 0, 8, .inr (.inl (fun _ => 0)))), (uy 2, .inl (ky 1, 48, .inr (.inl (fun _ => 0)))), (uy 3, .inl (ky 2, 60, .inl (fun _ => 0))), (uy 4, .inl (ky 3, 1024, .inr (.inl (fun _ => 0)))), (uy 5, .inl (ky 4, 8, .inr (.inl (fun _ => 0))))]) H := hP
  have hD : va_D (lA s) ([(ux 0, .inr (3, [.ref (ux 1), .ref (ux 2), .ref (ux 3), .ref (ux 5), .ref (ux 7), .int 4])), (ux 1, .inl (kx 0, 8, .inr (.inl (fun _ => 0)))), (ux 2, .inl (kx 1, 8, .inl (fun _ => 0))), (ux 3, .inr (1, [.ref (ux 4), .int 0])), (ux 4, .inl (kx 2, 48, .inr (.inl (fun _ => 0)))), (ux 5, .inr (0, [.ref (ux 6), .int 0])), (ux 6, .inl (kx 3, 504, .inr (.inl (fun _ => 0)))), (ux 7, .inr (2, [.ref (ux 8), .int 0])), (ux 8, .inl (kx 4, 60, .inl (fun _ => 0)))] ++ [(uy 0, .inr (4, [.int 4, .ref (uy 1), .ref (uy 2), .int 0, .ref (uy 3), .int 0, .ref (uy 4), .int 0, .ref (uy 5)])), (uy 1, .inl (ky 0, 8, .inr (.inl (fun _ => 0)))), (uy 2, .inl (ky 1, 48, .inr (.inl (fun _ => 0)))), (uy 3, .inl (ky 2, 60, .inl (fun _ => 0))), (uy 4, .inl (ky 3, 1024, .inr (.inl (fun _ => 0)))), (uy 5, .inl (ky 4, 8, .inr (.inl (fun _ => 0))))]) := hD
  have hK : va_K D vwCl ([(kx 0, .long), (kx 1, .int), (kx 2, .long), (kx 3, .long), (kx 4, .char)] ++ [(ky 0, .long), (ky 1, .long), (ky 2, .char), (ky 3, .long), (ky 4, .long)]) s := hK
  refine W.widen (k := 15) (n := 1797) (Nat.le_of_ble_eq_true rfl) (Nat.le_of_ble_eq_true rfl) ?_
  refine W.eq (g2 := F0 m 15 ls [.ref (uy 0)]) (by rw [hw2]) ?_
  refine lv_astore_n (lv' := [(2, .ref (uy 0)), (1, .ref (ux 0)), (0, .ref b)]) hx hb dL_law_15 rfl hl (by decide) rfl (fun ls hl => ?_)
  refine lv_iconst (v := 0) hx hb dL_law_16 (by decide) ?_
  refine lv_istore_n (lv' := [(3, .int 0), (2, .ref (uy 0)), (1, .ref (ux 0)), (0, .ref b)]) hx hb dL_law_17 rfl hl (by decide) rfl (fun ls hl => ?_)
  have e2 : kx 2 = kx 0 := Option.some.inj ((hK.2 2 _ rfl).2.symm.trans (hK.2 0 _ rfl).2)
  have e3 : kx 3 = kx 0 := Option.some.inj ((hK.2 3 _ rfl).2.symm.trans (hK.2 0 _ rfl).2)
  have e5 : ky 0 = kx 0 := Option.some.inj ((hK.2 5 _ rfl).2.symm.trans (hK.2 0 _ rfl).2)
  have e6 : ky 1 = kx 0 := Option.some.inj ((hK.2 6 _ rfl).2.symm.trans (hK.2 0 _ rfl).2)
  have e7 : ky 2 = kx 4 := Option.some.inj ((hK.2 7 _ rfl).2.symm.trans (hK.2 4 _ rfl).2)
  have e8 : ky 3 = kx 0 := Option.some.inj ((hK.2 8 _ rfl).2.symm.trans (hK.2 0 _ rfl).2)
  have e9 : ky 4 = kx 0 := Option.some.inj ((hK.2 9 _ rfl).2.symm.trans (hK.2 0 _ rfl).2)
  have hK3 : va_K D vwCl (tys3 (ca3 kx)) s := hK.sub [0, 1, 4] rfl
  rw [e2, e3, e5, e6, e7, e8, e9] at hP
  have hPx := hP.sub (ws' := XW (ca3 kx) ux x_0) [0, 1, 2, 3, 4, 5, 6, 7, 8] rfl
  have hPy := hP.sub (ws' := YW (ca3 kx) uy y_0) [9, 10, 11, 12, 13, 14] rfl
  have ax : ∀ i, i < 9 → ∃ e, ([(ux 0, .inr (3, [.ref (ux 1), .ref (ux 2), .ref (ux 3), .ref (ux 5), .ref (ux 7), .int 4])), (ux 1, .inl (kx 0, 8, .inr (.inl (fun _ => 0)))), (ux 2, .inl (kx 1, 8, .inl (fun _ => 0))), (ux 3, .inr (1, [.ref (ux 4), .int 0])), (ux 4, .inl (kx 2, 48, .inr (.inl (fun _ => 0)))), (ux 5, .inr (0, [.ref (ux 6), .int 0])), (ux 6, .inl (kx 3, 504, .inr (.inl (fun _ => 0)))), (ux 7, .inr (2, [.ref (ux 8), .int 0])), (ux 8, .inl (kx 4, 60, .inl (fun _ => 0)))] ++ [(uy 0, .inr (4, [.int 4, .ref (uy 1), .ref (uy 2), .int 0, .ref (uy 3), .int 0, .ref (uy 4), .int 0, .ref (uy 5)])), (uy 1, .inl (ky 0, 8, .inr (.inl (fun _ => 0)))), (uy 2, .inl (ky 1, 48, .inr (.inl (fun _ => 0)))), (uy 3, .inl (ky 2, 60, .inl (fun _ => 0))), (uy 4, .inl (ky 3, 1024, .inr (.inl (fun _ => 0)))), (uy 5, .inl (ky 4, 8, .inr (.inl (fun _ => 0))))] : va_W)[i]? = some (ux i, e) := fun i hi => by
    match i, hi with
    | 0, _ => exact ⟨_, rfl⟩
    | 1, _ => exact ⟨_, rfl⟩
    | 2, _ => exact ⟨_, rfl⟩
    | 3, _ => exact ⟨_, rfl⟩
    | 4, _ => exact ⟨_, rfl⟩
    | 5, _ => exact ⟨_, rfl⟩
    | 6, _ => exact ⟨_, rfl⟩
    | 7, _ => exact ⟨_, rfl⟩
    | 8, _ => exact ⟨_, rfl⟩
    | i + 9, hi => omega
  have ay : ∀ i, i < 6 → ∃ e, ([(ux 0, .inr (3, [.ref (ux 1), .ref (ux 2), .ref (ux 3), .ref (ux 5), .ref (ux 7), .int 4])), (ux 1, .inl (kx 0, 8, .inr (.inl (fun _ => 0)))), (ux 2, .inl (kx 1, 8, .inl (fun _ => 0))), (ux 3, .inr (1, [.ref (ux 4), .int 0])), (ux 4, .inl (kx 2, 48, .inr (.inl (fun _ => 0)))), (ux 5, .inr (0, [.ref (ux 6), .int 0])), (ux 6, .inl (kx 3, 504, .inr (.inl (fun _ => 0)))), (ux 7, .inr (2, [.ref (ux 8), .int 0])), (ux 8, .inl (kx 4, 60, .inl (fun _ => 0)))] ++ [(uy 0, .inr (4, [.int 4, .ref (uy 1), .ref (uy 2), .int 0, .ref (uy 3), .int 0, .ref (uy 4), .int 0, .ref (uy 5)])), (uy 1, .inl (ky 0, 8, .inr (.inl (fun _ => 0)))), (uy 2, .inl (ky 1, 48, .inr (.inl (fun _ => 0)))), (uy 3, .inl (ky 2, 60, .inl (fun _ => 0))), (uy 4, .inl (ky 3, 1024, .inr (.inl (fun _ => 0)))), (uy 5, .inl (ky 4, 8, .inr (.inl (fun _ => 0))))] : va_W)[9 + i]? = some (uy i, e) := fun i hi => by
    match i, hi with
    | 0, _ => exact ⟨_, rfl⟩
    | 1, _ => exact ⟨_, rfl⟩
    | 2, _ => exact ⟨_, rfl⟩
    | 3, _ => exact ⟨_, rfl⟩
    | 4, _ => exact ⟨_, rfl⟩
    | 5, _ => exact ⟨_, rfl⟩
    | i + 6, hi => omega
  have had : adr s ux uy := by
    refine ⟨fun i j hi hj h => ?_, fun i j hi hj h => ?_, fun i j hi hj h => ?_, fun i hi => ?_, fun i hi => ?_⟩
    · obtain ⟨e1, h1⟩ := ax i hi
      obtain ⟨e2, h2⟩ := ax j hj
      exact hD.1 i j _ _ h1 h2 h
    · obtain ⟨e1, h1⟩ := ay i hi
      obtain ⟨e2, h2⟩ := ay j hj
      have := hD.1 (9 + i) (9 + j) _ _ h1 h2 h
      omega
    · obtain ⟨e1, h1⟩ := ax i hi
      obtain ⟨e2, h2⟩ := ay j hj
      have := hD.1 i (9 + j) _ _ h1 h2 h
      omega
    · obtain ⟨e1, h1⟩ := ax i hi
      exact hD.2 i _ h1
    · obtain ⟨e1, h1⟩ := ay i hi
      exact hD.2 (9 + i) _ h1
  exact wl_loop (D := D) (ca := ca3 kx) (tw := tw) (tt := tt) (L := L) (xs := xs) ⟨hx, hb, hr, hml, hown, htl, hX, hbl, hlocks, hK3, hT, had⟩ 600 x_0 y_0 H locs 0 ls ⟨hPx, hPy, hS⟩ (lv_sub hl [3, 2, 1, 0] rfl) (law_pure L xs hL)
-- ===== YOUR PART ENDS =====
set_option maxHeartbeats 4000000 in
theorem lw_walk (l : Launch) (hflags : l.flags = flags0) (b : Addr) (xs : List Int32) : MetFree l x (headSpec (Jvm.Cond.code x code maxLocals ret :: tables_1) room_1) (lw_P b xs) (fun _ _ _ _ _ => True) lw_Q := by
  refine MetFree.of_bodyS (code := code) (maxLocals := maxLocals) (ret := ret) (by decide) ?_ ?_
  · intro args s m h hn
    obtain ⟨meth, c, h1, h2, h3, h4, h5, h6, -, -⟩ := Cond.code_spec hn (atoms_spec (ws := Jvm.Cond.code x code maxLocals ret :: tables_1) h _ List.mem_cons_self)
    exact ⟨meth, c, h1, h2, h3, h4, h5, h6⟩
  · intro p e s m args below meth c s₁ B hml0 hP _
    obtain ⟨rfl, hx, hbd, hgv⟩ := hP
    obtain ⟨scr, harrAt, hlist, hof, hsmall⟩ := hx
    obtain ⟨hcb, hkn, -, -⟩ := State.arrayAt?_spec harrAt
    have hown : s.vm.findClass R_law = some m.cls := findClass_of_methodNamed B.named
    have hts0 : ∀ c ∈ (Jvm.Cond.code x code maxLocals ret :: tables_1), c.before #[Value.ref b] s = true := atoms_spec (ws := Jvm.Cond.code x code maxLocals ret :: tables_1) B.pre
    have hts : ∀ w ∈ lw_tbl, w.before #[Value.ref b] s = true := k2_hts_sels lw_privs (fun w hw => hts0 w (List.mem_cons_of_mem _ hw)) lw_privs_ok
    have hml : c.maxLocals = 4 := B.maxLocals_eq (hts0 _ List.mem_cons_self)
    have X₀ : Stand p l e room_1 s m #[Value.ref b] below meth c s₁ [] 0 0 := Stand.of_body B
    have hh0 : s₁.heap = s.heap := by rw [B.state]; rfl
    have hsz : scr.slots.size = xs.length := by rw [← Array.length_toList, hlist, List.length_map]
    have hval : ∀ j : Nat, j < xs.length → scr.slots[j]? = some (.int (xs.getD j 0)) := fun j hj => by
      rw [← Array.getElem?_toList, hlist]
      simp [hj]
    have hbl : b < s.heap.size := (Array.getElem?_eq_some_iff.mp hcb).1
    have hX : va_X b xs.length (fun j => xs.getD j 0) s s.heap := ⟨scr, hcb, hof, hkn, hsz, hval⟩
    have K : W p l e room_1 s m #[Value.ref b] below meth c s₁.heap [] 0 0 (lw_Z below #[Value.ref b] s) (entryFrame m ([Value.ref b] : List Value).toArray 4) := by
      rw [hh0]
      exact whole_start l hflags hbd ⟨B.exec, B.bytes, B.returns, hml, hown, hts, hX, hbl, B.notSynchronized, hgv⟩
    obtain ⟨t, a1, o, b1, b2, b3⟩ := K s₁ rfl X₀
    exact ⟨t, o, a1, b1, b2, b3⟩
theorem lw_pre_spec {args : Array Value} {s : State} (h : (Jvm.Cond.and given_1 narrow_1).before args s = true) (hr : rest_1_c.before args s = true) : ∃ (b : Addr) (xs : List Int32), lw_P b xs args s := by
  have hs := flat_of_before _ h
  have hq := flat_of_before _ hr
  have hc : (Cond.count 1).before args s = true := hs _ (by decide +kernel)
  have harr : (Cond.arrayOf (.arg 0) .int).before args s = true := hs _ (by decide +kernel)
  have hle : (Cond.le (.length (.arg 0)) (.int 2560)).before args s = true := hs _ (by decide +kernel)
  have hlen : (Cond.isInt (.length (.arg 0))).before args s = true := hq _ (by decide +kernel)
  have hall : (Cond.all (.arg 0) (.isInt (.elem (.arg 0) (.index 0)))).before args s = true := hq _ (by decide +kernel)
  obtain ⟨b, xs, hb, hx⟩ := State.ints_of_pre rfl harr hlen hall
  have hsm : xs.length < 2 ^ 31 := hx.choose_spec.2.2.2
  have hev : (Term.length (.arg 0)).eval args s none [] s = some (.int xs.length.toInt32) := hx.length_eval hb
  have hv := Cond.le_ints hev (show (Term.int 2560).eval args s none [] s = some (.int 2560) from rfl)
  have hd : xs.length.toInt32 ≤ 2560 := by
    simpa [Cond.before, Cond.holds, hv] using hle
  have hN : xs.length ≤ 2560 := (Int32.ofNat_le_ofNat hsm (by decide)).mp (show Int32.ofNat xs.length ≤ Int32.ofNat 2560 from hd)
  exact ⟨b, xs, Cond.one_arg hc (show args[0]? = some (.ref b) from hb), hx, hN, h⟩
theorem lw_comes (l : Launch) (hflags : l.flags = flags0) : Comes l x (Jvm.Cond.code x code maxLocals ret :: tables_1) room_1 (fun tb e args s => Calls_1 tb e args s ∧ rest_1 tb e args s ∧ Pre_1 tb e args s)
    (fun _ _ args s o t => lw_Q args s o t) := by
  intro p e ha hc hk s m args below hf hfit hheap happ hpre
  obtain ⟨b, xs, hP⟩ := lw_pre_spec hpre.2.2 hpre.2.1
  obtain ⟨k, o, h1, h2, h3, hQ⟩ := lw_walk l hflags b xs p e ha hc hk s m args below hf ((Spec.applies_iff_loose hf).mp happ).1 hP trivial
  exact ⟨k, o, h1, h2, h3, hQ⟩
theorem lw_frame {s t : State} {o : Outcome} {args : Array Value} (h : Framed s o t [] 15 1797) :
    Framed s o t (fieldLocs frame_1_writes args s ++ arrayLocs frame_1_arrays args s ++ staticLocs frame_1_statics s) 15 1797 := h
theorem lw_limb (L : Cond) (hL : ∀ (args : Array Value) (s t : State), L.after args s (.returned (some (.int 1))) t = true) :
    ArmFor flags0 classFile x code maxLocals ret World_1 tables_1 room_1 Calls_1 rest_1 Pre_1
      (fun tb e a s o t => postC L tb e a s o t ∧ Framed s o t (fieldLocs frame_1_writes a s ++ arrayLocs frame_1_arrays a s ++ staticLocs frame_1_statics s) 15 1797) := by
  intro l hflags _ _ p e ha hc hk s m args below hf hfit hheap happ hpre
  obtain ⟨k, o, h1, h2, h3, rfl, hF⟩ := lw_comes l hflags p e ha hc hk s m args below hf hfit hheap happ hpre
  exact ⟨k, _, h1, h2, h3, hL args s _, lw_frame hF⟩
theorem i_vc : Claimed_1_1 ∧ Claimed_1_2 := ⟨lw_limb limb_1_1 (fun args s t => by simp [limb_1_1, Cond.after, Cond.holds, Cond.value]), lw_limb limb_1_2 (fun args s t => Cond.after_iff.mpr (by
  first | (rw [show limb_1_2 = Cond.eq .result (.int 1) from rfl, Cond.eq_ints (x := 1) (y := 1) rfl rfl]; simp; done) | (simp [limb_1_2, Cond.value, Term.eval]; done)))⟩
