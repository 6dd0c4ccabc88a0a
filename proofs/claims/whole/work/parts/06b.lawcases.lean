/-! by program (lawgen.py): the law's cases -/
set_option maxHeartbeats 4000000 in
set_option maxRecDepth 100000 in
theorem wl_next {p : Program} {l : Launch} {e : Env} {s : State} {m : MethodId} {below : List Frame} {meth : Method} {c : Code} {D : va_G} {ca : Nat → ClassId} {a b : Nat → Nat} {tw : Nat} {tt : Nat → Nat} {scr L : Nat} {xs : Nat → Int32} (C0 : LC p s m meth c D ca a b tw tt scr L xs) (k18 : XS → YS → Int32 → Option Int32) (hk18 : ∀ (v : XS) (w : YS) (H : Heap) (locs : List Loc) (x3 : Int32) (ls : Array Slot), LG s D ca a b v w H locs → lv_has ls 4 [(0, .ref scr), (1, .ref (a 0)), (2, .ref (b 0)), (3, .int x3)] → k18 v w x3 = some 1 → W p l e room_1 s m #[Value.ref scr] below meth c H locs 15 1797 (lw_Z below #[Value.ref scr] s) (F0 m 18 ls [])) (v : XS) (w : YS) (H : Heap) (locs : List Loc) (x3 : Int32) (ls : Array Slot) (hG : LG s D ca a b v w H locs) (hl : lv_has ls 4 [(0, .ref scr), (1, .ref (a 0)), (2, .ref (b 0)), (3, .int x3)]) (h : k18 v w (x3 + 5) = some 1) : W p l e room_1 s m #[Value.ref scr] below meth c H locs 15 1797 (lw_Z below #[Value.ref scr] s) (F0 m 1394 ls []) := by
  obtain ⟨hx, hb, hr, hml, hown, hts, hX, hbl, hlocks, hK, hT, hd⟩ := id C0
  refine lv_iinc (v := (x3 + 5)) (lv' := [(3, .int (x3 + 5)), (0, .ref scr), (1, .ref (a 0)), (2, .ref (b 0))]) hx hb dL_law_1394 hl (k := 3) rfl rfl (by decide) rfl (fun ls hl => ?_)
  refine lv_goto (tgt := 18) hx hb dL_law_1397 (by decide) ?_
  exact hk18 v w H locs (x3 + 5) ls hG (lv_sub hl [1, 2, 3, 0] rfl) h
set_option maxHeartbeats 4000000 in
set_option maxRecDepth 100000 in
theorem wl_0 {p : Program} {l : Launch} {e : Env} {s : State} {m : MethodId} {below : List Frame} {meth : Method} {c : Code} {D : va_G} {ca : Nat → ClassId} {a b : Nat → Nat} {tw : Nat} {tt : Nat → Nat} {scr L : Nat} {xs : Nat → Int32} (C0 : LC p s m meth c D ca a b tw tt scr L xs) (k18 : XS → YS → Int32 → Option Int32) (hk18 : ∀ (v : XS) (w : YS) (H : Heap) (locs : List Loc) (x3 : Int32) (ls : Array Slot), LG s D ca a b v w H locs → lv_has ls 4 [(0, .ref scr), (1, .ref (a 0)), (2, .ref (b 0)), (3, .int x3)] → k18 v w x3 = some 1 → W p l e room_1 s m #[Value.ref scr] below meth c H locs 15 1797 (lw_Z below #[Value.ref scr] s) (F0 m 18 ls [])) (v : XS) (w : YS) (H : Heap) (locs : List Loc) (x3 : Int32) (ls : Array Slot) (hG : LG s D ca a b v w H locs) (hl : lv_has ls 4 [(0, .ref scr), (1, .ref (a 0)), (2, .ref (b 0)), (3, .int x3)]) (h : fl_0 k18 L xs v w x3 = some 1) : W p l e room_1 s m #[Value.ref scr] below meth c H locs 15 1797 (lw_Z below #[Value.ref scr] s) (F0 m 200 ls []) := by
  obtain ⟨hx, hb, hr, hml, hown, hts, hX, hbl, hlocks, hK, hT, hd⟩ := id C0
  unfold fl_0 at h
  refine lv_aload_n hx hb dL_law_200 rfl (lv_at hl 1 rfl) ?_
  refine lv_aload_n hx hb dL_law_201 rfl (lv_at hl 0 rfl) ?_
  refine lv_iload_n hx hb dL_law_202 rfl (lv_at hl 3 rfl) ?_
  refine lv_iconst (v := 1) hx hb dL_law_203 (by decide) ?_
  refine lv_iadd hx hb dL_law_204 ?_
  obtain ⟨q205, e205, h⟩ := Option.bind_eq_some_iff.mp h
  refine rd_sld C0 hG e205 dL_law_205 ?_
  obtain ⟨q206, e206, h⟩ := Option.bind_eq_some_iff.mp h
  refine lxM (As := [.int q205]) (rest := []) C0 (ct_X6_reset l D ca a tw tt hd.1 v q205 e206) (cwV 1 hts gL_law_X6_reset rfl rfl rfl (by decide +kernel) ⟨Nat.le_of_ble_eq_true rfl, Nat.le_of_ble_eq_true rfl⟩) hG rfl hl.1 rfl (Nat.le_of_ble_eq_true rfl) dL_law_206 (fun H locs hG => ?_)
  refine W.eq (g2 := F0 m 209 ls [.int q206.1]) rfl ?_
  refine lv_aload_n hx hb dL_law_209 rfl (lv_at hl 2 rfl) ?_
  refine lv_aload_n hx hb dL_law_210 rfl (lv_at hl 0 rfl) ?_
  refine lv_iload_n hx hb dL_law_211 rfl (lv_at hl 3 rfl) ?_
  refine lv_iconst (v := 1) hx hb dL_law_212 (by decide) ?_
  refine lv_iadd hx hb dL_law_213 ?_
  obtain ⟨q214, e214, h⟩ := Option.bind_eq_some_iff.mp h
  refine rd_sld C0 hG e214 dL_law_214 ?_
  obtain ⟨q215, e215, h⟩ := Option.bind_eq_some_iff.mp h
  refine lyM (As := [.int q214]) (rest := [.int q206.1]) C0 (ct_X7_reset l D ca b tw tt hd.2.1 w q214 e215) (cwV 1 hts gL_law_X7_reset rfl rfl rfl (by decide +kernel) ⟨Nat.le_of_ble_eq_true rfl, Nat.le_of_ble_eq_true rfl⟩) hG rfl hl.1 rfl (Nat.le_of_ble_eq_true rfl) dL_law_215 (fun H locs hG => ?_)
  refine W.eq (g2 := F0 m 218 ls [.int q215.1, .int q206.1]) rfl ?_
  refine lv_icmp_eq (tgt := 1394) hx hb dL_law_218 (by decide) (fun c0 => ?_) (fun c0 => ?_)
  · replace h := ite_t h c0
    exact wl_next C0 k18 hk18 q206.2 q215.2 H locs x3 ls hG hl h
  · replace h := ite_f h c0
    exact absurd (Option.some.inj h) (by decide)
set_option maxHeartbeats 4000000 in
set_option maxRecDepth 100000 in
theorem wl_1 {p : Program} {l : Launch} {e : Env} {s : State} {m : MethodId} {below : List Frame} {meth : Method} {c : Code} {D : va_G} {ca : Nat → ClassId} {a b : Nat → Nat} {tw : Nat} {tt : Nat → Nat} {scr L : Nat} {xs : Nat → Int32} (C0 : LC p s m meth c D ca a b tw tt scr L xs) (k18 : XS → YS → Int32 → Option Int32) (hk18 : ∀ (v : XS) (w : YS) (H : Heap) (locs : List Loc) (x3 : Int32) (ls : Array Slot), LG s D ca a b v w H locs → lv_has ls 4 [(0, .ref scr), (1, .ref (a 0)), (2, .ref (b 0)), (3, .int x3)] → k18 v w x3 = some 1 → W p l e room_1 s m #[Value.ref scr] below meth c H locs 15 1797 (lw_Z below #[Value.ref scr] s) (F0 m 18 ls [])) (v : XS) (w : YS) (H : Heap) (locs : List Loc) (x3 : Int32) (ls : Array Slot) (hG : LG s D ca a b v w H locs) (hl : lv_has ls 4 [(0, .ref scr), (1, .ref (a 0)), (2, .ref (b 0)), (3, .int x3)]) (h : fl_1 k18 L xs v w x3 = some 1) : W p l e room_1 s m #[Value.ref scr] below meth c H locs 15 1797 (lw_Z below #[Value.ref scr] s) (F0 m 223 ls []) := by
  obtain ⟨hx, hb, hr, hml, hown, hts, hX, hbl, hlocks, hK, hT, hd⟩ := id C0
  unfold fl_1 at h
  refine lv_aload_n hx hb dL_law_223 rfl (lv_at hl 1 rfl) ?_
  obtain ⟨q224, e224, h⟩ := Option.bind_eq_some_iff.mp h
  refine lxH (As := []) (rest := []) C0 (ct_X6_variables l D ca a tw tt v  e224) (cwV 0 hts gL_law_X6_variables rfl rfl rfl (by decide +kernel) ⟨Nat.le_of_ble_eq_true rfl, Nat.le_of_ble_eq_true rfl⟩) hG rfl hl.1 rfl (Nat.le_of_ble_eq_true rfl) dL_law_224 ?_
  refine W.eq (g2 := F0 m 227 ls [.int q224]) rfl ?_
  refine lv_aload_n hx hb dL_law_227 rfl (lv_at hl 2 rfl) ?_
  obtain ⟨q228, e228, h⟩ := Option.bind_eq_some_iff.mp h
  refine lyH (As := []) (rest := [.int q224]) C0 (ct_X7_variables l D ca b tw tt w  e228) (cwV 0 hts gL_law_X7_variables rfl rfl rfl (by decide +kernel) ⟨Nat.le_of_ble_eq_true rfl, Nat.le_of_ble_eq_true rfl⟩) hG rfl hl.1 rfl (Nat.le_of_ble_eq_true rfl) dL_law_228 ?_
  refine W.eq (g2 := F0 m 231 ls [.int q228, .int q224]) rfl ?_
  refine lv_icmp_eq (tgt := 1394) hx hb dL_law_231 (by decide) (fun c0 => ?_) (fun c0 => ?_)
  · replace h := ite_t h c0
    exact wl_next C0 k18 hk18 v w H locs x3 ls hG hl h
  · replace h := ite_f h c0
    exact absurd (Option.some.inj h) (by decide)
set_option maxHeartbeats 4000000 in
set_option maxRecDepth 100000 in
theorem wl_2 {p : Program} {l : Launch} {e : Env} {s : State} {m : MethodId} {below : List Frame} {meth : Method} {c : Code} {D : va_G} {ca : Nat → ClassId} {a b : Nat → Nat} {tw : Nat} {tt : Nat → Nat} {scr L : Nat} {xs : Nat → Int32} (C0 : LC p s m meth c D ca a b tw tt scr L xs) (k18 : XS → YS → Int32 → Option Int32) (hk18 : ∀ (v : XS) (w : YS) (H : Heap) (locs : List Loc) (x3 : Int32) (ls : Array Slot), LG s D ca a b v w H locs → lv_has ls 4 [(0, .ref scr), (1, .ref (a 0)), (2, .ref (b 0)), (3, .int x3)] → k18 v w x3 = some 1 → W p l e room_1 s m #[Value.ref scr] below meth c H locs 15 1797 (lw_Z below #[Value.ref scr] s) (F0 m 18 ls [])) (v : XS) (w : YS) (H : Heap) (locs : List Loc) (x3 : Int32) (ls : Array Slot) (hG : LG s D ca a b v w H locs) (hl : lv_has ls 4 [(0, .ref scr), (1, .ref (a 0)), (2, .ref (b 0)), (3, .int x3)]) (h : fl_2 k18 L xs v w x3 = some 1) : W p l e room_1 s m #[Value.ref scr] below meth c H locs 15 1797 (lw_Z below #[Value.ref scr] s) (F0 m 236 ls []) := by
  obtain ⟨hx, hb, hr, hml, hown, hts, hX, hbl, hlocks, hK, hT, hd⟩ := id C0
  unfold fl_2 at h
  refine lv_aload_n hx hb dL_law_236 rfl (lv_at hl 1 rfl) ?_
  refine lv_aload_n hx hb dL_law_237 rfl (lv_at hl 0 rfl) ?_
  refine lv_iload_n hx hb dL_law_238 rfl (lv_at hl 3 rfl) ?_
  refine lv_iconst (v := 1) hx hb dL_law_239 (by decide) ?_
  refine lv_iadd hx hb dL_law_240 ?_
  obtain ⟨q241, e241, h⟩ := Option.bind_eq_some_iff.mp h
  refine rd_sld C0 hG e241 dL_law_241 ?_
  refine lv_aload_n hx hb dL_law_242 rfl (lv_at hl 0 rfl) ?_
  refine lv_iload_n hx hb dL_law_243 rfl (lv_at hl 3 rfl) ?_
  refine lv_iconst (v := 2) hx hb dL_law_244 (by decide) ?_
  refine lv_iadd hx hb dL_law_245 ?_
  obtain ⟨q246, e246, h⟩ := Option.bind_eq_some_iff.mp h
  refine rd_sld C0 hG e246 dL_law_246 ?_
  obtain ⟨q247, e247, h⟩ := Option.bind_eq_some_iff.mp h
  refine lxM (As := [.int q241, .int q246]) (rest := []) C0 (ct_X6_toggle l D ca a tw tt hd.1 v q241 q246 e247) (cwV 2 hts gL_law_X6_toggle rfl rfl rfl (by decide +kernel) ⟨Nat.le_of_ble_eq_true rfl, Nat.le_of_ble_eq_true rfl⟩) hG rfl hl.1 rfl (Nat.le_of_ble_eq_true rfl) dL_law_247 (fun H locs hG => ?_)
  refine W.eq (g2 := F0 m 250 ls [.int q247.1]) rfl ?_
  refine lv_aload_n hx hb dL_law_250 rfl (lv_at hl 2 rfl) ?_
  refine lv_aload_n hx hb dL_law_251 rfl (lv_at hl 0 rfl) ?_
  refine lv_iload_n hx hb dL_law_252 rfl (lv_at hl 3 rfl) ?_
  refine lv_iconst (v := 1) hx hb dL_law_253 (by decide) ?_
  refine lv_iadd hx hb dL_law_254 ?_
  obtain ⟨q255, e255, h⟩ := Option.bind_eq_some_iff.mp h
  refine rd_sld C0 hG e255 dL_law_255 ?_
  refine lv_aload_n hx hb dL_law_256 rfl (lv_at hl 0 rfl) ?_
  refine lv_iload_n hx hb dL_law_257 rfl (lv_at hl 3 rfl) ?_
  refine lv_iconst (v := 2) hx hb dL_law_258 (by decide) ?_
  refine lv_iadd hx hb dL_law_259 ?_
  obtain ⟨q260, e260, h⟩ := Option.bind_eq_some_iff.mp h
  refine rd_sld C0 hG e260 dL_law_260 ?_
  obtain ⟨q261, e261, h⟩ := Option.bind_eq_some_iff.mp h
  refine lyM (As := [.int q255, .int q260]) (rest := [.int q247.1]) C0 (ct_X7_toggle l D ca b tw tt hd.2.1 w q255 q260 e261) (cwV 2 hts gL_law_X7_toggle rfl rfl rfl (by decide +kernel) ⟨Nat.le_of_ble_eq_true rfl, Nat.le_of_ble_eq_true rfl⟩) hG rfl hl.1 rfl (Nat.le_of_ble_eq_true rfl) dL_law_261 (fun H locs hG => ?_)
  refine W.eq (g2 := F0 m 264 ls [.int q261.1, .int q247.1]) rfl ?_
  refine lv_icmp_eq (tgt := 1394) hx hb dL_law_264 (by decide) (fun c0 => ?_) (fun c0 => ?_)
  · replace h := ite_t h c0
    exact wl_next C0 k18 hk18 q247.2 q261.2 H locs x3 ls hG hl h
  · replace h := ite_f h c0
    exact absurd (Option.some.inj h) (by decide)
set_option maxHeartbeats 4000000 in
set_option maxRecDepth 100000 in
theorem wl_3 {p : Program} {l : Launch} {e : Env} {s : State} {m : MethodId} {below : List Frame} {meth : Method} {c : Code} {D : va_G} {ca : Nat → ClassId} {a b : Nat → Nat} {tw : Nat} {tt : Nat → Nat} {scr L : Nat} {xs : Nat → Int32} (C0 : LC p s m meth c D ca a b tw tt scr L xs) (k18 : XS → YS → Int32 → Option Int32) (hk18 : ∀ (v : XS) (w : YS) (H : Heap) (locs : List Loc) (x3 : Int32) (ls : Array Slot), LG s D ca a b v w H locs → lv_has ls 4 [(0, .ref scr), (1, .ref (a 0)), (2, .ref (b 0)), (3, .int x3)] → k18 v w x3 = some 1 → W p l e room_1 s m #[Value.ref scr] below meth c H locs 15 1797 (lw_Z below #[Value.ref scr] s) (F0 m 18 ls [])) (v : XS) (w : YS) (H : Heap) (locs : List Loc) (x3 : Int32) (ls : Array Slot) (hG : LG s D ca a b v w H locs) (hl : lv_has ls 4 [(0, .ref scr), (1, .ref (a 0)), (2, .ref (b 0)), (3, .int x3)]) (h : fl_3 k18 L xs v w x3 = some 1) : W p l e room_1 s m #[Value.ref scr] below meth c H locs 15 1797 (lw_Z below #[Value.ref scr] s) (F0 m 269 ls []) := by
  obtain ⟨hx, hb, hr, hml, hown, hts, hX, hbl, hlocks, hK, hT, hd⟩ := id C0
  unfold fl_3 at h
  refine lv_aload_n hx hb dL_law_269 rfl (lv_at hl 1 rfl) ?_
  refine lv_aload_n hx hb dL_law_270 rfl (lv_at hl 0 rfl) ?_
  refine lv_iload_n hx hb dL_law_271 rfl (lv_at hl 3 rfl) ?_
  refine lv_iconst (v := 1) hx hb dL_law_272 (by decide) ?_
  refine lv_iadd hx hb dL_law_273 ?_
  obtain ⟨q274, e274, h⟩ := Option.bind_eq_some_iff.mp h
  refine rd_sld C0 hG e274 dL_law_274 ?_
  refine lv_aload_n hx hb dL_law_275 rfl (lv_at hl 0 rfl) ?_
  refine lv_iload_n hx hb dL_law_276 rfl (lv_at hl 3 rfl) ?_
  refine lv_iconst (v := 2) hx hb dL_law_277 (by decide) ?_
  refine lv_iadd hx hb dL_law_278 ?_
  obtain ⟨q279, e279, h⟩ := Option.bind_eq_some_iff.mp h
  refine rd_sld C0 hG e279 dL_law_279 ?_
  obtain ⟨q280, e280, h⟩ := Option.bind_eq_some_iff.mp h
  refine lxM (As := [.int q274, .int q279]) (rest := []) C0 (ct_X6_copy l D ca a tw tt hd.1 v q274 q279 e280) (cwV 2 hts gL_law_X6_copy rfl rfl rfl (by decide +kernel) ⟨Nat.le_of_ble_eq_true rfl, Nat.le_of_ble_eq_true rfl⟩) hG rfl hl.1 rfl (Nat.le_of_ble_eq_true rfl) dL_law_280 (fun H locs hG => ?_)
  refine W.eq (g2 := F0 m 283 ls [.int q280.1]) rfl ?_
  refine lv_aload_n hx hb dL_law_283 rfl (lv_at hl 2 rfl) ?_
  refine lv_aload_n hx hb dL_law_284 rfl (lv_at hl 0 rfl) ?_
  refine lv_iload_n hx hb dL_law_285 rfl (lv_at hl 3 rfl) ?_
  refine lv_iconst (v := 1) hx hb dL_law_286 (by decide) ?_
  refine lv_iadd hx hb dL_law_287 ?_
  obtain ⟨q288, e288, h⟩ := Option.bind_eq_some_iff.mp h
  refine rd_sld C0 hG e288 dL_law_288 ?_
  refine lv_aload_n hx hb dL_law_289 rfl (lv_at hl 0 rfl) ?_
  refine lv_iload_n hx hb dL_law_290 rfl (lv_at hl 3 rfl) ?_
  refine lv_iconst (v := 2) hx hb dL_law_291 (by decide) ?_
  refine lv_iadd hx hb dL_law_292 ?_
  obtain ⟨q293, e293, h⟩ := Option.bind_eq_some_iff.mp h
  refine rd_sld C0 hG e293 dL_law_293 ?_
  obtain ⟨q294, e294, h⟩ := Option.bind_eq_some_iff.mp h
  refine lyM (As := [.int q288, .int q293]) (rest := [.int q280.1]) C0 (ct_X7_copy l D ca b tw tt hd.2.1 w q288 q293 e294) (cwV 2 hts gL_law_X7_copy rfl rfl rfl (by decide +kernel) ⟨Nat.le_of_ble_eq_true rfl, Nat.le_of_ble_eq_true rfl⟩) hG rfl hl.1 rfl (Nat.le_of_ble_eq_true rfl) dL_law_294 (fun H locs hG => ?_)
  refine W.eq (g2 := F0 m 297 ls [.int q294.1, .int q280.1]) rfl ?_
  refine lv_icmp_eq (tgt := 1394) hx hb dL_law_297 (by decide) (fun c0 => ?_) (fun c0 => ?_)
  · replace h := ite_t h c0
    exact wl_next C0 k18 hk18 q280.2 q294.2 H locs x3 ls hG hl h
  · replace h := ite_f h c0
    exact absurd (Option.some.inj h) (by decide)
set_option maxHeartbeats 4000000 in
set_option maxRecDepth 100000 in
theorem wl_4 {p : Program} {l : Launch} {e : Env} {s : State} {m : MethodId} {below : List Frame} {meth : Method} {c : Code} {D : va_G} {ca : Nat → ClassId} {a b : Nat → Nat} {tw : Nat} {tt : Nat → Nat} {scr L : Nat} {xs : Nat → Int32} (C0 : LC p s m meth c D ca a b tw tt scr L xs) (k18 : XS → YS → Int32 → Option Int32) (hk18 : ∀ (v : XS) (w : YS) (H : Heap) (locs : List Loc) (x3 : Int32) (ls : Array Slot), LG s D ca a b v w H locs → lv_has ls 4 [(0, .ref scr), (1, .ref (a 0)), (2, .ref (b 0)), (3, .int x3)] → k18 v w x3 = some 1 → W p l e room_1 s m #[Value.ref scr] below meth c H locs 15 1797 (lw_Z below #[Value.ref scr] s) (F0 m 18 ls [])) (v : XS) (w : YS) (H : Heap) (locs : List Loc) (x3 : Int32) (ls : Array Slot) (hG : LG s D ca a b v w H locs) (hl : lv_has ls 4 [(0, .ref scr), (1, .ref (a 0)), (2, .ref (b 0)), (3, .int x3)]) (h : fl_4 k18 L xs v w x3 = some 1) : W p l e room_1 s m #[Value.ref scr] below meth c H locs 15 1797 (lw_Z below #[Value.ref scr] s) (F0 m 302 ls []) := by
  obtain ⟨hx, hb, hr, hml, hown, hts, hX, hbl, hlocks, hK, hT, hd⟩ := id C0
  unfold fl_4 at h
  refine lv_aload_n hx hb dL_law_302 rfl (lv_at hl 1 rfl) ?_
  refine lv_aload_n hx hb dL_law_303 rfl (lv_at hl 0 rfl) ?_
  refine lv_iload_n hx hb dL_law_304 rfl (lv_at hl 3 rfl) ?_
  refine lv_iconst (v := 1) hx hb dL_law_305 (by decide) ?_
  refine lv_iadd hx hb dL_law_306 ?_
  obtain ⟨q307, e307, h⟩ := Option.bind_eq_some_iff.mp h
  refine rd_sld C0 hG e307 dL_law_307 ?_
  refine lv_aload_n hx hb dL_law_308 rfl (lv_at hl 0 rfl) ?_
  refine lv_iload_n hx hb dL_law_309 rfl (lv_at hl 3 rfl) ?_
  refine lv_iconst (v := 2) hx hb dL_law_310 (by decide) ?_
  refine lv_iadd hx hb dL_law_311 ?_
  obtain ⟨q312, e312, h⟩ := Option.bind_eq_some_iff.mp h
  refine rd_sld C0 hG e312 dL_law_312 ?_
  refine lv_aload_n hx hb dL_law_313 rfl (lv_at hl 0 rfl) ?_
  refine lv_iload_n hx hb dL_law_314 rfl (lv_at hl 3 rfl) ?_
  refine lv_iconst (v := 3) hx hb dL_law_315 (by decide) ?_
  refine lv_iadd hx hb dL_law_316 ?_
  obtain ⟨q317, e317, h⟩ := Option.bind_eq_some_iff.mp h
  refine rd_sld C0 hG e317 dL_law_317 ?_
  obtain ⟨q318, e318, h⟩ := Option.bind_eq_some_iff.mp h
  refine lxM (As := [.int q307, .int q312, .int q317]) (rest := []) C0 (ct_X6_sum l D ca a tw tt hd.1 v q307 q312 q317 e318) (cwV 3 hts gL_law_X6_sum rfl rfl rfl (by decide +kernel) ⟨Nat.le_of_ble_eq_true rfl, Nat.le_of_ble_eq_true rfl⟩) hG rfl hl.1 rfl (Nat.le_of_ble_eq_true rfl) dL_law_318 (fun H locs hG => ?_)
  refine W.eq (g2 := F0 m 321 ls [.int q318.1]) rfl ?_
  refine lv_aload_n hx hb dL_law_321 rfl (lv_at hl 2 rfl) ?_
  refine lv_aload_n hx hb dL_law_322 rfl (lv_at hl 0 rfl) ?_
  refine lv_iload_n hx hb dL_law_323 rfl (lv_at hl 3 rfl) ?_
  refine lv_iconst (v := 1) hx hb dL_law_324 (by decide) ?_
  refine lv_iadd hx hb dL_law_325 ?_
  obtain ⟨q326, e326, h⟩ := Option.bind_eq_some_iff.mp h
  refine rd_sld C0 hG e326 dL_law_326 ?_
  refine lv_aload_n hx hb dL_law_327 rfl (lv_at hl 0 rfl) ?_
  refine lv_iload_n hx hb dL_law_328 rfl (lv_at hl 3 rfl) ?_
  refine lv_iconst (v := 2) hx hb dL_law_329 (by decide) ?_
  refine lv_iadd hx hb dL_law_330 ?_
  obtain ⟨q331, e331, h⟩ := Option.bind_eq_some_iff.mp h
  refine rd_sld C0 hG e331 dL_law_331 ?_
  refine lv_aload_n hx hb dL_law_332 rfl (lv_at hl 0 rfl) ?_
  refine lv_iload_n hx hb dL_law_333 rfl (lv_at hl 3 rfl) ?_
  refine lv_iconst (v := 3) hx hb dL_law_334 (by decide) ?_
  refine lv_iadd hx hb dL_law_335 ?_
  obtain ⟨q336, e336, h⟩ := Option.bind_eq_some_iff.mp h
  refine rd_sld C0 hG e336 dL_law_336 ?_
  obtain ⟨q337, e337, h⟩ := Option.bind_eq_some_iff.mp h
  refine lyM (As := [.int q326, .int q331, .int q336]) (rest := [.int q318.1]) C0 (ct_X7_sum l D ca b tw tt hd.2.1 w q326 q331 q336 e337) (cwV 3 hts gL_law_X7_sum rfl rfl rfl (by decide +kernel) ⟨Nat.le_of_ble_eq_true rfl, Nat.le_of_ble_eq_true rfl⟩) hG rfl hl.1 rfl (Nat.le_of_ble_eq_true rfl) dL_law_337 (fun H locs hG => ?_)
  refine W.eq (g2 := F0 m 340 ls [.int q337.1, .int q318.1]) rfl ?_
  refine lv_icmp_eq (tgt := 1394) hx hb dL_law_340 (by decide) (fun c0 => ?_) (fun c0 => ?_)
  · replace h := ite_t h c0
    exact wl_next C0 k18 hk18 q318.2 q337.2 H locs x3 ls hG hl h
  · replace h := ite_f h c0
    exact absurd (Option.some.inj h) (by decide)
set_option maxHeartbeats 4000000 in
set_option maxRecDepth 100000 in
theorem wl_5 {p : Program} {l : Launch} {e : Env} {s : State} {m : MethodId} {below : List Frame} {meth : Method} {c : Code} {D : va_G} {ca : Nat → ClassId} {a b : Nat → Nat} {tw : Nat} {tt : Nat → Nat} {scr L : Nat} {xs : Nat → Int32} (C0 : LC p s m meth c D ca a b tw tt scr L xs) (k18 : XS → YS → Int32 → Option Int32) (hk18 : ∀ (v : XS) (w : YS) (H : Heap) (locs : List Loc) (x3 : Int32) (ls : Array Slot), LG s D ca a b v w H locs → lv_has ls 4 [(0, .ref scr), (1, .ref (a 0)), (2, .ref (b 0)), (3, .int x3)] → k18 v w x3 = some 1 → W p l e room_1 s m #[Value.ref scr] below meth c H locs 15 1797 (lw_Z below #[Value.ref scr] s) (F0 m 18 ls [])) (v : XS) (w : YS) (H : Heap) (locs : List Loc) (x3 : Int32) (ls : Array Slot) (hG : LG s D ca a b v w H locs) (hl : lv_has ls 4 [(0, .ref scr), (1, .ref (a 0)), (2, .ref (b 0)), (3, .int x3)]) (h : fl_5 k18 L xs v w x3 = some 1) : W p l e room_1 s m #[Value.ref scr] below meth c H locs 15 1797 (lw_Z below #[Value.ref scr] s) (F0 m 345 ls []) := by
  obtain ⟨hx, hb, hr, hml, hown, hts, hX, hbl, hlocks, hK, hT, hd⟩ := id C0
  unfold fl_5 at h
  refine lv_aload_n hx hb dL_law_345 rfl (lv_at hl 1 rfl) ?_
  refine lv_aload_n hx hb dL_law_346 rfl (lv_at hl 0 rfl) ?_
  refine lv_iload_n hx hb dL_law_347 rfl (lv_at hl 3 rfl) ?_
  refine lv_iconst (v := 1) hx hb dL_law_348 (by decide) ?_
  refine lv_iadd hx hb dL_law_349 ?_
  obtain ⟨q350, e350, h⟩ := Option.bind_eq_some_iff.mp h
  refine rd_sld C0 hG e350 dL_law_350 ?_
  refine lv_aload_n hx hb dL_law_351 rfl (lv_at hl 0 rfl) ?_
  refine lv_iload_n hx hb dL_law_352 rfl (lv_at hl 3 rfl) ?_
  refine lv_iconst (v := 2) hx hb dL_law_353 (by decide) ?_
  refine lv_iadd hx hb dL_law_354 ?_
  obtain ⟨q355, e355, h⟩ := Option.bind_eq_some_iff.mp h
  refine rd_sld C0 hG e355 dL_law_355 ?_
  refine lv_aload_n hx hb dL_law_356 rfl (lv_at hl 0 rfl) ?_
  refine lv_iload_n hx hb dL_law_357 rfl (lv_at hl 3 rfl) ?_
  refine lv_iconst (v := 3) hx hb dL_law_358 (by decide) ?_
  refine lv_iadd hx hb dL_law_359 ?_
  obtain ⟨q360, e360, h⟩ := Option.bind_eq_some_iff.mp h
  refine rd_sld C0 hG e360 dL_law_360 ?_
  obtain ⟨q361, e361, h⟩ := Option.bind_eq_some_iff.mp h
  refine lxM (As := [.int q350, .int q355, .int q360]) (rest := []) C0 (ct_X6_product l D ca a tw tt hd.1 v q350 q355 q360 e361) (cwV 3 hts gL_law_X6_product rfl rfl rfl (by decide +kernel) ⟨Nat.le_of_ble_eq_true rfl, Nat.le_of_ble_eq_true rfl⟩) hG rfl hl.1 rfl (Nat.le_of_ble_eq_true rfl) dL_law_361 (fun H locs hG => ?_)
  refine W.eq (g2 := F0 m 364 ls [.int q361.1]) rfl ?_
  refine lv_aload_n hx hb dL_law_364 rfl (lv_at hl 2 rfl) ?_
  refine lv_aload_n hx hb dL_law_365 rfl (lv_at hl 0 rfl) ?_
  refine lv_iload_n hx hb dL_law_366 rfl (lv_at hl 3 rfl) ?_
  refine lv_iconst (v := 1) hx hb dL_law_367 (by decide) ?_
  refine lv_iadd hx hb dL_law_368 ?_
  obtain ⟨q369, e369, h⟩ := Option.bind_eq_some_iff.mp h
  refine rd_sld C0 hG e369 dL_law_369 ?_
  refine lv_aload_n hx hb dL_law_370 rfl (lv_at hl 0 rfl) ?_
  refine lv_iload_n hx hb dL_law_371 rfl (lv_at hl 3 rfl) ?_
  refine lv_iconst (v := 2) hx hb dL_law_372 (by decide) ?_
  refine lv_iadd hx hb dL_law_373 ?_
  obtain ⟨q374, e374, h⟩ := Option.bind_eq_some_iff.mp h
  refine rd_sld C0 hG e374 dL_law_374 ?_
  refine lv_aload_n hx hb dL_law_375 rfl (lv_at hl 0 rfl) ?_
  refine lv_iload_n hx hb dL_law_376 rfl (lv_at hl 3 rfl) ?_
  refine lv_iconst (v := 3) hx hb dL_law_377 (by decide) ?_
  refine lv_iadd hx hb dL_law_378 ?_
  obtain ⟨q379, e379, h⟩ := Option.bind_eq_some_iff.mp h
  refine rd_sld C0 hG e379 dL_law_379 ?_
  obtain ⟨q380, e380, h⟩ := Option.bind_eq_some_iff.mp h
  refine lyM (As := [.int q369, .int q374, .int q379]) (rest := [.int q361.1]) C0 (ct_X7_product l D ca b tw tt hd.2.1 w q369 q374 q379 e380) (cwV 3 hts gL_law_X7_product rfl rfl rfl (by decide +kernel) ⟨Nat.le_of_ble_eq_true rfl, Nat.le_of_ble_eq_true rfl⟩) hG rfl hl.1 rfl (Nat.le_of_ble_eq_true rfl) dL_law_380 (fun H locs hG => ?_)
  refine W.eq (g2 := F0 m 383 ls [.int q380.1, .int q361.1]) rfl ?_
  refine lv_icmp_eq (tgt := 1394) hx hb dL_law_383 (by decide) (fun c0 => ?_) (fun c0 => ?_)
  · replace h := ite_t h c0
    exact wl_next C0 k18 hk18 q361.2 q380.2 H locs x3 ls hG hl h
  · replace h := ite_f h c0
    exact absurd (Option.some.inj h) (by decide)
set_option maxHeartbeats 4000000 in
set_option maxRecDepth 100000 in
theorem wl_6 {p : Program} {l : Launch} {e : Env} {s : State} {m : MethodId} {below : List Frame} {meth : Method} {c : Code} {D : va_G} {ca : Nat → ClassId} {a b : Nat → Nat} {tw : Nat} {tt : Nat → Nat} {scr L : Nat} {xs : Nat → Int32} (C0 : LC p s m meth c D ca a b tw tt scr L xs) (k18 : XS → YS → Int32 → Option Int32) (hk18 : ∀ (v : XS) (w : YS) (H : Heap) (locs : List Loc) (x3 : Int32) (ls : Array Slot), LG s D ca a b v w H locs → lv_has ls 4 [(0, .ref scr), (1, .ref (a 0)), (2, .ref (b 0)), (3, .int x3)] → k18 v w x3 = some 1 → W p l e room_1 s m #[Value.ref scr] below meth c H locs 15 1797 (lw_Z below #[Value.ref scr] s) (F0 m 18 ls [])) (v : XS) (w : YS) (H : Heap) (locs : List Loc) (x3 : Int32) (ls : Array Slot) (hG : LG s D ca a b v w H locs) (hl : lv_has ls 4 [(0, .ref scr), (1, .ref (a 0)), (2, .ref (b 0)), (3, .int x3)]) (h : fl_6 k18 L xs v w x3 = some 1) : W p l e room_1 s m #[Value.ref scr] below meth c H locs 15 1797 (lw_Z below #[Value.ref scr] s) (F0 m 388 ls []) := by
  obtain ⟨hx, hb, hr, hml, hown, hts, hX, hbl, hlocks, hK, hT, hd⟩ := id C0
  unfold fl_6 at h
  refine lv_aload_n hx hb dL_law_388 rfl (lv_at hl 1 rfl) ?_
  refine lv_aload_n hx hb dL_law_389 rfl (lv_at hl 0 rfl) ?_
  refine lv_iload_n hx hb dL_law_390 rfl (lv_at hl 3 rfl) ?_
  refine lv_iconst (v := 1) hx hb dL_law_391 (by decide) ?_
  refine lv_iadd hx hb dL_law_392 ?_
  obtain ⟨q393, e393, h⟩ := Option.bind_eq_some_iff.mp h
  refine rd_sld C0 hG e393 dL_law_393 ?_
  refine lv_aload_n hx hb dL_law_394 rfl (lv_at hl 0 rfl) ?_
  refine lv_iload_n hx hb dL_law_395 rfl (lv_at hl 3 rfl) ?_
  refine lv_iconst (v := 2) hx hb dL_law_396 (by decide) ?_
  refine lv_iadd hx hb dL_law_397 ?_
  obtain ⟨q398, e398, h⟩ := Option.bind_eq_some_iff.mp h
  refine rd_sld C0 hG e398 dL_law_398 ?_
  refine lv_aload_n hx hb dL_law_399 rfl (lv_at hl 0 rfl) ?_
  refine lv_iload_n hx hb dL_law_400 rfl (lv_at hl 3 rfl) ?_
  refine lv_iconst (v := 3) hx hb dL_law_401 (by decide) ?_
  refine lv_iadd hx hb dL_law_402 ?_
  obtain ⟨q403, e403, h⟩ := Option.bind_eq_some_iff.mp h
  refine rd_sld C0 hG e403 dL_law_403 ?_
  obtain ⟨q404, e404, h⟩ := Option.bind_eq_some_iff.mp h
  refine lxM (As := [.int q393, .int q398, .int q403]) (rest := []) C0 (ct_X6_times l D ca a tw tt hd.1 v q393 q398 q403 e404) (cwV 3 hts gL_law_X6_times rfl rfl rfl (by decide +kernel) ⟨Nat.le_of_ble_eq_true rfl, Nat.le_of_ble_eq_true rfl⟩) hG rfl hl.1 rfl (Nat.le_of_ble_eq_true rfl) dL_law_404 (fun H locs hG => ?_)
  refine W.eq (g2 := F0 m 407 ls [.int q404.1]) rfl ?_
  refine lv_aload_n hx hb dL_law_407 rfl (lv_at hl 2 rfl) ?_
  refine lv_aload_n hx hb dL_law_408 rfl (lv_at hl 0 rfl) ?_
  refine lv_iload_n hx hb dL_law_409 rfl (lv_at hl 3 rfl) ?_
  refine lv_iconst (v := 1) hx hb dL_law_410 (by decide) ?_
  refine lv_iadd hx hb dL_law_411 ?_
  obtain ⟨q412, e412, h⟩ := Option.bind_eq_some_iff.mp h
  refine rd_sld C0 hG e412 dL_law_412 ?_
  refine lv_aload_n hx hb dL_law_413 rfl (lv_at hl 0 rfl) ?_
  refine lv_iload_n hx hb dL_law_414 rfl (lv_at hl 3 rfl) ?_
  refine lv_iconst (v := 2) hx hb dL_law_415 (by decide) ?_
  refine lv_iadd hx hb dL_law_416 ?_
  obtain ⟨q417, e417, h⟩ := Option.bind_eq_some_iff.mp h
  refine rd_sld C0 hG e417 dL_law_417 ?_
  refine lv_aload_n hx hb dL_law_418 rfl (lv_at hl 0 rfl) ?_
  refine lv_iload_n hx hb dL_law_419 rfl (lv_at hl 3 rfl) ?_
  refine lv_iconst (v := 3) hx hb dL_law_420 (by decide) ?_
  refine lv_iadd hx hb dL_law_421 ?_
  obtain ⟨q422, e422, h⟩ := Option.bind_eq_some_iff.mp h
  refine rd_sld C0 hG e422 dL_law_422 ?_
  obtain ⟨q423, e423, h⟩ := Option.bind_eq_some_iff.mp h
  refine lyM (As := [.int q412, .int q417, .int q422]) (rest := [.int q404.1]) C0 (ct_X7_times l D ca b tw tt hd.2.1 w q412 q417 q422 e423) (cwV 3 hts gL_law_X7_times rfl rfl rfl (by decide +kernel) ⟨Nat.le_of_ble_eq_true rfl, Nat.le_of_ble_eq_true rfl⟩) hG rfl hl.1 rfl (Nat.le_of_ble_eq_true rfl) dL_law_423 (fun H locs hG => ?_)
  refine W.eq (g2 := F0 m 426 ls [.int q423.1, .int q404.1]) rfl ?_
  refine lv_icmp_eq (tgt := 1394) hx hb dL_law_426 (by decide) (fun c0 => ?_) (fun c0 => ?_)
  · replace h := ite_t h c0
    exact wl_next C0 k18 hk18 q404.2 q423.2 H locs x3 ls hG hl h
  · replace h := ite_f h c0
    exact absurd (Option.some.inj h) (by decide)
set_option maxHeartbeats 4000000 in
set_option maxRecDepth 100000 in
theorem wl_7 {p : Program} {l : Launch} {e : Env} {s : State} {m : MethodId} {below : List Frame} {meth : Method} {c : Code} {D : va_G} {ca : Nat → ClassId} {a b : Nat → Nat} {tw : Nat} {tt : Nat → Nat} {scr L : Nat} {xs : Nat → Int32} (C0 : LC p s m meth c D ca a b tw tt scr L xs) (k18 : XS → YS → Int32 → Option Int32) (hk18 : ∀ (v : XS) (w : YS) (H : Heap) (locs : List Loc) (x3 : Int32) (ls : Array Slot), LG s D ca a b v w H locs → lv_has ls 4 [(0, .ref scr), (1, .ref (a 0)), (2, .ref (b 0)), (3, .int x3)] → k18 v w x3 = some 1 → W p l e room_1 s m #[Value.ref scr] below meth c H locs 15 1797 (lw_Z below #[Value.ref scr] s) (F0 m 18 ls [])) (v : XS) (w : YS) (H : Heap) (locs : List Loc) (x3 : Int32) (ls : Array Slot) (hG : LG s D ca a b v w H locs) (hl : lv_has ls 4 [(0, .ref scr), (1, .ref (a 0)), (2, .ref (b 0)), (3, .int x3)]) (h : fl_7 k18 L xs v w x3 = some 1) : W p l e room_1 s m #[Value.ref scr] below meth c H locs 15 1797 (lw_Z below #[Value.ref scr] s) (F0 m 431 ls []) := by
  obtain ⟨hx, hb, hr, hml, hown, hts, hX, hbl, hlocks, hK, hT, hd⟩ := id C0
  unfold fl_7 at h
  refine lv_aload_n hx hb dL_law_431 rfl (lv_at hl 1 rfl) ?_
  refine lv_aload_n hx hb dL_law_432 rfl (lv_at hl 0 rfl) ?_
  refine lv_iload_n hx hb dL_law_433 rfl (lv_at hl 3 rfl) ?_
  refine lv_iconst (v := 1) hx hb dL_law_434 (by decide) ?_
  refine lv_iadd hx hb dL_law_435 ?_
  obtain ⟨q436, e436, h⟩ := Option.bind_eq_some_iff.mp h
  refine rd_sld C0 hG e436 dL_law_436 ?_
  refine lv_aload_n hx hb dL_law_437 rfl (lv_at hl 0 rfl) ?_
  refine lv_iload_n hx hb dL_law_438 rfl (lv_at hl 3 rfl) ?_
  refine lv_iconst (v := 2) hx hb dL_law_439 (by decide) ?_
  refine lv_iadd hx hb dL_law_440 ?_
  obtain ⟨q441, e441, h⟩ := Option.bind_eq_some_iff.mp h
  refine rd_sld C0 hG e441 dL_law_441 ?_
  refine lv_aload_n hx hb dL_law_442 rfl (lv_at hl 0 rfl) ?_
  refine lv_iload_n hx hb dL_law_443 rfl (lv_at hl 3 rfl) ?_
  refine lv_iconst (v := 3) hx hb dL_law_444 (by decide) ?_
  refine lv_iadd hx hb dL_law_445 ?_
  obtain ⟨q446, e446, h⟩ := Option.bind_eq_some_iff.mp h
  refine rd_sld C0 hG e446 dL_law_446 ?_
  refine lv_aload_n hx hb dL_law_447 rfl (lv_at hl 0 rfl) ?_
  refine lv_iload_n hx hb dL_law_448 rfl (lv_at hl 3 rfl) ?_
  refine lv_iconst (v := 4) hx hb dL_law_449 (by decide) ?_
  refine lv_iadd hx hb dL_law_450 ?_
  obtain ⟨q451, e451, h⟩ := Option.bind_eq_some_iff.mp h
  refine rd_sld C0 hG e451 dL_law_451 ?_
  obtain ⟨q452, e452, h⟩ := Option.bind_eq_some_iff.mp h
  refine lxM (As := [.int q436, .int q441, .int q446, .int q451]) (rest := []) C0 (ct_X6_restrict l D ca a tw tt hd.1 v q436 q441 q446 q451 e452) (cwV 4 hts gL_law_X6_restrict rfl rfl rfl (by decide +kernel) ⟨Nat.le_of_ble_eq_true rfl, Nat.le_of_ble_eq_true rfl⟩) hG rfl hl.1 rfl (Nat.le_of_ble_eq_true rfl) dL_law_452 (fun H locs hG => ?_)
  refine W.eq (g2 := F0 m 455 ls [.int q452.1]) rfl ?_
  refine lv_aload_n hx hb dL_law_455 rfl (lv_at hl 2 rfl) ?_
  refine lv_aload_n hx hb dL_law_456 rfl (lv_at hl 0 rfl) ?_
  refine lv_iload_n hx hb dL_law_457 rfl (lv_at hl 3 rfl) ?_
  refine lv_iconst (v := 1) hx hb dL_law_458 (by decide) ?_
  refine lv_iadd hx hb dL_law_459 ?_
  obtain ⟨q460, e460, h⟩ := Option.bind_eq_some_iff.mp h
  refine rd_sld C0 hG e460 dL_law_460 ?_
  refine lv_aload_n hx hb dL_law_461 rfl (lv_at hl 0 rfl) ?_
  refine lv_iload_n hx hb dL_law_462 rfl (lv_at hl 3 rfl) ?_
  refine lv_iconst (v := 2) hx hb dL_law_463 (by decide) ?_
  refine lv_iadd hx hb dL_law_464 ?_
  obtain ⟨q465, e465, h⟩ := Option.bind_eq_some_iff.mp h
  refine rd_sld C0 hG e465 dL_law_465 ?_
  refine lv_aload_n hx hb dL_law_466 rfl (lv_at hl 0 rfl) ?_
  refine lv_iload_n hx hb dL_law_467 rfl (lv_at hl 3 rfl) ?_
  refine lv_iconst (v := 3) hx hb dL_law_468 (by decide) ?_
  refine lv_iadd hx hb dL_law_469 ?_
  obtain ⟨q470, e470, h⟩ := Option.bind_eq_some_iff.mp h
  refine rd_sld C0 hG e470 dL_law_470 ?_
  refine lv_aload_n hx hb dL_law_471 rfl (lv_at hl 0 rfl) ?_
  refine lv_iload_n hx hb dL_law_472 rfl (lv_at hl 3 rfl) ?_
  refine lv_iconst (v := 4) hx hb dL_law_473 (by decide) ?_
  refine lv_iadd hx hb dL_law_474 ?_
  obtain ⟨q475, e475, h⟩ := Option.bind_eq_some_iff.mp h
  refine rd_sld C0 hG e475 dL_law_475 ?_
  obtain ⟨q476, e476, h⟩ := Option.bind_eq_some_iff.mp h
  refine lyM (As := [.int q460, .int q465, .int q470, .int q475]) (rest := [.int q452.1]) C0 (ct_X7_restrict l D ca b tw tt hd.2.1 w q460 q465 q470 q475 e476) (cwV 4 hts gL_law_X7_restrict rfl rfl rfl (by decide +kernel) ⟨Nat.le_of_ble_eq_true rfl, Nat.le_of_ble_eq_true rfl⟩) hG rfl hl.1 rfl (Nat.le_of_ble_eq_true rfl) dL_law_476 (fun H locs hG => ?_)
  refine W.eq (g2 := F0 m 479 ls [.int q476.1, .int q452.1]) rfl ?_
  refine lv_icmp_eq (tgt := 1394) hx hb dL_law_479 (by decide) (fun c0 => ?_) (fun c0 => ?_)
  · replace h := ite_t h c0
    exact wl_next C0 k18 hk18 q452.2 q476.2 H locs x3 ls hG hl h
  · replace h := ite_f h c0
    exact absurd (Option.some.inj h) (by decide)
set_option maxHeartbeats 4000000 in
set_option maxRecDepth 100000 in
theorem wl_8 {p : Program} {l : Launch} {e : Env} {s : State} {m : MethodId} {below : List Frame} {meth : Method} {c : Code} {D : va_G} {ca : Nat → ClassId} {a b : Nat → Nat} {tw : Nat} {tt : Nat → Nat} {scr L : Nat} {xs : Nat → Int32} (C0 : LC p s m meth c D ca a b tw tt scr L xs) (k18 : XS → YS → Int32 → Option Int32) (hk18 : ∀ (v : XS) (w : YS) (H : Heap) (locs : List Loc) (x3 : Int32) (ls : Array Slot), LG s D ca a b v w H locs → lv_has ls 4 [(0, .ref scr), (1, .ref (a 0)), (2, .ref (b 0)), (3, .int x3)] → k18 v w x3 = some 1 → W p l e room_1 s m #[Value.ref scr] below meth c H locs 15 1797 (lw_Z below #[Value.ref scr] s) (F0 m 18 ls [])) (v : XS) (w : YS) (H : Heap) (locs : List Loc) (x3 : Int32) (ls : Array Slot) (hG : LG s D ca a b v w H locs) (hl : lv_has ls 4 [(0, .ref scr), (1, .ref (a 0)), (2, .ref (b 0)), (3, .int x3)]) (h : fl_8 k18 L xs v w x3 = some 1) : W p l e room_1 s m #[Value.ref scr] below meth c H locs 15 1797 (lw_Z below #[Value.ref scr] s) (F0 m 484 ls []) := by
  obtain ⟨hx, hb, hr, hml, hown, hts, hX, hbl, hlocks, hK, hT, hd⟩ := id C0
  unfold fl_8 at h
  refine lv_aload_n hx hb dL_law_484 rfl (lv_at hl 1 rfl) ?_
  refine lv_aload_n hx hb dL_law_485 rfl (lv_at hl 0 rfl) ?_
  refine lv_iload_n hx hb dL_law_486 rfl (lv_at hl 3 rfl) ?_
  refine lv_iconst (v := 1) hx hb dL_law_487 (by decide) ?_
  refine lv_iadd hx hb dL_law_488 ?_
  obtain ⟨q489, e489, h⟩ := Option.bind_eq_some_iff.mp h
  refine rd_sld C0 hG e489 dL_law_489 ?_
  refine lv_aload_n hx hb dL_law_490 rfl (lv_at hl 0 rfl) ?_
  refine lv_iload_n hx hb dL_law_491 rfl (lv_at hl 3 rfl) ?_
  refine lv_iconst (v := 2) hx hb dL_law_492 (by decide) ?_
  refine lv_iadd hx hb dL_law_493 ?_
  obtain ⟨q494, e494, h⟩ := Option.bind_eq_some_iff.mp h
  refine rd_sld C0 hG e494 dL_law_494 ?_
  refine lv_aload_n hx hb dL_law_495 rfl (lv_at hl 0 rfl) ?_
  refine lv_iload_n hx hb dL_law_496 rfl (lv_at hl 3 rfl) ?_
  refine lv_iconst (v := 3) hx hb dL_law_497 (by decide) ?_
  refine lv_iadd hx hb dL_law_498 ?_
  obtain ⟨q499, e499, h⟩ := Option.bind_eq_some_iff.mp h
  refine rd_sld C0 hG e499 dL_law_499 ?_
  refine lv_aload_n hx hb dL_law_500 rfl (lv_at hl 0 rfl) ?_
  refine lv_iload_n hx hb dL_law_501 rfl (lv_at hl 3 rfl) ?_
  refine lv_iconst (v := 4) hx hb dL_law_502 (by decide) ?_
  refine lv_iadd hx hb dL_law_503 ?_
  obtain ⟨q504, e504, h⟩ := Option.bind_eq_some_iff.mp h
  refine rd_sld C0 hG e504 dL_law_504 ?_
  obtain ⟨q505, e505, h⟩ := Option.bind_eq_some_iff.mp h
  refine lxM (As := [.int q489, .int q494, .int q499, .int q504]) (rest := []) C0 (ct_X6_substitute l D ca a tw tt hd.1 v q489 q494 q499 q504 e505) (cwV 4 hts gL_law_X6_substitute rfl rfl rfl (by decide +kernel) ⟨Nat.le_of_ble_eq_true rfl, Nat.le_of_ble_eq_true rfl⟩) hG rfl hl.1 rfl (Nat.le_of_ble_eq_true rfl) dL_law_505 (fun H locs hG => ?_)
  refine W.eq (g2 := F0 m 508 ls [.int q505.1]) rfl ?_
  refine lv_aload_n hx hb dL_law_508 rfl (lv_at hl 2 rfl) ?_
  refine lv_aload_n hx hb dL_law_509 rfl (lv_at hl 0 rfl) ?_
  refine lv_iload_n hx hb dL_law_510 rfl (lv_at hl 3 rfl) ?_
  refine lv_iconst (v := 1) hx hb dL_law_511 (by decide) ?_
  refine lv_iadd hx hb dL_law_512 ?_
  obtain ⟨q513, e513, h⟩ := Option.bind_eq_some_iff.mp h
  refine rd_sld C0 hG e513 dL_law_513 ?_
  refine lv_aload_n hx hb dL_law_514 rfl (lv_at hl 0 rfl) ?_
  refine lv_iload_n hx hb dL_law_515 rfl (lv_at hl 3 rfl) ?_
  refine lv_iconst (v := 2) hx hb dL_law_516 (by decide) ?_
  refine lv_iadd hx hb dL_law_517 ?_
  obtain ⟨q518, e518, h⟩ := Option.bind_eq_some_iff.mp h
  refine rd_sld C0 hG e518 dL_law_518 ?_
  refine lv_aload_n hx hb dL_law_519 rfl (lv_at hl 0 rfl) ?_
  refine lv_iload_n hx hb dL_law_520 rfl (lv_at hl 3 rfl) ?_
  refine lv_iconst (v := 3) hx hb dL_law_521 (by decide) ?_
  refine lv_iadd hx hb dL_law_522 ?_
  obtain ⟨q523, e523, h⟩ := Option.bind_eq_some_iff.mp h
  refine rd_sld C0 hG e523 dL_law_523 ?_
  refine lv_aload_n hx hb dL_law_524 rfl (lv_at hl 0 rfl) ?_
  refine lv_iload_n hx hb dL_law_525 rfl (lv_at hl 3 rfl) ?_
  refine lv_iconst (v := 4) hx hb dL_law_526 (by decide) ?_
  refine lv_iadd hx hb dL_law_527 ?_
  obtain ⟨q528, e528, h⟩ := Option.bind_eq_some_iff.mp h
  refine rd_sld C0 hG e528 dL_law_528 ?_
  obtain ⟨q529, e529, h⟩ := Option.bind_eq_some_iff.mp h
  refine lyM (As := [.int q513, .int q518, .int q523, .int q528]) (rest := [.int q505.1]) C0 (ct_X7_substitute l D ca b tw tt hd.2.1 w q513 q518 q523 q528 e529) (cwV 4 hts gL_law_X7_substitute rfl rfl rfl (by decide +kernel) ⟨Nat.le_of_ble_eq_true rfl, Nat.le_of_ble_eq_true rfl⟩) hG rfl hl.1 rfl (Nat.le_of_ble_eq_true rfl) dL_law_529 (fun H locs hG => ?_)
  refine W.eq (g2 := F0 m 532 ls [.int q529.1, .int q505.1]) rfl ?_
  refine lv_icmp_eq (tgt := 1394) hx hb dL_law_532 (by decide) (fun c0 => ?_) (fun c0 => ?_)
  · replace h := ite_t h c0
    exact wl_next C0 k18 hk18 q505.2 q529.2 H locs x3 ls hG hl h
  · replace h := ite_f h c0
    exact absurd (Option.some.inj h) (by decide)
set_option maxHeartbeats 4000000 in
set_option maxRecDepth 100000 in
theorem wl_9 {p : Program} {l : Launch} {e : Env} {s : State} {m : MethodId} {below : List Frame} {meth : Method} {c : Code} {D : va_G} {ca : Nat → ClassId} {a b : Nat → Nat} {tw : Nat} {tt : Nat → Nat} {scr L : Nat} {xs : Nat → Int32} (C0 : LC p s m meth c D ca a b tw tt scr L xs) (k18 : XS → YS → Int32 → Option Int32) (hk18 : ∀ (v : XS) (w : YS) (H : Heap) (locs : List Loc) (x3 : Int32) (ls : Array Slot), LG s D ca a b v w H locs → lv_has ls 4 [(0, .ref scr), (1, .ref (a 0)), (2, .ref (b 0)), (3, .int x3)] → k18 v w x3 = some 1 → W p l e room_1 s m #[Value.ref scr] below meth c H locs 15 1797 (lw_Z below #[Value.ref scr] s) (F0 m 18 ls [])) (v : XS) (w : YS) (H : Heap) (locs : List Loc) (x3 : Int32) (ls : Array Slot) (hG : LG s D ca a b v w H locs) (hl : lv_has ls 4 [(0, .ref scr), (1, .ref (a 0)), (2, .ref (b 0)), (3, .int x3)]) (h : fl_9 k18 L xs v w x3 = some 1) : W p l e room_1 s m #[Value.ref scr] below meth c H locs 15 1797 (lw_Z below #[Value.ref scr] s) (F0 m 537 ls []) := by
  obtain ⟨hx, hb, hr, hml, hown, hts, hX, hbl, hlocks, hK, hT, hd⟩ := id C0
  unfold fl_9 at h
  refine lv_aload_n hx hb dL_law_537 rfl (lv_at hl 1 rfl) ?_
  refine lv_aload_n hx hb dL_law_538 rfl (lv_at hl 0 rfl) ?_
  refine lv_iload_n hx hb dL_law_539 rfl (lv_at hl 3 rfl) ?_
  refine lv_iconst (v := 1) hx hb dL_law_540 (by decide) ?_
  refine lv_iadd hx hb dL_law_541 ?_
  obtain ⟨q542, e542, h⟩ := Option.bind_eq_some_iff.mp h
  refine rd_sld C0 hG e542 dL_law_542 ?_
  refine lv_aload_n hx hb dL_law_543 rfl (lv_at hl 0 rfl) ?_
  refine lv_iload_n hx hb dL_law_544 rfl (lv_at hl 3 rfl) ?_
  refine lv_iconst (v := 2) hx hb dL_law_545 (by decide) ?_
  refine lv_iadd hx hb dL_law_546 ?_
  obtain ⟨q547, e547, h⟩ := Option.bind_eq_some_iff.mp h
  refine rd_sld C0 hG e547 dL_law_547 ?_
  refine lv_aload_n hx hb dL_law_548 rfl (lv_at hl 0 rfl) ?_
  refine lv_iload_n hx hb dL_law_549 rfl (lv_at hl 3 rfl) ?_
  refine lv_iconst (v := 3) hx hb dL_law_550 (by decide) ?_
  refine lv_iadd hx hb dL_law_551 ?_
  obtain ⟨q552, e552, h⟩ := Option.bind_eq_some_iff.mp h
  refine rd_sld C0 hG e552 dL_law_552 ?_
  obtain ⟨q553, e553, h⟩ := Option.bind_eq_some_iff.mp h
  refine lxM (As := [.int q542, .int q547, .int q552]) (rest := []) C0 (ct_X6_derivative l D ca a tw tt hd.1 v q542 q547 q552 e553) (cwV 3 hts gL_law_X6_derivative rfl rfl rfl (by decide +kernel) ⟨Nat.le_of_ble_eq_true rfl, Nat.le_of_ble_eq_true rfl⟩) hG rfl hl.1 rfl (Nat.le_of_ble_eq_true rfl) dL_law_553 (fun H locs hG => ?_)
  refine W.eq (g2 := F0 m 556 ls [.int q553.1]) rfl ?_
  refine lv_aload_n hx hb dL_law_556 rfl (lv_at hl 2 rfl) ?_
  refine lv_aload_n hx hb dL_law_557 rfl (lv_at hl 0 rfl) ?_
  refine lv_iload_n hx hb dL_law_558 rfl (lv_at hl 3 rfl) ?_
  refine lv_iconst (v := 1) hx hb dL_law_559 (by decide) ?_
  refine lv_iadd hx hb dL_law_560 ?_
  obtain ⟨q561, e561, h⟩ := Option.bind_eq_some_iff.mp h
  refine rd_sld C0 hG e561 dL_law_561 ?_
  refine lv_aload_n hx hb dL_law_562 rfl (lv_at hl 0 rfl) ?_
  refine lv_iload_n hx hb dL_law_563 rfl (lv_at hl 3 rfl) ?_
  refine lv_iconst (v := 2) hx hb dL_law_564 (by decide) ?_
  refine lv_iadd hx hb dL_law_565 ?_
  obtain ⟨q566, e566, h⟩ := Option.bind_eq_some_iff.mp h
  refine rd_sld C0 hG e566 dL_law_566 ?_
  refine lv_aload_n hx hb dL_law_567 rfl (lv_at hl 0 rfl) ?_
  refine lv_iload_n hx hb dL_law_568 rfl (lv_at hl 3 rfl) ?_
  refine lv_iconst (v := 3) hx hb dL_law_569 (by decide) ?_
  refine lv_iadd hx hb dL_law_570 ?_
  obtain ⟨q571, e571, h⟩ := Option.bind_eq_some_iff.mp h
  refine rd_sld C0 hG e571 dL_law_571 ?_
  obtain ⟨q572, e572, h⟩ := Option.bind_eq_some_iff.mp h
  refine lyM (As := [.int q561, .int q566, .int q571]) (rest := [.int q553.1]) C0 (ct_X7_derivative l D ca b tw tt hd.2.1 w q561 q566 q571 e572) (cwV 3 hts gL_law_X7_derivative rfl rfl rfl (by decide +kernel) ⟨Nat.le_of_ble_eq_true rfl, Nat.le_of_ble_eq_true rfl⟩) hG rfl hl.1 rfl (Nat.le_of_ble_eq_true rfl) dL_law_572 (fun H locs hG => ?_)
  refine W.eq (g2 := F0 m 575 ls [.int q572.1, .int q553.1]) rfl ?_
  refine lv_icmp_eq (tgt := 1394) hx hb dL_law_575 (by decide) (fun c0 => ?_) (fun c0 => ?_)
  · replace h := ite_t h c0
    exact wl_next C0 k18 hk18 q553.2 q572.2 H locs x3 ls hG hl h
  · replace h := ite_f h c0
    exact absurd (Option.some.inj h) (by decide)
set_option maxHeartbeats 4000000 in
set_option maxRecDepth 100000 in
theorem wl_10 {p : Program} {l : Launch} {e : Env} {s : State} {m : MethodId} {below : List Frame} {meth : Method} {c : Code} {D : va_G} {ca : Nat → ClassId} {a b : Nat → Nat} {tw : Nat} {tt : Nat → Nat} {scr L : Nat} {xs : Nat → Int32} (C0 : LC p s m meth c D ca a b tw tt scr L xs) (k18 : XS → YS → Int32 → Option Int32) (hk18 : ∀ (v : XS) (w : YS) (H : Heap) (locs : List Loc) (x3 : Int32) (ls : Array Slot), LG s D ca a b v w H locs → lv_has ls 4 [(0, .ref scr), (1, .ref (a 0)), (2, .ref (b 0)), (3, .int x3)] → k18 v w x3 = some 1 → W p l e room_1 s m #[Value.ref scr] below meth c H locs 15 1797 (lw_Z below #[Value.ref scr] s) (F0 m 18 ls [])) (v : XS) (w : YS) (H : Heap) (locs : List Loc) (x3 : Int32) (ls : Array Slot) (hG : LG s D ca a b v w H locs) (hl : lv_has ls 4 [(0, .ref scr), (1, .ref (a 0)), (2, .ref (b 0)), (3, .int x3)]) (h : fl_10 k18 L xs v w x3 = some 1) : W p l e room_1 s m #[Value.ref scr] below meth c H locs 15 1797 (lw_Z below #[Value.ref scr] s) (F0 m 580 ls []) := by
  obtain ⟨hx, hb, hr, hml, hown, hts, hX, hbl, hlocks, hK, hT, hd⟩ := id C0
  unfold fl_10 at h
  refine lv_aload_n hx hb dL_law_580 rfl (lv_at hl 1 rfl) ?_
  refine lv_aload_n hx hb dL_law_581 rfl (lv_at hl 0 rfl) ?_
  refine lv_iload_n hx hb dL_law_582 rfl (lv_at hl 3 rfl) ?_
  refine lv_iconst (v := 1) hx hb dL_law_583 (by decide) ?_
  refine lv_iadd hx hb dL_law_584 ?_
  obtain ⟨q585, e585, h⟩ := Option.bind_eq_some_iff.mp h
  refine rd_sld C0 hG e585 dL_law_585 ?_
  refine lv_aload_n hx hb dL_law_586 rfl (lv_at hl 0 rfl) ?_
  refine lv_iload_n hx hb dL_law_587 rfl (lv_at hl 3 rfl) ?_
  refine lv_iconst (v := 2) hx hb dL_law_588 (by decide) ?_
  refine lv_iadd hx hb dL_law_589 ?_
  obtain ⟨q590, e590, h⟩ := Option.bind_eq_some_iff.mp h
  refine rd_sld C0 hG e590 dL_law_590 ?_
  obtain ⟨q591, e591, h⟩ := Option.bind_eq_some_iff.mp h
  refine lxM (As := [.int q585, .int q590]) (rest := []) C0 (ct_X6_flip l D ca a tw tt hd.1 v q585 q590 e591) (cwV 2 hts gL_law_X6_flip rfl rfl rfl (by decide +kernel) ⟨Nat.le_of_ble_eq_true rfl, Nat.le_of_ble_eq_true rfl⟩) hG rfl hl.1 rfl (Nat.le_of_ble_eq_true rfl) dL_law_591 (fun H locs hG => ?_)
  refine W.eq (g2 := F0 m 594 ls [.int q591.1]) rfl ?_
  refine lv_aload_n hx hb dL_law_594 rfl (lv_at hl 2 rfl) ?_
  refine lv_aload_n hx hb dL_law_595 rfl (lv_at hl 0 rfl) ?_
  refine lv_iload_n hx hb dL_law_596 rfl (lv_at hl 3 rfl) ?_
  refine lv_iconst (v := 1) hx hb dL_law_597 (by decide) ?_
  refine lv_iadd hx hb dL_law_598 ?_
  obtain ⟨q599, e599, h⟩ := Option.bind_eq_some_iff.mp h
  refine rd_sld C0 hG e599 dL_law_599 ?_
  refine lv_aload_n hx hb dL_law_600 rfl (lv_at hl 0 rfl) ?_
  refine lv_iload_n hx hb dL_law_601 rfl (lv_at hl 3 rfl) ?_
  refine lv_iconst (v := 2) hx hb dL_law_602 (by decide) ?_
  refine lv_iadd hx hb dL_law_603 ?_
  obtain ⟨q604, e604, h⟩ := Option.bind_eq_some_iff.mp h
  refine rd_sld C0 hG e604 dL_law_604 ?_
  obtain ⟨q605, e605, h⟩ := Option.bind_eq_some_iff.mp h
  refine lyM (As := [.int q599, .int q604]) (rest := [.int q591.1]) C0 (ct_X7_flip l D ca b tw tt hd.2.1 w q599 q604 e605) (cwV 2 hts gL_law_X7_flip rfl rfl rfl (by decide +kernel) ⟨Nat.le_of_ble_eq_true rfl, Nat.le_of_ble_eq_true rfl⟩) hG rfl hl.1 rfl (Nat.le_of_ble_eq_true rfl) dL_law_605 (fun H locs hG => ?_)
  refine W.eq (g2 := F0 m 608 ls [.int q605.1, .int q591.1]) rfl ?_
  refine lv_icmp_eq (tgt := 1394) hx hb dL_law_608 (by decide) (fun c0 => ?_) (fun c0 => ?_)
  · replace h := ite_t h c0
    exact wl_next C0 k18 hk18 q591.2 q605.2 H locs x3 ls hG hl h
  · replace h := ite_f h c0
    exact absurd (Option.some.inj h) (by decide)
set_option maxHeartbeats 4000000 in
set_option maxRecDepth 100000 in
theorem wl_11 {p : Program} {l : Launch} {e : Env} {s : State} {m : MethodId} {below : List Frame} {meth : Method} {c : Code} {D : va_G} {ca : Nat → ClassId} {a b : Nat → Nat} {tw : Nat} {tt : Nat → Nat} {scr L : Nat} {xs : Nat → Int32} (C0 : LC p s m meth c D ca a b tw tt scr L xs) (k18 : XS → YS → Int32 → Option Int32) (hk18 : ∀ (v : XS) (w : YS) (H : Heap) (locs : List Loc) (x3 : Int32) (ls : Array Slot), LG s D ca a b v w H locs → lv_has ls 4 [(0, .ref scr), (1, .ref (a 0)), (2, .ref (b 0)), (3, .int x3)] → k18 v w x3 = some 1 → W p l e room_1 s m #[Value.ref scr] below meth c H locs 15 1797 (lw_Z below #[Value.ref scr] s) (F0 m 18 ls [])) (v : XS) (w : YS) (H : Heap) (locs : List Loc) (x3 : Int32) (ls : Array Slot) (hG : LG s D ca a b v w H locs) (hl : lv_has ls 4 [(0, .ref scr), (1, .ref (a 0)), (2, .ref (b 0)), (3, .int x3)]) (h : fl_11 k18 L xs v w x3 = some 1) : W p l e room_1 s m #[Value.ref scr] below meth c H locs 15 1797 (lw_Z below #[Value.ref scr] s) (F0 m 613 ls []) := by
  obtain ⟨hx, hb, hr, hml, hown, hts, hX, hbl, hlocks, hK, hT, hd⟩ := id C0
  unfold fl_11 at h
  refine lv_aload_n hx hb dL_law_613 rfl (lv_at hl 1 rfl) ?_
  refine lv_aload_n hx hb dL_law_614 rfl (lv_at hl 0 rfl) ?_
  refine lv_iload_n hx hb dL_law_615 rfl (lv_at hl 3 rfl) ?_
  refine lv_iconst (v := 1) hx hb dL_law_616 (by decide) ?_
  refine lv_iadd hx hb dL_law_617 ?_
  obtain ⟨q618, e618, h⟩ := Option.bind_eq_some_iff.mp h
  refine rd_sld C0 hG e618 dL_law_618 ?_
  refine lv_aload_n hx hb dL_law_619 rfl (lv_at hl 0 rfl) ?_
  refine lv_iload_n hx hb dL_law_620 rfl (lv_at hl 3 rfl) ?_
  refine lv_iconst (v := 2) hx hb dL_law_621 (by decide) ?_
  refine lv_iadd hx hb dL_law_622 ?_
  obtain ⟨q623, e623, h⟩ := Option.bind_eq_some_iff.mp h
  refine rd_sld C0 hG e623 dL_law_623 ?_
  refine lv_aload_n hx hb dL_law_624 rfl (lv_at hl 0 rfl) ?_
  refine lv_iload_n hx hb dL_law_625 rfl (lv_at hl 3 rfl) ?_
  refine lv_iconst (v := 3) hx hb dL_law_626 (by decide) ?_
  refine lv_iadd hx hb dL_law_627 ?_
  obtain ⟨q628, e628, h⟩ := Option.bind_eq_some_iff.mp h
  refine rd_sld C0 hG e628 dL_law_628 ?_
  obtain ⟨q629, e629, h⟩ := Option.bind_eq_some_iff.mp h
  refine lxM (As := [.int q618, .int q623, .int q628]) (rest := []) C0 (ct_X6_exchange l D ca a tw tt hd.1 v q618 q623 q628 e629) (cwV 3 hts gL_law_X6_exchange rfl rfl rfl (by decide +kernel) ⟨Nat.le_of_ble_eq_true rfl, Nat.le_of_ble_eq_true rfl⟩) hG rfl hl.1 rfl (Nat.le_of_ble_eq_true rfl) dL_law_629 (fun H locs hG => ?_)
  refine W.eq (g2 := F0 m 632 ls [.int q629.1]) rfl ?_
  refine lv_aload_n hx hb dL_law_632 rfl (lv_at hl 2 rfl) ?_
  refine lv_aload_n hx hb dL_law_633 rfl (lv_at hl 0 rfl) ?_
  refine lv_iload_n hx hb dL_law_634 rfl (lv_at hl 3 rfl) ?_
  refine lv_iconst (v := 1) hx hb dL_law_635 (by decide) ?_
  refine lv_iadd hx hb dL_law_636 ?_
  obtain ⟨q637, e637, h⟩ := Option.bind_eq_some_iff.mp h
  refine rd_sld C0 hG e637 dL_law_637 ?_
  refine lv_aload_n hx hb dL_law_638 rfl (lv_at hl 0 rfl) ?_
  refine lv_iload_n hx hb dL_law_639 rfl (lv_at hl 3 rfl) ?_
  refine lv_iconst (v := 2) hx hb dL_law_640 (by decide) ?_
  refine lv_iadd hx hb dL_law_641 ?_
  obtain ⟨q642, e642, h⟩ := Option.bind_eq_some_iff.mp h
  refine rd_sld C0 hG e642 dL_law_642 ?_
  refine lv_aload_n hx hb dL_law_643 rfl (lv_at hl 0 rfl) ?_
  refine lv_iload_n hx hb dL_law_644 rfl (lv_at hl 3 rfl) ?_
  refine lv_iconst (v := 3) hx hb dL_law_645 (by decide) ?_
  refine lv_iadd hx hb dL_law_646 ?_
  obtain ⟨q647, e647, h⟩ := Option.bind_eq_some_iff.mp h
  refine rd_sld C0 hG e647 dL_law_647 ?_
  obtain ⟨q648, e648, h⟩ := Option.bind_eq_some_iff.mp h
  refine lyM (As := [.int q637, .int q642, .int q647]) (rest := [.int q629.1]) C0 (ct_X7_exchange l D ca b tw tt hd.2.1 w q637 q642 q647 e648) (cwV 3 hts gL_law_X7_exchange rfl rfl rfl (by decide +kernel) ⟨Nat.le_of_ble_eq_true rfl, Nat.le_of_ble_eq_true rfl⟩) hG rfl hl.1 rfl (Nat.le_of_ble_eq_true rfl) dL_law_648 (fun H locs hG => ?_)
  refine W.eq (g2 := F0 m 651 ls [.int q648.1, .int q629.1]) rfl ?_
  refine lv_icmp_eq (tgt := 1394) hx hb dL_law_651 (by decide) (fun c0 => ?_) (fun c0 => ?_)
  · replace h := ite_t h c0
    exact wl_next C0 k18 hk18 q629.2 q648.2 H locs x3 ls hG hl h
  · replace h := ite_f h c0
    exact absurd (Option.some.inj h) (by decide)
set_option maxHeartbeats 4000000 in
set_option maxRecDepth 100000 in
theorem wl_12 {p : Program} {l : Launch} {e : Env} {s : State} {m : MethodId} {below : List Frame} {meth : Method} {c : Code} {D : va_G} {ca : Nat → ClassId} {a b : Nat → Nat} {tw : Nat} {tt : Nat → Nat} {scr L : Nat} {xs : Nat → Int32} (C0 : LC p s m meth c D ca a b tw tt scr L xs) (k18 : XS → YS → Int32 → Option Int32) (hk18 : ∀ (v : XS) (w : YS) (H : Heap) (locs : List Loc) (x3 : Int32) (ls : Array Slot), LG s D ca a b v w H locs → lv_has ls 4 [(0, .ref scr), (1, .ref (a 0)), (2, .ref (b 0)), (3, .int x3)] → k18 v w x3 = some 1 → W p l e room_1 s m #[Value.ref scr] below meth c H locs 15 1797 (lw_Z below #[Value.ref scr] s) (F0 m 18 ls [])) (v : XS) (w : YS) (H : Heap) (locs : List Loc) (x3 : Int32) (ls : Array Slot) (hG : LG s D ca a b v w H locs) (hl : lv_has ls 4 [(0, .ref scr), (1, .ref (a 0)), (2, .ref (b 0)), (3, .int x3)]) (h : fl_12 k18 L xs v w x3 = some 1) : W p l e room_1 s m #[Value.ref scr] below meth c H locs 15 1797 (lw_Z below #[Value.ref scr] s) (F0 m 656 ls []) := by
  obtain ⟨hx, hb, hr, hml, hown, hts, hX, hbl, hlocks, hK, hT, hd⟩ := id C0
  unfold fl_12 at h
  refine lv_aload_n hx hb dL_law_656 rfl (lv_at hl 1 rfl) ?_
  obtain ⟨q657, e657, h⟩ := Option.bind_eq_some_iff.mp h
  refine lxM (As := []) (rest := []) C0 (ct_X6_undo l D ca a tw tt hd.1 v  e657) (cwV 0 hts gL_law_X6_undo rfl rfl rfl (by decide +kernel) ⟨Nat.le_of_ble_eq_true rfl, Nat.le_of_ble_eq_true rfl⟩) hG rfl hl.1 rfl (Nat.le_of_ble_eq_true rfl) dL_law_657 (fun H locs hG => ?_)
  refine W.eq (g2 := F0 m 660 ls [.int q657.1]) rfl ?_
  refine lv_aload_n hx hb dL_law_660 rfl (lv_at hl 2 rfl) ?_
  obtain ⟨q661, e661, h⟩ := Option.bind_eq_some_iff.mp h
  refine lyM (As := []) (rest := [.int q657.1]) C0 (ct_X7_undo l D ca b tw tt hd.2.1 w  e661) (cwV 0 hts gL_law_X7_undo rfl rfl rfl (by decide +kernel) ⟨Nat.le_of_ble_eq_true rfl, Nat.le_of_ble_eq_true rfl⟩) hG rfl hl.1 rfl (Nat.le_of_ble_eq_true rfl) dL_law_661 (fun H locs hG => ?_)
  refine W.eq (g2 := F0 m 664 ls [.int q661.1, .int q657.1]) rfl ?_
  refine lv_icmp_eq (tgt := 1394) hx hb dL_law_664 (by decide) (fun c0 => ?_) (fun c0 => ?_)
  · replace h := ite_t h c0
    exact wl_next C0 k18 hk18 q657.2 q661.2 H locs x3 ls hG hl h
  · replace h := ite_f h c0
    exact absurd (Option.some.inj h) (by decide)
set_option maxHeartbeats 4000000 in
set_option maxRecDepth 100000 in
theorem wl_13 {p : Program} {l : Launch} {e : Env} {s : State} {m : MethodId} {below : List Frame} {meth : Method} {c : Code} {D : va_G} {ca : Nat → ClassId} {a b : Nat → Nat} {tw : Nat} {tt : Nat → Nat} {scr L : Nat} {xs : Nat → Int32} (C0 : LC p s m meth c D ca a b tw tt scr L xs) (k18 : XS → YS → Int32 → Option Int32) (hk18 : ∀ (v : XS) (w : YS) (H : Heap) (locs : List Loc) (x3 : Int32) (ls : Array Slot), LG s D ca a b v w H locs → lv_has ls 4 [(0, .ref scr), (1, .ref (a 0)), (2, .ref (b 0)), (3, .int x3)] → k18 v w x3 = some 1 → W p l e room_1 s m #[Value.ref scr] below meth c H locs 15 1797 (lw_Z below #[Value.ref scr] s) (F0 m 18 ls [])) (v : XS) (w : YS) (H : Heap) (locs : List Loc) (x3 : Int32) (ls : Array Slot) (hG : LG s D ca a b v w H locs) (hl : lv_has ls 4 [(0, .ref scr), (1, .ref (a 0)), (2, .ref (b 0)), (3, .int x3)]) (h : fl_13 k18 L xs v w x3 = some 1) : W p l e room_1 s m #[Value.ref scr] below meth c H locs 15 1797 (lw_Z below #[Value.ref scr] s) (F0 m 669 ls []) := by
  obtain ⟨hx, hb, hr, hml, hown, hts, hX, hbl, hlocks, hK, hT, hd⟩ := id C0
  unfold fl_13 at h
  refine lv_aload_n hx hb dL_law_669 rfl (lv_at hl 1 rfl) ?_
  refine lv_aload_n hx hb dL_law_670 rfl (lv_at hl 0 rfl) ?_
  refine lv_iload_n hx hb dL_law_671 rfl (lv_at hl 3 rfl) ?_
  refine lv_iconst (v := 1) hx hb dL_law_672 (by decide) ?_
  refine lv_iadd hx hb dL_law_673 ?_
  obtain ⟨q674, e674, h⟩ := Option.bind_eq_some_iff.mp h
  refine rd_sld C0 hG e674 dL_law_674 ?_
  refine lv_aload_n hx hb dL_law_675 rfl (lv_at hl 0 rfl) ?_
  refine lv_iload_n hx hb dL_law_676 rfl (lv_at hl 3 rfl) ?_
  refine lv_iconst (v := 2) hx hb dL_law_677 (by decide) ?_
  refine lv_iadd hx hb dL_law_678 ?_
  obtain ⟨q679, e679, h⟩ := Option.bind_eq_some_iff.mp h
  refine rd_sld C0 hG e679 dL_law_679 ?_
  obtain ⟨q680, e680, h⟩ := Option.bind_eq_some_iff.mp h
  refine lxH (As := [.int q674, .int q679]) (rest := []) C0 (ct_X6_has l D ca a tw tt v q674 q679 e680) (cwV 2 hts gL_law_X6_has rfl rfl rfl (by decide +kernel) ⟨Nat.le_of_ble_eq_true rfl, Nat.le_of_ble_eq_true rfl⟩) hG rfl hl.1 rfl (Nat.le_of_ble_eq_true rfl) dL_law_680 ?_
  refine W.eq (g2 := F0 m 683 ls [.int q680]) rfl ?_
  refine lv_aload_n hx hb dL_law_683 rfl (lv_at hl 2 rfl) ?_
  refine lv_aload_n hx hb dL_law_684 rfl (lv_at hl 0 rfl) ?_
  refine lv_iload_n hx hb dL_law_685 rfl (lv_at hl 3 rfl) ?_
  refine lv_iconst (v := 1) hx hb dL_law_686 (by decide) ?_
  refine lv_iadd hx hb dL_law_687 ?_
  obtain ⟨q688, e688, h⟩ := Option.bind_eq_some_iff.mp h
  refine rd_sld C0 hG e688 dL_law_688 ?_
  refine lv_aload_n hx hb dL_law_689 rfl (lv_at hl 0 rfl) ?_
  refine lv_iload_n hx hb dL_law_690 rfl (lv_at hl 3 rfl) ?_
  refine lv_iconst (v := 2) hx hb dL_law_691 (by decide) ?_
  refine lv_iadd hx hb dL_law_692 ?_
  obtain ⟨q693, e693, h⟩ := Option.bind_eq_some_iff.mp h
  refine rd_sld C0 hG e693 dL_law_693 ?_
  obtain ⟨q694, e694, h⟩ := Option.bind_eq_some_iff.mp h
  refine lyH (As := [.int q688, .int q693]) (rest := [.int q680]) C0 (ct_X7_has l D ca b tw tt w q688 q693 e694) (cwV 2 hts gL_law_X7_has rfl rfl rfl (by decide +kernel) ⟨Nat.le_of_ble_eq_true rfl, Nat.le_of_ble_eq_true rfl⟩) hG rfl hl.1 rfl (Nat.le_of_ble_eq_true rfl) dL_law_694 ?_
  refine W.eq (g2 := F0 m 697 ls [.int q694, .int q680]) rfl ?_
  refine lv_icmp_eq (tgt := 1394) hx hb dL_law_697 (by decide) (fun c0 => ?_) (fun c0 => ?_)
  · replace h := ite_t h c0
    exact wl_next C0 k18 hk18 v w H locs x3 ls hG hl h
  · replace h := ite_f h c0
    exact absurd (Option.some.inj h) (by decide)
set_option maxHeartbeats 4000000 in
set_option maxRecDepth 100000 in
theorem wl_14 {p : Program} {l : Launch} {e : Env} {s : State} {m : MethodId} {below : List Frame} {meth : Method} {c : Code} {D : va_G} {ca : Nat → ClassId} {a b : Nat → Nat} {tw : Nat} {tt : Nat → Nat} {scr L : Nat} {xs : Nat → Int32} (C0 : LC p s m meth c D ca a b tw tt scr L xs) (k18 : XS → YS → Int32 → Option Int32) (hk18 : ∀ (v : XS) (w : YS) (H : Heap) (locs : List Loc) (x3 : Int32) (ls : Array Slot), LG s D ca a b v w H locs → lv_has ls 4 [(0, .ref scr), (1, .ref (a 0)), (2, .ref (b 0)), (3, .int x3)] → k18 v w x3 = some 1 → W p l e room_1 s m #[Value.ref scr] below meth c H locs 15 1797 (lw_Z below #[Value.ref scr] s) (F0 m 18 ls [])) (v : XS) (w : YS) (H : Heap) (locs : List Loc) (x3 : Int32) (ls : Array Slot) (hG : LG s D ca a b v w H locs) (hl : lv_has ls 4 [(0, .ref scr), (1, .ref (a 0)), (2, .ref (b 0)), (3, .int x3)]) (h : fl_14 k18 L xs v w x3 = some 1) : W p l e room_1 s m #[Value.ref scr] below meth c H locs 15 1797 (lw_Z below #[Value.ref scr] s) (F0 m 702 ls []) := by
  obtain ⟨hx, hb, hr, hml, hown, hts, hX, hbl, hlocks, hK, hT, hd⟩ := id C0
  unfold fl_14 at h
  refine lv_aload_n hx hb dL_law_702 rfl (lv_at hl 1 rfl) ?_
  refine lv_aload_n hx hb dL_law_703 rfl (lv_at hl 0 rfl) ?_
  refine lv_iload_n hx hb dL_law_704 rfl (lv_at hl 3 rfl) ?_
  refine lv_iconst (v := 1) hx hb dL_law_705 (by decide) ?_
  refine lv_iadd hx hb dL_law_706 ?_
  obtain ⟨q707, e707, h⟩ := Option.bind_eq_some_iff.mp h
  refine rd_sld C0 hG e707 dL_law_707 ?_
  obtain ⟨q708, e708, h⟩ := Option.bind_eq_some_iff.mp h
  refine lxH (As := [.int q707]) (rest := []) C0 (ct_X6_terms l D ca a tw tt v q707 e708) (cwV 1 hts gL_law_X6_terms rfl rfl rfl (by decide +kernel) ⟨Nat.le_of_ble_eq_true rfl, Nat.le_of_ble_eq_true rfl⟩) hG rfl hl.1 rfl (Nat.le_of_ble_eq_true rfl) dL_law_708 ?_
  refine W.eq (g2 := F0 m 711 ls [.int q708]) rfl ?_
  refine lv_aload_n hx hb dL_law_711 rfl (lv_at hl 2 rfl) ?_
  refine lv_aload_n hx hb dL_law_712 rfl (lv_at hl 0 rfl) ?_
  refine lv_iload_n hx hb dL_law_713 rfl (lv_at hl 3 rfl) ?_
  refine lv_iconst (v := 1) hx hb dL_law_714 (by decide) ?_
  refine lv_iadd hx hb dL_law_715 ?_
  obtain ⟨q716, e716, h⟩ := Option.bind_eq_some_iff.mp h
  refine rd_sld C0 hG e716 dL_law_716 ?_
  obtain ⟨q717, e717, h⟩ := Option.bind_eq_some_iff.mp h
  refine lyH (As := [.int q716]) (rest := [.int q708]) C0 (ct_X7_terms l D ca b tw tt w q716 e717) (cwV 1 hts gL_law_X7_terms rfl rfl rfl (by decide +kernel) ⟨Nat.le_of_ble_eq_true rfl, Nat.le_of_ble_eq_true rfl⟩) hG rfl hl.1 rfl (Nat.le_of_ble_eq_true rfl) dL_law_717 ?_
  refine W.eq (g2 := F0 m 720 ls [.int q717, .int q708]) rfl ?_
  refine lv_icmp_eq (tgt := 1394) hx hb dL_law_720 (by decide) (fun c0 => ?_) (fun c0 => ?_)
  · replace h := ite_t h c0
    exact wl_next C0 k18 hk18 v w H locs x3 ls hG hl h
  · replace h := ite_f h c0
    exact absurd (Option.some.inj h) (by decide)
set_option maxHeartbeats 4000000 in
set_option maxRecDepth 100000 in
theorem wl_15 {p : Program} {l : Launch} {e : Env} {s : State} {m : MethodId} {below : List Frame} {meth : Method} {c : Code} {D : va_G} {ca : Nat → ClassId} {a b : Nat → Nat} {tw : Nat} {tt : Nat → Nat} {scr L : Nat} {xs : Nat → Int32} (C0 : LC p s m meth c D ca a b tw tt scr L xs) (k18 : XS → YS → Int32 → Option Int32) (hk18 : ∀ (v : XS) (w : YS) (H : Heap) (locs : List Loc) (x3 : Int32) (ls : Array Slot), LG s D ca a b v w H locs → lv_has ls 4 [(0, .ref scr), (1, .ref (a 0)), (2, .ref (b 0)), (3, .int x3)] → k18 v w x3 = some 1 → W p l e room_1 s m #[Value.ref scr] below meth c H locs 15 1797 (lw_Z below #[Value.ref scr] s) (F0 m 18 ls [])) (v : XS) (w : YS) (H : Heap) (locs : List Loc) (x3 : Int32) (ls : Array Slot) (hG : LG s D ca a b v w H locs) (hl : lv_has ls 4 [(0, .ref scr), (1, .ref (a 0)), (2, .ref (b 0)), (3, .int x3)]) (h : fl_15 k18 L xs v w x3 = some 1) : W p l e room_1 s m #[Value.ref scr] below meth c H locs 15 1797 (lw_Z below #[Value.ref scr] s) (F0 m 725 ls []) := by
  obtain ⟨hx, hb, hr, hml, hown, hts, hX, hbl, hlocks, hK, hT, hd⟩ := id C0
  unfold fl_15 at h
  refine lv_aload_n hx hb dL_law_725 rfl (lv_at hl 1 rfl) ?_
  refine lv_aload_n hx hb dL_law_726 rfl (lv_at hl 0 rfl) ?_
  refine lv_iload_n hx hb dL_law_727 rfl (lv_at hl 3 rfl) ?_
  refine lv_iconst (v := 1) hx hb dL_law_728 (by decide) ?_
  refine lv_iadd hx hb dL_law_729 ?_
  obtain ⟨q730, e730, h⟩ := Option.bind_eq_some_iff.mp h
  refine rd_sld C0 hG e730 dL_law_730 ?_
  obtain ⟨q731, e731, h⟩ := Option.bind_eq_some_iff.mp h
  refine lxH (As := [.int q730]) (rest := []) C0 (ct_X6_degree l D ca a tw tt v q730 e731) (cwV 1 hts gL_law_X6_degree rfl rfl rfl (by decide +kernel) ⟨Nat.le_of_ble_eq_true rfl, Nat.le_of_ble_eq_true rfl⟩) hG rfl hl.1 rfl (Nat.le_of_ble_eq_true rfl) dL_law_731 ?_
  refine W.eq (g2 := F0 m 734 ls [.int q731]) rfl ?_
  refine lv_aload_n hx hb dL_law_734 rfl (lv_at hl 2 rfl) ?_
  refine lv_aload_n hx hb dL_law_735 rfl (lv_at hl 0 rfl) ?_
  refine lv_iload_n hx hb dL_law_736 rfl (lv_at hl 3 rfl) ?_
  refine lv_iconst (v := 1) hx hb dL_law_737 (by decide) ?_
  refine lv_iadd hx hb dL_law_738 ?_
  obtain ⟨q739, e739, h⟩ := Option.bind_eq_some_iff.mp h
  refine rd_sld C0 hG e739 dL_law_739 ?_
  obtain ⟨q740, e740, h⟩ := Option.bind_eq_some_iff.mp h
  refine lyH (As := [.int q739]) (rest := [.int q731]) C0 (ct_X7_degree l D ca b tw tt w q739 e740) (cwV 1 hts gL_law_X7_degree rfl rfl rfl (by decide +kernel) ⟨Nat.le_of_ble_eq_true rfl, Nat.le_of_ble_eq_true rfl⟩) hG rfl hl.1 rfl (Nat.le_of_ble_eq_true rfl) dL_law_740 ?_
  refine W.eq (g2 := F0 m 743 ls [.int q740, .int q731]) rfl ?_
  refine lv_icmp_eq (tgt := 1394) hx hb dL_law_743 (by decide) (fun c0 => ?_) (fun c0 => ?_)
  · replace h := ite_t h c0
    exact wl_next C0 k18 hk18 v w H locs x3 ls hG hl h
  · replace h := ite_f h c0
    exact absurd (Option.some.inj h) (by decide)
set_option maxHeartbeats 4000000 in
set_option maxRecDepth 100000 in
theorem wl_16 {p : Program} {l : Launch} {e : Env} {s : State} {m : MethodId} {below : List Frame} {meth : Method} {c : Code} {D : va_G} {ca : Nat → ClassId} {a b : Nat → Nat} {tw : Nat} {tt : Nat → Nat} {scr L : Nat} {xs : Nat → Int32} (C0 : LC p s m meth c D ca a b tw tt scr L xs) (k18 : XS → YS → Int32 → Option Int32) (hk18 : ∀ (v : XS) (w : YS) (H : Heap) (locs : List Loc) (x3 : Int32) (ls : Array Slot), LG s D ca a b v w H locs → lv_has ls 4 [(0, .ref scr), (1, .ref (a 0)), (2, .ref (b 0)), (3, .int x3)] → k18 v w x3 = some 1 → W p l e room_1 s m #[Value.ref scr] below meth c H locs 15 1797 (lw_Z below #[Value.ref scr] s) (F0 m 18 ls [])) (v : XS) (w : YS) (H : Heap) (locs : List Loc) (x3 : Int32) (ls : Array Slot) (hG : LG s D ca a b v w H locs) (hl : lv_has ls 4 [(0, .ref scr), (1, .ref (a 0)), (2, .ref (b 0)), (3, .int x3)]) (h : fl_16 k18 L xs v w x3 = some 1) : W p l e room_1 s m #[Value.ref scr] below meth c H locs 15 1797 (lw_Z below #[Value.ref scr] s) (F0 m 748 ls []) := by
  obtain ⟨hx, hb, hr, hml, hown, hts, hX, hbl, hlocks, hK, hT, hd⟩ := id C0
  unfold fl_16 at h
  refine lv_aload_n hx hb dL_law_748 rfl (lv_at hl 1 rfl) ?_
  refine lv_aload_n hx hb dL_law_749 rfl (lv_at hl 0 rfl) ?_
  refine lv_iload_n hx hb dL_law_750 rfl (lv_at hl 3 rfl) ?_
  refine lv_iconst (v := 1) hx hb dL_law_751 (by decide) ?_
  refine lv_iadd hx hb dL_law_752 ?_
  obtain ⟨q753, e753, h⟩ := Option.bind_eq_some_iff.mp h
  refine rd_sld C0 hG e753 dL_law_753 ?_
  obtain ⟨q754, e754, h⟩ := Option.bind_eq_some_iff.mp h
  refine lxH (As := [.int q753]) (rest := []) C0 (ct_X6_occurring l D ca a tw tt v q753 e754) (cwV 1 hts gL_law_X6_occurring rfl rfl rfl (by decide +kernel) ⟨Nat.le_of_ble_eq_true rfl, Nat.le_of_ble_eq_true rfl⟩) hG rfl hl.1 rfl (Nat.le_of_ble_eq_true rfl) dL_law_754 ?_
  refine W.eq (g2 := F0 m 757 ls [.int q754]) rfl ?_
  refine lv_aload_n hx hb dL_law_757 rfl (lv_at hl 2 rfl) ?_
  refine lv_aload_n hx hb dL_law_758 rfl (lv_at hl 0 rfl) ?_
  refine lv_iload_n hx hb dL_law_759 rfl (lv_at hl 3 rfl) ?_
  refine lv_iconst (v := 1) hx hb dL_law_760 (by decide) ?_
  refine lv_iadd hx hb dL_law_761 ?_
  obtain ⟨q762, e762, h⟩ := Option.bind_eq_some_iff.mp h
  refine rd_sld C0 hG e762 dL_law_762 ?_
  obtain ⟨q763, e763, h⟩ := Option.bind_eq_some_iff.mp h
  refine lyH (As := [.int q762]) (rest := [.int q754]) C0 (ct_X7_occurring l D ca b tw tt w q762 e763) (cwV 1 hts gL_law_X7_occurring rfl rfl rfl (by decide +kernel) ⟨Nat.le_of_ble_eq_true rfl, Nat.le_of_ble_eq_true rfl⟩) hG rfl hl.1 rfl (Nat.le_of_ble_eq_true rfl) dL_law_763 ?_
  refine W.eq (g2 := F0 m 766 ls [.int q763, .int q754]) rfl ?_
  refine lv_icmp_eq (tgt := 1394) hx hb dL_law_766 (by decide) (fun c0 => ?_) (fun c0 => ?_)
  · replace h := ite_t h c0
    exact wl_next C0 k18 hk18 v w H locs x3 ls hG hl h
  · replace h := ite_f h c0
    exact absurd (Option.some.inj h) (by decide)
set_option maxHeartbeats 4000000 in
set_option maxRecDepth 100000 in
theorem wl_17 {p : Program} {l : Launch} {e : Env} {s : State} {m : MethodId} {below : List Frame} {meth : Method} {c : Code} {D : va_G} {ca : Nat → ClassId} {a b : Nat → Nat} {tw : Nat} {tt : Nat → Nat} {scr L : Nat} {xs : Nat → Int32} (C0 : LC p s m meth c D ca a b tw tt scr L xs) (k18 : XS → YS → Int32 → Option Int32) (hk18 : ∀ (v : XS) (w : YS) (H : Heap) (locs : List Loc) (x3 : Int32) (ls : Array Slot), LG s D ca a b v w H locs → lv_has ls 4 [(0, .ref scr), (1, .ref (a 0)), (2, .ref (b 0)), (3, .int x3)] → k18 v w x3 = some 1 → W p l e room_1 s m #[Value.ref scr] below meth c H locs 15 1797 (lw_Z below #[Value.ref scr] s) (F0 m 18 ls [])) (v : XS) (w : YS) (H : Heap) (locs : List Loc) (x3 : Int32) (ls : Array Slot) (hG : LG s D ca a b v w H locs) (hl : lv_has ls 4 [(0, .ref scr), (1, .ref (a 0)), (2, .ref (b 0)), (3, .int x3)]) (h : fl_17 k18 L xs v w x3 = some 1) : W p l e room_1 s m #[Value.ref scr] below meth c H locs 15 1797 (lw_Z below #[Value.ref scr] s) (F0 m 771 ls []) := by
  obtain ⟨hx, hb, hr, hml, hown, hts, hX, hbl, hlocks, hK, hT, hd⟩ := id C0
  unfold fl_17 at h
  refine lv_aload_n hx hb dL_law_771 rfl (lv_at hl 1 rfl) ?_
  refine lv_aload_n hx hb dL_law_772 rfl (lv_at hl 0 rfl) ?_
  refine lv_iload_n hx hb dL_law_773 rfl (lv_at hl 3 rfl) ?_
  refine lv_iconst (v := 1) hx hb dL_law_774 (by decide) ?_
  refine lv_iadd hx hb dL_law_775 ?_
  obtain ⟨q776, e776, h⟩ := Option.bind_eq_some_iff.mp h
  refine rd_sld C0 hG e776 dL_law_776 ?_
  obtain ⟨q777, e777, h⟩ := Option.bind_eq_some_iff.mp h
  refine lxM (As := [.int q776]) (rest := []) C0 (ct_X6_size l D ca a tw tt hd.1 v q776 e777) (cwV 1 hts gL_law_X6_size rfl rfl rfl (by decide +kernel) ⟨Nat.le_of_ble_eq_true rfl, Nat.le_of_ble_eq_true rfl⟩) hG rfl hl.1 rfl (Nat.le_of_ble_eq_true rfl) dL_law_777 (fun H locs hG => ?_)
  refine W.eq (g2 := F0 m 780 ls [.int q777.1]) rfl ?_
  refine lv_aload_n hx hb dL_law_780 rfl (lv_at hl 2 rfl) ?_
  refine lv_aload_n hx hb dL_law_781 rfl (lv_at hl 0 rfl) ?_
  refine lv_iload_n hx hb dL_law_782 rfl (lv_at hl 3 rfl) ?_
  refine lv_iconst (v := 1) hx hb dL_law_783 (by decide) ?_
  refine lv_iadd hx hb dL_law_784 ?_
  obtain ⟨q785, e785, h⟩ := Option.bind_eq_some_iff.mp h
  refine rd_sld C0 hG e785 dL_law_785 ?_
  obtain ⟨q786, e786, h⟩ := Option.bind_eq_some_iff.mp h
  refine lyM (As := [.int q785]) (rest := [.int q777.1]) C0 (ct_X7_size l D ca b tw tt hd.2.1 w q785 e786) (cwV 1 hts gL_law_X7_size rfl rfl rfl (by decide +kernel) ⟨Nat.le_of_ble_eq_true rfl, Nat.le_of_ble_eq_true rfl⟩) hG rfl hl.1 rfl (Nat.le_of_ble_eq_true rfl) dL_law_786 (fun H locs hG => ?_)
  refine W.eq (g2 := F0 m 789 ls [.int q786.1, .int q777.1]) rfl ?_
  refine lv_icmp_eq (tgt := 1394) hx hb dL_law_789 (by decide) (fun c0 => ?_) (fun c0 => ?_)
  · replace h := ite_t h c0
    exact wl_next C0 k18 hk18 q777.2 q786.2 H locs x3 ls hG hl h
  · replace h := ite_f h c0
    exact absurd (Option.some.inj h) (by decide)
set_option maxHeartbeats 4000000 in
set_option maxRecDepth 100000 in
theorem wl_18 {p : Program} {l : Launch} {e : Env} {s : State} {m : MethodId} {below : List Frame} {meth : Method} {c : Code} {D : va_G} {ca : Nat → ClassId} {a b : Nat → Nat} {tw : Nat} {tt : Nat → Nat} {scr L : Nat} {xs : Nat → Int32} (C0 : LC p s m meth c D ca a b tw tt scr L xs) (k18 : XS → YS → Int32 → Option Int32) (hk18 : ∀ (v : XS) (w : YS) (H : Heap) (locs : List Loc) (x3 : Int32) (ls : Array Slot), LG s D ca a b v w H locs → lv_has ls 4 [(0, .ref scr), (1, .ref (a 0)), (2, .ref (b 0)), (3, .int x3)] → k18 v w x3 = some 1 → W p l e room_1 s m #[Value.ref scr] below meth c H locs 15 1797 (lw_Z below #[Value.ref scr] s) (F0 m 18 ls [])) (v : XS) (w : YS) (H : Heap) (locs : List Loc) (x3 : Int32) (ls : Array Slot) (hG : LG s D ca a b v w H locs) (hl : lv_has ls 4 [(0, .ref scr), (1, .ref (a 0)), (2, .ref (b 0)), (3, .int x3)]) (h : fl_18 k18 L xs v w x3 = some 1) : W p l e room_1 s m #[Value.ref scr] below meth c H locs 15 1797 (lw_Z below #[Value.ref scr] s) (F0 m 794 ls []) := by
  obtain ⟨hx, hb, hr, hml, hown, hts, hX, hbl, hlocks, hK, hT, hd⟩ := id C0
  unfold fl_18 at h
  refine lv_aload_n hx hb dL_law_794 rfl (lv_at hl 1 rfl) ?_
  obtain ⟨q795, e795, h⟩ := Option.bind_eq_some_iff.mp h
  refine lxM (As := []) (rest := []) C0 (ct_X6_sharedSize l D ca a tw tt hd.1 v  e795) (cwV 0 hts gL_law_X6_sharedSize rfl rfl rfl (by decide +kernel) ⟨Nat.le_of_ble_eq_true rfl, Nat.le_of_ble_eq_true rfl⟩) hG rfl hl.1 rfl (Nat.le_of_ble_eq_true rfl) dL_law_795 (fun H locs hG => ?_)
  refine W.eq (g2 := F0 m 798 ls [.int q795.1]) rfl ?_
  refine lv_aload_n hx hb dL_law_798 rfl (lv_at hl 2 rfl) ?_
  obtain ⟨q799, e799, h⟩ := Option.bind_eq_some_iff.mp h
  refine lyM (As := []) (rest := [.int q795.1]) C0 (ct_X7_sharedSize l D ca b tw tt hd.2.1 w  e799) (cwV 0 hts gL_law_X7_sharedSize rfl rfl rfl (by decide +kernel) ⟨Nat.le_of_ble_eq_true rfl, Nat.le_of_ble_eq_true rfl⟩) hG rfl hl.1 rfl (Nat.le_of_ble_eq_true rfl) dL_law_799 (fun H locs hG => ?_)
  refine W.eq (g2 := F0 m 802 ls [.int q799.1, .int q795.1]) rfl ?_
  refine lv_icmp_eq (tgt := 1394) hx hb dL_law_802 (by decide) (fun c0 => ?_) (fun c0 => ?_)
  · replace h := ite_t h c0
    exact wl_next C0 k18 hk18 q795.2 q799.2 H locs x3 ls hG hl h
  · replace h := ite_f h c0
    exact absurd (Option.some.inj h) (by decide)
set_option maxHeartbeats 4000000 in
set_option maxRecDepth 100000 in
theorem wl_19 {p : Program} {l : Launch} {e : Env} {s : State} {m : MethodId} {below : List Frame} {meth : Method} {c : Code} {D : va_G} {ca : Nat → ClassId} {a b : Nat → Nat} {tw : Nat} {tt : Nat → Nat} {scr L : Nat} {xs : Nat → Int32} (C0 : LC p s m meth c D ca a b tw tt scr L xs) (k18 : XS → YS → Int32 → Option Int32) (hk18 : ∀ (v : XS) (w : YS) (H : Heap) (locs : List Loc) (x3 : Int32) (ls : Array Slot), LG s D ca a b v w H locs → lv_has ls 4 [(0, .ref scr), (1, .ref (a 0)), (2, .ref (b 0)), (3, .int x3)] → k18 v w x3 = some 1 → W p l e room_1 s m #[Value.ref scr] below meth c H locs 15 1797 (lw_Z below #[Value.ref scr] s) (F0 m 18 ls [])) (v : XS) (w : YS) (H : Heap) (locs : List Loc) (x3 : Int32) (ls : Array Slot) (hG : LG s D ca a b v w H locs) (hl : lv_has ls 4 [(0, .ref scr), (1, .ref (a 0)), (2, .ref (b 0)), (3, .int x3)]) (h : fl_19 k18 L xs v w x3 = some 1) : W p l e room_1 s m #[Value.ref scr] below meth c H locs 15 1797 (lw_Z below #[Value.ref scr] s) (F0 m 807 ls []) := by
  obtain ⟨hx, hb, hr, hml, hown, hts, hX, hbl, hlocks, hK, hT, hd⟩ := id C0
  unfold fl_19 at h
  refine lv_aload_n hx hb dL_law_807 rfl (lv_at hl 1 rfl) ?_
  refine lv_aload_n hx hb dL_law_808 rfl (lv_at hl 0 rfl) ?_
  refine lv_iload_n hx hb dL_law_809 rfl (lv_at hl 3 rfl) ?_
  refine lv_iconst (v := 1) hx hb dL_law_810 (by decide) ?_
  refine lv_iadd hx hb dL_law_811 ?_
  obtain ⟨q812, e812, h⟩ := Option.bind_eq_some_iff.mp h
  refine rd_sld C0 hG e812 dL_law_812 ?_
  refine lv_aload_n hx hb dL_law_813 rfl (lv_at hl 0 rfl) ?_
  refine lv_iload_n hx hb dL_law_814 rfl (lv_at hl 3 rfl) ?_
  refine lv_iconst (v := 2) hx hb dL_law_815 (by decide) ?_
  refine lv_iadd hx hb dL_law_816 ?_
  obtain ⟨q817, e817, h⟩ := Option.bind_eq_some_iff.mp h
  refine rd_sld C0 hG e817 dL_law_817 ?_
  refine lv_aload_n hx hb dL_law_818 rfl (lv_at hl 0 rfl) ?_
  refine lv_iload_n hx hb dL_law_819 rfl (lv_at hl 3 rfl) ?_
  refine lv_iconst (v := 3) hx hb dL_law_820 (by decide) ?_
  refine lv_iadd hx hb dL_law_821 ?_
  obtain ⟨q822, e822, h⟩ := Option.bind_eq_some_iff.mp h
  refine rd_sld C0 hG e822 dL_law_822 ?_
  obtain ⟨q823, e823, h⟩ := Option.bind_eq_some_iff.mp h
  refine lxH (As := [.int q812, .int q817, .int q822]) (rest := []) C0 (ct_X6_termAt l D ca a tw tt v q812 q817 q822 e823) (cwV 3 hts gL_law_X6_termAt rfl rfl rfl (by decide +kernel) ⟨Nat.le_of_ble_eq_true rfl, Nat.le_of_ble_eq_true rfl⟩) hG rfl hl.1 rfl (Nat.le_of_ble_eq_true rfl) dL_law_823 ?_
  refine W.eq (g2 := F0 m 826 ls [.int q823]) rfl ?_
  refine lv_aload_n hx hb dL_law_826 rfl (lv_at hl 2 rfl) ?_
  refine lv_aload_n hx hb dL_law_827 rfl (lv_at hl 0 rfl) ?_
  refine lv_iload_n hx hb dL_law_828 rfl (lv_at hl 3 rfl) ?_
  refine lv_iconst (v := 1) hx hb dL_law_829 (by decide) ?_
  refine lv_iadd hx hb dL_law_830 ?_
  obtain ⟨q831, e831, h⟩ := Option.bind_eq_some_iff.mp h
  refine rd_sld C0 hG e831 dL_law_831 ?_
  refine lv_aload_n hx hb dL_law_832 rfl (lv_at hl 0 rfl) ?_
  refine lv_iload_n hx hb dL_law_833 rfl (lv_at hl 3 rfl) ?_
  refine lv_iconst (v := 2) hx hb dL_law_834 (by decide) ?_
  refine lv_iadd hx hb dL_law_835 ?_
  obtain ⟨q836, e836, h⟩ := Option.bind_eq_some_iff.mp h
  refine rd_sld C0 hG e836 dL_law_836 ?_
  refine lv_aload_n hx hb dL_law_837 rfl (lv_at hl 0 rfl) ?_
  refine lv_iload_n hx hb dL_law_838 rfl (lv_at hl 3 rfl) ?_
  refine lv_iconst (v := 3) hx hb dL_law_839 (by decide) ?_
  refine lv_iadd hx hb dL_law_840 ?_
  obtain ⟨q841, e841, h⟩ := Option.bind_eq_some_iff.mp h
  refine rd_sld C0 hG e841 dL_law_841 ?_
  obtain ⟨q842, e842, h⟩ := Option.bind_eq_some_iff.mp h
  refine lyH (As := [.int q831, .int q836, .int q841]) (rest := [.int q823]) C0 (ct_X7_termAt l D ca b tw tt w q831 q836 q841 e842) (cwV 3 hts gL_law_X7_termAt rfl rfl rfl (by decide +kernel) ⟨Nat.le_of_ble_eq_true rfl, Nat.le_of_ble_eq_true rfl⟩) hG rfl hl.1 rfl (Nat.le_of_ble_eq_true rfl) dL_law_842 ?_
  refine W.eq (g2 := F0 m 845 ls [.int q842, .int q823]) rfl ?_
  refine lv_icmp_eq (tgt := 1394) hx hb dL_law_845 (by decide) (fun c0 => ?_) (fun c0 => ?_)
  · replace h := ite_t h c0
    exact wl_next C0 k18 hk18 v w H locs x3 ls hG hl h
  · replace h := ite_f h c0
    exact absurd (Option.some.inj h) (by decide)
set_option maxHeartbeats 4000000 in
set_option maxRecDepth 100000 in
theorem wl_20 {p : Program} {l : Launch} {e : Env} {s : State} {m : MethodId} {below : List Frame} {meth : Method} {c : Code} {D : va_G} {ca : Nat → ClassId} {a b : Nat → Nat} {tw : Nat} {tt : Nat → Nat} {scr L : Nat} {xs : Nat → Int32} (C0 : LC p s m meth c D ca a b tw tt scr L xs) (k18 : XS → YS → Int32 → Option Int32) (hk18 : ∀ (v : XS) (w : YS) (H : Heap) (locs : List Loc) (x3 : Int32) (ls : Array Slot), LG s D ca a b v w H locs → lv_has ls 4 [(0, .ref scr), (1, .ref (a 0)), (2, .ref (b 0)), (3, .int x3)] → k18 v w x3 = some 1 → W p l e room_1 s m #[Value.ref scr] below meth c H locs 15 1797 (lw_Z below #[Value.ref scr] s) (F0 m 18 ls [])) (v : XS) (w : YS) (H : Heap) (locs : List Loc) (x3 : Int32) (ls : Array Slot) (hG : LG s D ca a b v w H locs) (hl : lv_has ls 4 [(0, .ref scr), (1, .ref (a 0)), (2, .ref (b 0)), (3, .int x3)]) (h : fl_20 k18 L xs v w x3 = some 1) : W p l e room_1 s m #[Value.ref scr] below meth c H locs 15 1797 (lw_Z below #[Value.ref scr] s) (F0 m 850 ls []) := by
  obtain ⟨hx, hb, hr, hml, hown, hts, hX, hbl, hlocks, hK, hT, hd⟩ := id C0
  unfold fl_20 at h
  refine lv_aload_n hx hb dL_law_850 rfl (lv_at hl 1 rfl) ?_
  refine lv_aload_n hx hb dL_law_851 rfl (lv_at hl 0 rfl) ?_
  refine lv_iload_n hx hb dL_law_852 rfl (lv_at hl 3 rfl) ?_
  refine lv_iconst (v := 1) hx hb dL_law_853 (by decide) ?_
  refine lv_iadd hx hb dL_law_854 ?_
  obtain ⟨q855, e855, h⟩ := Option.bind_eq_some_iff.mp h
  refine rd_sld C0 hG e855 dL_law_855 ?_
  refine lv_aload_n hx hb dL_law_856 rfl (lv_at hl 0 rfl) ?_
  refine lv_iload_n hx hb dL_law_857 rfl (lv_at hl 3 rfl) ?_
  refine lv_iconst (v := 2) hx hb dL_law_858 (by decide) ?_
  refine lv_iadd hx hb dL_law_859 ?_
  obtain ⟨q860, e860, h⟩ := Option.bind_eq_some_iff.mp h
  refine rd_sld C0 hG e860 dL_law_860 ?_
  obtain ⟨q861, e861, h⟩ := Option.bind_eq_some_iff.mp h
  refine lxH (As := [.int q855, .int q860]) (rest := []) C0 (ct_X6_value l D ca a tw tt v q855 q860 e861) (cwV 2 hts gL_law_X6_value rfl rfl rfl (by decide +kernel) ⟨Nat.le_of_ble_eq_true rfl, Nat.le_of_ble_eq_true rfl⟩) hG rfl hl.1 rfl (Nat.le_of_ble_eq_true rfl) dL_law_861 ?_
  refine W.eq (g2 := F0 m 864 ls [.int q861]) rfl ?_
  refine lv_aload_n hx hb dL_law_864 rfl (lv_at hl 2 rfl) ?_
  refine lv_aload_n hx hb dL_law_865 rfl (lv_at hl 0 rfl) ?_
  refine lv_iload_n hx hb dL_law_866 rfl (lv_at hl 3 rfl) ?_
  refine lv_iconst (v := 1) hx hb dL_law_867 (by decide) ?_
  refine lv_iadd hx hb dL_law_868 ?_
  obtain ⟨q869, e869, h⟩ := Option.bind_eq_some_iff.mp h
  refine rd_sld C0 hG e869 dL_law_869 ?_
  refine lv_aload_n hx hb dL_law_870 rfl (lv_at hl 0 rfl) ?_
  refine lv_iload_n hx hb dL_law_871 rfl (lv_at hl 3 rfl) ?_
  refine lv_iconst (v := 2) hx hb dL_law_872 (by decide) ?_
  refine lv_iadd hx hb dL_law_873 ?_
  obtain ⟨q874, e874, h⟩ := Option.bind_eq_some_iff.mp h
  refine rd_sld C0 hG e874 dL_law_874 ?_
  obtain ⟨q875, e875, h⟩ := Option.bind_eq_some_iff.mp h
  refine lyH (As := [.int q869, .int q874]) (rest := [.int q861]) C0 (ct_X7_value l D ca b tw tt w q869 q874 e875) (cwV 2 hts gL_law_X7_value rfl rfl rfl (by decide +kernel) ⟨Nat.le_of_ble_eq_true rfl, Nat.le_of_ble_eq_true rfl⟩) hG rfl hl.1 rfl (Nat.le_of_ble_eq_true rfl) dL_law_875 ?_
  refine W.eq (g2 := F0 m 878 ls [.int q875, .int q861]) rfl ?_
  refine lv_icmp_eq (tgt := 1394) hx hb dL_law_878 (by decide) (fun c0 => ?_) (fun c0 => ?_)
  · replace h := ite_t h c0
    exact wl_next C0 k18 hk18 v w H locs x3 ls hG hl h
  · replace h := ite_f h c0
    exact absurd (Option.some.inj h) (by decide)
set_option maxHeartbeats 4000000 in
set_option maxRecDepth 100000 in
theorem wl_21 {p : Program} {l : Launch} {e : Env} {s : State} {m : MethodId} {below : List Frame} {meth : Method} {c : Code} {D : va_G} {ca : Nat → ClassId} {a b : Nat → Nat} {tw : Nat} {tt : Nat → Nat} {scr L : Nat} {xs : Nat → Int32} (C0 : LC p s m meth c D ca a b tw tt scr L xs) (k18 : XS → YS → Int32 → Option Int32) (hk18 : ∀ (v : XS) (w : YS) (H : Heap) (locs : List Loc) (x3 : Int32) (ls : Array Slot), LG s D ca a b v w H locs → lv_has ls 4 [(0, .ref scr), (1, .ref (a 0)), (2, .ref (b 0)), (3, .int x3)] → k18 v w x3 = some 1 → W p l e room_1 s m #[Value.ref scr] below meth c H locs 15 1797 (lw_Z below #[Value.ref scr] s) (F0 m 18 ls [])) (v : XS) (w : YS) (H : Heap) (locs : List Loc) (x3 : Int32) (ls : Array Slot) (hG : LG s D ca a b v w H locs) (hl : lv_has ls 4 [(0, .ref scr), (1, .ref (a 0)), (2, .ref (b 0)), (3, .int x3)]) (h : fl_21 k18 L xs v w x3 = some 1) : W p l e room_1 s m #[Value.ref scr] below meth c H locs 15 1797 (lw_Z below #[Value.ref scr] s) (F0 m 883 ls []) := by
  obtain ⟨hx, hb, hr, hml, hown, hts, hX, hbl, hlocks, hK, hT, hd⟩ := id C0
  unfold fl_21 at h
  refine lv_aload_n hx hb dL_law_883 rfl (lv_at hl 1 rfl) ?_
  refine lv_aload_n hx hb dL_law_884 rfl (lv_at hl 0 rfl) ?_
  refine lv_iload_n hx hb dL_law_885 rfl (lv_at hl 3 rfl) ?_
  refine lv_iconst (v := 1) hx hb dL_law_886 (by decide) ?_
  refine lv_iadd hx hb dL_law_887 ?_
  obtain ⟨q888, e888, h⟩ := Option.bind_eq_some_iff.mp h
  refine rd_sld C0 hG e888 dL_law_888 ?_
  refine lv_aload_n hx hb dL_law_889 rfl (lv_at hl 0 rfl) ?_
  refine lv_iload_n hx hb dL_law_890 rfl (lv_at hl 3 rfl) ?_
  refine lv_iconst (v := 2) hx hb dL_law_891 (by decide) ?_
  refine lv_iadd hx hb dL_law_892 ?_
  obtain ⟨q893, e893, h⟩ := Option.bind_eq_some_iff.mp h
  refine rd_sld C0 hG e893 dL_law_893 ?_
  obtain ⟨q894, e894, h⟩ := Option.bind_eq_some_iff.mp h
  refine lxH (As := [.int q888, .int q893]) (rest := []) C0 (ct_X6_isSame l D ca a tw tt v q888 q893 e894) (cwV 2 hts gL_law_X6_isSame rfl rfl rfl (by decide +kernel) ⟨Nat.le_of_ble_eq_true rfl, Nat.le_of_ble_eq_true rfl⟩) hG rfl hl.1 rfl (Nat.le_of_ble_eq_true rfl) dL_law_894 ?_
  refine W.eq (g2 := F0 m 897 ls [.int q894]) rfl ?_
  refine lv_aload_n hx hb dL_law_897 rfl (lv_at hl 2 rfl) ?_
  refine lv_aload_n hx hb dL_law_898 rfl (lv_at hl 0 rfl) ?_
  refine lv_iload_n hx hb dL_law_899 rfl (lv_at hl 3 rfl) ?_
  refine lv_iconst (v := 1) hx hb dL_law_900 (by decide) ?_
  refine lv_iadd hx hb dL_law_901 ?_
  obtain ⟨q902, e902, h⟩ := Option.bind_eq_some_iff.mp h
  refine rd_sld C0 hG e902 dL_law_902 ?_
  refine lv_aload_n hx hb dL_law_903 rfl (lv_at hl 0 rfl) ?_
  refine lv_iload_n hx hb dL_law_904 rfl (lv_at hl 3 rfl) ?_
  refine lv_iconst (v := 2) hx hb dL_law_905 (by decide) ?_
  refine lv_iadd hx hb dL_law_906 ?_
  obtain ⟨q907, e907, h⟩ := Option.bind_eq_some_iff.mp h
  refine rd_sld C0 hG e907 dL_law_907 ?_
  obtain ⟨q908, e908, h⟩ := Option.bind_eq_some_iff.mp h
  refine lyH (As := [.int q902, .int q907]) (rest := [.int q894]) C0 (ct_X7_isSame l D ca b tw tt w q902 q907 e908) (cwV 2 hts gL_law_X7_isSame rfl rfl rfl (by decide +kernel) ⟨Nat.le_of_ble_eq_true rfl, Nat.le_of_ble_eq_true rfl⟩) hG rfl hl.1 rfl (Nat.le_of_ble_eq_true rfl) dL_law_908 ?_
  refine W.eq (g2 := F0 m 911 ls [.int q908, .int q894]) rfl ?_
  refine lv_icmp_eq (tgt := 1394) hx hb dL_law_911 (by decide) (fun c0 => ?_) (fun c0 => ?_)
  · replace h := ite_t h c0
    exact wl_next C0 k18 hk18 v w H locs x3 ls hG hl h
  · replace h := ite_f h c0
    exact absurd (Option.some.inj h) (by decide)
set_option maxHeartbeats 4000000 in
set_option maxRecDepth 100000 in
theorem wl_22 {p : Program} {l : Launch} {e : Env} {s : State} {m : MethodId} {below : List Frame} {meth : Method} {c : Code} {D : va_G} {ca : Nat → ClassId} {a b : Nat → Nat} {tw : Nat} {tt : Nat → Nat} {scr L : Nat} {xs : Nat → Int32} (C0 : LC p s m meth c D ca a b tw tt scr L xs) (k18 : XS → YS → Int32 → Option Int32) (hk18 : ∀ (v : XS) (w : YS) (H : Heap) (locs : List Loc) (x3 : Int32) (ls : Array Slot), LG s D ca a b v w H locs → lv_has ls 4 [(0, .ref scr), (1, .ref (a 0)), (2, .ref (b 0)), (3, .int x3)] → k18 v w x3 = some 1 → W p l e room_1 s m #[Value.ref scr] below meth c H locs 15 1797 (lw_Z below #[Value.ref scr] s) (F0 m 18 ls [])) (v : XS) (w : YS) (H : Heap) (locs : List Loc) (x3 : Int32) (ls : Array Slot) (hG : LG s D ca a b v w H locs) (hl : lv_has ls 4 [(0, .ref scr), (1, .ref (a 0)), (2, .ref (b 0)), (3, .int x3)]) (h : fl_22 k18 L xs v w x3 = some 1) : W p l e room_1 s m #[Value.ref scr] below meth c H locs 15 1797 (lw_Z below #[Value.ref scr] s) (F0 m 916 ls []) := by
  obtain ⟨hx, hb, hr, hml, hown, hts, hX, hbl, hlocks, hK, hT, hd⟩ := id C0
  unfold fl_22 at h
  refine lv_aload_n hx hb dL_law_916 rfl (lv_at hl 1 rfl) ?_
  refine lv_aload_n hx hb dL_law_917 rfl (lv_at hl 0 rfl) ?_
  refine lv_iload_n hx hb dL_law_918 rfl (lv_at hl 3 rfl) ?_
  refine lv_iconst (v := 1) hx hb dL_law_919 (by decide) ?_
  refine lv_iadd hx hb dL_law_920 ?_
  obtain ⟨q921, e921, h⟩ := Option.bind_eq_some_iff.mp h
  refine rd_sld C0 hG e921 dL_law_921 ?_
  refine lv_aload_n hx hb dL_law_922 rfl (lv_at hl 0 rfl) ?_
  refine lv_iload_n hx hb dL_law_923 rfl (lv_at hl 3 rfl) ?_
  refine lv_iconst (v := 2) hx hb dL_law_924 (by decide) ?_
  refine lv_iadd hx hb dL_law_925 ?_
  obtain ⟨q926, e926, h⟩ := Option.bind_eq_some_iff.mp h
  refine rd_sld C0 hG e926 dL_law_926 ?_
  refine lv_aload_n hx hb dL_law_927 rfl (lv_at hl 0 rfl) ?_
  refine lv_iload_n hx hb dL_law_928 rfl (lv_at hl 3 rfl) ?_
  refine lv_iconst (v := 3) hx hb dL_law_929 (by decide) ?_
  refine lv_iadd hx hb dL_law_930 ?_
  obtain ⟨q931, e931, h⟩ := Option.bind_eq_some_iff.mp h
  refine rd_sld C0 hG e931 dL_law_931 ?_
  refine lv_aload_n hx hb dL_law_932 rfl (lv_at hl 0 rfl) ?_
  refine lv_iload_n hx hb dL_law_933 rfl (lv_at hl 3 rfl) ?_
  refine lv_iconst (v := 4) hx hb dL_law_934 (by decide) ?_
  refine lv_iadd hx hb dL_law_935 ?_
  obtain ⟨q936, e936, h⟩ := Option.bind_eq_some_iff.mp h
  refine rd_sld C0 hG e936 dL_law_936 ?_
  obtain ⟨q937, e937, h⟩ := Option.bind_eq_some_iff.mp h
  refine lxM (As := [.int q921, .int q926, .int q931, .int q936]) (rest := []) C0 (ct_X6_reduce l D ca a tw tt hd.1 v q921 q926 q931 q936 e937) (cwV 4 hts gL_law_X6_reduce rfl rfl rfl (by decide +kernel) ⟨Nat.le_of_ble_eq_true rfl, Nat.le_of_ble_eq_true rfl⟩) hG rfl hl.1 rfl (Nat.le_of_ble_eq_true rfl) dL_law_937 (fun H locs hG => ?_)
  refine W.eq (g2 := F0 m 940 ls [.int q937.1]) rfl ?_
  refine lv_aload_n hx hb dL_law_940 rfl (lv_at hl 2 rfl) ?_
  refine lv_aload_n hx hb dL_law_941 rfl (lv_at hl 0 rfl) ?_
  refine lv_iload_n hx hb dL_law_942 rfl (lv_at hl 3 rfl) ?_
  refine lv_iconst (v := 1) hx hb dL_law_943 (by decide) ?_
  refine lv_iadd hx hb dL_law_944 ?_
  obtain ⟨q945, e945, h⟩ := Option.bind_eq_some_iff.mp h
  refine rd_sld C0 hG e945 dL_law_945 ?_
  refine lv_aload_n hx hb dL_law_946 rfl (lv_at hl 0 rfl) ?_
  refine lv_iload_n hx hb dL_law_947 rfl (lv_at hl 3 rfl) ?_
  refine lv_iconst (v := 2) hx hb dL_law_948 (by decide) ?_
  refine lv_iadd hx hb dL_law_949 ?_
  obtain ⟨q950, e950, h⟩ := Option.bind_eq_some_iff.mp h
  refine rd_sld C0 hG e950 dL_law_950 ?_
  refine lv_aload_n hx hb dL_law_951 rfl (lv_at hl 0 rfl) ?_
  refine lv_iload_n hx hb dL_law_952 rfl (lv_at hl 3 rfl) ?_
  refine lv_iconst (v := 3) hx hb dL_law_953 (by decide) ?_
  refine lv_iadd hx hb dL_law_954 ?_
  obtain ⟨q955, e955, h⟩ := Option.bind_eq_some_iff.mp h
  refine rd_sld C0 hG e955 dL_law_955 ?_
  refine lv_aload_n hx hb dL_law_956 rfl (lv_at hl 0 rfl) ?_
  refine lv_iload_n hx hb dL_law_957 rfl (lv_at hl 3 rfl) ?_
  refine lv_iconst (v := 4) hx hb dL_law_958 (by decide) ?_
  refine lv_iadd hx hb dL_law_959 ?_
  obtain ⟨q960, e960, h⟩ := Option.bind_eq_some_iff.mp h
  refine rd_sld C0 hG e960 dL_law_960 ?_
  obtain ⟨q961, e961, h⟩ := Option.bind_eq_some_iff.mp h
  refine lyM (As := [.int q945, .int q950, .int q955, .int q960]) (rest := [.int q937.1]) C0 (ct_X7_reduce l D ca b tw tt hd.2.1 w q945 q950 q955 q960 e961) (cwV 4 hts gL_law_X7_reduce rfl rfl rfl (by decide +kernel) ⟨Nat.le_of_ble_eq_true rfl, Nat.le_of_ble_eq_true rfl⟩) hG rfl hl.1 rfl (Nat.le_of_ble_eq_true rfl) dL_law_961 (fun H locs hG => ?_)
  refine W.eq (g2 := F0 m 964 ls [.int q961.1, .int q937.1]) rfl ?_
  refine lv_icmp_eq (tgt := 1394) hx hb dL_law_964 (by decide) (fun c0 => ?_) (fun c0 => ?_)
  · replace h := ite_t h c0
    exact wl_next C0 k18 hk18 q937.2 q961.2 H locs x3 ls hG hl h
  · replace h := ite_f h c0
    exact absurd (Option.some.inj h) (by decide)
set_option maxHeartbeats 4000000 in
set_option maxRecDepth 100000 in
theorem wl_23 {p : Program} {l : Launch} {e : Env} {s : State} {m : MethodId} {below : List Frame} {meth : Method} {c : Code} {D : va_G} {ca : Nat → ClassId} {a b : Nat → Nat} {tw : Nat} {tt : Nat → Nat} {scr L : Nat} {xs : Nat → Int32} (C0 : LC p s m meth c D ca a b tw tt scr L xs) (k18 : XS → YS → Int32 → Option Int32) (hk18 : ∀ (v : XS) (w : YS) (H : Heap) (locs : List Loc) (x3 : Int32) (ls : Array Slot), LG s D ca a b v w H locs → lv_has ls 4 [(0, .ref scr), (1, .ref (a 0)), (2, .ref (b 0)), (3, .int x3)] → k18 v w x3 = some 1 → W p l e room_1 s m #[Value.ref scr] below meth c H locs 15 1797 (lw_Z below #[Value.ref scr] s) (F0 m 18 ls [])) (v : XS) (w : YS) (H : Heap) (locs : List Loc) (x3 : Int32) (ls : Array Slot) (hG : LG s D ca a b v w H locs) (hl : lv_has ls 4 [(0, .ref scr), (1, .ref (a 0)), (2, .ref (b 0)), (3, .int x3)]) (h : fl_23 k18 L xs v w x3 = some 1) : W p l e room_1 s m #[Value.ref scr] below meth c H locs 15 1797 (lw_Z below #[Value.ref scr] s) (F0 m 969 ls []) := by
  obtain ⟨hx, hb, hr, hml, hown, hts, hX, hbl, hlocks, hK, hT, hd⟩ := id C0
  unfold fl_23 at h
  refine lv_aload_n hx hb dL_law_969 rfl (lv_at hl 1 rfl) ?_
  refine lv_aload_n hx hb dL_law_970 rfl (lv_at hl 0 rfl) ?_
  refine lv_iload_n hx hb dL_law_971 rfl (lv_at hl 3 rfl) ?_
  refine lv_iconst (v := 1) hx hb dL_law_972 (by decide) ?_
  refine lv_iadd hx hb dL_law_973 ?_
  obtain ⟨q974, e974, h⟩ := Option.bind_eq_some_iff.mp h
  refine rd_sld C0 hG e974 dL_law_974 ?_
  refine lv_aload_n hx hb dL_law_975 rfl (lv_at hl 0 rfl) ?_
  refine lv_iload_n hx hb dL_law_976 rfl (lv_at hl 3 rfl) ?_
  refine lv_iconst (v := 2) hx hb dL_law_977 (by decide) ?_
  refine lv_iadd hx hb dL_law_978 ?_
  obtain ⟨q979, e979, h⟩ := Option.bind_eq_some_iff.mp h
  refine rd_sld C0 hG e979 dL_law_979 ?_
  obtain ⟨q980, e980, h⟩ := Option.bind_eq_some_iff.mp h
  refine lxM (As := [.int q974, .int q979]) (rest := []) C0 (ct_X6_echelon l D ca a tw tt hd.1 v q974 q979 e980) (cwV 2 hts gL_law_X6_echelon rfl rfl rfl (by decide +kernel) ⟨Nat.le_of_ble_eq_true rfl, Nat.le_of_ble_eq_true rfl⟩) hG rfl hl.1 rfl (Nat.le_of_ble_eq_true rfl) dL_law_980 (fun H locs hG => ?_)
  refine W.eq (g2 := F0 m 983 ls [.int q980.1]) rfl ?_
  refine lv_aload_n hx hb dL_law_983 rfl (lv_at hl 2 rfl) ?_
  refine lv_aload_n hx hb dL_law_984 rfl (lv_at hl 0 rfl) ?_
  refine lv_iload_n hx hb dL_law_985 rfl (lv_at hl 3 rfl) ?_
  refine lv_iconst (v := 1) hx hb dL_law_986 (by decide) ?_
  refine lv_iadd hx hb dL_law_987 ?_
  obtain ⟨q988, e988, h⟩ := Option.bind_eq_some_iff.mp h
  refine rd_sld C0 hG e988 dL_law_988 ?_
  refine lv_aload_n hx hb dL_law_989 rfl (lv_at hl 0 rfl) ?_
  refine lv_iload_n hx hb dL_law_990 rfl (lv_at hl 3 rfl) ?_
  refine lv_iconst (v := 2) hx hb dL_law_991 (by decide) ?_
  refine lv_iadd hx hb dL_law_992 ?_
  obtain ⟨q993, e993, h⟩ := Option.bind_eq_some_iff.mp h
  refine rd_sld C0 hG e993 dL_law_993 ?_
  obtain ⟨q994, e994, h⟩ := Option.bind_eq_some_iff.mp h
  refine lyM (As := [.int q988, .int q993]) (rest := [.int q980.1]) C0 (ct_X7_echelon l D ca b tw tt hd.2.1 w q988 q993 e994) (cwV 2 hts gL_law_X7_echelon rfl rfl rfl (by decide +kernel) ⟨Nat.le_of_ble_eq_true rfl, Nat.le_of_ble_eq_true rfl⟩) hG rfl hl.1 rfl (Nat.le_of_ble_eq_true rfl) dL_law_994 (fun H locs hG => ?_)
  refine W.eq (g2 := F0 m 997 ls [.int q994.1, .int q980.1]) rfl ?_
  refine lv_icmp_eq (tgt := 1394) hx hb dL_law_997 (by decide) (fun c0 => ?_) (fun c0 => ?_)
  · replace h := ite_t h c0
    exact wl_next C0 k18 hk18 q980.2 q994.2 H locs x3 ls hG hl h
  · replace h := ite_f h c0
    exact absurd (Option.some.inj h) (by decide)
set_option maxHeartbeats 4000000 in
set_option maxRecDepth 100000 in
theorem wl_24 {p : Program} {l : Launch} {e : Env} {s : State} {m : MethodId} {below : List Frame} {meth : Method} {c : Code} {D : va_G} {ca : Nat → ClassId} {a b : Nat → Nat} {tw : Nat} {tt : Nat → Nat} {scr L : Nat} {xs : Nat → Int32} (C0 : LC p s m meth c D ca a b tw tt scr L xs) (k18 : XS → YS → Int32 → Option Int32) (hk18 : ∀ (v : XS) (w : YS) (H : Heap) (locs : List Loc) (x3 : Int32) (ls : Array Slot), LG s D ca a b v w H locs → lv_has ls 4 [(0, .ref scr), (1, .ref (a 0)), (2, .ref (b 0)), (3, .int x3)] → k18 v w x3 = some 1 → W p l e room_1 s m #[Value.ref scr] below meth c H locs 15 1797 (lw_Z below #[Value.ref scr] s) (F0 m 18 ls [])) (v : XS) (w : YS) (H : Heap) (locs : List Loc) (x3 : Int32) (ls : Array Slot) (hG : LG s D ca a b v w H locs) (hl : lv_has ls 4 [(0, .ref scr), (1, .ref (a 0)), (2, .ref (b 0)), (3, .int x3)]) (h : fl_24 k18 L xs v w x3 = some 1) : W p l e room_1 s m #[Value.ref scr] below meth c H locs 15 1797 (lw_Z below #[Value.ref scr] s) (F0 m 1002 ls []) := by
  obtain ⟨hx, hb, hr, hml, hown, hts, hX, hbl, hlocks, hK, hT, hd⟩ := id C0
  unfold fl_24 at h
  refine lv_aload_n hx hb dL_law_1002 rfl (lv_at hl 1 rfl) ?_
  refine lv_aload_n hx hb dL_law_1003 rfl (lv_at hl 0 rfl) ?_
  refine lv_iload_n hx hb dL_law_1004 rfl (lv_at hl 3 rfl) ?_
  refine lv_iconst (v := 1) hx hb dL_law_1005 (by decide) ?_
  refine lv_iadd hx hb dL_law_1006 ?_
  obtain ⟨q1007, e1007, h⟩ := Option.bind_eq_some_iff.mp h
  refine rd_sld C0 hG e1007 dL_law_1007 ?_
  obtain ⟨q1008, e1008, h⟩ := Option.bind_eq_some_iff.mp h
  refine lxH (As := [.int q1007]) (rest := []) C0 (ct_X6_zeros l D ca a tw tt v q1007 e1008) (cwV 1 hts gL_law_X6_zeros rfl rfl rfl (by decide +kernel) ⟨Nat.le_of_ble_eq_true rfl, Nat.le_of_ble_eq_true rfl⟩) hG rfl hl.1 rfl (Nat.le_of_ble_eq_true rfl) dL_law_1008 ?_
  refine W.eq (g2 := F0 m 1011 ls [.int q1008]) rfl ?_
  refine lv_aload_n hx hb dL_law_1011 rfl (lv_at hl 2 rfl) ?_
  refine lv_aload_n hx hb dL_law_1012 rfl (lv_at hl 0 rfl) ?_
  refine lv_iload_n hx hb dL_law_1013 rfl (lv_at hl 3 rfl) ?_
  refine lv_iconst (v := 1) hx hb dL_law_1014 (by decide) ?_
  refine lv_iadd hx hb dL_law_1015 ?_
  obtain ⟨q1016, e1016, h⟩ := Option.bind_eq_some_iff.mp h
  refine rd_sld C0 hG e1016 dL_law_1016 ?_
  obtain ⟨q1017, e1017, h⟩ := Option.bind_eq_some_iff.mp h
  refine lyH (As := [.int q1016]) (rest := [.int q1008]) C0 (ct_X7_zeros l D ca b tw tt w q1016 e1017) (cwV 1 hts gL_law_X7_zeros rfl rfl rfl (by decide +kernel) ⟨Nat.le_of_ble_eq_true rfl, Nat.le_of_ble_eq_true rfl⟩) hG rfl hl.1 rfl (Nat.le_of_ble_eq_true rfl) dL_law_1017 ?_
  refine W.eq (g2 := F0 m 1020 ls [.int q1017, .int q1008]) rfl ?_
  refine lv_icmp_eq (tgt := 1394) hx hb dL_law_1020 (by decide) (fun c0 => ?_) (fun c0 => ?_)
  · replace h := ite_t h c0
    exact wl_next C0 k18 hk18 v w H locs x3 ls hG hl h
  · replace h := ite_f h c0
    exact absurd (Option.some.inj h) (by decide)
set_option maxHeartbeats 4000000 in
set_option maxRecDepth 100000 in
theorem wl_25 {p : Program} {l : Launch} {e : Env} {s : State} {m : MethodId} {below : List Frame} {meth : Method} {c : Code} {D : va_G} {ca : Nat → ClassId} {a b : Nat → Nat} {tw : Nat} {tt : Nat → Nat} {scr L : Nat} {xs : Nat → Int32} (C0 : LC p s m meth c D ca a b tw tt scr L xs) (k18 : XS → YS → Int32 → Option Int32) (hk18 : ∀ (v : XS) (w : YS) (H : Heap) (locs : List Loc) (x3 : Int32) (ls : Array Slot), LG s D ca a b v w H locs → lv_has ls 4 [(0, .ref scr), (1, .ref (a 0)), (2, .ref (b 0)), (3, .int x3)] → k18 v w x3 = some 1 → W p l e room_1 s m #[Value.ref scr] below meth c H locs 15 1797 (lw_Z below #[Value.ref scr] s) (F0 m 18 ls [])) (v : XS) (w : YS) (H : Heap) (locs : List Loc) (x3 : Int32) (ls : Array Slot) (hG : LG s D ca a b v w H locs) (hl : lv_has ls 4 [(0, .ref scr), (1, .ref (a 0)), (2, .ref (b 0)), (3, .int x3)]) (h : fl_25 k18 L xs v w x3 = some 1) : W p l e room_1 s m #[Value.ref scr] below meth c H locs 15 1797 (lw_Z below #[Value.ref scr] s) (F0 m 1025 ls []) := by
  obtain ⟨hx, hb, hr, hml, hown, hts, hX, hbl, hlocks, hK, hT, hd⟩ := id C0
  unfold fl_25 at h
  refine lv_aload_n hx hb dL_law_1025 rfl (lv_at hl 1 rfl) ?_
  refine lv_aload_n hx hb dL_law_1026 rfl (lv_at hl 0 rfl) ?_
  refine lv_iload_n hx hb dL_law_1027 rfl (lv_at hl 3 rfl) ?_
  refine lv_iconst (v := 1) hx hb dL_law_1028 (by decide) ?_
  refine lv_iadd hx hb dL_law_1029 ?_
  obtain ⟨q1030, e1030, h⟩ := Option.bind_eq_some_iff.mp h
  refine rd_sld C0 hG e1030 dL_law_1030 ?_
  refine lv_aload_n hx hb dL_law_1031 rfl (lv_at hl 0 rfl) ?_
  refine lv_iload_n hx hb dL_law_1032 rfl (lv_at hl 3 rfl) ?_
  refine lv_iconst (v := 2) hx hb dL_law_1033 (by decide) ?_
  refine lv_iadd hx hb dL_law_1034 ?_
  obtain ⟨q1035, e1035, h⟩ := Option.bind_eq_some_iff.mp h
  refine rd_sld C0 hG e1035 dL_law_1035 ?_
  obtain ⟨q1036, e1036, h⟩ := Option.bind_eq_some_iff.mp h
  refine lxH (As := [.int q1030, .int q1035]) (rest := []) C0 (ct_X6_zeroAt l D ca a tw tt v q1030 q1035 e1036) (cwV 2 hts gL_law_X6_zeroAt rfl rfl rfl (by decide +kernel) ⟨Nat.le_of_ble_eq_true rfl, Nat.le_of_ble_eq_true rfl⟩) hG rfl hl.1 rfl (Nat.le_of_ble_eq_true rfl) dL_law_1036 ?_
  refine W.eq (g2 := F0 m 1039 ls [.int q1036]) rfl ?_
  refine lv_aload_n hx hb dL_law_1039 rfl (lv_at hl 2 rfl) ?_
  refine lv_aload_n hx hb dL_law_1040 rfl (lv_at hl 0 rfl) ?_
  refine lv_iload_n hx hb dL_law_1041 rfl (lv_at hl 3 rfl) ?_
  refine lv_iconst (v := 1) hx hb dL_law_1042 (by decide) ?_
  refine lv_iadd hx hb dL_law_1043 ?_
  obtain ⟨q1044, e1044, h⟩ := Option.bind_eq_some_iff.mp h
  refine rd_sld C0 hG e1044 dL_law_1044 ?_
  refine lv_aload_n hx hb dL_law_1045 rfl (lv_at hl 0 rfl) ?_
  refine lv_iload_n hx hb dL_law_1046 rfl (lv_at hl 3 rfl) ?_
  refine lv_iconst (v := 2) hx hb dL_law_1047 (by decide) ?_
  refine lv_iadd hx hb dL_law_1048 ?_
  obtain ⟨q1049, e1049, h⟩ := Option.bind_eq_some_iff.mp h
  refine rd_sld C0 hG e1049 dL_law_1049 ?_
  obtain ⟨q1050, e1050, h⟩ := Option.bind_eq_some_iff.mp h
  refine lyH (As := [.int q1044, .int q1049]) (rest := [.int q1036]) C0 (ct_X7_zeroAt l D ca b tw tt w q1044 q1049 e1050) (cwV 2 hts gL_law_X7_zeroAt rfl rfl rfl (by decide +kernel) ⟨Nat.le_of_ble_eq_true rfl, Nat.le_of_ble_eq_true rfl⟩) hG rfl hl.1 rfl (Nat.le_of_ble_eq_true rfl) dL_law_1050 ?_
  refine W.eq (g2 := F0 m 1053 ls [.int q1050, .int q1036]) rfl ?_
  refine lv_icmp_eq (tgt := 1394) hx hb dL_law_1053 (by decide) (fun c0 => ?_) (fun c0 => ?_)
  · replace h := ite_t h c0
    exact wl_next C0 k18 hk18 v w H locs x3 ls hG hl h
  · replace h := ite_f h c0
    exact absurd (Option.some.inj h) (by decide)
set_option maxHeartbeats 4000000 in
set_option maxRecDepth 100000 in
theorem wl_26 {p : Program} {l : Launch} {e : Env} {s : State} {m : MethodId} {below : List Frame} {meth : Method} {c : Code} {D : va_G} {ca : Nat → ClassId} {a b : Nat → Nat} {tw : Nat} {tt : Nat → Nat} {scr L : Nat} {xs : Nat → Int32} (C0 : LC p s m meth c D ca a b tw tt scr L xs) (k18 : XS → YS → Int32 → Option Int32) (hk18 : ∀ (v : XS) (w : YS) (H : Heap) (locs : List Loc) (x3 : Int32) (ls : Array Slot), LG s D ca a b v w H locs → lv_has ls 4 [(0, .ref scr), (1, .ref (a 0)), (2, .ref (b 0)), (3, .int x3)] → k18 v w x3 = some 1 → W p l e room_1 s m #[Value.ref scr] below meth c H locs 15 1797 (lw_Z below #[Value.ref scr] s) (F0 m 18 ls [])) (v : XS) (w : YS) (H : Heap) (locs : List Loc) (x3 : Int32) (ls : Array Slot) (hG : LG s D ca a b v w H locs) (hl : lv_has ls 4 [(0, .ref scr), (1, .ref (a 0)), (2, .ref (b 0)), (3, .int x3)]) (h : fl_26 k18 L xs v w x3 = some 1) : W p l e room_1 s m #[Value.ref scr] below meth c H locs 15 1797 (lw_Z below #[Value.ref scr] s) (F0 m 1058 ls []) := by
  obtain ⟨hx, hb, hr, hml, hown, hts, hX, hbl, hlocks, hK, hT, hd⟩ := id C0
  unfold fl_26 at h
  refine lv_aload_n hx hb dL_law_1058 rfl (lv_at hl 1 rfl) ?_
  refine lv_aload_n hx hb dL_law_1059 rfl (lv_at hl 0 rfl) ?_
  refine lv_iload_n hx hb dL_law_1060 rfl (lv_at hl 3 rfl) ?_
  refine lv_iconst (v := 1) hx hb dL_law_1061 (by decide) ?_
  refine lv_iadd hx hb dL_law_1062 ?_
  obtain ⟨q1063, e1063, h⟩ := Option.bind_eq_some_iff.mp h
  refine rd_sld C0 hG e1063 dL_law_1063 ?_
  refine lv_aload_n hx hb dL_law_1064 rfl (lv_at hl 0 rfl) ?_
  refine lv_iload_n hx hb dL_law_1065 rfl (lv_at hl 3 rfl) ?_
  refine lv_iconst (v := 2) hx hb dL_law_1066 (by decide) ?_
  refine lv_iadd hx hb dL_law_1067 ?_
  obtain ⟨q1068, e1068, h⟩ := Option.bind_eq_some_iff.mp h
  refine rd_sld C0 hG e1068 dL_law_1068 ?_
  obtain ⟨q1069, e1069, h⟩ := Option.bind_eq_some_iff.mp h
  refine lxM (As := [.int q1063, .int q1068]) (rest := []) C0 (ct_X6_combine l D ca a tw tt hd.1 v q1063 q1068 e1069) (cwV 2 hts gL_law_X6_combine rfl rfl rfl (by decide +kernel) ⟨Nat.le_of_ble_eq_true rfl, Nat.le_of_ble_eq_true rfl⟩) hG rfl hl.1 rfl (Nat.le_of_ble_eq_true rfl) dL_law_1069 (fun H locs hG => ?_)
  refine W.eq (g2 := F0 m 1072 ls [.int q1069.1]) rfl ?_
  refine lv_aload_n hx hb dL_law_1072 rfl (lv_at hl 2 rfl) ?_
  refine lv_aload_n hx hb dL_law_1073 rfl (lv_at hl 0 rfl) ?_
  refine lv_iload_n hx hb dL_law_1074 rfl (lv_at hl 3 rfl) ?_
  refine lv_iconst (v := 1) hx hb dL_law_1075 (by decide) ?_
  refine lv_iadd hx hb dL_law_1076 ?_
  obtain ⟨q1077, e1077, h⟩ := Option.bind_eq_some_iff.mp h
  refine rd_sld C0 hG e1077 dL_law_1077 ?_
  refine lv_aload_n hx hb dL_law_1078 rfl (lv_at hl 0 rfl) ?_
  refine lv_iload_n hx hb dL_law_1079 rfl (lv_at hl 3 rfl) ?_
  refine lv_iconst (v := 2) hx hb dL_law_1080 (by decide) ?_
  refine lv_iadd hx hb dL_law_1081 ?_
  obtain ⟨q1082, e1082, h⟩ := Option.bind_eq_some_iff.mp h
  refine rd_sld C0 hG e1082 dL_law_1082 ?_
  obtain ⟨q1083, e1083, h⟩ := Option.bind_eq_some_iff.mp h
  refine lyM (As := [.int q1077, .int q1082]) (rest := [.int q1069.1]) C0 (ct_X7_combine l D ca b tw tt hd.2.1 w q1077 q1082 e1083) (cwV 2 hts gL_law_X7_combine rfl rfl rfl (by decide +kernel) ⟨Nat.le_of_ble_eq_true rfl, Nat.le_of_ble_eq_true rfl⟩) hG rfl hl.1 rfl (Nat.le_of_ble_eq_true rfl) dL_law_1083 (fun H locs hG => ?_)
  refine W.eq (g2 := F0 m 1086 ls [.int q1083.1, .int q1069.1]) rfl ?_
  refine lv_icmp_eq (tgt := 1394) hx hb dL_law_1086 (by decide) (fun c0 => ?_) (fun c0 => ?_)
  · replace h := ite_t h c0
    exact wl_next C0 k18 hk18 q1069.2 q1083.2 H locs x3 ls hG hl h
  · replace h := ite_f h c0
    exact absurd (Option.some.inj h) (by decide)
set_option maxHeartbeats 4000000 in
set_option maxRecDepth 100000 in
theorem wl_27 {p : Program} {l : Launch} {e : Env} {s : State} {m : MethodId} {below : List Frame} {meth : Method} {c : Code} {D : va_G} {ca : Nat → ClassId} {a b : Nat → Nat} {tw : Nat} {tt : Nat → Nat} {scr L : Nat} {xs : Nat → Int32} (C0 : LC p s m meth c D ca a b tw tt scr L xs) (k18 : XS → YS → Int32 → Option Int32) (hk18 : ∀ (v : XS) (w : YS) (H : Heap) (locs : List Loc) (x3 : Int32) (ls : Array Slot), LG s D ca a b v w H locs → lv_has ls 4 [(0, .ref scr), (1, .ref (a 0)), (2, .ref (b 0)), (3, .int x3)] → k18 v w x3 = some 1 → W p l e room_1 s m #[Value.ref scr] below meth c H locs 15 1797 (lw_Z below #[Value.ref scr] s) (F0 m 18 ls [])) (v : XS) (w : YS) (H : Heap) (locs : List Loc) (x3 : Int32) (ls : Array Slot) (hG : LG s D ca a b v w H locs) (hl : lv_has ls 4 [(0, .ref scr), (1, .ref (a 0)), (2, .ref (b 0)), (3, .int x3)]) (h : fl_27 k18 L xs v w x3 = some 1) : W p l e room_1 s m #[Value.ref scr] below meth c H locs 15 1797 (lw_Z below #[Value.ref scr] s) (F0 m 1091 ls []) := by
  obtain ⟨hx, hb, hr, hml, hown, hts, hX, hbl, hlocks, hK, hT, hd⟩ := id C0
  unfold fl_27 at h
  refine lv_aload_n hx hb dL_law_1091 rfl (lv_at hl 1 rfl) ?_
  refine lv_aload_n hx hb dL_law_1092 rfl (lv_at hl 0 rfl) ?_
  refine lv_iload_n hx hb dL_law_1093 rfl (lv_at hl 3 rfl) ?_
  refine lv_iconst (v := 1) hx hb dL_law_1094 (by decide) ?_
  refine lv_iadd hx hb dL_law_1095 ?_
  obtain ⟨q1096, e1096, h⟩ := Option.bind_eq_some_iff.mp h
  refine rd_sld C0 hG e1096 dL_law_1096 ?_
  refine lv_aload_n hx hb dL_law_1097 rfl (lv_at hl 0 rfl) ?_
  refine lv_iload_n hx hb dL_law_1098 rfl (lv_at hl 3 rfl) ?_
  refine lv_iconst (v := 2) hx hb dL_law_1099 (by decide) ?_
  refine lv_iadd hx hb dL_law_1100 ?_
  obtain ⟨q1101, e1101, h⟩ := Option.bind_eq_some_iff.mp h
  refine rd_sld C0 hG e1101 dL_law_1101 ?_
  refine lv_aload_n hx hb dL_law_1102 rfl (lv_at hl 0 rfl) ?_
  refine lv_iload_n hx hb dL_law_1103 rfl (lv_at hl 3 rfl) ?_
  refine lv_iconst (v := 3) hx hb dL_law_1104 (by decide) ?_
  refine lv_iadd hx hb dL_law_1105 ?_
  obtain ⟨q1106, e1106, h⟩ := Option.bind_eq_some_iff.mp h
  refine rd_sld C0 hG e1106 dL_law_1106 ?_
  obtain ⟨q1107, e1107, h⟩ := Option.bind_eq_some_iff.mp h
  refine lxM (As := [.int q1096, .int q1101, .int q1106]) (rest := []) C0 (ct_X6_eliminate l D ca a tw tt hd.1 v q1096 q1101 q1106 e1107) (cwV 3 hts gL_law_X6_eliminate rfl rfl rfl (by decide +kernel) ⟨Nat.le_of_ble_eq_true rfl, Nat.le_of_ble_eq_true rfl⟩) hG rfl hl.1 rfl (Nat.le_of_ble_eq_true rfl) dL_law_1107 (fun H locs hG => ?_)
  refine W.eq (g2 := F0 m 1110 ls [.int q1107.1]) rfl ?_
  refine lv_aload_n hx hb dL_law_1110 rfl (lv_at hl 2 rfl) ?_
  refine lv_aload_n hx hb dL_law_1111 rfl (lv_at hl 0 rfl) ?_
  refine lv_iload_n hx hb dL_law_1112 rfl (lv_at hl 3 rfl) ?_
  refine lv_iconst (v := 1) hx hb dL_law_1113 (by decide) ?_
  refine lv_iadd hx hb dL_law_1114 ?_
  obtain ⟨q1115, e1115, h⟩ := Option.bind_eq_some_iff.mp h
  refine rd_sld C0 hG e1115 dL_law_1115 ?_
  refine lv_aload_n hx hb dL_law_1116 rfl (lv_at hl 0 rfl) ?_
  refine lv_iload_n hx hb dL_law_1117 rfl (lv_at hl 3 rfl) ?_
  refine lv_iconst (v := 2) hx hb dL_law_1118 (by decide) ?_
  refine lv_iadd hx hb dL_law_1119 ?_
  obtain ⟨q1120, e1120, h⟩ := Option.bind_eq_some_iff.mp h
  refine rd_sld C0 hG e1120 dL_law_1120 ?_
  refine lv_aload_n hx hb dL_law_1121 rfl (lv_at hl 0 rfl) ?_
  refine lv_iload_n hx hb dL_law_1122 rfl (lv_at hl 3 rfl) ?_
  refine lv_iconst (v := 3) hx hb dL_law_1123 (by decide) ?_
  refine lv_iadd hx hb dL_law_1124 ?_
  obtain ⟨q1125, e1125, h⟩ := Option.bind_eq_some_iff.mp h
  refine rd_sld C0 hG e1125 dL_law_1125 ?_
  obtain ⟨q1126, e1126, h⟩ := Option.bind_eq_some_iff.mp h
  refine lyM (As := [.int q1115, .int q1120, .int q1125]) (rest := [.int q1107.1]) C0 (ct_X7_eliminate l D ca b tw tt hd.2.1 w q1115 q1120 q1125 e1126) (cwV 3 hts gL_law_X7_eliminate rfl rfl rfl (by decide +kernel) ⟨Nat.le_of_ble_eq_true rfl, Nat.le_of_ble_eq_true rfl⟩) hG rfl hl.1 rfl (Nat.le_of_ble_eq_true rfl) dL_law_1126 (fun H locs hG => ?_)
  refine W.eq (g2 := F0 m 1129 ls [.int q1126.1, .int q1107.1]) rfl ?_
  refine lv_icmp_eq (tgt := 1394) hx hb dL_law_1129 (by decide) (fun c0 => ?_) (fun c0 => ?_)
  · replace h := ite_t h c0
    exact wl_next C0 k18 hk18 q1107.2 q1126.2 H locs x3 ls hG hl h
  · replace h := ite_f h c0
    exact absurd (Option.some.inj h) (by decide)
set_option maxHeartbeats 4000000 in
set_option maxRecDepth 100000 in
theorem wl_28 {p : Program} {l : Launch} {e : Env} {s : State} {m : MethodId} {below : List Frame} {meth : Method} {c : Code} {D : va_G} {ca : Nat → ClassId} {a b : Nat → Nat} {tw : Nat} {tt : Nat → Nat} {scr L : Nat} {xs : Nat → Int32} (C0 : LC p s m meth c D ca a b tw tt scr L xs) (k18 : XS → YS → Int32 → Option Int32) (hk18 : ∀ (v : XS) (w : YS) (H : Heap) (locs : List Loc) (x3 : Int32) (ls : Array Slot), LG s D ca a b v w H locs → lv_has ls 4 [(0, .ref scr), (1, .ref (a 0)), (2, .ref (b 0)), (3, .int x3)] → k18 v w x3 = some 1 → W p l e room_1 s m #[Value.ref scr] below meth c H locs 15 1797 (lw_Z below #[Value.ref scr] s) (F0 m 18 ls [])) (v : XS) (w : YS) (H : Heap) (locs : List Loc) (x3 : Int32) (ls : Array Slot) (hG : LG s D ca a b v w H locs) (hl : lv_has ls 4 [(0, .ref scr), (1, .ref (a 0)), (2, .ref (b 0)), (3, .int x3)]) (h : fl_28 k18 L xs v w x3 = some 1) : W p l e room_1 s m #[Value.ref scr] below meth c H locs 15 1797 (lw_Z below #[Value.ref scr] s) (F0 m 1134 ls []) := by
  obtain ⟨hx, hb, hr, hml, hown, hts, hX, hbl, hlocks, hK, hT, hd⟩ := id C0
  unfold fl_28 at h
  refine lv_aload_n hx hb dL_law_1134 rfl (lv_at hl 1 rfl) ?_
  refine lv_aload_n hx hb dL_law_1135 rfl (lv_at hl 0 rfl) ?_
  refine lv_iload_n hx hb dL_law_1136 rfl (lv_at hl 3 rfl) ?_
  refine lv_iconst (v := 1) hx hb dL_law_1137 (by decide) ?_
  refine lv_iadd hx hb dL_law_1138 ?_
  obtain ⟨q1139, e1139, h⟩ := Option.bind_eq_some_iff.mp h
  refine rd_sld C0 hG e1139 dL_law_1139 ?_
  refine lv_aload_n hx hb dL_law_1140 rfl (lv_at hl 0 rfl) ?_
  refine lv_iload_n hx hb dL_law_1141 rfl (lv_at hl 3 rfl) ?_
  refine lv_iconst (v := 2) hx hb dL_law_1142 (by decide) ?_
  refine lv_iadd hx hb dL_law_1143 ?_
  obtain ⟨q1144, e1144, h⟩ := Option.bind_eq_some_iff.mp h
  refine rd_sld C0 hG e1144 dL_law_1144 ?_
  refine lv_aload_n hx hb dL_law_1145 rfl (lv_at hl 0 rfl) ?_
  refine lv_iload_n hx hb dL_law_1146 rfl (lv_at hl 3 rfl) ?_
  refine lv_iconst (v := 3) hx hb dL_law_1147 (by decide) ?_
  refine lv_iadd hx hb dL_law_1148 ?_
  obtain ⟨q1149, e1149, h⟩ := Option.bind_eq_some_iff.mp h
  refine rd_sld C0 hG e1149 dL_law_1149 ?_
  obtain ⟨q1150, e1150, h⟩ := Option.bind_eq_some_iff.mp h
  refine lxH (As := [.int q1139, .int q1144, .int q1149]) (rest := []) C0 (ct_X6_fibres l D ca a tw tt v q1139 q1144 q1149 e1150) (cwV 3 hts gL_law_X6_fibres rfl rfl rfl (by decide +kernel) ⟨Nat.le_of_ble_eq_true rfl, Nat.le_of_ble_eq_true rfl⟩) hG rfl hl.1 rfl (Nat.le_of_ble_eq_true rfl) dL_law_1150 ?_
  refine W.eq (g2 := F0 m 1153 ls [.int q1150]) rfl ?_
  refine lv_aload_n hx hb dL_law_1153 rfl (lv_at hl 2 rfl) ?_
  refine lv_aload_n hx hb dL_law_1154 rfl (lv_at hl 0 rfl) ?_
  refine lv_iload_n hx hb dL_law_1155 rfl (lv_at hl 3 rfl) ?_
  refine lv_iconst (v := 1) hx hb dL_law_1156 (by decide) ?_
  refine lv_iadd hx hb dL_law_1157 ?_
  obtain ⟨q1158, e1158, h⟩ := Option.bind_eq_some_iff.mp h
  refine rd_sld C0 hG e1158 dL_law_1158 ?_
  refine lv_aload_n hx hb dL_law_1159 rfl (lv_at hl 0 rfl) ?_
  refine lv_iload_n hx hb dL_law_1160 rfl (lv_at hl 3 rfl) ?_
  refine lv_iconst (v := 2) hx hb dL_law_1161 (by decide) ?_
  refine lv_iadd hx hb dL_law_1162 ?_
  obtain ⟨q1163, e1163, h⟩ := Option.bind_eq_some_iff.mp h
  refine rd_sld C0 hG e1163 dL_law_1163 ?_
  refine lv_aload_n hx hb dL_law_1164 rfl (lv_at hl 0 rfl) ?_
  refine lv_iload_n hx hb dL_law_1165 rfl (lv_at hl 3 rfl) ?_
  refine lv_iconst (v := 3) hx hb dL_law_1166 (by decide) ?_
  refine lv_iadd hx hb dL_law_1167 ?_
  obtain ⟨q1168, e1168, h⟩ := Option.bind_eq_some_iff.mp h
  refine rd_sld C0 hG e1168 dL_law_1168 ?_
  obtain ⟨q1169, e1169, h⟩ := Option.bind_eq_some_iff.mp h
  refine lyH (As := [.int q1158, .int q1163, .int q1168]) (rest := [.int q1150]) C0 (ct_X7_fibres l D ca b tw tt w q1158 q1163 q1168 e1169) (cwV 3 hts gL_law_X7_fibres rfl rfl rfl (by decide +kernel) ⟨Nat.le_of_ble_eq_true rfl, Nat.le_of_ble_eq_true rfl⟩) hG rfl hl.1 rfl (Nat.le_of_ble_eq_true rfl) dL_law_1169 ?_
  refine W.eq (g2 := F0 m 1172 ls [.int q1169, .int q1150]) rfl ?_
  refine lv_icmp_eq (tgt := 1394) hx hb dL_law_1172 (by decide) (fun c0 => ?_) (fun c0 => ?_)
  · replace h := ite_t h c0
    exact wl_next C0 k18 hk18 v w H locs x3 ls hG hl h
  · replace h := ite_f h c0
    exact absurd (Option.some.inj h) (by decide)
set_option maxHeartbeats 4000000 in
set_option maxRecDepth 100000 in
theorem wl_29 {p : Program} {l : Launch} {e : Env} {s : State} {m : MethodId} {below : List Frame} {meth : Method} {c : Code} {D : va_G} {ca : Nat → ClassId} {a b : Nat → Nat} {tw : Nat} {tt : Nat → Nat} {scr L : Nat} {xs : Nat → Int32} (C0 : LC p s m meth c D ca a b tw tt scr L xs) (k18 : XS → YS → Int32 → Option Int32) (hk18 : ∀ (v : XS) (w : YS) (H : Heap) (locs : List Loc) (x3 : Int32) (ls : Array Slot), LG s D ca a b v w H locs → lv_has ls 4 [(0, .ref scr), (1, .ref (a 0)), (2, .ref (b 0)), (3, .int x3)] → k18 v w x3 = some 1 → W p l e room_1 s m #[Value.ref scr] below meth c H locs 15 1797 (lw_Z below #[Value.ref scr] s) (F0 m 18 ls [])) (v : XS) (w : YS) (H : Heap) (locs : List Loc) (x3 : Int32) (ls : Array Slot) (hG : LG s D ca a b v w H locs) (hl : lv_has ls 4 [(0, .ref scr), (1, .ref (a 0)), (2, .ref (b 0)), (3, .int x3)]) (h : fl_29 k18 L xs v w x3 = some 1) : W p l e room_1 s m #[Value.ref scr] below meth c H locs 15 1797 (lw_Z below #[Value.ref scr] s) (F0 m 1177 ls []) := by
  obtain ⟨hx, hb, hr, hml, hown, hts, hX, hbl, hlocks, hK, hT, hd⟩ := id C0
  unfold fl_29 at h
  refine lv_aload_n hx hb dL_law_1177 rfl (lv_at hl 1 rfl) ?_
  refine lv_aload_n hx hb dL_law_1178 rfl (lv_at hl 0 rfl) ?_
  refine lv_iload_n hx hb dL_law_1179 rfl (lv_at hl 3 rfl) ?_
  refine lv_iconst (v := 1) hx hb dL_law_1180 (by decide) ?_
  refine lv_iadd hx hb dL_law_1181 ?_
  obtain ⟨q1182, e1182, h⟩ := Option.bind_eq_some_iff.mp h
  refine rd_sld C0 hG e1182 dL_law_1182 ?_
  refine lv_aload_n hx hb dL_law_1183 rfl (lv_at hl 0 rfl) ?_
  refine lv_iload_n hx hb dL_law_1184 rfl (lv_at hl 3 rfl) ?_
  refine lv_iconst (v := 2) hx hb dL_law_1185 (by decide) ?_
  refine lv_iadd hx hb dL_law_1186 ?_
  obtain ⟨q1187, e1187, h⟩ := Option.bind_eq_some_iff.mp h
  refine rd_sld C0 hG e1187 dL_law_1187 ?_
  obtain ⟨q1188, e1188, h⟩ := Option.bind_eq_some_iff.mp h
  refine lxH (As := [.int q1182, .int q1187]) (rest := []) C0 (ct_X6_isMember l D ca a tw tt v q1182 q1187 e1188) (cwV 2 hts gL_law_X6_isMember rfl rfl rfl (by decide +kernel) ⟨Nat.le_of_ble_eq_true rfl, Nat.le_of_ble_eq_true rfl⟩) hG rfl hl.1 rfl (Nat.le_of_ble_eq_true rfl) dL_law_1188 ?_
  refine W.eq (g2 := F0 m 1191 ls [.int q1188]) rfl ?_
  refine lv_aload_n hx hb dL_law_1191 rfl (lv_at hl 2 rfl) ?_
  refine lv_aload_n hx hb dL_law_1192 rfl (lv_at hl 0 rfl) ?_
  refine lv_iload_n hx hb dL_law_1193 rfl (lv_at hl 3 rfl) ?_
  refine lv_iconst (v := 1) hx hb dL_law_1194 (by decide) ?_
  refine lv_iadd hx hb dL_law_1195 ?_
  obtain ⟨q1196, e1196, h⟩ := Option.bind_eq_some_iff.mp h
  refine rd_sld C0 hG e1196 dL_law_1196 ?_
  refine lv_aload_n hx hb dL_law_1197 rfl (lv_at hl 0 rfl) ?_
  refine lv_iload_n hx hb dL_law_1198 rfl (lv_at hl 3 rfl) ?_
  refine lv_iconst (v := 2) hx hb dL_law_1199 (by decide) ?_
  refine lv_iadd hx hb dL_law_1200 ?_
  obtain ⟨q1201, e1201, h⟩ := Option.bind_eq_some_iff.mp h
  refine rd_sld C0 hG e1201 dL_law_1201 ?_
  obtain ⟨q1202, e1202, h⟩ := Option.bind_eq_some_iff.mp h
  refine lyH (As := [.int q1196, .int q1201]) (rest := [.int q1188]) C0 (ct_X7_isMember l D ca b tw tt w q1196 q1201 e1202) (cwV 2 hts gL_law_X7_isMember rfl rfl rfl (by decide +kernel) ⟨Nat.le_of_ble_eq_true rfl, Nat.le_of_ble_eq_true rfl⟩) hG rfl hl.1 rfl (Nat.le_of_ble_eq_true rfl) dL_law_1202 ?_
  refine W.eq (g2 := F0 m 1205 ls [.int q1202, .int q1188]) rfl ?_
  refine lv_icmp_eq (tgt := 1394) hx hb dL_law_1205 (by decide) (fun c0 => ?_) (fun c0 => ?_)
  · replace h := ite_t h c0
    exact wl_next C0 k18 hk18 v w H locs x3 ls hG hl h
  · replace h := ite_f h c0
    exact absurd (Option.some.inj h) (by decide)
set_option maxHeartbeats 4000000 in
set_option maxRecDepth 100000 in
theorem wl_30 {p : Program} {l : Launch} {e : Env} {s : State} {m : MethodId} {below : List Frame} {meth : Method} {c : Code} {D : va_G} {ca : Nat → ClassId} {a b : Nat → Nat} {tw : Nat} {tt : Nat → Nat} {scr L : Nat} {xs : Nat → Int32} (C0 : LC p s m meth c D ca a b tw tt scr L xs) (k18 : XS → YS → Int32 → Option Int32) (hk18 : ∀ (v : XS) (w : YS) (H : Heap) (locs : List Loc) (x3 : Int32) (ls : Array Slot), LG s D ca a b v w H locs → lv_has ls 4 [(0, .ref scr), (1, .ref (a 0)), (2, .ref (b 0)), (3, .int x3)] → k18 v w x3 = some 1 → W p l e room_1 s m #[Value.ref scr] below meth c H locs 15 1797 (lw_Z below #[Value.ref scr] s) (F0 m 18 ls [])) (v : XS) (w : YS) (H : Heap) (locs : List Loc) (x3 : Int32) (ls : Array Slot) (hG : LG s D ca a b v w H locs) (hl : lv_has ls 4 [(0, .ref scr), (1, .ref (a 0)), (2, .ref (b 0)), (3, .int x3)]) (h : fl_30 k18 L xs v w x3 = some 1) : W p l e room_1 s m #[Value.ref scr] below meth c H locs 15 1797 (lw_Z below #[Value.ref scr] s) (F0 m 1210 ls []) := by
  obtain ⟨hx, hb, hr, hml, hown, hts, hX, hbl, hlocks, hK, hT, hd⟩ := id C0
  unfold fl_30 at h
  refine lv_aload_n hx hb dL_law_1210 rfl (lv_at hl 1 rfl) ?_
  refine lv_aload_n hx hb dL_law_1211 rfl (lv_at hl 0 rfl) ?_
  refine lv_iload_n hx hb dL_law_1212 rfl (lv_at hl 3 rfl) ?_
  refine lv_iconst (v := 1) hx hb dL_law_1213 (by decide) ?_
  refine lv_iadd hx hb dL_law_1214 ?_
  obtain ⟨q1215, e1215, h⟩ := Option.bind_eq_some_iff.mp h
  refine rd_sld C0 hG e1215 dL_law_1215 ?_
  refine lv_aload_n hx hb dL_law_1216 rfl (lv_at hl 0 rfl) ?_
  refine lv_iload_n hx hb dL_law_1217 rfl (lv_at hl 3 rfl) ?_
  refine lv_iconst (v := 2) hx hb dL_law_1218 (by decide) ?_
  refine lv_iadd hx hb dL_law_1219 ?_
  obtain ⟨q1220, e1220, h⟩ := Option.bind_eq_some_iff.mp h
  refine rd_sld C0 hG e1220 dL_law_1220 ?_
  obtain ⟨q1221, e1221, h⟩ := Option.bind_eq_some_iff.mp h
  refine lxH (As := [.int q1215, .int q1220]) (rest := []) C0 (ct_X6_isSameIdeal l D ca a tw tt v q1215 q1220 e1221) (cwV 2 hts gL_law_X6_isSameIdeal rfl rfl rfl (by decide +kernel) ⟨Nat.le_of_ble_eq_true rfl, Nat.le_of_ble_eq_true rfl⟩) hG rfl hl.1 rfl (Nat.le_of_ble_eq_true rfl) dL_law_1221 ?_
  refine W.eq (g2 := F0 m 1224 ls [.int q1221]) rfl ?_
  refine lv_aload_n hx hb dL_law_1224 rfl (lv_at hl 2 rfl) ?_
  refine lv_aload_n hx hb dL_law_1225 rfl (lv_at hl 0 rfl) ?_
  refine lv_iload_n hx hb dL_law_1226 rfl (lv_at hl 3 rfl) ?_
  refine lv_iconst (v := 1) hx hb dL_law_1227 (by decide) ?_
  refine lv_iadd hx hb dL_law_1228 ?_
  obtain ⟨q1229, e1229, h⟩ := Option.bind_eq_some_iff.mp h
  refine rd_sld C0 hG e1229 dL_law_1229 ?_
  refine lv_aload_n hx hb dL_law_1230 rfl (lv_at hl 0 rfl) ?_
  refine lv_iload_n hx hb dL_law_1231 rfl (lv_at hl 3 rfl) ?_
  refine lv_iconst (v := 2) hx hb dL_law_1232 (by decide) ?_
  refine lv_iadd hx hb dL_law_1233 ?_
  obtain ⟨q1234, e1234, h⟩ := Option.bind_eq_some_iff.mp h
  refine rd_sld C0 hG e1234 dL_law_1234 ?_
  obtain ⟨q1235, e1235, h⟩ := Option.bind_eq_some_iff.mp h
  refine lyH (As := [.int q1229, .int q1234]) (rest := [.int q1221]) C0 (ct_X7_isSameIdeal l D ca b tw tt w q1229 q1234 e1235) (cwV 2 hts gL_law_X7_isSameIdeal rfl rfl rfl (by decide +kernel) ⟨Nat.le_of_ble_eq_true rfl, Nat.le_of_ble_eq_true rfl⟩) hG rfl hl.1 rfl (Nat.le_of_ble_eq_true rfl) dL_law_1235 ?_
  refine W.eq (g2 := F0 m 1238 ls [.int q1235, .int q1221]) rfl ?_
  refine lv_icmp_eq (tgt := 1394) hx hb dL_law_1238 (by decide) (fun c0 => ?_) (fun c0 => ?_)
  · replace h := ite_t h c0
    exact wl_next C0 k18 hk18 v w H locs x3 ls hG hl h
  · replace h := ite_f h c0
    exact absurd (Option.some.inj h) (by decide)
set_option maxHeartbeats 4000000 in
set_option maxRecDepth 100000 in
theorem wl_31 {p : Program} {l : Launch} {e : Env} {s : State} {m : MethodId} {below : List Frame} {meth : Method} {c : Code} {D : va_G} {ca : Nat → ClassId} {a b : Nat → Nat} {tw : Nat} {tt : Nat → Nat} {scr L : Nat} {xs : Nat → Int32} (C0 : LC p s m meth c D ca a b tw tt scr L xs) (k18 : XS → YS → Int32 → Option Int32) (hk18 : ∀ (v : XS) (w : YS) (H : Heap) (locs : List Loc) (x3 : Int32) (ls : Array Slot), LG s D ca a b v w H locs → lv_has ls 4 [(0, .ref scr), (1, .ref (a 0)), (2, .ref (b 0)), (3, .int x3)] → k18 v w x3 = some 1 → W p l e room_1 s m #[Value.ref scr] below meth c H locs 15 1797 (lw_Z below #[Value.ref scr] s) (F0 m 18 ls [])) (v : XS) (w : YS) (H : Heap) (locs : List Loc) (x3 : Int32) (ls : Array Slot) (hG : LG s D ca a b v w H locs) (hl : lv_has ls 4 [(0, .ref scr), (1, .ref (a 0)), (2, .ref (b 0)), (3, .int x3)]) (h : fl_31 k18 L xs v w x3 = some 1) : W p l e room_1 s m #[Value.ref scr] below meth c H locs 15 1797 (lw_Z below #[Value.ref scr] s) (F0 m 1243 ls []) := by
  obtain ⟨hx, hb, hr, hml, hown, hts, hX, hbl, hlocks, hK, hT, hd⟩ := id C0
  unfold fl_31 at h
  refine lv_aload_n hx hb dL_law_1243 rfl (lv_at hl 1 rfl) ?_
  refine lv_aload_n hx hb dL_law_1244 rfl (lv_at hl 0 rfl) ?_
  refine lv_iload_n hx hb dL_law_1245 rfl (lv_at hl 3 rfl) ?_
  refine lv_iconst (v := 1) hx hb dL_law_1246 (by decide) ?_
  refine lv_iadd hx hb dL_law_1247 ?_
  obtain ⟨q1248, e1248, h⟩ := Option.bind_eq_some_iff.mp h
  refine rd_sld C0 hG e1248 dL_law_1248 ?_
  obtain ⟨q1249, e1249, h⟩ := Option.bind_eq_some_iff.mp h
  refine lxH (As := [.int q1248]) (rest := []) C0 (ct_X6_fixedVariables l D ca a tw tt v q1248 e1249) (cwV 1 hts gL_law_X6_fixedVariables rfl rfl rfl (by decide +kernel) ⟨Nat.le_of_ble_eq_true rfl, Nat.le_of_ble_eq_true rfl⟩) hG rfl hl.1 rfl (Nat.le_of_ble_eq_true rfl) dL_law_1249 ?_
  refine W.eq (g2 := F0 m 1252 ls [.int q1249]) rfl ?_
  refine lv_aload_n hx hb dL_law_1252 rfl (lv_at hl 2 rfl) ?_
  refine lv_aload_n hx hb dL_law_1253 rfl (lv_at hl 0 rfl) ?_
  refine lv_iload_n hx hb dL_law_1254 rfl (lv_at hl 3 rfl) ?_
  refine lv_iconst (v := 1) hx hb dL_law_1255 (by decide) ?_
  refine lv_iadd hx hb dL_law_1256 ?_
  obtain ⟨q1257, e1257, h⟩ := Option.bind_eq_some_iff.mp h
  refine rd_sld C0 hG e1257 dL_law_1257 ?_
  obtain ⟨q1258, e1258, h⟩ := Option.bind_eq_some_iff.mp h
  refine lyH (As := [.int q1257]) (rest := [.int q1249]) C0 (ct_X7_fixedVariables l D ca b tw tt w q1257 e1258) (cwV 1 hts gL_law_X7_fixedVariables rfl rfl rfl (by decide +kernel) ⟨Nat.le_of_ble_eq_true rfl, Nat.le_of_ble_eq_true rfl⟩) hG rfl hl.1 rfl (Nat.le_of_ble_eq_true rfl) dL_law_1258 ?_
  refine W.eq (g2 := F0 m 1261 ls [.int q1258, .int q1249]) rfl ?_
  refine lv_icmp_eq (tgt := 1394) hx hb dL_law_1261 (by decide) (fun c0 => ?_) (fun c0 => ?_)
  · replace h := ite_t h c0
    exact wl_next C0 k18 hk18 v w H locs x3 ls hG hl h
  · replace h := ite_f h c0
    exact absurd (Option.some.inj h) (by decide)
set_option maxHeartbeats 4000000 in
set_option maxRecDepth 100000 in
theorem wl_32 {p : Program} {l : Launch} {e : Env} {s : State} {m : MethodId} {below : List Frame} {meth : Method} {c : Code} {D : va_G} {ca : Nat → ClassId} {a b : Nat → Nat} {tw : Nat} {tt : Nat → Nat} {scr L : Nat} {xs : Nat → Int32} (C0 : LC p s m meth c D ca a b tw tt scr L xs) (k18 : XS → YS → Int32 → Option Int32) (hk18 : ∀ (v : XS) (w : YS) (H : Heap) (locs : List Loc) (x3 : Int32) (ls : Array Slot), LG s D ca a b v w H locs → lv_has ls 4 [(0, .ref scr), (1, .ref (a 0)), (2, .ref (b 0)), (3, .int x3)] → k18 v w x3 = some 1 → W p l e room_1 s m #[Value.ref scr] below meth c H locs 15 1797 (lw_Z below #[Value.ref scr] s) (F0 m 18 ls [])) (v : XS) (w : YS) (H : Heap) (locs : List Loc) (x3 : Int32) (ls : Array Slot) (hG : LG s D ca a b v w H locs) (hl : lv_has ls 4 [(0, .ref scr), (1, .ref (a 0)), (2, .ref (b 0)), (3, .int x3)]) (h : fl_32 k18 L xs v w x3 = some 1) : W p l e room_1 s m #[Value.ref scr] below meth c H locs 15 1797 (lw_Z below #[Value.ref scr] s) (F0 m 1266 ls []) := by
  obtain ⟨hx, hb, hr, hml, hown, hts, hX, hbl, hlocks, hK, hT, hd⟩ := id C0
  unfold fl_32 at h
  refine lv_aload_n hx hb dL_law_1266 rfl (lv_at hl 1 rfl) ?_
  refine lv_aload_n hx hb dL_law_1267 rfl (lv_at hl 0 rfl) ?_
  refine lv_iload_n hx hb dL_law_1268 rfl (lv_at hl 3 rfl) ?_
  refine lv_iconst (v := 1) hx hb dL_law_1269 (by decide) ?_
  refine lv_iadd hx hb dL_law_1270 ?_
  obtain ⟨q1271, e1271, h⟩ := Option.bind_eq_some_iff.mp h
  refine rd_sld C0 hG e1271 dL_law_1271 ?_
  obtain ⟨q1272, e1272, h⟩ := Option.bind_eq_some_iff.mp h
  refine lxM (As := [.int q1271]) (rest := []) C0 (ct_X6_type l D ca a tw tt hd.1 v q1271 e1272) (cwV 1 hts gL_law_X6_type rfl rfl rfl (by decide +kernel) ⟨Nat.le_of_ble_eq_true rfl, Nat.le_of_ble_eq_true rfl⟩) hG rfl hl.1 rfl (Nat.le_of_ble_eq_true rfl) dL_law_1272 (fun H locs hG => ?_)
  refine W.eq (g2 := F0 m 1275 ls [.int q1272.1]) rfl ?_
  refine lv_aload_n hx hb dL_law_1275 rfl (lv_at hl 2 rfl) ?_
  refine lv_aload_n hx hb dL_law_1276 rfl (lv_at hl 0 rfl) ?_
  refine lv_iload_n hx hb dL_law_1277 rfl (lv_at hl 3 rfl) ?_
  refine lv_iconst (v := 1) hx hb dL_law_1278 (by decide) ?_
  refine lv_iadd hx hb dL_law_1279 ?_
  obtain ⟨q1280, e1280, h⟩ := Option.bind_eq_some_iff.mp h
  refine rd_sld C0 hG e1280 dL_law_1280 ?_
  obtain ⟨q1281, e1281, h⟩ := Option.bind_eq_some_iff.mp h
  refine lyM (As := [.int q1280]) (rest := [.int q1272.1]) C0 (ct_X7_type l D ca b tw tt hd.2.1 w q1280 e1281) (cwV 1 hts gL_law_X7_type rfl rfl rfl (by decide +kernel) ⟨Nat.le_of_ble_eq_true rfl, Nat.le_of_ble_eq_true rfl⟩) hG rfl hl.1 rfl (Nat.le_of_ble_eq_true rfl) dL_law_1281 (fun H locs hG => ?_)
  refine W.eq (g2 := F0 m 1284 ls [.int q1281.1, .int q1272.1]) rfl ?_
  refine lv_icmp_eq (tgt := 1394) hx hb dL_law_1284 (by decide) (fun c0 => ?_) (fun c0 => ?_)
  · replace h := ite_t h c0
    exact wl_next C0 k18 hk18 q1272.2 q1281.2 H locs x3 ls hG hl h
  · replace h := ite_f h c0
    exact absurd (Option.some.inj h) (by decide)
set_option maxHeartbeats 4000000 in
set_option maxRecDepth 100000 in
theorem wl_33 {p : Program} {l : Launch} {e : Env} {s : State} {m : MethodId} {below : List Frame} {meth : Method} {c : Code} {D : va_G} {ca : Nat → ClassId} {a b : Nat → Nat} {tw : Nat} {tt : Nat → Nat} {scr L : Nat} {xs : Nat → Int32} (C0 : LC p s m meth c D ca a b tw tt scr L xs) (k18 : XS → YS → Int32 → Option Int32) (hk18 : ∀ (v : XS) (w : YS) (H : Heap) (locs : List Loc) (x3 : Int32) (ls : Array Slot), LG s D ca a b v w H locs → lv_has ls 4 [(0, .ref scr), (1, .ref (a 0)), (2, .ref (b 0)), (3, .int x3)] → k18 v w x3 = some 1 → W p l e room_1 s m #[Value.ref scr] below meth c H locs 15 1797 (lw_Z below #[Value.ref scr] s) (F0 m 18 ls [])) (v : XS) (w : YS) (H : Heap) (locs : List Loc) (x3 : Int32) (ls : Array Slot) (hG : LG s D ca a b v w H locs) (hl : lv_has ls 4 [(0, .ref scr), (1, .ref (a 0)), (2, .ref (b 0)), (3, .int x3)]) (h : fl_33 k18 L xs v w x3 = some 1) : W p l e room_1 s m #[Value.ref scr] below meth c H locs 15 1797 (lw_Z below #[Value.ref scr] s) (F0 m 1289 ls []) := by
  obtain ⟨hx, hb, hr, hml, hown, hts, hX, hbl, hlocks, hK, hT, hd⟩ := id C0
  unfold fl_33 at h
  refine lv_aload_n hx hb dL_law_1289 rfl (lv_at hl 1 rfl) ?_
  obtain ⟨q1290, e1290, h⟩ := Option.bind_eq_some_iff.mp h
  refine lxM (As := []) (rest := []) C0 (ct_X6_clearText l D ca a tw tt hd.1 v  e1290) (cwV 0 hts gL_law_X6_clearText rfl rfl rfl (by decide +kernel) ⟨Nat.le_of_ble_eq_true rfl, Nat.le_of_ble_eq_true rfl⟩) hG rfl hl.1 rfl (Nat.le_of_ble_eq_true rfl) dL_law_1290 (fun H locs hG => ?_)
  refine W.eq (g2 := F0 m 1293 ls [.int q1290.1]) rfl ?_
  refine lv_aload_n hx hb dL_law_1293 rfl (lv_at hl 2 rfl) ?_
  obtain ⟨q1294, e1294, h⟩ := Option.bind_eq_some_iff.mp h
  refine lyM (As := []) (rest := [.int q1290.1]) C0 (ct_X7_clearText l D ca b tw tt hd.2.1 w  e1294) (cwV 0 hts gL_law_X7_clearText rfl rfl rfl (by decide +kernel) ⟨Nat.le_of_ble_eq_true rfl, Nat.le_of_ble_eq_true rfl⟩) hG rfl hl.1 rfl (Nat.le_of_ble_eq_true rfl) dL_law_1294 (fun H locs hG => ?_)
  refine W.eq (g2 := F0 m 1297 ls [.int q1294.1, .int q1290.1]) rfl ?_
  refine lv_icmp_eq (tgt := 1394) hx hb dL_law_1297 (by decide) (fun c0 => ?_) (fun c0 => ?_)
  · replace h := ite_t h c0
    exact wl_next C0 k18 hk18 q1290.2 q1294.2 H locs x3 ls hG hl h
  · replace h := ite_f h c0
    exact absurd (Option.some.inj h) (by decide)
set_option maxHeartbeats 4000000 in
set_option maxRecDepth 100000 in
theorem wl_34 {p : Program} {l : Launch} {e : Env} {s : State} {m : MethodId} {below : List Frame} {meth : Method} {c : Code} {D : va_G} {ca : Nat → ClassId} {a b : Nat → Nat} {tw : Nat} {tt : Nat → Nat} {scr L : Nat} {xs : Nat → Int32} (C0 : LC p s m meth c D ca a b tw tt scr L xs) (k18 : XS → YS → Int32 → Option Int32) (hk18 : ∀ (v : XS) (w : YS) (H : Heap) (locs : List Loc) (x3 : Int32) (ls : Array Slot), LG s D ca a b v w H locs → lv_has ls 4 [(0, .ref scr), (1, .ref (a 0)), (2, .ref (b 0)), (3, .int x3)] → k18 v w x3 = some 1 → W p l e room_1 s m #[Value.ref scr] below meth c H locs 15 1797 (lw_Z below #[Value.ref scr] s) (F0 m 18 ls [])) (v : XS) (w : YS) (H : Heap) (locs : List Loc) (x3 : Int32) (ls : Array Slot) (hG : LG s D ca a b v w H locs) (hl : lv_has ls 4 [(0, .ref scr), (1, .ref (a 0)), (2, .ref (b 0)), (3, .int x3)]) (h : fl_34 k18 L xs v w x3 = some 1) : W p l e room_1 s m #[Value.ref scr] below meth c H locs 15 1797 (lw_Z below #[Value.ref scr] s) (F0 m 1302 ls []) := by
  obtain ⟨hx, hb, hr, hml, hown, hts, hX, hbl, hlocks, hK, hT, hd⟩ := id C0
  unfold fl_34 at h
  refine lv_aload_n hx hb dL_law_1302 rfl (lv_at hl 1 rfl) ?_
  obtain ⟨q1303, e1303, h⟩ := Option.bind_eq_some_iff.mp h
  refine lxH (As := []) (rest := []) C0 (ct_X6_fault l D ca a tw tt v  e1303) (cwV 0 hts gL_law_X6_fault rfl rfl rfl (by decide +kernel) ⟨Nat.le_of_ble_eq_true rfl, Nat.le_of_ble_eq_true rfl⟩) hG rfl hl.1 rfl (Nat.le_of_ble_eq_true rfl) dL_law_1303 ?_
  refine W.eq (g2 := F0 m 1306 ls [.int q1303]) rfl ?_
  refine lv_aload_n hx hb dL_law_1306 rfl (lv_at hl 2 rfl) ?_
  obtain ⟨q1307, e1307, h⟩ := Option.bind_eq_some_iff.mp h
  refine lyH (As := []) (rest := [.int q1303]) C0 (ct_X7_fault l D ca b tw tt w  e1307) (cwV 0 hts gL_law_X7_fault rfl rfl rfl (by decide +kernel) ⟨Nat.le_of_ble_eq_true rfl, Nat.le_of_ble_eq_true rfl⟩) hG rfl hl.1 rfl (Nat.le_of_ble_eq_true rfl) dL_law_1307 ?_
  refine W.eq (g2 := F0 m 1310 ls [.int q1307, .int q1303]) rfl ?_
  refine lv_icmp_eq (tgt := 1394) hx hb dL_law_1310 (by decide) (fun c0 => ?_) (fun c0 => ?_)
  · replace h := ite_t h c0
    exact wl_next C0 k18 hk18 v w H locs x3 ls hG hl h
  · replace h := ite_f h c0
    exact absurd (Option.some.inj h) (by decide)
set_option maxHeartbeats 4000000 in
set_option maxRecDepth 100000 in
theorem wl_35 {p : Program} {l : Launch} {e : Env} {s : State} {m : MethodId} {below : List Frame} {meth : Method} {c : Code} {D : va_G} {ca : Nat → ClassId} {a b : Nat → Nat} {tw : Nat} {tt : Nat → Nat} {scr L : Nat} {xs : Nat → Int32} (C0 : LC p s m meth c D ca a b tw tt scr L xs) (k18 : XS → YS → Int32 → Option Int32) (hk18 : ∀ (v : XS) (w : YS) (H : Heap) (locs : List Loc) (x3 : Int32) (ls : Array Slot), LG s D ca a b v w H locs → lv_has ls 4 [(0, .ref scr), (1, .ref (a 0)), (2, .ref (b 0)), (3, .int x3)] → k18 v w x3 = some 1 → W p l e room_1 s m #[Value.ref scr] below meth c H locs 15 1797 (lw_Z below #[Value.ref scr] s) (F0 m 18 ls [])) (v : XS) (w : YS) (H : Heap) (locs : List Loc) (x3 : Int32) (ls : Array Slot) (hG : LG s D ca a b v w H locs) (hl : lv_has ls 4 [(0, .ref scr), (1, .ref (a 0)), (2, .ref (b 0)), (3, .int x3)]) (h : fl_35 k18 L xs v w x3 = some 1) : W p l e room_1 s m #[Value.ref scr] below meth c H locs 15 1797 (lw_Z below #[Value.ref scr] s) (F0 m 1315 ls []) := by
  obtain ⟨hx, hb, hr, hml, hown, hts, hX, hbl, hlocks, hK, hT, hd⟩ := id C0
  unfold fl_35 at h
  refine lv_aload_n hx hb dL_law_1315 rfl (lv_at hl 1 rfl) ?_
  refine lv_aload_n hx hb dL_law_1316 rfl (lv_at hl 0 rfl) ?_
  refine lv_iload_n hx hb dL_law_1317 rfl (lv_at hl 3 rfl) ?_
  refine lv_iconst (v := 1) hx hb dL_law_1318 (by decide) ?_
  refine lv_iadd hx hb dL_law_1319 ?_
  obtain ⟨q1320, e1320, h⟩ := Option.bind_eq_some_iff.mp h
  refine rd_sld C0 hG e1320 dL_law_1320 ?_
  obtain ⟨q1321, e1321, h⟩ := Option.bind_eq_some_iff.mp h
  refine lxM (As := [.int q1320]) (rest := []) C0 (ct_X6_read l D ca a tw tt hd.1 v q1320 e1321) (cwV 1 hts gL_law_X6_read rfl rfl rfl (by decide +kernel) ⟨Nat.le_of_ble_eq_true rfl, Nat.le_of_ble_eq_true rfl⟩) hG rfl hl.1 rfl (Nat.le_of_ble_eq_true rfl) dL_law_1321 (fun H locs hG => ?_)
  refine W.eq (g2 := F0 m 1324 ls [.int q1321.1]) rfl ?_
  refine lv_aload_n hx hb dL_law_1324 rfl (lv_at hl 2 rfl) ?_
  refine lv_aload_n hx hb dL_law_1325 rfl (lv_at hl 0 rfl) ?_
  refine lv_iload_n hx hb dL_law_1326 rfl (lv_at hl 3 rfl) ?_
  refine lv_iconst (v := 1) hx hb dL_law_1327 (by decide) ?_
  refine lv_iadd hx hb dL_law_1328 ?_
  obtain ⟨q1329, e1329, h⟩ := Option.bind_eq_some_iff.mp h
  refine rd_sld C0 hG e1329 dL_law_1329 ?_
  obtain ⟨q1330, e1330, h⟩ := Option.bind_eq_some_iff.mp h
  refine lyM (As := [.int q1329]) (rest := [.int q1321.1]) C0 (ct_X7_read l D ca b tw tt hd.2.1 w q1329 e1330) (cwV 1 hts gL_law_X7_read rfl rfl rfl (by decide +kernel) ⟨Nat.le_of_ble_eq_true rfl, Nat.le_of_ble_eq_true rfl⟩) hG rfl hl.1 rfl (Nat.le_of_ble_eq_true rfl) dL_law_1330 (fun H locs hG => ?_)
  refine W.eq (g2 := F0 m 1333 ls [.int q1330.1, .int q1321.1]) rfl ?_
  refine lv_icmp_eq (tgt := 1394) hx hb dL_law_1333 (by decide) (fun c0 => ?_) (fun c0 => ?_)
  · replace h := ite_t h c0
    exact wl_next C0 k18 hk18 q1321.2 q1330.2 H locs x3 ls hG hl h
  · replace h := ite_f h c0
    exact absurd (Option.some.inj h) (by decide)
set_option maxHeartbeats 4000000 in
set_option maxRecDepth 100000 in
theorem wl_36 {p : Program} {l : Launch} {e : Env} {s : State} {m : MethodId} {below : List Frame} {meth : Method} {c : Code} {D : va_G} {ca : Nat → ClassId} {a b : Nat → Nat} {tw : Nat} {tt : Nat → Nat} {scr L : Nat} {xs : Nat → Int32} (C0 : LC p s m meth c D ca a b tw tt scr L xs) (k18 : XS → YS → Int32 → Option Int32) (hk18 : ∀ (v : XS) (w : YS) (H : Heap) (locs : List Loc) (x3 : Int32) (ls : Array Slot), LG s D ca a b v w H locs → lv_has ls 4 [(0, .ref scr), (1, .ref (a 0)), (2, .ref (b 0)), (3, .int x3)] → k18 v w x3 = some 1 → W p l e room_1 s m #[Value.ref scr] below meth c H locs 15 1797 (lw_Z below #[Value.ref scr] s) (F0 m 18 ls [])) (v : XS) (w : YS) (H : Heap) (locs : List Loc) (x3 : Int32) (ls : Array Slot) (hG : LG s D ca a b v w H locs) (hl : lv_has ls 4 [(0, .ref scr), (1, .ref (a 0)), (2, .ref (b 0)), (3, .int x3)]) (h : fl_36 k18 L xs v w x3 = some 1) : W p l e room_1 s m #[Value.ref scr] below meth c H locs 15 1797 (lw_Z below #[Value.ref scr] s) (F0 m 1338 ls []) := by
  obtain ⟨hx, hb, hr, hml, hown, hts, hX, hbl, hlocks, hK, hT, hd⟩ := id C0
  unfold fl_36 at h
  refine lv_aload_n hx hb dL_law_1338 rfl (lv_at hl 1 rfl) ?_
  refine lv_aload_n hx hb dL_law_1339 rfl (lv_at hl 0 rfl) ?_
  refine lv_iload_n hx hb dL_law_1340 rfl (lv_at hl 3 rfl) ?_
  refine lv_iconst (v := 1) hx hb dL_law_1341 (by decide) ?_
  refine lv_iadd hx hb dL_law_1342 ?_
  obtain ⟨q1343, e1343, h⟩ := Option.bind_eq_some_iff.mp h
  refine rd_sld C0 hG e1343 dL_law_1343 ?_
  obtain ⟨q1344, e1344, h⟩ := Option.bind_eq_some_iff.mp h
  refine lxH (As := [.int q1343]) (rest := []) C0 (ct_X6_textLength l D ca a tw tt v q1343 e1344) (cwV 1 hts gL_law_X6_textLength rfl rfl rfl (by decide +kernel) ⟨Nat.le_of_ble_eq_true rfl, Nat.le_of_ble_eq_true rfl⟩) hG rfl hl.1 rfl (Nat.le_of_ble_eq_true rfl) dL_law_1344 ?_
  refine W.eq (g2 := F0 m 1347 ls [.int q1344]) rfl ?_
  refine lv_aload_n hx hb dL_law_1347 rfl (lv_at hl 2 rfl) ?_
  refine lv_aload_n hx hb dL_law_1348 rfl (lv_at hl 0 rfl) ?_
  refine lv_iload_n hx hb dL_law_1349 rfl (lv_at hl 3 rfl) ?_
  refine lv_iconst (v := 1) hx hb dL_law_1350 (by decide) ?_
  refine lv_iadd hx hb dL_law_1351 ?_
  obtain ⟨q1352, e1352, h⟩ := Option.bind_eq_some_iff.mp h
  refine rd_sld C0 hG e1352 dL_law_1352 ?_
  obtain ⟨q1353, e1353, h⟩ := Option.bind_eq_some_iff.mp h
  refine lyH (As := [.int q1352]) (rest := [.int q1344]) C0 (ct_X7_textLength l D ca b tw tt w q1352 e1353) (cwV 1 hts gL_law_X7_textLength rfl rfl rfl (by decide +kernel) ⟨Nat.le_of_ble_eq_true rfl, Nat.le_of_ble_eq_true rfl⟩) hG rfl hl.1 rfl (Nat.le_of_ble_eq_true rfl) dL_law_1353 ?_
  refine W.eq (g2 := F0 m 1356 ls [.int q1353, .int q1344]) rfl ?_
  refine lv_icmp_eq (tgt := 1394) hx hb dL_law_1356 (by decide) (fun c0 => ?_) (fun c0 => ?_)
  · replace h := ite_t h c0
    exact wl_next C0 k18 hk18 v w H locs x3 ls hG hl h
  · replace h := ite_f h c0
    exact absurd (Option.some.inj h) (by decide)
set_option maxHeartbeats 4000000 in
set_option maxRecDepth 100000 in
theorem wl_37 {p : Program} {l : Launch} {e : Env} {s : State} {m : MethodId} {below : List Frame} {meth : Method} {c : Code} {D : va_G} {ca : Nat → ClassId} {a b : Nat → Nat} {tw : Nat} {tt : Nat → Nat} {scr L : Nat} {xs : Nat → Int32} (C0 : LC p s m meth c D ca a b tw tt scr L xs) (k18 : XS → YS → Int32 → Option Int32) (hk18 : ∀ (v : XS) (w : YS) (H : Heap) (locs : List Loc) (x3 : Int32) (ls : Array Slot), LG s D ca a b v w H locs → lv_has ls 4 [(0, .ref scr), (1, .ref (a 0)), (2, .ref (b 0)), (3, .int x3)] → k18 v w x3 = some 1 → W p l e room_1 s m #[Value.ref scr] below meth c H locs 15 1797 (lw_Z below #[Value.ref scr] s) (F0 m 18 ls [])) (v : XS) (w : YS) (H : Heap) (locs : List Loc) (x3 : Int32) (ls : Array Slot) (hG : LG s D ca a b v w H locs) (hl : lv_has ls 4 [(0, .ref scr), (1, .ref (a 0)), (2, .ref (b 0)), (3, .int x3)]) (h : fl_37 k18 L xs v w x3 = some 1) : W p l e room_1 s m #[Value.ref scr] below meth c H locs 15 1797 (lw_Z below #[Value.ref scr] s) (F0 m 1361 ls []) := by
  obtain ⟨hx, hb, hr, hml, hown, hts, hX, hbl, hlocks, hK, hT, hd⟩ := id C0
  unfold fl_37 at h
  refine lv_aload_n hx hb dL_law_1361 rfl (lv_at hl 1 rfl) ?_
  refine lv_aload_n hx hb dL_law_1362 rfl (lv_at hl 0 rfl) ?_
  refine lv_iload_n hx hb dL_law_1363 rfl (lv_at hl 3 rfl) ?_
  refine lv_iconst (v := 1) hx hb dL_law_1364 (by decide) ?_
  refine lv_iadd hx hb dL_law_1365 ?_
  obtain ⟨q1366, e1366, h⟩ := Option.bind_eq_some_iff.mp h
  refine rd_sld C0 hG e1366 dL_law_1366 ?_
  refine lv_aload_n hx hb dL_law_1367 rfl (lv_at hl 0 rfl) ?_
  refine lv_iload_n hx hb dL_law_1368 rfl (lv_at hl 3 rfl) ?_
  refine lv_iconst (v := 2) hx hb dL_law_1369 (by decide) ?_
  refine lv_iadd hx hb dL_law_1370 ?_
  obtain ⟨q1371, e1371, h⟩ := Option.bind_eq_some_iff.mp h
  refine rd_sld C0 hG e1371 dL_law_1371 ?_
  obtain ⟨q1372, e1372, h⟩ := Option.bind_eq_some_iff.mp h
  refine lxH (As := [.int q1366, .int q1371]) (rest := []) C0 (ct_X6_textAt l D ca a tw tt v q1366 q1371 e1372) (cwV 2 hts gL_law_X6_textAt rfl rfl rfl (by decide +kernel) ⟨Nat.le_of_ble_eq_true rfl, Nat.le_of_ble_eq_true rfl⟩) hG rfl hl.1 rfl (Nat.le_of_ble_eq_true rfl) dL_law_1372 ?_
  refine W.eq (g2 := F0 m 1375 ls [.int q1372]) rfl ?_
  refine lv_aload_n hx hb dL_law_1375 rfl (lv_at hl 2 rfl) ?_
  refine lv_aload_n hx hb dL_law_1376 rfl (lv_at hl 0 rfl) ?_
  refine lv_iload_n hx hb dL_law_1377 rfl (lv_at hl 3 rfl) ?_
  refine lv_iconst (v := 1) hx hb dL_law_1378 (by decide) ?_
  refine lv_iadd hx hb dL_law_1379 ?_
  obtain ⟨q1380, e1380, h⟩ := Option.bind_eq_some_iff.mp h
  refine rd_sld C0 hG e1380 dL_law_1380 ?_
  refine lv_aload_n hx hb dL_law_1381 rfl (lv_at hl 0 rfl) ?_
  refine lv_iload_n hx hb dL_law_1382 rfl (lv_at hl 3 rfl) ?_
  refine lv_iconst (v := 2) hx hb dL_law_1383 (by decide) ?_
  refine lv_iadd hx hb dL_law_1384 ?_
  obtain ⟨q1385, e1385, h⟩ := Option.bind_eq_some_iff.mp h
  refine rd_sld C0 hG e1385 dL_law_1385 ?_
  obtain ⟨q1386, e1386, h⟩ := Option.bind_eq_some_iff.mp h
  refine lyH (As := [.int q1380, .int q1385]) (rest := [.int q1372]) C0 (ct_X7_textAt l D ca b tw tt w q1380 q1385 e1386) (cwV 2 hts gL_law_X7_textAt rfl rfl rfl (by decide +kernel) ⟨Nat.le_of_ble_eq_true rfl, Nat.le_of_ble_eq_true rfl⟩) hG rfl hl.1 rfl (Nat.le_of_ble_eq_true rfl) dL_law_1386 ?_
  refine W.eq (g2 := F0 m 1389 ls [.int q1386, .int q1372]) rfl ?_
  refine lv_icmp_eq (tgt := 1394) hx hb dL_law_1389 (by decide) (fun c0 => ?_) (fun c0 => ?_)
  · replace h := ite_t h c0
    exact wl_next C0 k18 hk18 v w H locs x3 ls hG hl h
  · replace h := ite_f h c0
    exact absurd (Option.some.inj h) (by decide)
set_option maxHeartbeats 4000000 in
set_option maxRecDepth 100000 in
theorem wl_sw {p : Program} {l : Launch} {e : Env} {s : State} {m : MethodId} {below : List Frame} {meth : Method} {c : Code} {D : va_G} {ca : Nat → ClassId} {a b : Nat → Nat} {tw : Nat} {tt : Nat → Nat} {scr L : Nat} {xs : Nat → Int32} (C0 : LC p s m meth c D ca a b tw tt scr L xs) (k18 : XS → YS → Int32 → Option Int32) (hk18 : ∀ (v : XS) (w : YS) (H : Heap) (locs : List Loc) (x3 : Int32) (ls : Array Slot), LG s D ca a b v w H locs → lv_has ls 4 [(0, .ref scr), (1, .ref (a 0)), (2, .ref (b 0)), (3, .int x3)] → k18 v w x3 = some 1 → W p l e room_1 s m #[Value.ref scr] below meth c H locs 15 1797 (lw_Z below #[Value.ref scr] s) (F0 m 18 ls [])) (v : XS) (w : YS) (H : Heap) (locs : List Loc) (x3 : Int32) (ls : Array Slot) (hG : LG s D ca a b v w H locs) (hl : lv_has ls 4 [(0, .ref scr), (1, .ref (a 0)), (2, .ref (b 0)), (3, .int x3)]) (j : Nat) (hj : j < 64) (h : fl_sw k18 L xs v w x3 j = some 1) : W p l e room_1 s m #[Value.ref scr] below meth c H locs 15 1797 (lw_Z below #[Value.ref scr] s) (F0 m 32 ls [.int (nI j)]) := by
  obtain ⟨hx, hb, hr, hml, hown, hts, hX, hbl, hlocks, hK, hT, hd⟩ := id C0
  match j, hj, h with
  | 0, _, h => exact lv_tableIn (tgt := 200) (off := 168) hx hb dL_law_32 (by decide) (by decide) (by decide) (by decide) (wl_0 C0 k18 hk18 v w H locs x3 ls hG hl h)
  | 1, _, h => exact lv_tableIn (tgt := 223) (off := 191) hx hb dL_law_32 (by decide) (by decide) (by decide) (by decide) (wl_1 C0 k18 hk18 v w H locs x3 ls hG hl h)
  | 2, _, h => exact lv_tableIn (tgt := 236) (off := 204) hx hb dL_law_32 (by decide) (by decide) (by decide) (by decide) (wl_2 C0 k18 hk18 v w H locs x3 ls hG hl h)
  | 3, _, h => exact lv_tableIn (tgt := 269) (off := 237) hx hb dL_law_32 (by decide) (by decide) (by decide) (by decide) (wl_3 C0 k18 hk18 v w H locs x3 ls hG hl h)
  | 4, _, h => exact lv_tableIn (tgt := 302) (off := 270) hx hb dL_law_32 (by decide) (by decide) (by decide) (by decide) (wl_4 C0 k18 hk18 v w H locs x3 ls hG hl h)
  | 5, _, h => exact lv_tableIn (tgt := 345) (off := 313) hx hb dL_law_32 (by decide) (by decide) (by decide) (by decide) (wl_5 C0 k18 hk18 v w H locs x3 ls hG hl h)
  | 6, _, h => exact lv_tableIn (tgt := 388) (off := 356) hx hb dL_law_32 (by decide) (by decide) (by decide) (by decide) (wl_6 C0 k18 hk18 v w H locs x3 ls hG hl h)
  | 7, _, h => exact lv_tableIn (tgt := 431) (off := 399) hx hb dL_law_32 (by decide) (by decide) (by decide) (by decide) (wl_7 C0 k18 hk18 v w H locs x3 ls hG hl h)
  | 8, _, h => exact lv_tableIn (tgt := 484) (off := 452) hx hb dL_law_32 (by decide) (by decide) (by decide) (by decide) (wl_8 C0 k18 hk18 v w H locs x3 ls hG hl h)
  | 9, _, h => exact lv_tableIn (tgt := 537) (off := 505) hx hb dL_law_32 (by decide) (by decide) (by decide) (by decide) (wl_9 C0 k18 hk18 v w H locs x3 ls hG hl h)
  | 10, _, h => exact lv_tableIn (tgt := 580) (off := 548) hx hb dL_law_32 (by decide) (by decide) (by decide) (by decide) (wl_10 C0 k18 hk18 v w H locs x3 ls hG hl h)
  | 11, _, h => exact lv_tableIn (tgt := 613) (off := 581) hx hb dL_law_32 (by decide) (by decide) (by decide) (by decide) (wl_11 C0 k18 hk18 v w H locs x3 ls hG hl h)
  | 12, _, h => exact lv_tableIn (tgt := 656) (off := 624) hx hb dL_law_32 (by decide) (by decide) (by decide) (by decide) (wl_12 C0 k18 hk18 v w H locs x3 ls hG hl h)
  | 13, _, h => exact lv_tableIn (tgt := 669) (off := 637) hx hb dL_law_32 (by decide) (by decide) (by decide) (by decide) (wl_13 C0 k18 hk18 v w H locs x3 ls hG hl h)
  | 14, _, h => exact lv_tableIn (tgt := 702) (off := 670) hx hb dL_law_32 (by decide) (by decide) (by decide) (by decide) (wl_14 C0 k18 hk18 v w H locs x3 ls hG hl h)
  | 15, _, h => exact lv_tableIn (tgt := 725) (off := 693) hx hb dL_law_32 (by decide) (by decide) (by decide) (by decide) (wl_15 C0 k18 hk18 v w H locs x3 ls hG hl h)
  | 16, _, h => exact lv_tableIn (tgt := 748) (off := 716) hx hb dL_law_32 (by decide) (by decide) (by decide) (by decide) (wl_16 C0 k18 hk18 v w H locs x3 ls hG hl h)
  | 17, _, h => exact lv_tableIn (tgt := 771) (off := 739) hx hb dL_law_32 (by decide) (by decide) (by decide) (by decide) (wl_17 C0 k18 hk18 v w H locs x3 ls hG hl h)
  | 18, _, h => exact lv_tableIn (tgt := 794) (off := 762) hx hb dL_law_32 (by decide) (by decide) (by decide) (by decide) (wl_18 C0 k18 hk18 v w H locs x3 ls hG hl h)
  | 19, _, h => exact lv_tableIn (tgt := 807) (off := 775) hx hb dL_law_32 (by decide) (by decide) (by decide) (by decide) (wl_19 C0 k18 hk18 v w H locs x3 ls hG hl h)
  | 20, _, h => exact lv_tableIn (tgt := 850) (off := 818) hx hb dL_law_32 (by decide) (by decide) (by decide) (by decide) (wl_20 C0 k18 hk18 v w H locs x3 ls hG hl h)
  | 21, _, h => exact lv_tableIn (tgt := 883) (off := 851) hx hb dL_law_32 (by decide) (by decide) (by decide) (by decide) (wl_21 C0 k18 hk18 v w H locs x3 ls hG hl h)
  | 22, _, h => exact lv_tableIn (tgt := 916) (off := 884) hx hb dL_law_32 (by decide) (by decide) (by decide) (by decide) (wl_22 C0 k18 hk18 v w H locs x3 ls hG hl h)
  | 23, _, h => exact lv_tableIn (tgt := 969) (off := 937) hx hb dL_law_32 (by decide) (by decide) (by decide) (by decide) (wl_23 C0 k18 hk18 v w H locs x3 ls hG hl h)
  | 24, _, h => exact lv_tableIn (tgt := 1002) (off := 970) hx hb dL_law_32 (by decide) (by decide) (by decide) (by decide) (wl_24 C0 k18 hk18 v w H locs x3 ls hG hl h)
  | 25, _, h => exact lv_tableIn (tgt := 1025) (off := 993) hx hb dL_law_32 (by decide) (by decide) (by decide) (by decide) (wl_25 C0 k18 hk18 v w H locs x3 ls hG hl h)
  | 26, _, h => exact lv_tableIn (tgt := 1058) (off := 1026) hx hb dL_law_32 (by decide) (by decide) (by decide) (by decide) (wl_26 C0 k18 hk18 v w H locs x3 ls hG hl h)
  | 27, _, h => exact lv_tableIn (tgt := 1091) (off := 1059) hx hb dL_law_32 (by decide) (by decide) (by decide) (by decide) (wl_27 C0 k18 hk18 v w H locs x3 ls hG hl h)
  | 28, _, h => exact lv_tableIn (tgt := 1134) (off := 1102) hx hb dL_law_32 (by decide) (by decide) (by decide) (by decide) (wl_28 C0 k18 hk18 v w H locs x3 ls hG hl h)
  | 29, _, h => exact lv_tableIn (tgt := 1177) (off := 1145) hx hb dL_law_32 (by decide) (by decide) (by decide) (by decide) (wl_29 C0 k18 hk18 v w H locs x3 ls hG hl h)
  | 30, _, h => exact lv_tableIn (tgt := 1210) (off := 1178) hx hb dL_law_32 (by decide) (by decide) (by decide) (by decide) (wl_30 C0 k18 hk18 v w H locs x3 ls hG hl h)
  | 31, _, h => exact lv_tableIn (tgt := 1243) (off := 1211) hx hb dL_law_32 (by decide) (by decide) (by decide) (by decide) (wl_31 C0 k18 hk18 v w H locs x3 ls hG hl h)
  | 32, _, h => exact lv_tableIn (tgt := 1266) (off := 1234) hx hb dL_law_32 (by decide) (by decide) (by decide) (by decide) (wl_32 C0 k18 hk18 v w H locs x3 ls hG hl h)
  | 33, _, h => exact lv_tableIn (tgt := 1289) (off := 1257) hx hb dL_law_32 (by decide) (by decide) (by decide) (by decide) (wl_33 C0 k18 hk18 v w H locs x3 ls hG hl h)
  | 34, _, h => exact lv_tableIn (tgt := 1302) (off := 1270) hx hb dL_law_32 (by decide) (by decide) (by decide) (by decide) (wl_34 C0 k18 hk18 v w H locs x3 ls hG hl h)
  | 35, _, h => exact lv_tableIn (tgt := 1315) (off := 1283) hx hb dL_law_32 (by decide) (by decide) (by decide) (by decide) (wl_35 C0 k18 hk18 v w H locs x3 ls hG hl h)
  | 36, _, h => exact lv_tableIn (tgt := 1338) (off := 1306) hx hb dL_law_32 (by decide) (by decide) (by decide) (by decide) (wl_36 C0 k18 hk18 v w H locs x3 ls hG hl h)
  | 37, _, h => exact lv_tableIn (tgt := 1361) (off := 1329) hx hb dL_law_32 (by decide) (by decide) (by decide) (by decide) (wl_37 C0 k18 hk18 v w H locs x3 ls hG hl h)
  | j + 38, hj, h =>
    refine lv_tableOut (tgt := 1394) hx hb dL_law_32 (Or.inr ?_) (by decide) ?_
    · rw [nI_toInt (by omega)]; omega
    · exact wl_next C0 k18 hk18 v w H locs x3 ls hG hl h
set_option maxHeartbeats 4000000 in
set_option maxRecDepth 100000 in
theorem wl_body {p : Program} {l : Launch} {e : Env} {s : State} {m : MethodId} {below : List Frame} {meth : Method} {c : Code} {D : va_G} {ca : Nat → ClassId} {a b : Nat → Nat} {tw : Nat} {tt : Nat → Nat} {scr L : Nat} {xs : Nat → Int32} (C0 : LC p s m meth c D ca a b tw tt scr L xs) (k18 : XS → YS → Int32 → Option Int32) (hk18 : ∀ (v : XS) (w : YS) (H : Heap) (locs : List Loc) (x3 : Int32) (ls : Array Slot), LG s D ca a b v w H locs → lv_has ls 4 [(0, .ref scr), (1, .ref (a 0)), (2, .ref (b 0)), (3, .int x3)] → k18 v w x3 = some 1 → W p l e room_1 s m #[Value.ref scr] below meth c H locs 15 1797 (lw_Z below #[Value.ref scr] s) (F0 m 18 ls [])) (v : XS) (w : YS) (H : Heap) (locs : List Loc) (x3 : Int32) (ls : Array Slot) (hG : LG s D ca a b v w H locs) (hl : lv_has ls 4 [(0, .ref scr), (1, .ref (a 0)), (2, .ref (b 0)), (3, .int x3)]) (h : fl_body k18 L xs v w x3 = some 1) : W p l e room_1 s m #[Value.ref scr] below meth c H locs 15 1797 (lw_Z below #[Value.ref scr] s) (F0 m 18 ls []) := by
  obtain ⟨hx, hb, hr, hml, hown, hts, hX, hbl, hlocks, hK, hT, hd⟩ := id C0
  unfold fl_body at h
  refine lv_iload_n hx hb dL_law_18 rfl (lv_at hl 3 rfl) ?_
  refine lv_aload_n hx hb dL_law_19 rfl (lv_at hl 0 rfl) ?_
  refine rd_slen C0 hG dL_law_20 ?_
  refine lv_iconst (v := 5) hx hb dL_law_21 (by decide) ?_
  refine lv_isub hx hb dL_law_22 ?_
  refine lv_icmp_gt (tgt := 1400) hx hb dL_law_23 (by decide) (fun c0 => ?_) (fun c0 => ?_)
  · refine lv_iconst (v := 1) hx hb dL_law_1400 (by decide) ?_
    refine va_forget (fun q hq => hG.2.2.2.2 q hq) ?_
    exact lw_ret hx hb hr hlocks dL_law_1401
  · replace h := ite_f h c0
    refine lv_aload_n hx hb dL_law_26 rfl (lv_at hl 0 rfl) ?_
    refine lv_iload_n hx hb dL_law_27 rfl (lv_at hl 3 rfl) ?_
    obtain ⟨q28, e28, h⟩ := Option.bind_eq_some_iff.mp h
    refine rd_sld C0 hG e28 dL_law_28 ?_
    refine lv_bipush (v := 63) hx hb dL_law_29 (by decide) ?_
    refine lv_iand hx hb dL_law_31 ?_
    obtain ⟨j, hj, ej⟩ := pk_andE q28 (m := 63) 6 (by decide)
    rw [ej]
    rw [ej, nI_clamp (by omega)] at h
    exact wl_sw C0 k18 hk18 v w H locs x3 ls hG hl j hj h
theorem wl_loop {p : Program} {l : Launch} {e : Env} {s : State} {m : MethodId} {below : List Frame} {meth : Method} {c : Code} {D : va_G} {ca : Nat → ClassId} {a b : Nat → Nat} {tw : Nat} {tt : Nat → Nat} {scr L : Nat} {xs : Nat → Int32} (C0 : LC p s m meth c D ca a b tw tt scr L xs) : ∀ (n : Nat) (v : XS) (w : YS) (H : Heap) (locs : List Loc) (x3 : Int32) (ls : Array Slot), LG s D ca a b v w H locs → lv_has ls 4 [(0, .ref scr), (1, .ref (a 0)), (2, .ref (b 0)), (3, .int x3)] → fl_loop L xs n v w x3 = some 1 → W p l e room_1 s m #[Value.ref scr] below meth c H locs 15 1797 (lw_Z below #[Value.ref scr] s) (F0 m 18 ls []) := by
  intro n
  induction n with
  | zero => intro v w H locs x3 ls hG hl h; unfold fl_loop at h; cases h
  | succ n ih => intro v w H locs x3 ls hG hl h; exact wl_body C0 (fl_loop L xs n) ih v w H locs x3 ls hG hl h
