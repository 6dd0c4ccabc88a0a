/-! the law's surroundings: the two objects' worlds side by side, above the start's heap -/
def R_law : String := "BooleanRingLaw"
def lw_P (b : Addr) (xs : List Int32) (args : Array Value) (s : State) : Prop := args = #[.ref b] ∧ s.IntsAt b xs ∧ xs.length ≤ 2560 ∧ (Jvm.Cond.and given_1 narrow_1).before args s = true
def lw_Q (_ : Array Value) (s : State) (o : Outcome) (t : State) : Prop := o = .returned (some (.int 1)) ∧ Framed s o t [] 15 1797
def lw_Z (below : List Frame) (a : Array Value) (s : State) : State → Prop := fun t => ∃ o, t.status = .running ∧ Ended t below o ∧ lw_Q a s o t
/-- the law's own end, with 1 on the stack, nothing written that was there before, its room as the claim has it -/
theorem lw_ret {p : Program} {l : Launch} {e : Env} {s : State} {m : MethodId} {below : List Frame} {meth : Method} {c : Code} {b : Nat} (hx : p.tables.exec = Jvm.exec) (hb : c.code = code) (hr : meth.sig.returnType = ret) (hlocks : meth.locks = false) {pc : Nat} {H : Heap} {ls : Array Slot} (hdg : decode code pc = .ok (.ireturn, 1)) : W p l e room_1 s m #[Value.ref b] below meth c H [] 15 1797 (lw_Z below #[Value.ref b] s) (F0 m pc ls [.int 1]) := by
  intro T hT X
  obtain ⟨fs, hret, hrun, hended, hW, hframe⟩ := X.leave (v := some (.int 1)) (hlocks := hlocks) (fun h => by rw [hr] at h; cases h)
  have hmeth' : T.vm.method? m = some meth := X.method'
  refine ⟨T.setFrames fs, ?_, .returned (some (.int 1)), hrun, hended, rfl, ⟨_, rfl⟩, hW, hframe⟩
  jvm_step X.here [X.here.top, hx, hb, hdg, hmeth', hr, ret, narrow_b1]
  (try refine ⟨rfl, ?_⟩); (try refine ⟨rfl, ?_⟩)
  first | (intro acts; rw [hret _ acts rfl rfl rfl]) | rw [hret _ _ rfl rfl rfl]
  exact Steps.refl _
/-- what holds at the law's entry: the machine, the code, the tables' words (any of lw_tbl by 'hts w (by decide +kernel)'), the script of L ints xs at the cell b, what the Statement gives of the start (any of its parts by flat_of_before) -/
def lw_At (p : Program) (s : State) (m : MethodId) (meth : Method) (c : Code) (b L : Nat) (xs : Nat → Int32) : Prop :=
  p.tables.exec = Jvm.exec ∧ c.code = code ∧ meth.sig.returnType = ret ∧ c.maxLocals = 4 ∧ s.vm.findClass R_law = some m.cls ∧ (∀ w ∈ lw_tbl, w.before #[Value.ref b] s = true) ∧ va_X b L xs s s.heap ∧ b < s.heap.size ∧ meth.locks = false ∧ (Jvm.Cond.and given_1 narrow_1).before #[Value.ref b] s = true
abbrev lA (s : State) : Nat → Prop := fun q => s.heap.size ≤ q
def adr (s : State) (a b : Nat → Nat) : Prop := ap_ok 9 a ∧ ap_ok 6 b ∧ (∀ i j, i < 9 → j < 6 → a i ≠ b j) ∧ (∀ i, i < 9 → s.heap.size ≤ a i) ∧ (∀ i, i < 6 → s.heap.size ≤ b i)
/-- the law's surroundings in its loop -/
def LC (p : Program) (s : State) (m : MethodId) (meth : Method) (c : Code) (D : va_G) (ca : Nat → ClassId) (a b : Nat → Nat) (tw : Nat) (tt : Nat → Nat) (scr L : Nat) (xs : Nat → Int32) : Prop :=
  p.tables.exec = Jvm.exec ∧ c.code = code ∧ meth.sig.returnType = ret ∧ c.maxLocals = 4 ∧ s.vm.findClass RL = some m.cls ∧ (∀ w ∈ wsL_law, w.before #[Value.ref scr] s = true) ∧ va_X scr L xs s s.heap ∧ scr < s.heap.size ∧ meth.locks = false ∧ va_K D vwCl (tys3 ca) s ∧ tW tw tt (lA s) s s.heap ∧ adr s a b
def LG (s : State) (D : va_G) (ca : Nat → ClassId) (a b : Nat → Nat) (v : XS) (w : YS) (H : Heap) (locs : List Loc) : Prop :=
  va_P D vwCl (XW ca a v) H ∧ va_P D vwCl (YW ca b w) H ∧ va_S (lA s) s.heap H locs
theorem va_P.still {D : va_G} {cl : List vw_C} {ws : va_W} {H H1 : Heap} {A : Nat → Prop} (hP : va_P D cl ws H) (hk : ∀ q : Nat, q < H.size → ¬ A q → H1[q]? = H[q]?) (hn : ∀ (k : Nat) (q : Nat × va_E), ws[k]? = some q → ¬ A q.1) : va_P D cl ws H1 := fun k q hq => (hP k q hq).kept (hk q.1 (hP k q hq).lt (hn k q hq))
theorem adX {s : State} {a b : Nat → Nat} (h : adr s a b) : ∀ q, ad_of 9 a q → lA s q := fun q ⟨i, hi, e⟩ => by rw [e]; exact h.2.2.2.1 i hi
theorem adY {s : State} {a b : Nat → Nat} (h : adr s a b) : ∀ q, ad_of 6 b q → lA s q := fun q ⟨i, hi, e⟩ => by rw [e]; exact h.2.2.2.2 i hi
theorem apXY {s : State} {ca : Nat → ClassId} {a b : Nat → Nat} (h : adr s a b) (v : XS) : ∀ (k : Nat) (q : Nat × va_E), (XW ca a v)[k]? = some q → ¬ ad_of 6 b q.1 := fun k q hq => by
  obtain ⟨i, hi, e⟩ := (XW_D (ca := ca) h.1 v).2 k q hq
  rintro ⟨j, hj, e2⟩
  exact h.2.2.1 i j hi hj (e.symm.trans e2)
theorem apYX {s : State} {ca : Nat → ClassId} {a b : Nat → Nat} (h : adr s a b) (w : YS) : ∀ (k : Nat) (q : Nat × va_E), (YW ca b w)[k]? = some q → ¬ ad_of 9 a q.1 := fun k q hq => by
  obtain ⟨j, hj, e⟩ := (YW_D (ca := ca) h.2.1 w).2 k q hq
  rintro ⟨i, hi, e2⟩
  exact h.2.2.1 i j hi hj (e2.symm.trans e)
section LAWCALLS
variable {p : Program} {l : Launch} {e : Env} {s : State} {m : MethodId} {below : List Frame} {meth : Method} {c : Code} {H : Heap} {locs : List Loc} {Q : State → Prop} {D : va_G} {ca : Nat → ClassId} {a b : Nat → Nat} {tw : Nat} {tt : Nat → Nat} {scr L : Nat} {xs : Nat → Int32} {v v' : XS} {w w' : YS}
variable {y : MethodName} {bytes : ByteArray} {maxL n index : Nat} {rt : Option FieldType} {ws : List Cond} {rm : Room} {As rest : List Value} {r : Option Value} {pc : Nat} {ls : Array Slot} {st0 : List Value}
theorem lm_go {A : Nat → Prop} {P : Heap → Prop} {args : Array Value} {R : Room} {cells slots : Nat} (hr : va_Run p l e R s m args below meth c H locs cells slots 0 0 (F0 m pc ls st0) rest (fun st oc t => oc = .returned r ∧ P t.heap ∧ va_F A st t) A) (hS : va_S (lA s) s.heap H locs) (hA : ∀ q, A q → lA s q)
    (kk : ∀ (H1 : Heap) (locs1 : List Loc), P H1 → (∀ q : Nat, q < H.size → ¬ A q → H1[q]? = H[q]?) → va_S (lA s) s.heap H1 locs1 → W p l e R s m args below meth c H1 locs1 cells slots Q (F0 m (pc + 3) ls (r.toList ++ rest))) : W p l e R s m args below meth c H locs cells slots Q (F0 m pc ls st0) := by
  intro T hT X
  obtain ⟨v, st₀, t, T', L, h0, X', hL, e1, e2, ⟨hv, hp, hz, hk⟩, st⟩ := hr T hT X
  cases hv
  rw [h0] at hz hk
  obtain ⟨t2, a1, b1⟩ := kk T'.heap (locs ++ L) (by rw [e1]; exact hp) (fun q h1 h2 => by rw [e1]; exact hk q h1 h2) ⟨Nat.le_trans hS.1 (by rw [e1]; exact hz), fun q h1 h2 => by rw [e1, hk q (Nat.lt_of_lt_of_le h1 hS.1) (fun h => h2 (hA q h))]; exact hS.2.1 q h1 h2, fun q hq => by
      rcases List.mem_append.mp hq with h | h
      · exact hS.2.2 q h
      · exact hA _ (hL q h)⟩ T' rfl X'
  exact ⟨t2, st t2 a1, b1⟩
theorem GWx (C : LC p s m meth c D ca a b tw tt scr L xs) (hG : LG s D ca a b v w H locs) : ∀ U : State, U.heap = H → s.vm.Alike U.vm → GW D ca tw tt (ad_of 9 a) (XW ca a v) U := fun U hU hv => by
  obtain ⟨-, -, -, -, -, -, -, -, -, hK, hT, hd⟩ := C
  unfold GW
  rw [hU]
  exact ⟨hG.1, hK.moved hv, ((hT.kept hG.2.2.2.1).narrow (adX hd)).moved hv⟩
theorem GWy (C : LC p s m meth c D ca a b tw tt scr L xs) (hG : LG s D ca a b v w H locs) : ∀ U : State, U.heap = H → s.vm.Alike U.vm → GW D ca tw tt (ad_of 6 b) (YW ca b w) U := fun U hU hv => by
  obtain ⟨-, -, -, -, -, -, -, -, -, hK, hT, hd⟩ := C
  unfold GW
  rw [hU]
  exact ⟨hG.2.1, hK.moved hv, ((hT.kept hG.2.2.2.1).narrow (adY hd)).moved hv⟩
theorem lxM (C : LC p s m meth c D ca a b tw tt scr L xs) (hM : Mp l y ws rm (.ref (a 0) :: As) (GW D ca tw tt (ad_of 9 a) (XW ca a v)) r (fun H => va_P D vwCl (XW ca a v') H) (ad_of 9 a)) (cw : CallW room_1 s #[Value.ref scr] RL RX6 index y bytes maxL rt ws rm 0 0 n) (hG : LG s D ca a b v w H locs)
    (hn : As.length = n) (hsize : ls.size = 4) (hstack : st0 = As.reverse ++ .ref (a 0) :: rest) (hW : (rest.map fun v => v.category).sum ≤ 8) (hdg : decode code pc = .ok (.invokevirtual index, 3))
    (kk : ∀ (H1 : Heap) (locs1 : List Loc), LG s D ca a b v' w H1 locs1 → W p l e room_1 s m #[Value.ref scr] below meth c H1 locs1 15 1797 Q (F0 m (pc + 3) ls (r.toList ++ rest))) : W p l e room_1 s m #[Value.ref scr] below meth c H locs 15 1797 Q (F0 m pc ls st0) := by
  have hB := GWx C hG
  obtain ⟨hx, hb, hr, hml, hown, hts, hX, hbl, hlocks, hK, hT, hd⟩ := C
  refine lm_go (va_runV ⟨hx, hb, hml, hown, hts⟩ hM cw ⟨GW.mv.blind, va_recv hK hG.1 (ci := 3) (q0 := 0) rfl rfl, fun U hU hW => ⟨rfl, hB U hU hW.alike⟩⟩ rfl hn hsize hstack (lv_room hW) hdg ⟨Nat.le_of_ble_eq_true rfl, Nat.le_of_ble_eq_true rfl⟩) hG.2.2 (adX hd) (fun H1 l1 h1 h2 h3 => kk H1 l1 ⟨h1, hG.2.1.still h2 (apYX hd w), h3⟩)
theorem lyM (C : LC p s m meth c D ca a b tw tt scr L xs) (hM : Mp l y ws rm (.ref (b 0) :: As) (GW D ca tw tt (ad_of 6 b) (YW ca b w)) r (fun H => va_P D vwCl (YW ca b w') H) (ad_of 6 b)) (cw : CallW room_1 s #[Value.ref scr] RL RX7 index y bytes maxL rt ws rm 0 0 n) (hG : LG s D ca a b v w H locs)
    (hn : As.length = n) (hsize : ls.size = 4) (hstack : st0 = As.reverse ++ .ref (b 0) :: rest) (hW : (rest.map fun v => v.category).sum ≤ 8) (hdg : decode code pc = .ok (.invokevirtual index, 3))
    (kk : ∀ (H1 : Heap) (locs1 : List Loc), LG s D ca a b v w' H1 locs1 → W p l e room_1 s m #[Value.ref scr] below meth c H1 locs1 15 1797 Q (F0 m (pc + 3) ls (r.toList ++ rest))) : W p l e room_1 s m #[Value.ref scr] below meth c H locs 15 1797 Q (F0 m pc ls st0) := by
  have hB := GWy C hG
  obtain ⟨hx, hb, hr, hml, hown, hts, hX, hbl, hlocks, hK, hT, hd⟩ := C
  refine lm_go (va_runV ⟨hx, hb, hml, hown, hts⟩ hM cw ⟨GW.mv.blind, va_recv hK hG.2.1 (ci := 4) (q0 := 0) rfl rfl, fun U hU hW => ⟨rfl, hB U hU hW.alike⟩⟩ rfl hn hsize hstack (lv_room hW) hdg ⟨Nat.le_of_ble_eq_true rfl, Nat.le_of_ble_eq_true rfl⟩) hG.2.2 (adY hd) (fun H1 l1 h1 h2 h3 => kk H1 l1 ⟨hG.1.still h2 (apXY hd v), h1, h3⟩)
theorem lxH (C : LC p s m meth c D ca a b tw tt scr L xs) (hM : Hp l y ws rm (.ref (a 0) :: As) (GW D ca tw tt (ad_of 9 a) (XW ca a v)) r) (cw : CallW room_1 s #[Value.ref scr] RL RX6 index y bytes maxL rt ws rm 0 0 n) (hG : LG s D ca a b v w H locs)
    (hn : As.length = n) (hsize : ls.size = 4) (hstack : st0 = As.reverse ++ .ref (a 0) :: rest) (hW : (rest.map fun v => v.category).sum ≤ 8) (hdg : decode code pc = .ok (.invokevirtual index, 3))
    (kk : W p l e room_1 s m #[Value.ref scr] below meth c H locs 15 1797 Q (F0 m (pc + 3) ls (r.toList ++ rest))) : W p l e room_1 s m #[Value.ref scr] below meth c H locs 15 1797 Q (F0 m pc ls st0) := by
  have hB := GWx C hG
  obtain ⟨hx, hb, hr, hml, hown, hts, hX, hbl, hlocks, hK, hT, hd⟩ := C
  exact hp_go (va_runV ⟨hx, hb, hml, hown, hts⟩ hM cw ⟨GW.mv.blind, va_recv hK hG.1 (ci := 3) (q0 := 0) rfl rfl, fun U hU hW => ⟨rfl, hB U hU hW.alike⟩⟩ rfl hn hsize hstack (lv_room hW) hdg ⟨Nat.le_of_ble_eq_true rfl, Nat.le_of_ble_eq_true rfl⟩) kk
theorem lyH (C : LC p s m meth c D ca a b tw tt scr L xs) (hM : Hp l y ws rm (.ref (b 0) :: As) (GW D ca tw tt (ad_of 6 b) (YW ca b w)) r) (cw : CallW room_1 s #[Value.ref scr] RL RX7 index y bytes maxL rt ws rm 0 0 n) (hG : LG s D ca a b v w H locs)
    (hn : As.length = n) (hsize : ls.size = 4) (hstack : st0 = As.reverse ++ .ref (b 0) :: rest) (hW : (rest.map fun v => v.category).sum ≤ 8) (hdg : decode code pc = .ok (.invokevirtual index, 3))
    (kk : W p l e room_1 s m #[Value.ref scr] below meth c H locs 15 1797 Q (F0 m (pc + 3) ls (r.toList ++ rest))) : W p l e room_1 s m #[Value.ref scr] below meth c H locs 15 1797 Q (F0 m pc ls st0) := by
  have hB := GWy C hG
  obtain ⟨hx, hb, hr, hml, hown, hts, hX, hbl, hlocks, hK, hT, hd⟩ := C
  exact hp_go (va_runV ⟨hx, hb, hml, hown, hts⟩ hM cw ⟨GW.mv.blind, va_recv hK hG.2.1 (ci := 4) (q0 := 0) rfl rfl, fun U hU hW => ⟨rfl, hB U hU hW.alike⟩⟩ rfl hn hsize hstack (lv_room hW) hdg ⟨Nat.le_of_ble_eq_true rfl, Nat.le_of_ble_eq_true rfl⟩) kk
theorem rd_sld (C : LC p s m meth c D ca a b tw tt scr L xs) (hG : LG s D ca a b v w H locs) {i q : Int32} (er : rd xs L i = some q) (hdg : decode code pc = .ok (.iaload, 1))
    (kk : W p l e room_1 s m #[Value.ref scr] below meth c H locs 15 1797 Q (F0 m (pc + 1) ls (.int q :: rest))) : W p l e room_1 s m #[Value.ref scr] below meth c H locs 15 1797 Q (F0 m pc ls (.int i :: .ref scr :: rest)) := by
  obtain ⟨hin, rfl⟩ := rd_some er
  obtain ⟨hx, hb, hr, hml, hown, hts, hX, hbl, hlocks, hK, hT, hd⟩ := C
  exact va_sld hx hb hX hbl (Nat.not_le.mpr hbl) hG.2.2 hin hdg kk
theorem rd_slen (C : LC p s m meth c D ca a b tw tt scr L xs) (hG : LG s D ca a b v w H locs) (hdg : decode code pc = .ok (.arraylength, 1))
    (kk : W p l e room_1 s m #[Value.ref scr] below meth c H locs 15 1797 Q (F0 m (pc + 1) ls (.int (nI L) :: rest))) : W p l e room_1 s m #[Value.ref scr] below meth c H locs 15 1797 Q (F0 m pc ls (.ref scr :: rest)) := by
  obtain ⟨hx, hb, hr, hml, hown, hts, hX, hbl, hlocks, hK, hT, hd⟩ := C
  exact va_slen hx hb hX hbl (Nat.not_le.mpr hbl) hG.2.2 hdg kk
end LAWCALLS
