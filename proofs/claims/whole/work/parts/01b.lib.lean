/-! the library of this claim: the state of the class and of the reference, static tables, contracts' forms, calls -/
-- what the static arrays hold
def kW (j : Nat) : Int64 := match j with
  | 0 => 6148914691236517205
  | 1 => 3689348814741910323
  | 2 => 1085102592571150095
  | 3 => 71777214294589695
  | 4 => 281470681808895
  | _ => 4294967295
def kT0 : List Int32 := [63, 31, 47, 15, 55, 23, 39, 7, 59, 27, 43, 11, 51, 19, 35, 3, 61, 29, 45, 13, 53, 21, 37, 5, 57, 25, 41, 9, 49, 17, 33, 1, 62, 30, 46, 14, 54, 22, 38, 6, 58, 26, 42, 10, 50, 18, 34, 2, 60, 28, 44, 12, 52, 20, 36, 4, 56, 24, 40, 8, 48, 16, 32, 0]
def kT1 : List Int32 := [63, 31, 47, 55, 59, 61, 62, 15, 23, 39, 27, 43, 51, 29, 45, 53, 57, 30, 46, 54, 58, 60, 7, 11, 19, 35, 13, 21, 37, 25, 41, 49, 14, 22, 38, 26, 42, 50, 28, 44, 52, 56, 3, 5, 9, 17, 33, 6, 10, 18, 34, 12, 20, 36, 24, 40, 48, 1, 2, 4, 8, 16, 32, 0]
def kT2 : List Int32 := [63, 31, 47, 55, 59, 61, 62, 15, 23, 27, 29, 30, 39, 43, 45, 46, 51, 53, 54, 57, 58, 60, 7, 11, 13, 14, 19, 21, 22, 25, 26, 28, 35, 37, 38, 41, 42, 44, 49, 50, 52, 56, 3, 5, 6, 9, 10, 12, 17, 18, 20, 24, 33, 34, 36, 40, 48, 1, 2, 4, 8, 16, 32, 0]
def kT (k j : Nat) : Int32 := match k with
  | 0 => kT0.getD j 0
  | 1 => kT1.getD j 0
  | _ => kT2.getD j 0
/-- the static arrays, at addresses outside A -/
def tW (tw : Nat) (tt : Nat → Nat) (A : Nat → Prop) (U : State) (H : Heap) : Prop :=
  va_Z "BooleanRing$Poly" "WITHOUT" "[J" (.ref tw) A U H ∧ va_T .long tw 6 (fun j => .long (kW j)) A U H ∧ va_Z "BooleanRing$Orders" "BY_LEX" "[I" (.ref (tt 0)) A U H ∧ va_Z "BooleanRing$Orders" "BY_GRADED" "[I" (.ref (tt 1)) A U H ∧ va_Z "BooleanRing$Orders" "BY_REVERSE" "[I" (.ref (tt 2)) A U H ∧ ∀ k : Nat, va_T .int (tt k) 64 (fun j => .int (kT k j)) A U H
theorem tW.moved {tw : Nat} {tt : Nat → Nat} {A : Nat → Prop} {u U : State} {H : Heap} (hvm : u.vm.Alike U.vm) (h : tW tw tt A u H) : tW tw tt A U H :=
  ⟨h.1.moved hvm, h.2.1.moved hvm, h.2.2.1.moved hvm, h.2.2.2.1.moved hvm, h.2.2.2.2.1.moved hvm, fun k => (h.2.2.2.2.2 k).moved hvm⟩
theorem tW.kept {tw : Nat} {tt : Nat → Nat} {A : Nat → Prop} {U : State} {H H1 : Heap} (h : tW tw tt A U H) (hq : ∀ a : Nat, a < H.size → ¬ A a → H1[a]? = H[a]?) : tW tw tt A U H1 :=
  ⟨h.1.kept hq, h.2.1.kept hq, h.2.2.1.kept hq, h.2.2.2.1.kept hq, h.2.2.2.2.1.kept hq, fun k => (h.2.2.2.2.2 k).kept hq⟩
theorem tW.narrow {tw : Nat} {tt : Nat → Nat} {A B : Nat → Prop} {U : State} {H : Heap} (h : tW tw tt A U H) (hAB : ∀ q, B q → A q) : tW tw tt B U H :=
  ⟨h.1.narrow hAB, h.2.1.narrow hAB, h.2.2.1.narrow hAB, h.2.2.2.1.narrow hAB, h.2.2.2.2.1.narrow hAB, fun k => (h.2.2.2.2.2 k).narrow hAB⟩
-- the class's state: n, kept, count, length; registers, history, found; leading, text
abbrev XS : Type := Int32 × Int32 × Int32 × Int32 × (Nat → Int64) × (Nat → Int64) × (Nat → Int64) × (Nat → Int32) × (Nat → Int32)
abbrev x_n (v : XS) : Int32 := v.1
abbrev x_kept (v : XS) : Int32 := v.2.1
abbrev x_count (v : XS) : Int32 := v.2.2.1
abbrev x_len (v : XS) : Int32 := v.2.2.2.1
abbrev x_regs (v : XS) : Nat → Int64 := v.2.2.2.2.1
abbrev x_hist (v : XS) : Nat → Int64 := v.2.2.2.2.2.1
abbrev x_found (v : XS) : Nat → Int64 := v.2.2.2.2.2.2.1
abbrev x_lead (v : XS) : Nat → Int32 := v.2.2.2.2.2.2.2.1
abbrev x_text (v : XS) : Nat → Int32 := v.2.2.2.2.2.2.2.2
abbrev xs_n (v : XS) (x : Int32) : XS := (x, v.2)
abbrev xs_kept (v : XS) (x : Int32) : XS := (v.1, x, v.2.2)
abbrev xs_count (v : XS) (x : Int32) : XS := (v.1, v.2.1, x, v.2.2.2)
abbrev xs_len (v : XS) (x : Int32) : XS := (v.1, v.2.1, v.2.2.1, x, v.2.2.2.2)
abbrev xs_regs (v : XS) (x : Nat → Int64) : XS := (v.1, v.2.1, v.2.2.1, v.2.2.2.1, x, v.2.2.2.2.2)
abbrev xs_hist (v : XS) (x : Nat → Int64) : XS := (v.1, v.2.1, v.2.2.1, v.2.2.2.1, v.2.2.2.2.1, x, v.2.2.2.2.2.2)
abbrev xs_found (v : XS) (x : Nat → Int64) : XS := (v.1, v.2.1, v.2.2.1, v.2.2.2.1, v.2.2.2.2.1, v.2.2.2.2.2.1, x, v.2.2.2.2.2.2.2)
abbrev xs_lead (v : XS) (x : Nat → Int32) : XS := (v.1, v.2.1, v.2.2.1, v.2.2.2.1, v.2.2.2.2.1, v.2.2.2.2.2.1, v.2.2.2.2.2.2.1, x, v.2.2.2.2.2.2.2.2)
abbrev xs_text (v : XS) (x : Nat → Int32) : XS := (v.1, v.2.1, v.2.2.1, v.2.2.2.1, v.2.2.2.2.1, v.2.2.2.2.2.1, v.2.2.2.2.2.2.1, v.2.2.2.2.2.2.2.1, x)
-- the reference's state: n, states, typed, founds; p, was, found, by; text
abbrev YS : Type := Int32 × Int32 × Int32 × Int32 × (Nat → Int64) × (Nat → Int64) × (Nat → Int64) × (Nat → Int64) × (Nat → Int32)
abbrev y_n (v : YS) : Int32 := v.1
abbrev y_states (v : YS) : Int32 := v.2.1
abbrev y_typed (v : YS) : Int32 := v.2.2.1
abbrev y_founds (v : YS) : Int32 := v.2.2.2.1
abbrev y_p (v : YS) : Nat → Int64 := v.2.2.2.2.1
abbrev y_was (v : YS) : Nat → Int64 := v.2.2.2.2.2.1
abbrev y_found (v : YS) : Nat → Int64 := v.2.2.2.2.2.2.1
abbrev y_by (v : YS) : Nat → Int64 := v.2.2.2.2.2.2.2.1
abbrev y_text (v : YS) : Nat → Int32 := v.2.2.2.2.2.2.2.2
abbrev ys_n (v : YS) (x : Int32) : YS := (x, v.2)
abbrev ys_states (v : YS) (x : Int32) : YS := (v.1, x, v.2.2)
abbrev ys_typed (v : YS) (x : Int32) : YS := (v.1, v.2.1, x, v.2.2.2)
abbrev ys_founds (v : YS) (x : Int32) : YS := (v.1, v.2.1, v.2.2.1, x, v.2.2.2.2)
abbrev ys_p (v : YS) (x : Nat → Int64) : YS := (v.1, v.2.1, v.2.2.1, v.2.2.2.1, x, v.2.2.2.2.2)
abbrev ys_was (v : YS) (x : Nat → Int64) : YS := (v.1, v.2.1, v.2.2.1, v.2.2.2.1, v.2.2.2.2.1, x, v.2.2.2.2.2.2)
abbrev ys_found (v : YS) (x : Nat → Int64) : YS := (v.1, v.2.1, v.2.2.1, v.2.2.2.1, v.2.2.2.2.1, v.2.2.2.2.2.1, x, v.2.2.2.2.2.2.2)
abbrev ys_by (v : YS) (x : Nat → Int64) : YS := (v.1, v.2.1, v.2.2.1, v.2.2.2.1, v.2.2.2.2.1, v.2.2.2.2.2.1, v.2.2.2.2.2.2.1, x, v.2.2.2.2.2.2.2.2)
abbrev ys_text (v : YS) (x : Nat → Int32) : YS := (v.1, v.2.1, v.2.2.1, v.2.2.2.1, v.2.2.2.2.1, v.2.2.2.2.2.1, v.2.2.2.2.2.2.1, v.2.2.2.2.2.2.2.1, x)
-- their cells: X at the addresses a 0 .. a 8, Y at b 0 .. b 5; ca 0, 1, 2: the classes of long, int, char arrays
def XW (ca : Nat → ClassId) (a : Nat → Nat) (v : XS) : va_W :=
  [(a 0, .inr (3, [.ref (a 1), .ref (a 2), .ref (a 3), .ref (a 5), .ref (a 7), .int (x_n v)])), (a 1, .inl (ca 0, 8, .inr (.inl (x_regs v)))), (a 2, .inl (ca 1, 8, .inl (x_lead v))), (a 3, .inr (1, [.ref (a 4), .int (x_kept v)])), (a 4, .inl (ca 0, 48, .inr (.inl (x_hist v)))), (a 5, .inr (0, [.ref (a 6), .int (x_count v)])), (a 6, .inl (ca 0, 504, .inr (.inl (x_found v)))), (a 7, .inr (2, [.ref (a 8), .int (x_len v)])), (a 8, .inl (ca 2, 60, .inl (x_text v)))]
def YW (ca : Nat → ClassId) (b : Nat → Nat) (v : YS) : va_W :=
  [(b 0, .inr (4, [.int (y_n v), .ref (b 1), .ref (b 2), .int (y_states v), .ref (b 3), .int (y_typed v), .ref (b 4), .int (y_founds v), .ref (b 5)])), (b 1, .inl (ca 0, 8, .inr (.inl (y_p v)))), (b 2, .inl (ca 0, 48, .inr (.inl (y_was v)))), (b 3, .inl (ca 2, 60, .inl (y_text v))), (b 4, .inl (ca 0, 1024, .inr (.inl (y_found v)))), (b 5, .inl (ca 0, 8, .inr (.inl (y_by v))))]
def tys3 (ca : Nat → ClassId) : List (ClassId × FieldType) := [(ca 0, .long), (ca 1, .int), (ca 2, .char)]
def ap_ok (n : Nat) (a : Nat → Nat) : Prop := ∀ i j, i < n → j < n → a i = a j → i = j
def ad_of (n : Nat) (a : Nat → Nat) : Nat → Prop := fun q => ∃ i, i < n ∧ q = a i
theorem ap_D {n : Nat} {a : Nat → Nat} (h : ap_ok n a) {ws : va_W} (hn : ws.length = n) (hw : ∀ k q, ws[k]? = some q → q.1 = a k) : va_D (ad_of n a) ws := by
  have lt : ∀ (k : Nat) (q : Nat × va_E), ws[k]? = some q → k < n := fun k q hk => by
    rw [← hn]; exact (List.getElem?_eq_some_iff.mp hk).1
  refine ⟨fun i j p q hi hj e => h i j (lt i p hi) (lt j q hj) ?_, fun k q hk => ⟨k, lt k q hk, hw k q hk⟩⟩
  rw [← hw i p hi, ← hw j q hj, e]
theorem XW_D {ca : Nat → ClassId} {a : Nat → Nat} (h : ap_ok 9 a) (v : XS) : va_D (ad_of 9 a) (XW ca a v) := by
  refine ap_D h rfl (fun k q hk => ?_)
  match k, hk with
  | 0, hk => cases hk; rfl
  | 1, hk => cases hk; rfl
  | 2, hk => cases hk; rfl
  | 3, hk => cases hk; rfl
  | 4, hk => cases hk; rfl
  | 5, hk => cases hk; rfl
  | 6, hk => cases hk; rfl
  | 7, hk => cases hk; rfl
  | 8, hk => cases hk; rfl
  | k + 9, hk => simp [XW] at hk
theorem YW_D {ca : Nat → ClassId} {b : Nat → Nat} (h : ap_ok 6 b) (v : YS) : va_D (ad_of 6 b) (YW ca b v) := by
  refine ap_D h rfl (fun k q hk => ?_)
  match k, hk with
  | 0, hk => cases hk; rfl
  | 1, hk => cases hk; rfl
  | 2, hk => cases hk; rfl
  | 3, hk => cases hk; rfl
  | 4, hk => cases hk; rfl
  | 5, hk => cases hk; rfl
  | k + 6, hk => simp [YW] at hk
-- reads and writes of rows, in the pure functions
def rd {α : Type} (f : Nat → α) (n : Nat) (i : Int32) : Option α := if i < 0 ∨ n ≤ i.toNatClampNeg then none else some (f i.toNatClampNeg)
theorem rd_some {α : Type} {f : Nat → α} {n : Nat} {i : Int32} {x : α} (h : rd f n i = some x) : vp_in i n ∧ x = f i.toNatClampNeg := by
  unfold rd at h
  split at h
  · cases h
  · rename_i hc
    exact ⟨hc, (Option.some.inj h).symm⟩
def wrL (f : Nat → Int64) (n : Nat) (i : Int32) (x : Int64) : Option (Nat → Int64) := if i < 0 ∨ n ≤ i.toNatClampNeg then none else some (vp_updL f i.toNatClampNeg x)
theorem wrL_some {f g : Nat → Int64} {n : Nat} {i : Int32} {x : Int64} (h : wrL f n i x = some g) : vp_in i n ∧ g = vp_updL f i.toNatClampNeg x := by
  unfold wrL at h
  split at h
  · cases h
  · rename_i hc
    exact ⟨hc, (Option.some.inj h).symm⟩
def wrI (f : Nat → Int32) (n : Nat) (i : Int32) (x : Int32) : Option (Nat → Int32) := if i < 0 ∨ n ≤ i.toNatClampNeg then none else some (upd f i.toNatClampNeg x)
theorem wrI_some {f g : Nat → Int32} {n : Nat} {i x : Int32} (h : wrI f n i x = some g) : vp_in i n ∧ g = upd f i.toNatClampNeg x := by
  unfold wrI at h
  split at h
  · cases h
  · rename_i hc
    exact ⟨hc, (Option.some.inj h).symm⟩
/-- a copy between rows, where it is inside both -/
def cpL (f g : Nat → Int64) (n0 n1 : Nat) (sp dp n : Int32) : Option (Nat → Int64) := if sp < 0 ∨ dp < 0 ∨ n < 0 ∨ n0 < sp.toNatClampNeg + n.toNatClampNeg ∨ n1 < dp.toNatClampNeg + n.toNatClampNeg then none else some (va_cpy f g sp.toNatClampNeg dp.toNatClampNeg n.toNatClampNeg)
theorem cpL_some {f g k : Nat → Int64} {n0 n1 : Nat} {sp dp n : Int32} (h : cpL f g n0 n1 sp dp n = some k) : ¬ sp < 0 ∧ ¬ dp < 0 ∧ ¬ n < 0 ∧ sp.toNatClampNeg + n.toNatClampNeg ≤ n0 ∧ dp.toNatClampNeg + n.toNatClampNeg ≤ n1 ∧ k = va_cpy f g sp.toNatClampNeg dp.toNatClampNeg n.toNatClampNeg := by
  unfold cpL at h
  split at h
  · cases h
  · rename_i hc
    refine ⟨fun q => hc (Or.inl q), fun q => hc (Or.inr (Or.inl q)), fun q => hc (Or.inr (Or.inr (Or.inl q))), Nat.not_lt.mp fun q => hc (Or.inr (Or.inr (Or.inr (Or.inl q)))), Nat.not_lt.mp fun q => hc (Or.inr (Or.inr (Or.inr (Or.inr q)))), (Option.some.inj h).symm⟩
/-- a boolean's int -/
def zb (v : Int32) : Option Int32 := if v = 0 ∨ v = 1 then some v else none
theorem zb_some {v w : Int32} (h : zb v = some w) : w = v ∧ narrow .boolean (.int v) = .int v := by
  unfold zb at h
  split at h
  · rename_i hc
    refine ⟨(Option.some.inj h).symm, ?_⟩
    rcases hc with rfl | rfl <;> rfl
  · cases h
/-- the loops' fuel -/
def FU : Nat := 3000
-- a method's surroundings
def Cx (p : Program) (s : State) (m : MethodId) (args : Array Value) (meth : Method) (c : Code) (cc : ByteArray) (ret : Option FieldType) (nL : Nat) (ws : List Cond) (own : String) : Prop :=
  p.tables.exec = Jvm.exec ∧ c.code = cc ∧ meth.sig.returnType = ret ∧ c.maxLocals = nL ∧ s.vm.findClass own = some m.cls ∧ (∀ w ∈ ws, w.before args s = true) ∧ meth.locks = false
/-- a method that leaves the heap as it is -/
def Hp (l : Launch) (y : MethodName) (ws : List Cond) (rm : Room) (As : List Value) (B : State → Prop) (r : Option Value) : Prop :=
  Met l y ws rm (va_Pc As B) (fun _ st oc t => oc = .returned r ∧ t.heap = st.heap) 0 0 (fun _ => False)
/-- a method that changes cells of its world alone -/
def Mp (l : Launch) (y : MethodName) (ws : List Cond) (rm : Room) (As : List Value) (B : State → Prop) (r : Option Value) (P : Heap → Prop) (A : Nat → Prop) : Prop :=
  Met l y ws rm (va_Pc As B) (fun _ st oc t => oc = .returned r ∧ P t.heap ∧ va_F A st t) 0 0 A
def Mv (B : State → Prop) : Prop := ∀ u U : State, u.vm.Alike U.vm → U.heap = u.heap → B u → B U
abbrev HQ (r : Option Value) : Array Value → State → Outcome → State → Prop := fun _ st oc t => oc = .returned r ∧ t.heap = st.heap
abbrev PQ (r : Option Value) (P : Heap → Prop) (A : Nat → Prop) : Array Value → State → Outcome → State → Prop := fun _ st oc t => oc = .returned r ∧ P t.heap ∧ va_F A st t
theorem Hp.of {l : Launch} {y : MethodName} {ws ws' : List Cond} {rm : Room} {As : List Value} {B : State → Prop} {r : Option Value} {cc : ByteArray} {nL : Nat} {ret : Option FieldType} {own : String} (hy : plainName y.cls = true) (ho : y.cls = own) (hw : ws = Cond.code y cc nL ret :: ws') (hn : (lg_sl As).length ≤ nL)
    (body : ∀ (p : Program) (e : Env) (s : State) (m : MethodId) (below : List Frame) (meth : Method) (c : Code) (ls : Array Slot), Cx p s m As.toArray meth c cc ret nL ws own → B s → lv_has ls nL (lv_args 0 As) → W p l e rm s m As.toArray below meth c s.heap [] 0 0 (MQ below (HQ r) As.toArray s 0 0 (fun _ => False)) (F0 m 0 ls [])) : Hp l y ws rm As B r := by
  subst ho
  refine Met.ofW (cc := cc) (maxL := nL) (ret := ret) hy hw ?_
  intro p e s m args below meth c s₁ Bd hml hv
  obtain ⟨rfl, hB⟩ := hv
  have hl := lv_entry As hn
  rw [lg_entry_eq]
  exact body p e s m below meth c _ ⟨Bd.exec, Bd.bytes, Bd.returns, hml, findClass_of_methodNamed Bd.named, atoms_spec (ws := ws) Bd.pre, Bd.notSynchronized⟩ hB hl
theorem Mp.of {l : Launch} {y : MethodName} {ws ws' : List Cond} {rm : Room} {As : List Value} {B : State → Prop} {r : Option Value} {P : Heap → Prop} {A : Nat → Prop} {cc : ByteArray} {nL : Nat} {ret : Option FieldType} {own : String} (hy : plainName y.cls = true) (ho : y.cls = own) (hw : ws = Cond.code y cc nL ret :: ws') (hn : (lg_sl As).length ≤ nL)
    (body : ∀ (p : Program) (e : Env) (s : State) (m : MethodId) (below : List Frame) (meth : Method) (c : Code) (ls : Array Slot), Cx p s m As.toArray meth c cc ret nL ws own → B s → lv_has ls nL (lv_args 0 As) → W p l e rm s m As.toArray below meth c s.heap [] 0 0 (MQ below (PQ r P A) As.toArray s 0 0 A) (F0 m 0 ls [])) : Mp l y ws rm As B r P A := by
  subst ho
  refine Met.ofW (cc := cc) (maxL := nL) (ret := ret) hy hw ?_
  intro p e s m args below meth c s₁ Bd hml hv
  obtain ⟨rfl, hB⟩ := hv
  have hl := lv_entry As hn
  rw [lg_entry_eq]
  exact body p e s m below meth c _ ⟨Bd.exec, Bd.bytes, Bd.returns, hml, findClass_of_methodNamed Bd.named, atoms_spec (ws := ws) Bd.pre, Bd.notSynchronized⟩ hB hl
-- the worlds: GP the static tables alone, GW with cells
def GP (tw : Nat) (tt : Nat → Nat) (U : State) : Prop := tW tw tt (fun _ => False) U U.heap
def GW (D : va_G) (ca : Nat → ClassId) (tw : Nat) (tt : Nat → Nat) (A : Nat → Prop) (ws : va_W) (U : State) : Prop := va_P D vwCl ws U.heap ∧ va_K D vwCl (tys3 ca) U ∧ tW tw tt A U U.heap
theorem GP.mv {tw : Nat} {tt : Nat → Nat} : Mv (GP tw tt) := fun u U h e b => by
  unfold GP at b ⊢
  rw [e]
  exact b.moved h
theorem GW.mv {D : va_G} {ca : Nat → ClassId} {tw : Nat} {tt : Nat → Nat} {A : Nat → Prop} {ws : va_W} : Mv (GW D ca tw tt A ws) := fun u U h e b => by
  unfold GW at b ⊢
  rw [e]
  exact ⟨b.1, b.2.1.moved h, b.2.2.moved h⟩
theorem Mv.blind {B : State → Prop} (h : Mv B) {As : List Value} : FrameBlind (va_Pc As B) := fun a U g mk q => ⟨q.1, h U (U.calling g mk a) (Vm.Alike.refl U.vm) rfl q.2⟩
section CALLS
variable {p : Program} {l : Launch} {e : Env} {R : Room} {s : State} {m : MethodId} {args : Array Value} {below : List Frame} {meth : Method} {c : Code} {H : Heap} {locs : List Loc} {cells slots : Nat} {Q : State → Prop}
variable {y : MethodName} {bytes cc : ByteArray} {maxL nL n index : Nat} {ret : Option FieldType} {ws : List Cond} {rm : Room} {Ts : List Cond} {own C : String} {b : Addr} {As rest : List Value} {B : State → Prop} {r : Option Value} {P : Heap → Prop} {A : Nat → Prop} {pc : Nat} {ls : Array Slot} {st0 : List Value}
theorem hp_go (hr : va_Run p l e R s m args below meth c H locs cells slots 0 0 (F0 m pc ls st0) rest (fun st oc t => oc = .returned r ∧ t.heap = st.heap) (fun _ => False))
    (kk : W p l e R s m args below meth c H locs cells slots Q (F0 m (pc + 3) ls (r.toList ++ rest))) : W p l e R s m args below meth c H locs cells slots Q (F0 m pc ls st0) := by
  intro T hT X
  obtain ⟨v, st₀, t, T', L, h0, X', hL, e1, e2, ⟨hv, hh⟩, st⟩ := hr T hT X
  cases hv
  obtain ⟨t2, a1, b1⟩ := kk T' (by rw [e1, hh, h0]) (Stand.forget X' (fun q h => (hL q h).elim))
  exact ⟨t2, st t2 a1, b1⟩
theorem mp_go (hr : va_Run p l e R s m args below meth c H locs cells slots 0 0 (F0 m pc ls st0) rest (fun st oc t => oc = .returned r ∧ P t.heap ∧ va_F A st t) A) (hS : va_S A s.heap H locs)
    (kk : ∀ (H1 : Heap) (locs1 : List Loc), P H1 → va_S A s.heap H1 locs1 → W p l e R s m args below meth c H1 locs1 cells slots Q (F0 m (pc + 3) ls (r.toList ++ rest))) : W p l e R s m args below meth c H locs cells slots Q (F0 m pc ls st0) := by
  intro T hT X
  obtain ⟨v, st₀, t, T', L, h0, X', hL, e1, e2, ⟨hv, hp, hz, hk⟩, st⟩ := hr T hT X
  cases hv
  rw [h0] at hz hk
  obtain ⟨t2, a1, b1⟩ := kk T'.heap (locs ++ L) (by rw [e1]; exact hp) ⟨Nat.le_trans hS.1 (by rw [e1]; exact hz), fun q h1 h2 => by rw [e1, hk q (Nat.lt_of_lt_of_le h1 hS.1) h2]; exact hS.2.1 q h1 h2, fun q hq => by
      rcases List.mem_append.mp hq with h | h
      · exact hS.2.2 q h
      · exact hL q h⟩ T' rfl X'
  exact ⟨t2, st t2 a1, b1⟩
/-- static, the heap stays -/
theorem hp_S (S : CallFix p m c cc nL s args Ts own) (hM : Hp l y ws rm As B r) (cw : CallB R s args own index y bytes maxL ret ws rm 0 0 n ∧ (Cond.static y).before args s = true) (hmv : Mv B) (hB : ∀ U : State, U.heap = H → s.vm.Alike U.vm → B U)
    (hn : As.length = n) (hsize : ls.size = nL) (hstack : st0 = As.reverse ++ rest) (hW : (rest.map fun v => v.category).sum ≤ 8) (hdg : decode cc pc = .ok (.invokestatic index, 3)) (hf : cells ≤ R.cells ∧ slots ≤ R.slots)
    (kk : W p l e R s m args below meth c H locs cells slots Q (F0 m (pc + 3) ls (r.toList ++ rest))) : W p l e R s m args below meth c H locs cells slots Q (F0 m pc ls st0) :=
  hp_go (va_runS S hM cw ⟨hmv.blind, fun U hU hW => ⟨rfl, hB U hU hW.alike⟩⟩ rfl hn hsize hstack (lv_room hW) hdg hf) kk
theorem hp_V (S : CallFix p m c cc nL s args Ts own) (hM : Hp l y ws rm (.ref b :: As) B r) (cw : CallW R s args own C index y bytes maxL ret ws rm 0 0 n) (hrv : ∃ cellB : Cell, H[b]? = some cellB ∧ cellB.vm.isStatics = false ∧ s.vm.findClass C = some cellB.cls) (hmv : Mv B) (hB : ∀ U : State, U.heap = H → s.vm.Alike U.vm → B U)
    (hn : As.length = n) (hsize : ls.size = nL) (hstack : st0 = As.reverse ++ .ref b :: rest) (hW : (rest.map fun v => v.category).sum ≤ 8) (hdg : decode cc pc = .ok (.invokevirtual index, 3)) (hf : cells ≤ R.cells ∧ slots ≤ R.slots)
    (kk : W p l e R s m args below meth c H locs cells slots Q (F0 m (pc + 3) ls (r.toList ++ rest))) : W p l e R s m args below meth c H locs cells slots Q (F0 m pc ls st0) :=
  hp_go (va_runV S hM cw ⟨hmv.blind, hrv, fun U hU hW => ⟨rfl, hB U hU hW.alike⟩⟩ rfl hn hsize hstack (lv_room hW) hdg hf) kk
/-- the callee changes its world -/
theorem mp_S (S : CallFix p m c cc nL s args Ts own) (hM : Mp l y ws rm As B r P A) (cw : CallB R s args own index y bytes maxL ret ws rm 0 0 n ∧ (Cond.static y).before args s = true) (hmv : Mv B) (hB : ∀ U : State, U.heap = H → s.vm.Alike U.vm → B U) (hS : va_S A s.heap H locs)
    (hn : As.length = n) (hsize : ls.size = nL) (hstack : st0 = As.reverse ++ rest) (hW : (rest.map fun v => v.category).sum ≤ 8) (hdg : decode cc pc = .ok (.invokestatic index, 3)) (hf : cells ≤ R.cells ∧ slots ≤ R.slots)
    (kk : ∀ (H1 : Heap) (locs1 : List Loc), P H1 → va_S A s.heap H1 locs1 → W p l e R s m args below meth c H1 locs1 cells slots Q (F0 m (pc + 3) ls (r.toList ++ rest))) : W p l e R s m args below meth c H locs cells slots Q (F0 m pc ls st0) :=
  mp_go (va_runS S hM cw ⟨hmv.blind, fun U hU hW => ⟨rfl, hB U hU hW.alike⟩⟩ rfl hn hsize hstack (lv_room hW) hdg hf) hS kk
theorem mp_V (S : CallFix p m c cc nL s args Ts own) (hM : Mp l y ws rm (.ref b :: As) B r P A) (cw : CallW R s args own C index y bytes maxL ret ws rm 0 0 n) (hrv : ∃ cellB : Cell, H[b]? = some cellB ∧ cellB.vm.isStatics = false ∧ s.vm.findClass C = some cellB.cls) (hmv : Mv B) (hB : ∀ U : State, U.heap = H → s.vm.Alike U.vm → B U) (hS : va_S A s.heap H locs)
    (hn : As.length = n) (hsize : ls.size = nL) (hstack : st0 = As.reverse ++ .ref b :: rest) (hW : (rest.map fun v => v.category).sum ≤ 8) (hdg : decode cc pc = .ok (.invokevirtual index, 3)) (hf : cells ≤ R.cells ∧ slots ≤ R.slots)
    (kk : ∀ (H1 : Heap) (locs1 : List Loc), P H1 → va_S A s.heap H1 locs1 → W p l e R s m args below meth c H1 locs1 cells slots Q (F0 m (pc + 3) ls (r.toList ++ rest))) : W p l e R s m args below meth c H locs cells slots Q (F0 m pc ls st0) :=
  mp_go (va_runV S hM cw ⟨hmv.blind, hrv, fun U hU hW => ⟨rfl, hB U hU hW.alike⟩⟩ rfl hn hsize hstack (lv_room hW) hdg hf) hS kk
/-- two longs compared, and the branch behind it -/
theorem wl_eq (hx : p.tables.exec = Jvm.exec) (hb : c.code = cc) {x y : Int64} {off : Int} {tgt : Nat} (hd1 : decode cc pc = .ok (.lcmp, 1)) (hd2 : decode cc (pc + 1) = .ok (.ifCond .eq off, 3)) (ht : ((pc + 1 : Nat) : Int) + off = (tgt : Int))
    (kt : x = y → W p l e R s m args below meth c H locs cells slots Q (F0 m tgt ls rest)) (kf : ¬ x = y → W p l e R s m args below meth c H locs cells slots Q (F0 m (pc + 4) ls rest)) : W p l e R s m args below meth c H locs cells slots Q (F0 m pc ls (.long y :: .long x :: rest)) :=
  W.lcmp hx hb hd1 (lv_if_eq hx hb hd2 ht (fun h => kt ((lg_cmp_eq x y).mp h)) (fun h => kf (fun h2 => h ((lg_cmp_eq x y).mpr h2))))
theorem wl_ne (hx : p.tables.exec = Jvm.exec) (hb : c.code = cc) {x y : Int64} {off : Int} {tgt : Nat} (hd1 : decode cc pc = .ok (.lcmp, 1)) (hd2 : decode cc (pc + 1) = .ok (.ifCond .ne off, 3)) (ht : ((pc + 1 : Nat) : Int) + off = (tgt : Int))
    (kt : ¬ x = y → W p l e R s m args below meth c H locs cells slots Q (F0 m tgt ls rest)) (kf : x = y → W p l e R s m args below meth c H locs cells slots Q (F0 m (pc + 4) ls rest)) : W p l e R s m args below meth c H locs cells slots Q (F0 m pc ls (.long y :: .long x :: rest)) :=
  W.lcmp hx hb hd1 (lv_if_ne hx hb hd2 ht (fun h => kt (fun h2 => h ((lg_cmp_eq x y).mpr h2))) (fun h => kf ((lg_cmp_eq x y).mp h)))
end CALLS
section ENDS
variable {p : Program} {l : Launch} {e : Env} {R : Room} {s : State} {m : MethodId} {args : Array Value} {below : List Frame} {meth : Method} {c : Code} {H : Heap} {locs : List Loc} {cc : ByteArray} {P : Heap → Prop} {A : Nat → Prop} {pc : Nat} {ls : Array Slot}
theorem hp_iret (hx : p.tables.exec = Jvm.exec) (hb : c.code = cc) (hr : meth.sig.returnType = some .int) (hlocks : meth.locks = false) {v : Int32} (hd : decode cc pc = .ok (.ireturn, 1)) : W p l e R s m args below meth c s.heap [] 0 0 (MQ below (HQ (some (.int v))) args s 0 0 (fun _ => False)) (F0 m pc ls [.int v]) :=
  W.iret hx hb hr (fun t ht _ => ⟨rfl, ht⟩) (fun _ h => by cases h) hd hlocks
theorem hp_zret (hx : p.tables.exec = Jvm.exec) (hb : c.code = cc) (hr : meth.sig.returnType = some .boolean) (hlocks : meth.locks = false) {v : Int32} (hn : narrow .boolean (.int v) = .int v) (hd : decode cc pc = .ok (.ireturn, 1)) : W p l e R s m args below meth c s.heap [] 0 0 (MQ below (HQ (some (.int v))) args s 0 0 (fun _ => False)) (F0 m pc ls [.int v]) :=
  W.zret hx hb hr hn (fun t ht _ => ⟨rfl, ht⟩) (fun _ h => by cases h) hd hlocks
theorem hp_lret (hx : p.tables.exec = Jvm.exec) (hb : c.code = cc) (hr : meth.sig.returnType = some .long) (hlocks : meth.locks = false) {v : Int64} (hd : decode cc pc = .ok (.lreturn, 1)) : W p l e R s m args below meth c s.heap [] 0 0 (MQ below (HQ (some (.long v))) args s 0 0 (fun _ => False)) (F0 m pc ls [.long v]) :=
  W.lret hx hb hr (fun t ht _ => ⟨rfl, ht⟩) (fun _ h => by cases h) hd hlocks
theorem hp_aret (hx : p.tables.exec = Jvm.exec) (hb : c.code = cc) {ty : FieldType} (hr : meth.sig.returnType = some (.array ty)) (hlocks : meth.locks = false) {v : Nat} (hd : decode cc pc = .ok (.areturn, 1)) : W p l e R s m args below meth c s.heap [] 0 0 (MQ below (HQ (some (.ref v))) args s 0 0 (fun _ => False)) (F0 m pc ls [.ref v]) :=
  W.aret hx hb hr (Or.inr ⟨_, rfl⟩) (Or.inr ⟨_, rfl⟩) (fun t ht _ => ⟨rfl, ht⟩) (fun _ h => by cases h) hd hlocks
theorem mp_iret (hx : p.tables.exec = Jvm.exec) (hb : c.code = cc) (hr : meth.sig.returnType = some .int) (hlocks : meth.locks = false) {v : Int32} (hP : P H) (hS : va_S A s.heap H locs) (hd : decode cc pc = .ok (.ireturn, 1)) : W p l e R s m args below meth c H locs 0 0 (MQ below (PQ (some (.int v)) P A) args s 0 0 A) (F0 m pc ls [.int v]) :=
  W.iret hx hb hr (fun t ht _ => ⟨rfl, by rw [ht]; exact hP, hS.F ht⟩) hS.2.2 hd hlocks
theorem mp_zret (hx : p.tables.exec = Jvm.exec) (hb : c.code = cc) (hr : meth.sig.returnType = some .boolean) (hlocks : meth.locks = false) {v : Int32} (hn : narrow .boolean (.int v) = .int v) (hP : P H) (hS : va_S A s.heap H locs) (hd : decode cc pc = .ok (.ireturn, 1)) : W p l e R s m args below meth c H locs 0 0 (MQ below (PQ (some (.int v)) P A) args s 0 0 A) (F0 m pc ls [.int v]) :=
  W.zret hx hb hr hn (fun t ht _ => ⟨rfl, by rw [ht]; exact hP, hS.F ht⟩) hS.2.2 hd hlocks
theorem mp_vret (hx : p.tables.exec = Jvm.exec) (hb : c.code = cc) (hr : meth.sig.returnType = none) (hlocks : meth.locks = false) (hP : P H) (hS : va_S A s.heap H locs) (hd : decode cc pc = .ok (.return_, 1)) : W p l e R s m args below meth c H locs 0 0 (MQ below (PQ none P A) args s 0 0 A) (F0 m pc ls []) :=
  W.vret hx hb hr (fun t ht _ => ⟨rfl, by rw [ht]; exact hP, hS.F ht⟩) hS.2.2 hd hlocks
end ENDS
/-- the static tables for a callee that has no cells -/
theorem GP.from {tw : Nat} {tt : Nat → Nat} {A : Nat → Prop} {s : State} {H : Heap} {locs : List Loc} (hT : tW tw tt A s s.heap) (hS : va_S A s.heap H locs) : ∀ U : State, U.heap = H → s.vm.Alike U.vm → GP tw tt U := fun U hU hv => by
  unfold GP
  rw [hU]
  exact ((hT.kept hS.2.1).narrow (fun _ h => h.elim)).moved hv
theorem GW.from {D : va_G} {ca : Nat → ClassId} {tw : Nat} {tt : Nat → Nat} {A : Nat → Prop} {s : State} {H : Heap} {locs : List Loc} {ws : va_W} (hP : va_P D vwCl ws H) (hK : va_K D vwCl (tys3 ca) s) (hT : tW tw tt A s s.heap) (hS : va_S A s.heap H locs) : ∀ U : State, U.heap = H → s.vm.Alike U.vm → GW D ca tw tt A ws U := fun U hU hv => by
  unfold GW
  rw [hU]
  exact ⟨hP, hK.moved hv, (hT.kept hS.2.1).moved hv⟩
theorem ite_t {c : Prop} [Decidable c] {α : Type} {a b q : α} (h : (if c then a else b) = q) (hc : c) : a = q := by
  rw [if_pos hc] at h
  exact h
theorem ite_f {c : Prop} [Decidable c] {α : Type} {a b q : α} (h : (if c then a else b) = q) (hc : ¬ c) : b = q := by
  rw [if_neg hc] at h
  exact h
abbrev lsh (x : Int64) (y : Int32) : Int64 := x <<< (y.toInt64 &&& 63)
abbrev lsr (x : Int64) (y : Int32) : Int64 := x >>> (y.toInt64 &&& 63)
abbrev lus (x : Int64) (y : Int32) : Int64 := (x.toUInt64 >>> (y.toInt64.toUInt64 &&& Int64.toUInt64 63)).toInt64
abbrev ish (x y : Int32) : Int32 := x <<< (y &&& 31)
abbrev isr (x y : Int32) : Int32 := x >>> (y &&& 31)
abbrev ius (x y : Int32) : Int32 := (x.toUInt32 >>> (y.toUInt32 &&& Int32.toUInt32 31)).toInt32
abbrev tch (x : Int32) : Int32 := (x.toUInt32 % 65536).toInt32
section ROWS
variable {p : Program} {l : Launch} {e : Env} {R : Room} {s : State} {m : MethodId} {args : Array Value} {below : List Frame} {meth : Method} {c : Code} {H : Heap} {locs : List Loc} {cells slots : Nat} {Q : State → Prop}
variable {cc : ByteArray} {pc : Nat} {ls : Array Slot} {rest : List Value} {D : va_G} {cl : List vw_C} {A : Nat → Prop} {a : Nat} {tys : List (ClassId × FieldType)} {ws : va_W} {H0 : Heap}
theorem rd_lald (hx : p.tables.exec = Jvm.exec) (hb : c.code = cc) (hK : va_K D cl tys s) (hP : va_P D cl ws H) (q0 t0 : Nat) {cA : ClassId} {n : Nat} {f : Nat → Int64} {i : Int32} {q : Int64} (er : rd f n i = some q) (ha : ws[q0]? = some (a, .inl (cA, n, .inr (.inl f)))) (ht : tys[t0]? = some (cA, .long)) (hdg : decode cc pc = .ok (.laload, 1))
    (kk : W p l e R s m args below meth c H locs cells slots Q (F0 m (pc + 1) ls (.long q :: rest))) : W p l e R s m args below meth c H locs cells slots Q (F0 m pc ls (.int i :: .ref a :: rest)) := by
  obtain ⟨hin, rfl⟩ := rd_some er
  exact va_lald hx hb hK hP q0 t0 ha ht hin hdg kk
theorem rd_iald (hx : p.tables.exec = Jvm.exec) (hb : c.code = cc) (hK : va_K D cl tys s) (hP : va_P D cl ws H) (q0 t0 : Nat) {cA : ClassId} {n : Nat} {f : Nat → Int32} {i : Int32} {q : Int32} (er : rd f n i = some q) (ha : ws[q0]? = some (a, .inl (cA, n, .inl f))) (ht : tys[t0]? = some (cA, .int)) (hdg : decode cc pc = .ok (.iaload, 1))
    (kk : W p l e R s m args below meth c H locs cells slots Q (F0 m (pc + 1) ls (.int q :: rest))) : W p l e R s m args below meth c H locs cells slots Q (F0 m pc ls (.int i :: .ref a :: rest)) := by
  obtain ⟨hin, rfl⟩ := rd_some er
  exact va_iald hx hb hK hP q0 t0 ha ht hin hdg kk
theorem rd_cald (hx : p.tables.exec = Jvm.exec) (hb : c.code = cc) (hK : va_K D cl tys s) (hP : va_P D cl ws H) (q0 t0 : Nat) {cA : ClassId} {n : Nat} {f : Nat → Int32} {i : Int32} {q : Int32} (er : rd f n i = some q) (ha : ws[q0]? = some (a, .inl (cA, n, .inl f))) (ht : tys[t0]? = some (cA, .char)) (hdg : decode cc pc = .ok (.caload, 1))
    (kk : W p l e R s m args below meth c H locs cells slots Q (F0 m (pc + 1) ls (.int q :: rest))) : W p l e R s m args below meth c H locs cells slots Q (F0 m pc ls (.int i :: .ref a :: rest)) := by
  obtain ⟨hin, rfl⟩ := rd_some er
  exact va_cald hx hb hK hP q0 t0 ha ht hin hdg kk
theorem rd_tl (hx : p.tables.exec = Jvm.exec) (hb : c.code = cc) {t N : Nat} {f : Nat → Int64} {i : Int32} {q : Int64} (er : rd f N i = some q) (hT : va_T .long t N (fun j => .long (f j)) A s s.heap) (hS : va_S A s.heap H locs) (hdg : decode cc pc = .ok (.laload, 1))
    (kk : W p l e R s m args below meth c H locs cells slots Q (F0 m (pc + 1) ls (.long q :: rest))) : W p l e R s m args below meth c H locs cells slots Q (F0 m pc ls (.int i :: .ref t :: rest)) := by
  obtain ⟨hin, rfl⟩ := rd_some er
  exact va_tl hx hb hT hS hin rfl hdg kk
theorem rd_ti (hx : p.tables.exec = Jvm.exec) (hb : c.code = cc) {t N : Nat} {f : Nat → Int32} {i : Int32} {q : Int32} (er : rd f N i = some q) (hT : va_T .int t N (fun j => .int (f j)) A s s.heap) (hS : va_S A s.heap H locs) (hdg : decode cc pc = .ok (.iaload, 1))
    (kk : W p l e R s m args below meth c H locs cells slots Q (F0 m (pc + 1) ls (.int q :: rest))) : W p l e R s m args below meth c H locs cells slots Q (F0 m pc ls (.int i :: .ref t :: rest)) := by
  obtain ⟨hin, rfl⟩ := rd_some er
  exact va_ti hx hb hT hS hin rfl hdg kk
theorem wr_last (hx : p.tables.exec = Jvm.exec) (hb : c.code = cc) (hK : va_K D cl tys s) (hP : va_P D cl ws H) (hD : va_D A ws) (hS : va_S A H0 H locs) (q0 t0 : Nat) {cA : ClassId} {n : Nat} {f g : Nat → Int64} {i : Int32} {x : Int64} (er : wrL f n i x = some g) (ha : ws[q0]? = some (a, .inl (cA, n, .inr (.inl f)))) (ht : tys[t0]? = some (cA, .long)) (hdg : decode cc pc = .ok (.lastore, 1))
    (kk : ∀ (H1 : Heap) (locs1 : List Loc), va_P D cl (ws.set q0 (a, .inl (cA, n, .inr (.inl g)))) H1 → va_S A H0 H1 locs1 → W p l e R s m args below meth c H1 locs1 cells slots Q (F0 m (pc + 1) ls rest)) : W p l e R s m args below meth c H locs cells slots Q (F0 m pc ls (.long x :: .int i :: .ref a :: rest)) := by
  obtain ⟨hin, rfl⟩ := wrL_some er
  exact va_last hx hb hK hP hD hS q0 t0 ha ht hin hdg (fun H1 l1 h1 _ h3 => kk H1 l1 h1 h3)
theorem wr_iast (hx : p.tables.exec = Jvm.exec) (hb : c.code = cc) (hK : va_K D cl tys s) (hP : va_P D cl ws H) (hD : va_D A ws) (hS : va_S A H0 H locs) (q0 t0 : Nat) {cA : ClassId} {n : Nat} {f g : Nat → Int32} {i : Int32} {x : Int32} (er : wrI f n i x = some g) (ha : ws[q0]? = some (a, .inl (cA, n, .inl f))) (ht : tys[t0]? = some (cA, .int)) (hdg : decode cc pc = .ok (.iastore, 1))
    (kk : ∀ (H1 : Heap) (locs1 : List Loc), va_P D cl (ws.set q0 (a, .inl (cA, n, .inl g))) H1 → va_S A H0 H1 locs1 → W p l e R s m args below meth c H1 locs1 cells slots Q (F0 m (pc + 1) ls rest)) : W p l e R s m args below meth c H locs cells slots Q (F0 m pc ls (.int x :: .int i :: .ref a :: rest)) := by
  obtain ⟨hin, rfl⟩ := wrI_some er
  exact va_iast hx hb hK hP hD hS q0 t0 ha ht hin hdg (fun H1 l1 h1 _ h3 => kk H1 l1 h1 h3)
theorem wr_cast (hx : p.tables.exec = Jvm.exec) (hb : c.code = cc) (hK : va_K D cl tys s) (hP : va_P D cl ws H) (hD : va_D A ws) (hS : va_S A H0 H locs) (q0 t0 : Nat) {cA : ClassId} {n : Nat} {f g : Nat → Int32} {i : Int32} {x : Int32} (er : wrI f n i (vp_nar .char x) = some g) (ha : ws[q0]? = some (a, .inl (cA, n, .inl f))) (ht : tys[t0]? = some (cA, .char)) (hdg : decode cc pc = .ok (.castore, 1))
    (kk : ∀ (H1 : Heap) (locs1 : List Loc), va_P D cl (ws.set q0 (a, .inl (cA, n, .inl g))) H1 → va_S A H0 H1 locs1 → W p l e R s m args below meth c H1 locs1 cells slots Q (F0 m (pc + 1) ls rest)) : W p l e R s m args below meth c H locs cells slots Q (F0 m pc ls (.int x :: .int i :: .ref a :: rest)) := by
  obtain ⟨hin, rfl⟩ := wrI_some er
  exact va_cast hx hb hK hP hD hS q0 t0 ha ht hin hdg (fun H1 l1 h1 _ h3 => kk H1 l1 h1 h3)
theorem cp_long (hx : p.tables.exec = Jvm.exec) (hb : c.code = cc) (hml : c.maxLocals = ls.size) {own : String} {index : Nat} (hown : s.vm.findClass own = some m.cls) (hlink : (Cond.methodLink own index arraycopyName).before args s = true) (hnat : (Cond.native arraycopyName).before args s = true) (hstat : (Cond.static arraycopyName).before args s = true) (hini : (Cond.initialized "java/lang/System").before args s = true)
    (hK : va_K D cl tys s) (hP : va_P D cl ws H) (hD : va_D A ws) (hS : va_S A H0 H locs) (q0 q1 t0 : Nat) {a0 : Nat} {cA : ClassId} {n0 n1 : Nat} {f g k : Nat → Int64} {sp dp n : Int32} (er : cpL f g n0 n1 sp dp n = some k) (ha0 : ws[q0]? = some (a0, .inl (cA, n0, .inr (.inl f)))) (ha1 : ws[q1]? = some (a, .inl (cA, n1, .inr (.inl g)))) (ht0 : tys[t0]? = some (cA, .long))
    (hframes : 1 ≤ R.frames) (hlocals : (rest.map fun v => v.category).sum + 18 ≤ R.locals) (hdg : decode cc pc = .ok (.invokestatic index, 3))
    (kk : ∀ (H1 : Heap) (locs1 : List Loc), va_P D cl (ws.set q1 (a, .inl (cA, n1, .inr (.inl k)))) H1 → va_S A H0 H1 locs1 → W p l e R s m args below meth c H1 locs1 cells slots Q (F0 m (pc + 3) ls rest)) : W p l e R s m args below meth c H locs cells slots Q (F0 m pc ls (.int n :: .int dp :: .ref a :: .int sp :: .ref a0 :: rest)) := by
  obtain ⟨h1, h2, h3, h4, h5, rfl⟩ := cpL_some er
  exact va_copyl hx hb hml hown hlink hnat hstat hini hK hP hD hS q0 q1 t0 t0 ha0 ha1 ht0 ht0 rfl h1 h2 h3 h4 h5 (fun _ _ => rfl) hframes hlocals hdg (fun H1 l1 h1 _ h3 => kk H1 l1 h1 h3)
end ROWS
