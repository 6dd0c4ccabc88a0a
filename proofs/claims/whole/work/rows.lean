section
-- ===== PART A: goes FIRST, ahead of the names: the tables' words, and 'selects' of the private methods out of them =====
/-- a private method of a class that the tables say can be made, by its rows of tables_1 -/
def lw_okq (q : MethodName × Nat) : Prop := (q.1.cls ≠ "java/lang/invoke/MethodHandle" ∧ q.1.cls ≠ "java/lang/invoke/VarHandle") ∧ Cond.instantiable q.1.cls q.2 ∈ tables_1 ∧ Cond.privateMethod q.1 ∈ tables_1 ∧ Cond.instanceMethod q.1 ∈ tables_1
theorem lw_p0 : lw_okq (⟨"BooleanRing", "isMask", "(I)Z"⟩, 6) := ⟨⟨by decide +kernel, by decide +kernel⟩, List.mem_of_getElem? (i := 15) (by decide +kernel), List.mem_of_getElem? (i := 106) (by decide +kernel), List.mem_of_getElem? (i := 107) (by decide +kernel)⟩
theorem lw_p1 : lw_okq (⟨"BooleanRing", "put", "(IJ)I"⟩, 6) := ⟨⟨by decide +kernel, by decide +kernel⟩, List.mem_of_getElem? (i := 15) (by decide +kernel), List.mem_of_getElem? (i := 113) (by decide +kernel), List.mem_of_getElem? (i := 114) (by decide +kernel)⟩
theorem lw_p2 : lw_okq (⟨"BooleanRing", "isVariable", "(I)Z"⟩, 6) := ⟨⟨by decide +kernel, by decide +kernel⟩, List.mem_of_getElem? (i := 15) (by decide +kernel), List.mem_of_getElem? (i := 164) (by decide +kernel), List.mem_of_getElem? (i := 165) (by decide +kernel)⟩
theorem lw_p3 : lw_okq (⟨"BooleanRing$Diagrams", "isKnown", "(J)Z"⟩, 2) := ⟨⟨by decide +kernel, by decide +kernel⟩, List.mem_of_getElem? (i := 38) (by decide +kernel), List.mem_of_getElem? (i := 268) (by decide +kernel), List.mem_of_getElem? (i := 269) (by decide +kernel)⟩
theorem lw_p4 : lw_okq (⟨"BooleanRing", "findLeading", "(I)V"⟩, 6) := ⟨⟨by decide +kernel, by decide +kernel⟩, List.mem_of_getElem? (i := 15) (by decide +kernel), List.mem_of_getElem? (i := 309) (by decide +kernel), List.mem_of_getElem? (i := 310) (by decide +kernel)⟩
theorem lw_p5 : lw_okq (⟨"BooleanRing", "reducerOf", "(II)I"⟩, 6) := ⟨⟨by decide +kernel, by decide +kernel⟩, List.mem_of_getElem? (i := 15) (by decide +kernel), List.mem_of_getElem? (i := 314) (by decide +kernel), List.mem_of_getElem? (i := 315) (by decide +kernel)⟩
theorem lw_p6 : lw_okq (⟨"BooleanRing", "bringUp", "(III)Z"⟩, 6) := ⟨⟨by decide +kernel, by decide +kernel⟩, List.mem_of_getElem? (i := 15) (by decide +kernel), List.mem_of_getElem? (i := 328) (by decide +kernel), List.mem_of_getElem? (i := 329) (by decide +kernel)⟩
theorem lw_p7 : lw_okq (⟨"BooleanRing", "clearElsewhere", "(III)V"⟩, 6) := ⟨⟨by decide +kernel, by decide +kernel⟩, List.mem_of_getElem? (i := 15) (by decide +kernel), List.mem_of_getElem? (i := 332) (by decide +kernel), List.mem_of_getElem? (i := 333) (by decide +kernel)⟩
theorem lw_p8 : lw_okq (⟨"BooleanRing", "commonZeros", "(I)J"⟩, 6) := ⟨⟨by decide +kernel, by decide +kernel⟩, List.mem_of_getElem? (i := 15) (by decide +kernel), List.mem_of_getElem? (i := 340) (by decide +kernel), List.mem_of_getElem? (i := 341) (by decide +kernel)⟩
theorem lw_p9 : lw_okq (⟨"BooleanRing", "allPoints", "()J"⟩, 6) := ⟨⟨by decide +kernel, by decide +kernel⟩, List.mem_of_getElem? (i := 15) (by decide +kernel), List.mem_of_getElem? (i := 344) (by decide +kernel), List.mem_of_getElem? (i := 345) (by decide +kernel)⟩
theorem lw_p10 : lw_okq (⟨"BooleanRing", "nonZeros", "(I)J"⟩, 6) := ⟨⟨by decide +kernel, by decide +kernel⟩, List.mem_of_getElem? (i := 15) (by decide +kernel), List.mem_of_getElem? (i := 349) (by decide +kernel), List.mem_of_getElem? (i := 350) (by decide +kernel)⟩
theorem lw_p11 : lw_okq (⟨"BooleanRingModel", "isMask", "(I)Z"⟩, 9) := ⟨⟨by decide +kernel, by decide +kernel⟩, List.mem_of_getElem? (i := 443) (by decide +kernel), List.mem_of_getElem? (i := 495) (by decide +kernel), List.mem_of_getElem? (i := 496) (by decide +kernel)⟩
theorem lw_p12 : lw_okq (⟨"BooleanRingModel", "gets", "(IJ)I"⟩, 9) := ⟨⟨by decide +kernel, by decide +kernel⟩, List.mem_of_getElem? (i := 443) (by decide +kernel), List.mem_of_getElem? (i := 499) (by decide +kernel), List.mem_of_getElem? (i := 500) (by decide +kernel)⟩
theorem lw_p13 : lw_okq (⟨"BooleanRingModel", "records", "()V"⟩, 9) := ⟨⟨by decide +kernel, by decide +kernel⟩, List.mem_of_getElem? (i := 443) (by decide +kernel), List.mem_of_getElem? (i := 503) (by decide +kernel), List.mem_of_getElem? (i := 504) (by decide +kernel)⟩
theorem lw_p14 : lw_okq (⟨"BooleanRingModel", "product1", "(JJ)J"⟩, 9) := ⟨⟨by decide +kernel, by decide +kernel⟩, List.mem_of_getElem? (i := 443) (by decide +kernel), List.mem_of_getElem? (i := 522) (by decide +kernel), List.mem_of_getElem? (i := 523) (by decide +kernel)⟩
theorem lw_p15 : lw_okq (⟨"BooleanRingModel", "isVariable", "(I)Z"⟩, 9) := ⟨⟨by decide +kernel, by decide +kernel⟩, List.mem_of_getElem? (i := 443) (by decide +kernel), List.mem_of_getElem? (i := 537) (by decide +kernel), List.mem_of_getElem? (i := 538) (by decide +kernel)⟩
def lw_privs_1 : List (MethodName × Nat) := [(⟨"BooleanRing", "isMask", "(I)Z"⟩, 6), (⟨"BooleanRing", "put", "(IJ)I"⟩, 6), (⟨"BooleanRing", "isVariable", "(I)Z"⟩, 6), (⟨"BooleanRing$Diagrams", "isKnown", "(J)Z"⟩, 2), (⟨"BooleanRing", "findLeading", "(I)V"⟩, 6), (⟨"BooleanRing", "reducerOf", "(II)I"⟩, 6), (⟨"BooleanRing", "bringUp", "(III)Z"⟩, 6), (⟨"BooleanRing", "clearElsewhere", "(III)V"⟩, 6), (⟨"BooleanRing", "commonZeros", "(I)J"⟩, 6), (⟨"BooleanRing", "allPoints", "()J"⟩, 6), (⟨"BooleanRing", "nonZeros", "(I)J"⟩, 6), (⟨"BooleanRingModel", "isMask", "(I)Z"⟩, 9), (⟨"BooleanRingModel", "gets", "(IJ)I"⟩, 9), (⟨"BooleanRingModel", "records", "()V"⟩, 9), (⟨"BooleanRingModel", "product1", "(JJ)J"⟩, 9), (⟨"BooleanRingModel", "isVariable", "(I)Z"⟩, 9)]
theorem lw_r1 : ∀ q ∈ lw_privs_1, lw_okq q := List.forall_mem_cons.mpr ⟨lw_p0, List.forall_mem_cons.mpr ⟨lw_p1, List.forall_mem_cons.mpr ⟨lw_p2, List.forall_mem_cons.mpr ⟨lw_p3, List.forall_mem_cons.mpr ⟨lw_p4, List.forall_mem_cons.mpr ⟨lw_p5, List.forall_mem_cons.mpr ⟨lw_p6, List.forall_mem_cons.mpr ⟨lw_p7, List.forall_mem_cons.mpr ⟨lw_p8, List.forall_mem_cons.mpr ⟨lw_p9, List.forall_mem_cons.mpr ⟨lw_p10, List.forall_mem_cons.mpr ⟨lw_p11, List.forall_mem_cons.mpr ⟨lw_p12, List.forall_mem_cons.mpr ⟨lw_p13, List.forall_mem_cons.mpr ⟨lw_p14, List.forall_mem_cons.mpr ⟨lw_p15, fun _ h => absurd h List.not_mem_nil⟩⟩⟩⟩⟩⟩⟩⟩⟩⟩⟩⟩⟩⟩⟩⟩
theorem lw_p16 : lw_okq (⟨"BooleanRingModel", "lower", "(JI)J"⟩, 9) := ⟨⟨by decide +kernel, by decide +kernel⟩, List.mem_of_getElem? (i := 443) (by decide +kernel), List.mem_of_getElem? (i := 541) (by decide +kernel), List.mem_of_getElem? (i := 542) (by decide +kernel)⟩
theorem lw_p17 : lw_okq (⟨"BooleanRingModel", "upper", "(JI)J"⟩, 9) := ⟨⟨by decide +kernel, by decide +kernel⟩, List.mem_of_getElem? (i := 443) (by decide +kernel), List.mem_of_getElem? (i := 545) (by decide +kernel), List.mem_of_getElem? (i := 546) (by decide +kernel)⟩
theorem lw_p18 : lw_okq (⟨"BooleanRingModel", "values", "(J)J"⟩, 9) := ⟨⟨by decide +kernel, by decide +kernel⟩, List.mem_of_getElem? (i := 443) (by decide +kernel), List.mem_of_getElem? (i := 561) (by decide +kernel), List.mem_of_getElem? (i := 562) (by decide +kernel)⟩
theorem lw_p19 : lw_okq (⟨"BooleanRingModel", "occurs", "(J)I"⟩, 9) := ⟨⟨by decide +kernel, by decide +kernel⟩, List.mem_of_getElem? (i := 443) (by decide +kernel), List.mem_of_getElem? (i := 589) (by decide +kernel), List.mem_of_getElem? (i := 590) (by decide +kernel)⟩
theorem lw_p20 : lw_okq (⟨"BooleanRingModel", "notes", "(J)V"⟩, 9) := ⟨⟨by decide +kernel, by decide +kernel⟩, List.mem_of_getElem? (i := 443) (by decide +kernel), List.mem_of_getElem? (i := 597) (by decide +kernel), List.mem_of_getElem? (i := 598) (by decide +kernel)⟩
theorem lw_p21 : lw_okq (⟨"BooleanRingModel", "spreads", "()I"⟩, 9) := ⟨⟨by decide +kernel, by decide +kernel⟩, List.mem_of_getElem? (i := 443) (by decide +kernel), List.mem_of_getElem? (i := 601) (by decide +kernel), List.mem_of_getElem? (i := 602) (by decide +kernel)⟩
theorem lw_p22 : lw_okq (⟨"BooleanRingModel", "leads", "(JI)I"⟩, 9) := ⟨⟨by decide +kernel, by decide +kernel⟩, List.mem_of_getElem? (i := 443) (by decide +kernel), List.mem_of_getElem? (i := 616) (by decide +kernel), List.mem_of_getElem? (i := 617) (by decide +kernel)⟩
theorem lw_p23 : lw_okq (⟨"BooleanRingModel", "isGreater", "(III)Z"⟩, 9) := ⟨⟨by decide +kernel, by decide +kernel⟩, List.mem_of_getElem? (i := 443) (by decide +kernel), List.mem_of_getElem? (i := 620) (by decide +kernel), List.mem_of_getElem? (i := 621) (by decide +kernel)⟩
theorem lw_p24 : lw_okq (⟨"BooleanRingModel", "taker", "(III)I"⟩, 9) := ⟨⟨by decide +kernel, by decide +kernel⟩, List.mem_of_getElem? (i := 443) (by decide +kernel), List.mem_of_getElem? (i := 640) (by decide +kernel), List.mem_of_getElem? (i := 641) (by decide +kernel)⟩
theorem lw_p25 : lw_okq (⟨"BooleanRingModel", "barred", "(I)J"⟩, 9) := ⟨⟨by decide +kernel, by decide +kernel⟩, List.mem_of_getElem? (i := 443) (by decide +kernel), List.mem_of_getElem? (i := 652) (by decide +kernel), List.mem_of_getElem? (i := 653) (by decide +kernel)⟩
theorem lw_p26 : lw_okq (⟨"BooleanRingModel", "behind", "(IC)I"⟩, 9) := ⟨⟨by decide +kernel, by decide +kernel⟩, List.mem_of_getElem? (i := 443) (by decide +kernel), List.mem_of_getElem? (i := 696) (by decide +kernel), List.mem_of_getElem? (i := 697) (by decide +kernel)⟩
def lw_privs_2 : List (MethodName × Nat) := [(⟨"BooleanRingModel", "lower", "(JI)J"⟩, 9), (⟨"BooleanRingModel", "upper", "(JI)J"⟩, 9), (⟨"BooleanRingModel", "values", "(J)J"⟩, 9), (⟨"BooleanRingModel", "occurs", "(J)I"⟩, 9), (⟨"BooleanRingModel", "notes", "(J)V"⟩, 9), (⟨"BooleanRingModel", "spreads", "()I"⟩, 9), (⟨"BooleanRingModel", "leads", "(JI)I"⟩, 9), (⟨"BooleanRingModel", "isGreater", "(III)Z"⟩, 9), (⟨"BooleanRingModel", "taker", "(III)I"⟩, 9), (⟨"BooleanRingModel", "barred", "(I)J"⟩, 9), (⟨"BooleanRingModel", "behind", "(IC)I"⟩, 9)]
theorem lw_r2 : ∀ q ∈ lw_privs_2, lw_okq q := List.forall_mem_cons.mpr ⟨lw_p16, List.forall_mem_cons.mpr ⟨lw_p17, List.forall_mem_cons.mpr ⟨lw_p18, List.forall_mem_cons.mpr ⟨lw_p19, List.forall_mem_cons.mpr ⟨lw_p20, List.forall_mem_cons.mpr ⟨lw_p21, List.forall_mem_cons.mpr ⟨lw_p22, List.forall_mem_cons.mpr ⟨lw_p23, List.forall_mem_cons.mpr ⟨lw_p24, List.forall_mem_cons.mpr ⟨lw_p25, List.forall_mem_cons.mpr ⟨lw_p26, fun _ h => absurd h List.not_mem_nil⟩⟩⟩⟩⟩⟩⟩⟩⟩⟩⟩
def lw_privs : List (MethodName × Nat) := lw_privs_1 ++ (lw_privs_2)
def lw_tbl : List Cond := k2_sels lw_privs ++ tables_1
theorem lw_privs_ok : ∀ q ∈ lw_privs, lw_okq q := by
  show ∀ q ∈ lw_privs_1 ++ (lw_privs_2), lw_okq q
  exact List.forall_mem_append.mpr ⟨lw_r1, lw_r2⟩
end
section
/-! ===== BEGIN words of one list among another's, by their places ===== -/
theorem goodIn_r {big : List Cond} (ws : List Cond) (ps : List Nat) (hp : ws = ps.filterMap (fun i => big[i]?)) (h : ws.all goodWord = true) : GoodIn big ws := by
  intro w hw
  have h1 := List.all_eq_true.mp h w hw
  rw [hp] at hw
  obtain ⟨i, -, hi⟩ := List.mem_filterMap.mp hw
  have hm : w ∈ big := by first | exact List.mem_of_getElem? hi | exact List.getElem?_mem hi
  exact ⟨hm, good_of_word h1⟩
theorem goodIn_app {big a b : List Cond} (ha : GoodIn big a) (hb : GoodIn big b) : GoodIn big (a ++ b) := fun w h => (List.mem_append.mp h).elim (ha w) (hb w)
theorem goodIn_ca {big a b : List Cond} {c : Cond} (ha : GoodIn big (c :: a)) (hb : GoodIn big b) : GoodIn big (c :: (a ++ b)) := fun w h => (List.mem_cons.mp h).elim (fun e => ha w (List.mem_cons.mpr (Or.inl e))) (fun h => (List.mem_append.mp h).elim (fun h => ha w (List.mem_cons.mpr (Or.inr h))) (hb w))
theorem goodIn_sub {big ws : List Cond} (hm : ∀ w ∈ ws, w ∈ big) (h : ws.all goodWord = true) : GoodIn big ws := fun w hw => ⟨hm w hw, good_of_word (List.all_eq_true.mp h w hw)⟩
/-! ===== END ===== -/

/-! ===== BEGIN printed: names, fields, word lists, decode rows ===== -/
def RX0 : String := "BooleanRing$Diagrams"
def TX0 : u_T := fun k => match k with
  | 0 => ("BooleanRing$Diagrams", "found", "[J", true)
  | _ => ("BooleanRing$Diagrams", "count", "I", false)
def tyX0 : Nat → FieldType := fun k => match k with
  | 0 => .array .long
  | _ => .int
abbrev wsX00 : List Cond := u_ws RX0 TX0 2
theorem nmX0 : ∀ a, a < 2 → ∀ b, b < 2 → a ≠ b → (TX0 a).2.1 ≠ (TX0 b).2.1 := by decide +kernel
theorem tyX0_ok : ∀ k, k < 2 → parseFieldDescriptor (TX0 k).2.2.1 = some (tyX0 k) := by decide +kernel
abbrev cX0_init : ByteArray := prog_2_method_1_code
def yX0_init : MethodName := ⟨RX0, "<init>", "()V"⟩
abbrev cX0_forget : ByteArray := prog_2_method_2_code
def yX0_forget : MethodName := ⟨RX0, "forget", "()V"⟩
abbrev cX0_enter : ByteArray := prog_2_method_3_code
def yX0_enter : MethodName := ⟨RX0, "enter", "(J)V"⟩
abbrev cX0_isKnown : ByteArray := prog_2_method_4_code
def yX0_isKnown : MethodName := ⟨RX0, "isKnown", "(J)Z"⟩
abbrev cX0_closedCount : ByteArray := prog_2_method_5_code
def yX0_closedCount : MethodName := ⟨RX0, "closedCount", "()I"⟩
def RX1 : String := "BooleanRing$History"
def TX1 : u_T := fun k => match k with
  | 0 => ("BooleanRing$History", "states", "[J", true)
  | _ => ("BooleanRing$History", "kept", "I", false)
def tyX1 : Nat → FieldType := fun k => match k with
  | 0 => .array .long
  | _ => .int
abbrev wsX10 : List Cond := u_ws RX1 TX1 2
theorem nmX1 : ∀ a, a < 2 → ∀ b, b < 2 → a ≠ b → (TX1 a).2.1 ≠ (TX1 b).2.1 := by decide +kernel
theorem tyX1_ok : ∀ k, k < 2 → parseFieldDescriptor (TX1 k).2.2.1 = some (tyX1 k) := by decide +kernel
abbrev cX1_init : ByteArray := prog_3_method_1_code
def yX1_init : MethodName := ⟨RX1, "<init>", "()V"⟩
abbrev cX1_forget : ByteArray := prog_3_method_2_code
def yX1_forget : MethodName := ⟨RX1, "forget", "()V"⟩
abbrev cX1_isEmpty : ByteArray := prog_3_method_3_code
def yX1_isEmpty : MethodName := ⟨RX1, "isEmpty", "()Z"⟩
abbrev cX1_keep : ByteArray := prog_3_method_4_code
def yX1_keep : MethodName := ⟨RX1, "keep", "([J)V"⟩
abbrev cX1_restore : ByteArray := prog_3_method_5_code
def yX1_restore : MethodName := ⟨RX1, "restore", "([J)I"⟩
def RX2 : String := "BooleanRing$Orders"
def TX2 : u_T := fun k => match k with
  | _ => ("", "", "", false)
def tyX2 : Nat → FieldType := fun k => match k with
  | _ => .int
abbrev wsX20 : List Cond := u_ws RX2 TX2 0
theorem nmX2 : ∀ a, a < 0 → ∀ b, b < 0 → a ≠ b → (TX2 a).2.1 ≠ (TX2 b).2.1 := by decide +kernel
theorem tyX2_ok : ∀ k, k < 0 → parseFieldDescriptor (TX2 k).2.2.1 = some (tyX2 k) := by decide +kernel
abbrev cX2_tableOf : ByteArray := prog_4_method_2_code
def yX2_tableOf : MethodName := ⟨RX2, "tableOf", "(I)[I"⟩
abbrev cX2_monomialAt : ByteArray := prog_4_method_3_code
def yX2_monomialAt : MethodName := ⟨RX2, "monomialAt", "(II)I"⟩
abbrev cX2_termOf : ByteArray := prog_4_method_4_code
def yX2_termOf : MethodName := ⟨RX2, "termOf", "(JII)I"⟩
def RX3 : String := "BooleanRing$Poly"
def TX3 : u_T := fun k => match k with
  | _ => ("", "", "", false)
def tyX3 : Nat → FieldType := fun k => match k with
  | _ => .int
abbrev wsX30 : List Cond := u_ws RX3 TX3 0
theorem nmX3 : ∀ a, a < 0 → ∀ b, b < 0 → a ≠ b → (TX3 a).2.1 ≠ (TX3 b).2.1 := by decide +kernel
theorem tyX3_ok : ∀ k, k < 0 → parseFieldDescriptor (TX3 k).2.2.1 = some (tyX3 k) := by decide +kernel
abbrev cX3_without : ByteArray := prog_5_method_2_code
def yX3_without : MethodName := ⟨RX3, "without", "(I)J"⟩
abbrev cX3_ofMonomial : ByteArray := prog_5_method_3_code
def yX3_ofMonomial : MethodName := ⟨RX3, "ofMonomial", "(I)J"⟩
abbrev cX3_bit : ByteArray := prog_5_method_4_code
def yX3_bit : MethodName := ⟨RX3, "bit", "(JI)I"⟩
abbrev cX3_upperHalf : ByteArray := prog_5_method_5_code
def yX3_upperHalf : MethodName := ⟨RX3, "upperHalf", "(JI)J"⟩
abbrev cX3_lowerHalf : ByteArray := prog_5_method_6_code
def yX3_lowerHalf : MethodName := ⟨RX3, "lowerHalf", "(JI)J"⟩
abbrev cX3_raised : ByteArray := prog_5_method_7_code
def yX3_raised : MethodName := ⟨RX3, "raised", "(JI)J"⟩
abbrev cX3_transformed : ByteArray := prog_5_method_8_code
def yX3_transformed : MethodName := ⟨RX3, "transformed", "(JI)J"⟩
abbrev cX3_multiplied : ByteArray := prog_5_method_9_code
def yX3_multiplied : MethodName := ⟨RX3, "multiplied", "(JJI)J"⟩
abbrev cX3_exchanged : ByteArray := prog_5_method_10_code
def yX3_exchanged : MethodName := ⟨RX3, "exchanged", "(JII)J"⟩
abbrev cX3_lowestVariable : ByteArray := prog_5_method_11_code
def yX3_lowestVariable : MethodName := ⟨RX3, "lowestVariable", "(J)I"⟩
def RX4 : String := "BooleanRing$StandardText"
def TX4 : u_T := fun k => match k with
  | _ => ("", "", "", false)
def tyX4 : Nat → FieldType := fun k => match k with
  | _ => .int
abbrev wsX40 : List Cond := u_ws RX4 TX4 0
theorem nmX4 : ∀ a, a < 0 → ∀ b, b < 0 → a ≠ b → (TX4 a).2.1 ≠ (TX4 b).2.1 := by decide +kernel
theorem tyX4_ok : ∀ k, k < 0 → parseFieldDescriptor (TX4 k).2.2.1 = some (tyX4 k) := by decide +kernel
abbrev cX4_lengthOf : ByteArray := prog_6_method_2_code
def yX4_lengthOf : MethodName := ⟨RX4, "lengthOf", "(J)I"⟩
abbrev cX4_characterOf : ByteArray := prog_6_method_3_code
def yX4_characterOf : MethodName := ⟨RX4, "characterOf", "(JI)I"⟩
abbrev cX4_widthOf : ByteArray := prog_6_method_4_code
def yX4_widthOf : MethodName := ⟨RX4, "widthOf", "(I)I"⟩
abbrev cX4_signOf : ByteArray := prog_6_method_5_code
def yX4_signOf : MethodName := ⟨RX4, "signOf", "(II)I"⟩
def RX5 : String := "BooleanRing$Typed"
def TX5 : u_T := fun k => match k with
  | 0 => ("BooleanRing$Typed", "text", "[C", true)
  | _ => ("BooleanRing$Typed", "length", "I", false)
def tyX5 : Nat → FieldType := fun k => match k with
  | 0 => .array .char
  | _ => .int
abbrev wsX50 : List Cond := u_ws RX5 TX5 2
theorem nmX5 : ∀ a, a < 2 → ∀ b, b < 2 → a ≠ b → (TX5 a).2.1 ≠ (TX5 b).2.1 := by decide +kernel
theorem tyX5_ok : ∀ k, k < 2 → parseFieldDescriptor (TX5 k).2.2.1 = some (tyX5 k) := by decide +kernel
abbrev cX5_init : ByteArray := prog_7_method_1_code
def yX5_init : MethodName := ⟨RX5, "<init>", "()V"⟩
abbrev cX5_append : ByteArray := prog_7_method_2_code
def yX5_append : MethodName := ⟨RX5, "append", "(C)I"⟩
abbrev cX5_empty : ByteArray := prog_7_method_3_code
def yX5_empty : MethodName := ⟨RX5, "empty", "()I"⟩
abbrev cX5_firstFault : ByteArray := prog_7_method_4_code
def yX5_firstFault : MethodName := ⟨RX5, "firstFault", "(I)I"⟩
abbrev cX5_seenAfter : ByteArray := prog_7_method_5_code
def yX5_seenAfter : MethodName := ⟨RX5, "seenAfter", "(ICI)I"⟩
abbrev cX5_polynomial : ByteArray := prog_7_method_6_code
def yX5_polynomial : MethodName := ⟨RX5, "polynomial", "()J"⟩
def RX6 : String := "BooleanRing"
def TX6 : u_T := fun k => match k with
  | 0 => ("BooleanRing", "registers", "[J", true)
  | 1 => ("BooleanRing", "leading", "[I", true)
  | 2 => ("BooleanRing", "history", "LBooleanRing$History;", true)
  | 3 => ("BooleanRing", "diagrams", "LBooleanRing$Diagrams;", true)
  | 4 => ("BooleanRing", "typed", "LBooleanRing$Typed;", true)
  | _ => ("BooleanRing", "n", "I", false)
def tyX6 : Nat → FieldType := fun k => match k with
  | 0 => .array .long
  | 1 => .array .int
  | 2 => .object "BooleanRing$History"
  | 3 => .object "BooleanRing$Diagrams"
  | 4 => .object "BooleanRing$Typed"
  | _ => .int
abbrev wsX60 : List Cond := u_ws RX6 TX6 6
theorem nmX6 : ∀ a, a < 6 → ∀ b, b < 6 → a ≠ b → (TX6 a).2.1 ≠ (TX6 b).2.1 := by decide +kernel
theorem tyX6_ok : ∀ k, k < 6 → parseFieldDescriptor (TX6 k).2.2.1 = some (tyX6 k) := by decide +kernel
abbrev cX6_init : ByteArray := prog_1_method_1_code
def yX6_init : MethodName := ⟨RX6, "<init>", "()V"⟩
abbrev cX6_reset : ByteArray := prog_1_method_2_code
def yX6_reset : MethodName := ⟨RX6, "reset", "(I)I"⟩
abbrev cX6_variables : ByteArray := prog_1_method_3_code
def yX6_variables : MethodName := ⟨RX6, "variables", "()I"⟩
abbrev cX6_toggle : ByteArray := prog_1_method_4_code
def yX6_toggle : MethodName := ⟨RX6, "toggle", "(II)I"⟩
abbrev cX6_copy : ByteArray := prog_1_method_5_code
def yX6_copy : MethodName := ⟨RX6, "copy", "(II)I"⟩
abbrev cX6_sum : ByteArray := prog_1_method_6_code
def yX6_sum : MethodName := ⟨RX6, "sum", "(III)I"⟩
abbrev cX6_product : ByteArray := prog_1_method_7_code
def yX6_product : MethodName := ⟨RX6, "product", "(III)I"⟩
abbrev cX6_times : ByteArray := prog_1_method_8_code
def yX6_times : MethodName := ⟨RX6, "times", "(III)I"⟩
abbrev cX6_restrict : ByteArray := prog_1_method_9_code
def yX6_restrict : MethodName := ⟨RX6, "restrict", "(IIII)I"⟩
abbrev cX6_substitute : ByteArray := prog_1_method_10_code
def yX6_substitute : MethodName := ⟨RX6, "substitute", "(IIII)I"⟩
abbrev cX6_derivative : ByteArray := prog_1_method_11_code
def yX6_derivative : MethodName := ⟨RX6, "derivative", "(III)I"⟩
abbrev cX6_flip : ByteArray := prog_1_method_12_code
def yX6_flip : MethodName := ⟨RX6, "flip", "(II)I"⟩
abbrev cX6_exchange : ByteArray := prog_1_method_13_code
def yX6_exchange : MethodName := ⟨RX6, "exchange", "(III)I"⟩
abbrev cX6_undo : ByteArray := prog_1_method_14_code
def yX6_undo : MethodName := ⟨RX6, "undo", "()I"⟩
abbrev cX6_has : ByteArray := prog_1_method_15_code
def yX6_has : MethodName := ⟨RX6, "has", "(II)I"⟩
abbrev cX6_terms : ByteArray := prog_1_method_16_code
def yX6_terms : MethodName := ⟨RX6, "terms", "(I)I"⟩
abbrev cX6_degree : ByteArray := prog_1_method_17_code
def yX6_degree : MethodName := ⟨RX6, "degree", "(I)I"⟩
abbrev cX6_occurring : ByteArray := prog_1_method_18_code
def yX6_occurring : MethodName := ⟨RX6, "occurring", "(I)I"⟩
abbrev cX6_size : ByteArray := prog_1_method_19_code
def yX6_size : MethodName := ⟨RX6, "size", "(I)I"⟩
abbrev cX6_sharedSize : ByteArray := prog_1_method_20_code
def yX6_sharedSize : MethodName := ⟨RX6, "sharedSize", "()I"⟩
abbrev cX6_termAt : ByteArray := prog_1_method_21_code
def yX6_termAt : MethodName := ⟨RX6, "termAt", "(III)I"⟩
abbrev cX6_value : ByteArray := prog_1_method_22_code
def yX6_value : MethodName := ⟨RX6, "value", "(II)I"⟩
abbrev cX6_isSame : ByteArray := prog_1_method_23_code
def yX6_isSame : MethodName := ⟨RX6, "isSame", "(II)I"⟩
abbrev cX6_reduce : ByteArray := prog_1_method_24_code
def yX6_reduce : MethodName := ⟨RX6, "reduce", "(IIII)I"⟩
abbrev cX6_echelon : ByteArray := prog_1_method_25_code
def yX6_echelon : MethodName := ⟨RX6, "echelon", "(II)I"⟩
abbrev cX6_zeros : ByteArray := prog_1_method_26_code
def yX6_zeros : MethodName := ⟨RX6, "zeros", "(I)I"⟩
abbrev cX6_zeroAt : ByteArray := prog_1_method_27_code
def yX6_zeroAt : MethodName := ⟨RX6, "zeroAt", "(II)I"⟩
abbrev cX6_combine : ByteArray := prog_1_method_28_code
def yX6_combine : MethodName := ⟨RX6, "combine", "(II)I"⟩
abbrev cX6_eliminate : ByteArray := prog_1_method_29_code
def yX6_eliminate : MethodName := ⟨RX6, "eliminate", "(III)I"⟩
abbrev cX6_fibres : ByteArray := prog_1_method_30_code
def yX6_fibres : MethodName := ⟨RX6, "fibres", "(III)I"⟩
abbrev cX6_isMember : ByteArray := prog_1_method_31_code
def yX6_isMember : MethodName := ⟨RX6, "isMember", "(II)I"⟩
abbrev cX6_isSameIdeal : ByteArray := prog_1_method_32_code
def yX6_isSameIdeal : MethodName := ⟨RX6, "isSameIdeal", "(II)I"⟩
abbrev cX6_fixedVariables : ByteArray := prog_1_method_33_code
def yX6_fixedVariables : MethodName := ⟨RX6, "fixedVariables", "(I)I"⟩
abbrev cX6_type : ByteArray := prog_1_method_34_code
def yX6_type : MethodName := ⟨RX6, "type", "(I)I"⟩
abbrev cX6_clearText : ByteArray := prog_1_method_35_code
def yX6_clearText : MethodName := ⟨RX6, "clearText", "()I"⟩
abbrev cX6_fault : ByteArray := prog_1_method_36_code
def yX6_fault : MethodName := ⟨RX6, "fault", "()I"⟩
abbrev cX6_read : ByteArray := prog_1_method_37_code
def yX6_read : MethodName := ⟨RX6, "read", "(I)I"⟩
abbrev cX6_textLength : ByteArray := prog_1_method_38_code
def yX6_textLength : MethodName := ⟨RX6, "textLength", "(I)I"⟩
abbrev cX6_textAt : ByteArray := prog_1_method_39_code
def yX6_textAt : MethodName := ⟨RX6, "textAt", "(II)I"⟩
abbrev cX6_isRegister : ByteArray := prog_1_method_40_code
def yX6_isRegister : MethodName := ⟨RX6, "isRegister", "(I)Z"⟩
abbrev cX6_isSet : ByteArray := prog_1_method_41_code
def yX6_isSet : MethodName := ⟨RX6, "isSet", "(I)Z"⟩
abbrev cX6_isOrder : ByteArray := prog_1_method_42_code
def yX6_isOrder : MethodName := ⟨RX6, "isOrder", "(I)Z"⟩
abbrev cX6_isVariable : ByteArray := prog_1_method_43_code
def yX6_isVariable : MethodName := ⟨RX6, "isVariable", "(I)Z"⟩
abbrev cX6_isMask : ByteArray := prog_1_method_44_code
def yX6_isMask : MethodName := ⟨RX6, "isMask", "(I)Z"⟩
abbrev cX6_put : ByteArray := prog_1_method_45_code
def yX6_put : MethodName := ⟨RX6, "put", "(IJ)I"⟩
abbrev cX6_isIn : ByteArray := prog_1_method_46_code
def yX6_isIn : MethodName := ⟨RX6, "isIn", "(II)Z"⟩
abbrev cX6_nextOf : ByteArray := prog_1_method_47_code
def yX6_nextOf : MethodName := ⟨RX6, "nextOf", "(II)I"⟩
abbrev cX6_findLeading : ByteArray := prog_1_method_48_code
def yX6_findLeading : MethodName := ⟨RX6, "findLeading", "(I)V"⟩
abbrev cX6_reducerOf : ByteArray := prog_1_method_49_code
def yX6_reducerOf : MethodName := ⟨RX6, "reducerOf", "(II)I"⟩
abbrev cX6_bringUp : ByteArray := prog_1_method_50_code
def yX6_bringUp : MethodName := ⟨RX6, "bringUp", "(III)Z"⟩
abbrev cX6_clearElsewhere : ByteArray := prog_1_method_51_code
def yX6_clearElsewhere : MethodName := ⟨RX6, "clearElsewhere", "(III)V"⟩
abbrev cX6_allPoints : ByteArray := prog_1_method_52_code
def yX6_allPoints : MethodName := ⟨RX6, "allPoints", "()J"⟩
abbrev cX6_nonZeros : ByteArray := prog_1_method_53_code
def yX6_nonZeros : MethodName := ⟨RX6, "nonZeros", "(I)J"⟩
abbrev cX6_commonZeros : ByteArray := prog_1_method_54_code
def yX6_commonZeros : MethodName := ⟨RX6, "commonZeros", "(I)J"⟩
def RX7 : String := "BooleanRingModel"
def TX7 : u_T := fun k => match k with
  | 0 => ("BooleanRingModel", "n", "I", false)
  | 1 => ("BooleanRingModel", "p", "[J", true)
  | 2 => ("BooleanRingModel", "was", "[J", true)
  | 3 => ("BooleanRingModel", "states", "I", false)
  | 4 => ("BooleanRingModel", "text", "[C", true)
  | 5 => ("BooleanRingModel", "typed", "I", false)
  | 6 => ("BooleanRingModel", "found", "[J", true)
  | 7 => ("BooleanRingModel", "founds", "I", false)
  | _ => ("BooleanRingModel", "by", "[J", true)
def tyX7 : Nat → FieldType := fun k => match k with
  | 0 => .int
  | 1 => .array .long
  | 2 => .array .long
  | 3 => .int
  | 4 => .array .char
  | 5 => .int
  | 6 => .array .long
  | 7 => .int
  | _ => .array .long
abbrev wsX70 : List Cond := u_ws RX7 TX7 9
theorem nmX7 : ∀ a, a < 9 → ∀ b, b < 9 → a ≠ b → (TX7 a).2.1 ≠ (TX7 b).2.1 := by decide +kernel
theorem tyX7_ok : ∀ k, k < 9 → parseFieldDescriptor (TX7 k).2.2.1 = some (tyX7 k) := by decide +kernel
abbrev cX7_init : ByteArray := prog_9_method_1_code
def yX7_init : MethodName := ⟨RX7, "<init>", "()V"⟩
abbrev cX7_in : ByteArray := prog_9_method_2_code
def yX7_in : MethodName := ⟨RX7, "in", "(III)Z"⟩
abbrev cX7_isRegister : ByteArray := prog_9_method_3_code
def yX7_isRegister : MethodName := ⟨RX7, "isRegister", "(I)Z"⟩
abbrev cX7_isVariable : ByteArray := prog_9_method_4_code
def yX7_isVariable : MethodName := ⟨RX7, "isVariable", "(I)Z"⟩
abbrev cX7_isMask : ByteArray := prog_9_method_5_code
def yX7_isMask : MethodName := ⟨RX7, "isMask", "(I)Z"⟩
abbrev cX7_isOrder : ByteArray := prog_9_method_6_code
def yX7_isOrder : MethodName := ⟨RX7, "isOrder", "(I)Z"⟩
abbrev cX7_isSet : ByteArray := prog_9_method_7_code
def yX7_isSet : MethodName := ⟨RX7, "isSet", "(I)Z"⟩
abbrev cX7_has1 : ByteArray := prog_9_method_8_code
def yX7_has1 : MethodName := ⟨RX7, "has1", "(JI)Z"⟩
abbrev cX7_many : ByteArray := prog_9_method_9_code
def yX7_many : MethodName := ⟨RX7, "many", "(J)I"⟩
abbrev cX7_records : ByteArray := prog_9_method_10_code
def yX7_records : MethodName := ⟨RX7, "records", "()V"⟩
abbrev cX7_gets : ByteArray := prog_9_method_11_code
def yX7_gets : MethodName := ⟨RX7, "gets", "(IJ)I"⟩
abbrev cX7_product1 : ByteArray := prog_9_method_12_code
def yX7_product1 : MethodName := ⟨RX7, "product1", "(JJ)J"⟩
abbrev cX7_upper : ByteArray := prog_9_method_13_code
def yX7_upper : MethodName := ⟨RX7, "upper", "(JI)J"⟩
abbrev cX7_lower : ByteArray := prog_9_method_14_code
def yX7_lower : MethodName := ⟨RX7, "lower", "(JI)J"⟩
abbrev cX7_values : ByteArray := prog_9_method_15_code
def yX7_values : MethodName := ⟨RX7, "values", "(J)J"⟩
abbrev cX7_occurs : ByteArray := prog_9_method_16_code
def yX7_occurs : MethodName := ⟨RX7, "occurs", "(J)I"⟩
abbrev cX7_reset : ByteArray := prog_9_method_17_code
def yX7_reset : MethodName := ⟨RX7, "reset", "(I)I"⟩
abbrev cX7_variables : ByteArray := prog_9_method_18_code
def yX7_variables : MethodName := ⟨RX7, "variables", "()I"⟩
abbrev cX7_toggle : ByteArray := prog_9_method_19_code
def yX7_toggle : MethodName := ⟨RX7, "toggle", "(II)I"⟩
abbrev cX7_copy : ByteArray := prog_9_method_20_code
def yX7_copy : MethodName := ⟨RX7, "copy", "(II)I"⟩
abbrev cX7_sum : ByteArray := prog_9_method_21_code
def yX7_sum : MethodName := ⟨RX7, "sum", "(III)I"⟩
abbrev cX7_product : ByteArray := prog_9_method_22_code
def yX7_product : MethodName := ⟨RX7, "product", "(III)I"⟩
abbrev cX7_times : ByteArray := prog_9_method_23_code
def yX7_times : MethodName := ⟨RX7, "times", "(III)I"⟩
abbrev cX7_restrict : ByteArray := prog_9_method_24_code
def yX7_restrict : MethodName := ⟨RX7, "restrict", "(IIII)I"⟩
abbrev cX7_substitute : ByteArray := prog_9_method_25_code
def yX7_substitute : MethodName := ⟨RX7, "substitute", "(IIII)I"⟩
abbrev cX7_derivative : ByteArray := prog_9_method_26_code
def yX7_derivative : MethodName := ⟨RX7, "derivative", "(III)I"⟩
abbrev cX7_flip : ByteArray := prog_9_method_27_code
def yX7_flip : MethodName := ⟨RX7, "flip", "(II)I"⟩
abbrev cX7_exchange : ByteArray := prog_9_method_28_code
def yX7_exchange : MethodName := ⟨RX7, "exchange", "(III)I"⟩
abbrev cX7_undo : ByteArray := prog_9_method_29_code
def yX7_undo : MethodName := ⟨RX7, "undo", "()I"⟩
abbrev cX7_has : ByteArray := prog_9_method_30_code
def yX7_has : MethodName := ⟨RX7, "has", "(II)I"⟩
abbrev cX7_terms : ByteArray := prog_9_method_31_code
def yX7_terms : MethodName := ⟨RX7, "terms", "(I)I"⟩
abbrev cX7_degree : ByteArray := prog_9_method_32_code
def yX7_degree : MethodName := ⟨RX7, "degree", "(I)I"⟩
abbrev cX7_occurring : ByteArray := prog_9_method_33_code
def yX7_occurring : MethodName := ⟨RX7, "occurring", "(I)I"⟩
abbrev cX7_notes : ByteArray := prog_9_method_34_code
def yX7_notes : MethodName := ⟨RX7, "notes", "(J)V"⟩
abbrev cX7_spreads : ByteArray := prog_9_method_35_code
def yX7_spreads : MethodName := ⟨RX7, "spreads", "()I"⟩
abbrev cX7_size : ByteArray := prog_9_method_36_code
def yX7_size : MethodName := ⟨RX7, "size", "(I)I"⟩
abbrev cX7_sharedSize : ByteArray := prog_9_method_37_code
def yX7_sharedSize : MethodName := ⟨RX7, "sharedSize", "()I"⟩
abbrev cX7_isGreater : ByteArray := prog_9_method_38_code
def yX7_isGreater : MethodName := ⟨RX7, "isGreater", "(III)Z"⟩
abbrev cX7_leads : ByteArray := prog_9_method_39_code
def yX7_leads : MethodName := ⟨RX7, "leads", "(JI)I"⟩
abbrev cX7_termAt : ByteArray := prog_9_method_40_code
def yX7_termAt : MethodName := ⟨RX7, "termAt", "(III)I"⟩
abbrev cX7_value : ByteArray := prog_9_method_41_code
def yX7_value : MethodName := ⟨RX7, "value", "(II)I"⟩
abbrev cX7_isSame : ByteArray := prog_9_method_42_code
def yX7_isSame : MethodName := ⟨RX7, "isSame", "(II)I"⟩
abbrev cX7_taker : ByteArray := prog_9_method_43_code
def yX7_taker : MethodName := ⟨RX7, "taker", "(III)I"⟩
abbrev cX7_reduce : ByteArray := prog_9_method_44_code
def yX7_reduce : MethodName := ⟨RX7, "reduce", "(IIII)I"⟩
abbrev cX7_echelon : ByteArray := prog_9_method_45_code
def yX7_echelon : MethodName := ⟨RX7, "echelon", "(II)I"⟩
abbrev cX7_barred : ByteArray := prog_9_method_46_code
def yX7_barred : MethodName := ⟨RX7, "barred", "(I)J"⟩
abbrev cX7_zeros : ByteArray := prog_9_method_47_code
def yX7_zeros : MethodName := ⟨RX7, "zeros", "(I)I"⟩
abbrev cX7_zeroAt : ByteArray := prog_9_method_48_code
def yX7_zeroAt : MethodName := ⟨RX7, "zeroAt", "(II)I"⟩
abbrev cX7_combine : ByteArray := prog_9_method_49_code
def yX7_combine : MethodName := ⟨RX7, "combine", "(II)I"⟩
abbrev cX7_eliminate : ByteArray := prog_9_method_50_code
def yX7_eliminate : MethodName := ⟨RX7, "eliminate", "(III)I"⟩
abbrev cX7_fibres : ByteArray := prog_9_method_51_code
def yX7_fibres : MethodName := ⟨RX7, "fibres", "(III)I"⟩
abbrev cX7_isMember : ByteArray := prog_9_method_52_code
def yX7_isMember : MethodName := ⟨RX7, "isMember", "(II)I"⟩
abbrev cX7_isSameIdeal : ByteArray := prog_9_method_53_code
def yX7_isSameIdeal : MethodName := ⟨RX7, "isSameIdeal", "(II)I"⟩
abbrev cX7_fixedVariables : ByteArray := prog_9_method_54_code
def yX7_fixedVariables : MethodName := ⟨RX7, "fixedVariables", "(I)I"⟩
abbrev cX7_type : ByteArray := prog_9_method_55_code
def yX7_type : MethodName := ⟨RX7, "type", "(I)I"⟩
abbrev cX7_clearText : ByteArray := prog_9_method_56_code
def yX7_clearText : MethodName := ⟨RX7, "clearText", "()I"⟩
abbrev cX7_behind : ByteArray := prog_9_method_57_code
def yX7_behind : MethodName := ⟨RX7, "behind", "(IC)I"⟩
abbrev cX7_fault : ByteArray := prog_9_method_58_code
def yX7_fault : MethodName := ⟨RX7, "fault", "()I"⟩
abbrev cX7_read : ByteArray := prog_9_method_59_code
def yX7_read : MethodName := ⟨RX7, "read", "(I)I"⟩
abbrev cX7_longOf : ByteArray := prog_9_method_60_code
def yX7_longOf : MethodName := ⟨RX7, "longOf", "(I)I"⟩
abbrev cX7_textLength : ByteArray := prog_9_method_61_code
def yX7_textLength : MethodName := ⟨RX7, "textLength", "(I)I"⟩
abbrev cX7_letter : ByteArray := prog_9_method_62_code
def yX7_letter : MethodName := ⟨RX7, "letter", "(II)I"⟩
abbrev cX7_textAt : ByteArray := prog_9_method_63_code
def yX7_textAt : MethodName := ⟨RX7, "textAt", "(II)I"⟩
def RJ6 : String := "java/lang/Integer"
def TJ6 : u_T := fun k => match k with
  | _ => ("", "", "", false)
def tyJ6 : Nat → FieldType := fun k => match k with
  | _ => .int
abbrev wsJ60 : List Cond := u_ws RJ6 TJ6 0
theorem nmJ6 : ∀ a, a < 0 → ∀ b, b < 0 → a ≠ b → (TJ6 a).2.1 ≠ (TJ6 b).2.1 := by decide +kernel
theorem tyJ6_ok : ∀ k, k < 0 → parseFieldDescriptor (TJ6 k).2.2.1 = some (tyJ6 k) := by decide +kernel
abbrev cJ6_bitCount_0f7a4 : ByteArray := prog_10_method_49_code
def yJ6_bitCount_0f7a4 : MethodName := ⟨RJ6, "bitCount", "(I)I"⟩
def RJ13 : String := "java/lang/Long"
def TJ13 : u_T := fun k => match k with
  | _ => ("", "", "", false)
def tyJ13 : Nat → FieldType := fun k => match k with
  | _ => .int
abbrev wsJ130 : List Cond := u_ws RJ13 TJ13 0
theorem nmJ13 : ∀ a, a < 0 → ∀ b, b < 0 → a ≠ b → (TJ13 a).2.1 ≠ (TJ13 b).2.1 := by decide +kernel
theorem tyJ13_ok : ∀ k, k < 0 → parseFieldDescriptor (TJ13 k).2.2.1 = some (tyJ13 k) := by decide +kernel
abbrev cJ13_bitCount_95d88 : ByteArray := prog_11_method_50_code
def yJ13_bitCount_95d88 : MethodName := ⟨RJ13, "bitCount", "(J)I"⟩
def RJ9 : String := "java/lang/Math"
def TJ9 : u_T := fun k => match k with
  | _ => ("", "", "", false)
def tyJ9 : Nat → FieldType := fun k => match k with
  | _ => .int
abbrev wsJ90 : List Cond := u_ws RJ9 TJ9 0
theorem nmJ9 : ∀ a, a < 0 → ∀ b, b < 0 → a ≠ b → (TJ9 a).2.1 ≠ (TJ9 b).2.1 := by decide +kernel
theorem tyJ9_ok : ∀ k, k < 0 → parseFieldDescriptor (TJ9 k).2.2.1 = some (tyJ9 k) := by decide +kernel
abbrev cJ9_max_7cf53 : ByteArray := prog_12_method_65_code
def yJ9_max_7cf53 : MethodName := ⟨RJ9, "max", "(II)I"⟩
abbrev cJ9_min_7cf53 : ByteArray := prog_12_method_69_code
def yJ9_min_7cf53 : MethodName := ⟨RJ9, "min", "(II)I"⟩
def RJ10 : String := "java/lang/System"
def TJ10 : u_T := fun k => match k with
  | _ => ("", "", "", false)
def tyJ10 : Nat → FieldType := fun k => match k with
  | _ => .int
abbrev wsJ100 : List Cond := u_ws RJ10 TJ10 0
theorem nmJ10 : ∀ a, a < 0 → ∀ b, b < 0 → a ≠ b → (TJ10 a).2.1 ≠ (TJ10 b).2.1 := by decide +kernel
theorem tyJ10_ok : ∀ k, k < 0 → parseFieldDescriptor (TJ10 k).2.2.1 = some (tyJ10 k) := by decide +kernel
def RJ7 : String := "java/util/Arrays"
def TJ7 : u_T := fun k => match k with
  | _ => ("", "", "", false)
def tyJ7 : Nat → FieldType := fun k => match k with
  | _ => .int
abbrev wsJ70 : List Cond := u_ws RJ7 TJ7 0
theorem nmJ7 : ∀ a, a < 0 → ∀ b, b < 0 → a ≠ b → (TJ7 a).2.1 ≠ (TJ7 b).2.1 := by decide +kernel
theorem tyJ7_ok : ∀ k, k < 0 → parseFieldDescriptor (TJ7 k).2.2.1 = some (tyJ7 k) := by decide +kernel
abbrev cJ7_fill_d0a16 : ByteArray := prog_14_method_101_code
def yJ7_fill_d0a16 : MethodName := ⟨RJ7, "fill", "([JJ)V"⟩
def RL : String := "BooleanRingLaw"
abbrev cL_law : ByteArray := code
def yL_law : MethodName := ⟨RL, "law", "([I)Z"⟩
def wsX0_init : List Cond := .code yX0_init cX0_init 1 none :: ([.methodLink RX0 3 objectInit, .instanceMethod objectInit, .code objectInit ⟨#[0xb1]⟩ 1 none, .arrayClass .long, .fieldLink RX0 9 "BooleanRing$Diagrams" "found" "[J", .fieldLink RX0 15 "BooleanRing$Diagrams" "count" "I"] ++ wsX00)
def wsX0_forget : List Cond := .code yX0_forget cX0_forget 1 none :: ([.fieldLink RX0 15 "BooleanRing$Diagrams" "count" "I"] ++ wsX00)
def wsX0_isKnown : List Cond := .code yX0_isKnown cX0_isKnown 4 (some .boolean) :: ([.fieldLink RX0 15 "BooleanRing$Diagrams" "count" "I", .fieldLink RX0 9 "BooleanRing$Diagrams" "found" "[J"] ++ wsX00)
def wsX0_enter : List Cond := .code yX0_enter cX0_enter 4 none :: ([.constantLong RX0 19 (-2), .fieldLink RX0 15 "BooleanRing$Diagrams" "count" "I", .fieldLink RX0 9 "BooleanRing$Diagrams" "found" "[J", .methodLink RX0 21 yX0_isKnown, .instanceMethod yX0_isKnown, .selects RX0 yX0_isKnown yX0_isKnown, .initialized RX0, .code yX0_isKnown cX0_isKnown 4 (some .boolean)] ++ wsX00)
def wsX3_without : List Cond := .code yX3_without cX3_without 1 (some .long) :: ([.fieldLink RX3 9 "BooleanRing$Poly" "WITHOUT" "[J"])
def wsX3_upperHalf : List Cond := .code yX3_upperHalf cX3_upperHalf 3 (some .long) :: ([.methodLink RX3 15 yX3_without, .static yX3_without, .initialized RX3, .code yX3_without cX3_without 1 (some .long), .fieldLink RX3 9 "BooleanRing$Poly" "WITHOUT" "[J"])
def wsX3_lowestVariable : List Cond := .code yX3_lowestVariable cX3_lowestVariable 3 (some .int) :: ([.methodLink RX3 28 yX3_upperHalf, .static yX3_upperHalf, .initialized RX3, .code yX3_upperHalf cX3_upperHalf 3 (some .long), .methodLink RX3 15 yX3_without, .static yX3_without, .code yX3_without cX3_without 1 (some .long), .fieldLink RX3 9 "BooleanRing$Poly" "WITHOUT" "[J"])
def wsX3_lowerHalf : List Cond := .code yX3_lowerHalf cX3_lowerHalf 3 (some .long) :: ([.methodLink RX3 15 yX3_without, .static yX3_without, .initialized RX3, .code yX3_without cX3_without 1 (some .long), .fieldLink RX3 9 "BooleanRing$Poly" "WITHOUT" "[J"])
def wsX0_closedCount_r1 : List Cond := [Cond.fieldLink RX0 15 "BooleanRing$Diagrams" "count" "I", Cond.fieldLink RX0 9 "BooleanRing$Diagrams" "found" "[J", Cond.methodLink RX0 25 yX3_lowestVariable, Cond.static yX3_lowestVariable, Cond.initialized RX3, Cond.code yX3_lowestVariable cX3_lowestVariable 3 (some .int), Cond.methodLink RX3 28 yX3_upperHalf, Cond.static yX3_upperHalf, Cond.code yX3_upperHalf cX3_upperHalf 3 (some .long), Cond.methodLink RX3 15 yX3_without, Cond.static yX3_without, Cond.code yX3_without cX3_without 1 (some .long), Cond.fieldLink RX3 9 "BooleanRing$Poly" "WITHOUT" "[J", Cond.methodLink RX0 31 yX3_upperHalf, Cond.methodLink RX0 35 yX0_enter, Cond.instanceMethod yX0_enter, Cond.selects RX0 yX0_enter yX0_enter, Cond.initialized RX0, Cond.code yX0_enter cX0_enter 4 none, Cond.constantLong RX0 19 (-2), Cond.methodLink RX0 21 yX0_isKnown, Cond.instanceMethod yX0_isKnown, Cond.selects RX0 yX0_isKnown yX0_isKnown, Cond.code yX0_isKnown cX0_isKnown 4 (some .boolean)]
def wsX0_closedCount_r2 : List Cond := [Cond.methodLink RX0 39 yX3_lowerHalf, Cond.static yX3_lowerHalf, Cond.code yX3_lowerHalf cX3_lowerHalf 3 (some .long)]
def wsX0_closedCount : List Cond := .code yX0_closedCount cX0_closedCount 3 (some .int) :: ((wsX0_closedCount_r1 ++ wsX0_closedCount_r2) ++ wsX00)
def wsX1_init : List Cond := .code yX1_init cX1_init 1 none :: ([.methodLink RX1 3 objectInit, .instanceMethod objectInit, .code objectInit ⟨#[0xb1]⟩ 1 none, .arrayClass .long, .fieldLink RX1 11 "BooleanRing$History" "states" "[J", .fieldLink RX1 15 "BooleanRing$History" "kept" "I"] ++ wsX10)
def wsX1_forget : List Cond := .code yX1_forget cX1_forget 1 none :: ([.fieldLink RX1 15 "BooleanRing$History" "kept" "I"] ++ wsX10)
def wsX1_isEmpty : List Cond := .code yX1_isEmpty cX1_isEmpty 1 (some .boolean) :: ([.fieldLink RX1 15 "BooleanRing$History" "kept" "I"] ++ wsX10)
def wsX1_keep : List Cond := .code yX1_keep cX1_keep 2 none :: ([.fieldLink RX1 15 "BooleanRing$History" "kept" "I", .fieldLink RX1 11 "BooleanRing$History" "states" "[J", .methodLink RX1 19 arraycopyName, .native arraycopyName, .static arraycopyName, .initialized "java/lang/System"] ++ wsX10)
def wsX1_restore : List Cond := .code yX1_restore cX1_restore 2 (some .int) :: ([.fieldLink RX1 15 "BooleanRing$History" "kept" "I", .fieldLink RX1 11 "BooleanRing$History" "states" "[J", .methodLink RX1 19 arraycopyName, .native arraycopyName, .static arraycopyName, .initialized "java/lang/System"] ++ wsX10)
def wsX2_tableOf : List Cond := .code yX2_tableOf cX2_tableOf 1 (some (.array .int)) :: ([.fieldLink RX2 9 "BooleanRing$Orders" "BY_LEX" "[I", .fieldLink RX2 15 "BooleanRing$Orders" "BY_GRADED" "[I", .fieldLink RX2 18 "BooleanRing$Orders" "BY_REVERSE" "[I"])
def wsX2_monomialAt : List Cond := .code yX2_monomialAt cX2_monomialAt 3 (some .int) :: ([.methodLink RX2 21 yX2_tableOf, .static yX2_tableOf, .initialized RX2, .code yX2_tableOf cX2_tableOf 1 (some (.array .int)), .fieldLink RX2 9 "BooleanRing$Orders" "BY_LEX" "[I", .fieldLink RX2 15 "BooleanRing$Orders" "BY_GRADED" "[I", .fieldLink RX2 18 "BooleanRing$Orders" "BY_REVERSE" "[I"])
def wsJ13_bitCount_95d88 : List Cond := .code yJ13_bitCount_95d88 cJ13_bitCount_95d88 2 (some .int) :: ([.constantLong RJ13 314 (6148914691236517205), .constantLong RJ13 316 (3689348814741910323), .constantLong RJ13 318 (1085102592571150095)])
def wsX3_bit : List Cond := .code yX3_bit cX3_bit 3 (some .int) :: ([])
def wsX2_termOf : List Cond := .code yX2_termOf cX2_termOf 7 (some .int) :: ([.methodLink RX2 25 yJ13_bitCount_95d88, .static yJ13_bitCount_95d88, .initialized RJ13, .code yJ13_bitCount_95d88 cJ13_bitCount_95d88 2 (some .int), .constantLong RJ13 314 (6148914691236517205), .constantLong RJ13 316 (3689348814741910323), .constantLong RJ13 318 (1085102592571150095), .methodLink RX2 31 yX2_monomialAt, .static yX2_monomialAt, .initialized RX2, .code yX2_monomialAt cX2_monomialAt 3 (some .int), .methodLink RX2 21 yX2_tableOf, .static yX2_tableOf, .code yX2_tableOf cX2_tableOf 1 (some (.array .int)), .fieldLink RX2 9 "BooleanRing$Orders" "BY_LEX" "[I", .fieldLink RX2 15 "BooleanRing$Orders" "BY_GRADED" "[I", .fieldLink RX2 18 "BooleanRing$Orders" "BY_REVERSE" "[I", .methodLink RX2 35 yX3_bit, .static yX3_bit, .initialized RX3, .code yX3_bit cX3_bit 3 (some .int)])
def wsX3_ofMonomial : List Cond := .code yX3_ofMonomial cX3_ofMonomial 1 (some .long) :: ([])
def wsX3_raised : List Cond := .code yX3_raised cX3_raised 3 (some .long) :: ([.methodLink RX3 15 yX3_without, .static yX3_without, .initialized RX3, .code yX3_without cX3_without 1 (some .long), .fieldLink RX3 9 "BooleanRing$Poly" "WITHOUT" "[J"])
def wsX3_transformed : List Cond := .code yX3_transformed cX3_transformed 6 (some .long) :: ([.methodLink RX3 19 yX3_raised, .static yX3_raised, .initialized RX3, .code yX3_raised cX3_raised 3 (some .long), .methodLink RX3 15 yX3_without, .static yX3_without, .code yX3_without cX3_without 1 (some .long), .fieldLink RX3 9 "BooleanRing$Poly" "WITHOUT" "[J"])
def wsX3_multiplied : List Cond := .code yX3_multiplied cX3_multiplied 5 (some .long) :: ([.methodLink RX3 23 yX3_transformed, .static yX3_transformed, .initialized RX3, .code yX3_transformed cX3_transformed 6 (some .long), .methodLink RX3 19 yX3_raised, .static yX3_raised, .code yX3_raised cX3_raised 3 (some .long), .methodLink RX3 15 yX3_without, .static yX3_without, .code yX3_without cX3_without 1 (some .long), .fieldLink RX3 9 "BooleanRing$Poly" "WITHOUT" "[J"])
def wsX3_exchanged : List Cond := .code yX3_exchanged cX3_exchanged 11 (some .long) :: ([.constantLong RX3 26 (-1), .methodLink RX3 15 yX3_without, .static yX3_without, .initialized RX3, .code yX3_without cX3_without 1 (some .long), .fieldLink RX3 9 "BooleanRing$Poly" "WITHOUT" "[J"])
def wsJ6_bitCount_0f7a4 : List Cond := .code yJ6_bitCount_0f7a4 cJ6_bitCount_0f7a4 1 (some .int) :: ([.constant RJ6 265 (1431655765), .constant RJ6 266 (858993459), .constant RJ6 267 (252645135)])
def wsX4_widthOf : List Cond := .code yX4_widthOf cX4_widthOf 1 (some .int) :: ([.methodLink RX4 39 yJ6_bitCount_0f7a4, .static yJ6_bitCount_0f7a4, .initialized RJ6, .code yJ6_bitCount_0f7a4 cJ6_bitCount_0f7a4 1 (some .int), .constant RJ6 265 (1431655765), .constant RJ6 266 (858993459), .constant RJ6 267 (252645135)])
def wsX4_lengthOf : List Cond := .code yX4_lengthOf cX4_lengthOf 4 (some .int) :: ([.methodLink RX4 9 yX3_bit, .static yX3_bit, .initialized RX3, .code yX3_bit cX3_bit 3 (some .int), .methodLink RX4 15 yX4_widthOf, .static yX4_widthOf, .initialized RX4, .code yX4_widthOf cX4_widthOf 1 (some .int), .methodLink RX4 39 yJ6_bitCount_0f7a4, .static yJ6_bitCount_0f7a4, .initialized RJ6, .code yJ6_bitCount_0f7a4 cJ6_bitCount_0f7a4 1 (some .int), .constant RJ6 265 (1431655765), .constant RJ6 266 (858993459), .constant RJ6 267 (252645135), .methodLink RX4 21 yJ13_bitCount_95d88, .static yJ13_bitCount_95d88, .initialized RJ13, .code yJ13_bitCount_95d88 cJ13_bitCount_95d88 2 (some .int), .constantLong RJ13 314 (6148914691236517205), .constantLong RJ13 316 (3689348814741910323), .constantLong RJ13 318 (1085102592571150095)])
def wsX4_signOf : List Cond := .code yX4_signOf cX4_signOf 4 (some .int) :: ([])
def wsX4_characterOf_r1 : List Cond := [Cond.methodLink RX4 27 yX4_lengthOf, Cond.static yX4_lengthOf, Cond.initialized RX4, Cond.code yX4_lengthOf cX4_lengthOf 4 (some .int), Cond.methodLink RX4 9 yX3_bit, Cond.static yX3_bit, Cond.initialized RX3, Cond.code yX3_bit cX3_bit 3 (some .int), Cond.methodLink RX4 15 yX4_widthOf, Cond.static yX4_widthOf, Cond.code yX4_widthOf cX4_widthOf 1 (some .int), Cond.methodLink RX4 39 yJ6_bitCount_0f7a4, Cond.static yJ6_bitCount_0f7a4, Cond.initialized RJ6, Cond.code yJ6_bitCount_0f7a4 cJ6_bitCount_0f7a4 1 (some .int), Cond.constant RJ6 265 (1431655765), Cond.constant RJ6 266 (858993459), Cond.constant RJ6 267 (252645135), Cond.methodLink RX4 21 yJ13_bitCount_95d88, Cond.static yJ13_bitCount_95d88, Cond.initialized RJ13, Cond.code yJ13_bitCount_95d88 cJ13_bitCount_95d88 2 (some .int), Cond.constantLong RJ13 314 (6148914691236517205), Cond.constantLong RJ13 316 (3689348814741910323)]
def wsX4_characterOf_r2 : List Cond := [Cond.constantLong RJ13 318 (1085102592571150095), Cond.methodLink RX4 32 yX2_monomialAt, Cond.static yX2_monomialAt, Cond.initialized RX2, Cond.code yX2_monomialAt cX2_monomialAt 3 (some .int), Cond.methodLink RX2 21 yX2_tableOf, Cond.static yX2_tableOf, Cond.code yX2_tableOf cX2_tableOf 1 (some (.array .int)), Cond.fieldLink RX2 9 "BooleanRing$Orders" "BY_LEX" "[I", Cond.fieldLink RX2 15 "BooleanRing$Orders" "BY_GRADED" "[I", Cond.fieldLink RX2 18 "BooleanRing$Orders" "BY_REVERSE" "[I", Cond.methodLink RX4 36 yX4_signOf, Cond.static yX4_signOf, Cond.code yX4_signOf cX4_signOf 4 (some .int)]
def wsX4_characterOf : List Cond := .code yX4_characterOf cX4_characterOf 7 (some .int) :: ((wsX4_characterOf_r1 ++ wsX4_characterOf_r2))
def wsX5_init : List Cond := .code yX5_init cX5_init 1 none :: ([.methodLink RX5 3 objectInit, .instanceMethod objectInit, .code objectInit ⟨#[0xb1]⟩ 1 none, .arrayClass .char, .fieldLink RX5 11 "BooleanRing$Typed" "text" "[C", .fieldLink RX5 15 "BooleanRing$Typed" "length" "I"] ++ wsX50)
def wsX5_append : List Cond := .code yX5_append cX5_append 2 (some .int) :: ([.fieldLink RX5 15 "BooleanRing$Typed" "length" "I", .fieldLink RX5 11 "BooleanRing$Typed" "text" "[C"] ++ wsX50)
def wsX5_empty : List Cond := .code yX5_empty cX5_empty 2 (some .int) :: ([.fieldLink RX5 15 "BooleanRing$Typed" "length" "I"] ++ wsX50)
def wsX5_seenAfter : List Cond := .code yX5_seenAfter cX5_seenAfter 4 (some .int) :: ([])
def wsX5_firstFault : List Cond := .code yX5_firstFault cX5_firstFault 4 (some .int) :: ([.fieldLink RX5 15 "BooleanRing$Typed" "length" "I", .fieldLink RX5 11 "BooleanRing$Typed" "text" "[C", .methodLink RX5 19 yX5_seenAfter, .static yX5_seenAfter, .initialized RX5, .code yX5_seenAfter cX5_seenAfter 4 (some .int)] ++ wsX50)
def wsX5_polynomial : List Cond := .code yX5_polynomial cX5_polynomial 7 (some .long) :: ([.fieldLink RX5 15 "BooleanRing$Typed" "length" "I", .fieldLink RX5 11 "BooleanRing$Typed" "text" "[C", .methodLink RX5 23 yX3_ofMonomial, .static yX3_ofMonomial, .initialized RX3, .code yX3_ofMonomial cX3_ofMonomial 1 (some .long)] ++ wsX50)
def wsX6_init_r1 : List Cond := [Cond.methodLink RX6 3 objectInit, Cond.instanceMethod objectInit, Cond.code objectInit ⟨#[0xb1]⟩ 1 none, Cond.arrayClass .long, Cond.fieldLink RX6 9 "BooleanRing" "registers" "[J", Cond.arrayClass .int, Cond.fieldLink RX6 13 "BooleanRing" "leading" "[I", Cond.classLink RX6 17 RX1, Cond.instantiable RX1 2, Cond.initialized RX1, Cond.fieldLink RX6 20 "BooleanRing" "history" "LBooleanRing$History;", Cond.classLink RX6 24 RX0, Cond.instantiable RX0 2, Cond.initialized RX0, Cond.fieldLink RX6 27 "BooleanRing" "diagrams" "LBooleanRing$Diagrams;", Cond.classLink RX6 31 RX5, Cond.instantiable RX5 2, Cond.initialized RX5, Cond.fieldLink RX6 34 "BooleanRing" "typed" "LBooleanRing$Typed;", Cond.fieldLink RX6 38 "BooleanRing" "n" "I", Cond.instanceMethod yX1_init, Cond.code yX1_init cX1_init 1 none, Cond.methodLink RX1 3 objectInit, Cond.fieldLink RX1 11 "BooleanRing$History" "states" "[J"]
def wsX6_init_r2 : List Cond := [Cond.fieldLink RX1 15 "BooleanRing$History" "kept" "I", Cond.instanceMethod yX0_init, Cond.code yX0_init cX0_init 1 none, Cond.methodLink RX0 3 objectInit, Cond.fieldLink RX0 9 "BooleanRing$Diagrams" "found" "[J", Cond.fieldLink RX0 15 "BooleanRing$Diagrams" "count" "I", Cond.instanceMethod yX5_init, Cond.code yX5_init cX5_init 1 none, Cond.methodLink RX5 3 objectInit, Cond.arrayClass .char, Cond.fieldLink RX5 11 "BooleanRing$Typed" "text" "[C", Cond.fieldLink RX5 15 "BooleanRing$Typed" "length" "I"]
def wsX6_init : List Cond := .code yX6_init cX6_init 1 none :: ((wsX6_init_r1 ++ wsX6_init_r2) ++ wsX60 ++ wsX10 ++ wsX00 ++ wsX50)
def wsJ7_fill_d0a16 : List Cond := .code yJ7_fill_d0a16 cJ7_fill_d0a16 5 none :: ([])
def wsX6_reset : List Cond := .code yX6_reset cX6_reset 3 (some .int) :: ([.fieldLink RX6 38 "BooleanRing" "n" "I", .fieldLink RX6 9 "BooleanRing" "registers" "[J", .fieldLink RX6 20 "BooleanRing" "history" "LBooleanRing$History;", .methodLink RX6 42 yJ7_fill_d0a16, .static yJ7_fill_d0a16, .initialized RJ7, .code yJ7_fill_d0a16 cJ7_fill_d0a16 5 none, .methodLink RX6 48 yX1_forget, .instanceMethod yX1_forget, .selects RX1 yX1_forget yX1_forget, .initialized RX1, .code yX1_forget cX1_forget 1 none, .fieldLink RX1 15 "BooleanRing$History" "kept" "I"] ++ wsX60 ++ wsX10)
def wsX6_variables : List Cond := .code yX6_variables cX6_variables 1 (some .int) :: ([.fieldLink RX6 38 "BooleanRing" "n" "I"] ++ wsX60)
def wsX6_isRegister : List Cond := .code yX6_isRegister cX6_isRegister 1 (some .boolean) :: ([])
def wsX6_isMask : List Cond := .code yX6_isMask cX6_isMask 2 (some .boolean) :: ([.fieldLink RX6 38 "BooleanRing" "n" "I"] ++ wsX60)
def wsX6_put : List Cond := .code yX6_put cX6_put 4 (some .int) :: ([.fieldLink RX6 20 "BooleanRing" "history" "LBooleanRing$History;", .fieldLink RX6 9 "BooleanRing" "registers" "[J", .methodLink RX6 152 yX1_keep, .instanceMethod yX1_keep, .selects RX1 yX1_keep yX1_keep, .initialized RX1, .code yX1_keep cX1_keep 2 none, .fieldLink RX1 15 "BooleanRing$History" "kept" "I", .fieldLink RX1 11 "BooleanRing$History" "states" "[J", .methodLink RX1 19 arraycopyName, .native arraycopyName, .static arraycopyName, .initialized "java/lang/System", .methodLink RX6 51 yX6_isRegister, .static yX6_isRegister, .initialized RX6, .code yX6_isRegister cX6_isRegister 1 (some .boolean), .methodLink RX6 110 yJ13_bitCount_95d88, .static yJ13_bitCount_95d88, .initialized RJ13, .code yJ13_bitCount_95d88 cJ13_bitCount_95d88 2 (some .int), .constantLong RJ13 314 (6148914691236517205), .constantLong RJ13 316 (3689348814741910323), .constantLong RJ13 318 (1085102592571150095)] ++ wsX60 ++ wsX10)
def wsX6_toggle_r1 : List Cond := [Cond.fieldLink RX6 9 "BooleanRing" "registers" "[J", Cond.methodLink RX6 51 yX6_isRegister, Cond.static yX6_isRegister, Cond.initialized RX6, Cond.code yX6_isRegister cX6_isRegister 1 (some .boolean), Cond.methodLink RX6 55 yX6_isMask, Cond.instanceMethod yX6_isMask, Cond.selects RX6 yX6_isMask yX6_isMask, Cond.code yX6_isMask cX6_isMask 2 (some .boolean), Cond.fieldLink RX6 38 "BooleanRing" "n" "I", Cond.methodLink RX6 58 yX3_ofMonomial, Cond.static yX3_ofMonomial, Cond.initialized RX3, Cond.code yX3_ofMonomial cX3_ofMonomial 1 (some .long), Cond.methodLink RX6 64 yX6_put, Cond.instanceMethod yX6_put, Cond.selects RX6 yX6_put yX6_put, Cond.code yX6_put cX6_put 4 (some .int), Cond.fieldLink RX6 20 "BooleanRing" "history" "LBooleanRing$History;", Cond.methodLink RX6 152 yX1_keep, Cond.instanceMethod yX1_keep, Cond.selects RX1 yX1_keep yX1_keep, Cond.initialized RX1, Cond.code yX1_keep cX1_keep 2 none]
def wsX6_toggle_r2 : List Cond := [Cond.fieldLink RX1 15 "BooleanRing$History" "kept" "I", Cond.fieldLink RX1 11 "BooleanRing$History" "states" "[J", Cond.methodLink RX1 19 arraycopyName, Cond.native arraycopyName, Cond.static arraycopyName, Cond.initialized "java/lang/System", Cond.methodLink RX6 110 yJ13_bitCount_95d88, Cond.static yJ13_bitCount_95d88, Cond.initialized RJ13, Cond.code yJ13_bitCount_95d88 cJ13_bitCount_95d88 2 (some .int), Cond.constantLong RJ13 314 (6148914691236517205), Cond.constantLong RJ13 316 (3689348814741910323), Cond.constantLong RJ13 318 (1085102592571150095)]
def wsX6_toggle : List Cond := .code yX6_toggle cX6_toggle 3 (some .int) :: ((wsX6_toggle_r1 ++ wsX6_toggle_r2) ++ wsX60 ++ wsX10)
def wsX6_copy_r1 : List Cond := [Cond.fieldLink RX6 9 "BooleanRing" "registers" "[J", Cond.methodLink RX6 51 yX6_isRegister, Cond.static yX6_isRegister, Cond.initialized RX6, Cond.code yX6_isRegister cX6_isRegister 1 (some .boolean), Cond.methodLink RX6 64 yX6_put, Cond.instanceMethod yX6_put, Cond.selects RX6 yX6_put yX6_put, Cond.code yX6_put cX6_put 4 (some .int), Cond.fieldLink RX6 20 "BooleanRing" "history" "LBooleanRing$History;", Cond.methodLink RX6 152 yX1_keep, Cond.instanceMethod yX1_keep, Cond.selects RX1 yX1_keep yX1_keep, Cond.initialized RX1, Cond.code yX1_keep cX1_keep 2 none, Cond.fieldLink RX1 15 "BooleanRing$History" "kept" "I", Cond.fieldLink RX1 11 "BooleanRing$History" "states" "[J", Cond.methodLink RX1 19 arraycopyName, Cond.native arraycopyName, Cond.static arraycopyName, Cond.initialized "java/lang/System", Cond.methodLink RX6 110 yJ13_bitCount_95d88, Cond.static yJ13_bitCount_95d88, Cond.initialized RJ13]
def wsX6_copy_r2 : List Cond := [Cond.code yJ13_bitCount_95d88 cJ13_bitCount_95d88 2 (some .int), Cond.constantLong RJ13 314 (6148914691236517205), Cond.constantLong RJ13 316 (3689348814741910323), Cond.constantLong RJ13 318 (1085102592571150095)]
def wsX6_copy : List Cond := .code yX6_copy cX6_copy 3 (some .int) :: ((wsX6_copy_r1 ++ wsX6_copy_r2) ++ wsX60 ++ wsX10)
def wsX6_sum_r1 : List Cond := [Cond.fieldLink RX6 9 "BooleanRing" "registers" "[J", Cond.methodLink RX6 51 yX6_isRegister, Cond.static yX6_isRegister, Cond.initialized RX6, Cond.code yX6_isRegister cX6_isRegister 1 (some .boolean), Cond.methodLink RX6 64 yX6_put, Cond.instanceMethod yX6_put, Cond.selects RX6 yX6_put yX6_put, Cond.code yX6_put cX6_put 4 (some .int), Cond.fieldLink RX6 20 "BooleanRing" "history" "LBooleanRing$History;", Cond.methodLink RX6 152 yX1_keep, Cond.instanceMethod yX1_keep, Cond.selects RX1 yX1_keep yX1_keep, Cond.initialized RX1, Cond.code yX1_keep cX1_keep 2 none, Cond.fieldLink RX1 15 "BooleanRing$History" "kept" "I", Cond.fieldLink RX1 11 "BooleanRing$History" "states" "[J", Cond.methodLink RX1 19 arraycopyName, Cond.native arraycopyName, Cond.static arraycopyName, Cond.initialized "java/lang/System", Cond.methodLink RX6 110 yJ13_bitCount_95d88, Cond.static yJ13_bitCount_95d88, Cond.initialized RJ13]
def wsX6_sum_r2 : List Cond := [Cond.code yJ13_bitCount_95d88 cJ13_bitCount_95d88 2 (some .int), Cond.constantLong RJ13 314 (6148914691236517205), Cond.constantLong RJ13 316 (3689348814741910323), Cond.constantLong RJ13 318 (1085102592571150095)]
def wsX6_sum : List Cond := .code yX6_sum cX6_sum 4 (some .int) :: ((wsX6_sum_r1 ++ wsX6_sum_r2) ++ wsX60 ++ wsX10)
def wsX6_product_r1 : List Cond := [Cond.fieldLink RX6 9 "BooleanRing" "registers" "[J", Cond.fieldLink RX6 38 "BooleanRing" "n" "I", Cond.methodLink RX6 51 yX6_isRegister, Cond.static yX6_isRegister, Cond.initialized RX6, Cond.code yX6_isRegister cX6_isRegister 1 (some .boolean), Cond.methodLink RX6 68 yX3_multiplied, Cond.static yX3_multiplied, Cond.initialized RX3, Cond.code yX3_multiplied cX3_multiplied 5 (some .long), Cond.methodLink RX3 23 yX3_transformed, Cond.static yX3_transformed, Cond.code yX3_transformed cX3_transformed 6 (some .long), Cond.methodLink RX3 19 yX3_raised, Cond.static yX3_raised, Cond.code yX3_raised cX3_raised 3 (some .long), Cond.methodLink RX3 15 yX3_without, Cond.static yX3_without, Cond.code yX3_without cX3_without 1 (some .long), Cond.fieldLink RX3 9 "BooleanRing$Poly" "WITHOUT" "[J", Cond.methodLink RX6 64 yX6_put, Cond.instanceMethod yX6_put, Cond.selects RX6 yX6_put yX6_put, Cond.code yX6_put cX6_put 4 (some .int)]
def wsX6_product_r2 : List Cond := [Cond.fieldLink RX6 20 "BooleanRing" "history" "LBooleanRing$History;", Cond.methodLink RX6 152 yX1_keep, Cond.instanceMethod yX1_keep, Cond.selects RX1 yX1_keep yX1_keep, Cond.initialized RX1, Cond.code yX1_keep cX1_keep 2 none, Cond.fieldLink RX1 15 "BooleanRing$History" "kept" "I", Cond.fieldLink RX1 11 "BooleanRing$History" "states" "[J", Cond.methodLink RX1 19 arraycopyName, Cond.native arraycopyName, Cond.static arraycopyName, Cond.initialized "java/lang/System", Cond.methodLink RX6 110 yJ13_bitCount_95d88, Cond.static yJ13_bitCount_95d88, Cond.initialized RJ13, Cond.code yJ13_bitCount_95d88 cJ13_bitCount_95d88 2 (some .int), Cond.constantLong RJ13 314 (6148914691236517205), Cond.constantLong RJ13 316 (3689348814741910323), Cond.constantLong RJ13 318 (1085102592571150095)]
def wsX6_product : List Cond := .code yX6_product cX6_product 4 (some .int) :: ((wsX6_product_r1 ++ wsX6_product_r2) ++ wsX60 ++ wsX10)
def wsX6_times_r1 : List Cond := [Cond.fieldLink RX6 9 "BooleanRing" "registers" "[J", Cond.fieldLink RX6 38 "BooleanRing" "n" "I", Cond.methodLink RX6 51 yX6_isRegister, Cond.static yX6_isRegister, Cond.initialized RX6, Cond.code yX6_isRegister cX6_isRegister 1 (some .boolean), Cond.methodLink RX6 55 yX6_isMask, Cond.instanceMethod yX6_isMask, Cond.selects RX6 yX6_isMask yX6_isMask, Cond.code yX6_isMask cX6_isMask 2 (some .boolean), Cond.methodLink RX6 58 yX3_ofMonomial, Cond.static yX3_ofMonomial, Cond.initialized RX3, Cond.code yX3_ofMonomial cX3_ofMonomial 1 (some .long), Cond.methodLink RX6 68 yX3_multiplied, Cond.static yX3_multiplied, Cond.code yX3_multiplied cX3_multiplied 5 (some .long), Cond.methodLink RX3 23 yX3_transformed, Cond.static yX3_transformed, Cond.code yX3_transformed cX3_transformed 6 (some .long), Cond.methodLink RX3 19 yX3_raised, Cond.static yX3_raised, Cond.code yX3_raised cX3_raised 3 (some .long), Cond.methodLink RX3 15 yX3_without]
def wsX6_times_r2 : List Cond := [Cond.static yX3_without, Cond.code yX3_without cX3_without 1 (some .long), Cond.fieldLink RX3 9 "BooleanRing$Poly" "WITHOUT" "[J", Cond.methodLink RX6 64 yX6_put, Cond.instanceMethod yX6_put, Cond.selects RX6 yX6_put yX6_put, Cond.code yX6_put cX6_put 4 (some .int), Cond.fieldLink RX6 20 "BooleanRing" "history" "LBooleanRing$History;", Cond.methodLink RX6 152 yX1_keep, Cond.instanceMethod yX1_keep, Cond.selects RX1 yX1_keep yX1_keep, Cond.initialized RX1, Cond.code yX1_keep cX1_keep 2 none, Cond.fieldLink RX1 15 "BooleanRing$History" "kept" "I", Cond.fieldLink RX1 11 "BooleanRing$History" "states" "[J", Cond.methodLink RX1 19 arraycopyName, Cond.native arraycopyName, Cond.static arraycopyName, Cond.initialized "java/lang/System", Cond.methodLink RX6 110 yJ13_bitCount_95d88, Cond.static yJ13_bitCount_95d88, Cond.initialized RJ13, Cond.code yJ13_bitCount_95d88 cJ13_bitCount_95d88 2 (some .int), Cond.constantLong RJ13 314 (6148914691236517205)]
def wsX6_times_r3 : List Cond := [Cond.constantLong RJ13 316 (3689348814741910323), Cond.constantLong RJ13 318 (1085102592571150095)]
def wsX6_times : List Cond := .code yX6_times cX6_times 4 (some .int) :: ((wsX6_times_r1 ++ (wsX6_times_r2 ++ wsX6_times_r3)) ++ wsX60 ++ wsX10)
def wsX6_isVariable : List Cond := .code yX6_isVariable cX6_isVariable 2 (some .boolean) :: ([.fieldLink RX6 38 "BooleanRing" "n" "I"] ++ wsX60)
def wsX6_restrict_r1 : List Cond := [Cond.fieldLink RX6 9 "BooleanRing" "registers" "[J", Cond.methodLink RX6 51 yX6_isRegister, Cond.static yX6_isRegister, Cond.initialized RX6, Cond.code yX6_isRegister cX6_isRegister 1 (some .boolean), Cond.methodLink RX6 72 yX6_isVariable, Cond.instanceMethod yX6_isVariable, Cond.selects RX6 yX6_isVariable yX6_isVariable, Cond.code yX6_isVariable cX6_isVariable 2 (some .boolean), Cond.fieldLink RX6 38 "BooleanRing" "n" "I", Cond.methodLink RX6 75 yX3_lowerHalf, Cond.static yX3_lowerHalf, Cond.initialized RX3, Cond.code yX3_lowerHalf cX3_lowerHalf 3 (some .long), Cond.methodLink RX3 15 yX3_without, Cond.static yX3_without, Cond.code yX3_without cX3_without 1 (some .long), Cond.fieldLink RX3 9 "BooleanRing$Poly" "WITHOUT" "[J", Cond.methodLink RX6 79 yX3_upperHalf, Cond.static yX3_upperHalf, Cond.code yX3_upperHalf cX3_upperHalf 3 (some .long), Cond.methodLink RX6 64 yX6_put, Cond.instanceMethod yX6_put, Cond.selects RX6 yX6_put yX6_put]
def wsX6_restrict_r2 : List Cond := [Cond.code yX6_put cX6_put 4 (some .int), Cond.fieldLink RX6 20 "BooleanRing" "history" "LBooleanRing$History;", Cond.methodLink RX6 152 yX1_keep, Cond.instanceMethod yX1_keep, Cond.selects RX1 yX1_keep yX1_keep, Cond.initialized RX1, Cond.code yX1_keep cX1_keep 2 none, Cond.fieldLink RX1 15 "BooleanRing$History" "kept" "I", Cond.fieldLink RX1 11 "BooleanRing$History" "states" "[J", Cond.methodLink RX1 19 arraycopyName, Cond.native arraycopyName, Cond.static arraycopyName, Cond.initialized "java/lang/System", Cond.methodLink RX6 110 yJ13_bitCount_95d88, Cond.static yJ13_bitCount_95d88, Cond.initialized RJ13, Cond.code yJ13_bitCount_95d88 cJ13_bitCount_95d88 2 (some .int), Cond.constantLong RJ13 314 (6148914691236517205), Cond.constantLong RJ13 316 (3689348814741910323), Cond.constantLong RJ13 318 (1085102592571150095)]
def wsX6_restrict : List Cond := .code yX6_restrict cX6_restrict 7 (some .int) :: ((wsX6_restrict_r1 ++ wsX6_restrict_r2) ++ wsX60 ++ wsX10)
def wsX6_substitute_r1 : List Cond := [Cond.fieldLink RX6 9 "BooleanRing" "registers" "[J", Cond.fieldLink RX6 38 "BooleanRing" "n" "I", Cond.methodLink RX6 51 yX6_isRegister, Cond.static yX6_isRegister, Cond.initialized RX6, Cond.code yX6_isRegister cX6_isRegister 1 (some .boolean), Cond.methodLink RX6 72 yX6_isVariable, Cond.instanceMethod yX6_isVariable, Cond.selects RX6 yX6_isVariable yX6_isVariable, Cond.code yX6_isVariable cX6_isVariable 2 (some .boolean), Cond.methodLink RX6 79 yX3_upperHalf, Cond.static yX3_upperHalf, Cond.initialized RX3, Cond.code yX3_upperHalf cX3_upperHalf 3 (some .long), Cond.methodLink RX3 15 yX3_without, Cond.static yX3_without, Cond.code yX3_without cX3_without 1 (some .long), Cond.fieldLink RX3 9 "BooleanRing$Poly" "WITHOUT" "[J", Cond.methodLink RX6 75 yX3_lowerHalf, Cond.static yX3_lowerHalf, Cond.code yX3_lowerHalf cX3_lowerHalf 3 (some .long), Cond.methodLink RX6 68 yX3_multiplied, Cond.static yX3_multiplied, Cond.code yX3_multiplied cX3_multiplied 5 (some .long)]
def wsX6_substitute_r2 : List Cond := [Cond.methodLink RX3 23 yX3_transformed, Cond.static yX3_transformed, Cond.code yX3_transformed cX3_transformed 6 (some .long), Cond.methodLink RX3 19 yX3_raised, Cond.static yX3_raised, Cond.code yX3_raised cX3_raised 3 (some .long), Cond.methodLink RX6 64 yX6_put, Cond.instanceMethod yX6_put, Cond.selects RX6 yX6_put yX6_put, Cond.code yX6_put cX6_put 4 (some .int), Cond.fieldLink RX6 20 "BooleanRing" "history" "LBooleanRing$History;", Cond.methodLink RX6 152 yX1_keep, Cond.instanceMethod yX1_keep, Cond.selects RX1 yX1_keep yX1_keep, Cond.initialized RX1, Cond.code yX1_keep cX1_keep 2 none, Cond.fieldLink RX1 15 "BooleanRing$History" "kept" "I", Cond.fieldLink RX1 11 "BooleanRing$History" "states" "[J", Cond.methodLink RX1 19 arraycopyName, Cond.native arraycopyName, Cond.static arraycopyName, Cond.initialized "java/lang/System", Cond.methodLink RX6 110 yJ13_bitCount_95d88, Cond.static yJ13_bitCount_95d88]
def wsX6_substitute_r3 : List Cond := [Cond.initialized RJ13, Cond.code yJ13_bitCount_95d88 cJ13_bitCount_95d88 2 (some .int), Cond.constantLong RJ13 314 (6148914691236517205), Cond.constantLong RJ13 316 (3689348814741910323), Cond.constantLong RJ13 318 (1085102592571150095)]
def wsX6_substitute : List Cond := .code yX6_substitute cX6_substitute 9 (some .int) :: ((wsX6_substitute_r1 ++ (wsX6_substitute_r2 ++ wsX6_substitute_r3)) ++ wsX60 ++ wsX10)
def wsX6_derivative_r1 : List Cond := [Cond.fieldLink RX6 9 "BooleanRing" "registers" "[J", Cond.methodLink RX6 51 yX6_isRegister, Cond.static yX6_isRegister, Cond.initialized RX6, Cond.code yX6_isRegister cX6_isRegister 1 (some .boolean), Cond.methodLink RX6 72 yX6_isVariable, Cond.instanceMethod yX6_isVariable, Cond.selects RX6 yX6_isVariable yX6_isVariable, Cond.code yX6_isVariable cX6_isVariable 2 (some .boolean), Cond.fieldLink RX6 38 "BooleanRing" "n" "I", Cond.methodLink RX6 79 yX3_upperHalf, Cond.static yX3_upperHalf, Cond.initialized RX3, Cond.code yX3_upperHalf cX3_upperHalf 3 (some .long), Cond.methodLink RX3 15 yX3_without, Cond.static yX3_without, Cond.code yX3_without cX3_without 1 (some .long), Cond.fieldLink RX3 9 "BooleanRing$Poly" "WITHOUT" "[J", Cond.methodLink RX6 64 yX6_put, Cond.instanceMethod yX6_put, Cond.selects RX6 yX6_put yX6_put, Cond.code yX6_put cX6_put 4 (some .int), Cond.fieldLink RX6 20 "BooleanRing" "history" "LBooleanRing$History;", Cond.methodLink RX6 152 yX1_keep]
def wsX6_derivative_r2 : List Cond := [Cond.instanceMethod yX1_keep, Cond.selects RX1 yX1_keep yX1_keep, Cond.initialized RX1, Cond.code yX1_keep cX1_keep 2 none, Cond.fieldLink RX1 15 "BooleanRing$History" "kept" "I", Cond.fieldLink RX1 11 "BooleanRing$History" "states" "[J", Cond.methodLink RX1 19 arraycopyName, Cond.native arraycopyName, Cond.static arraycopyName, Cond.initialized "java/lang/System", Cond.methodLink RX6 110 yJ13_bitCount_95d88, Cond.static yJ13_bitCount_95d88, Cond.initialized RJ13, Cond.code yJ13_bitCount_95d88 cJ13_bitCount_95d88 2 (some .int), Cond.constantLong RJ13 314 (6148914691236517205), Cond.constantLong RJ13 316 (3689348814741910323), Cond.constantLong RJ13 318 (1085102592571150095)]
def wsX6_derivative : List Cond := .code yX6_derivative cX6_derivative 4 (some .int) :: ((wsX6_derivative_r1 ++ wsX6_derivative_r2) ++ wsX60 ++ wsX10)
def wsX6_flip_r1 : List Cond := [Cond.fieldLink RX6 38 "BooleanRing" "n" "I", Cond.fieldLink RX6 9 "BooleanRing" "registers" "[J", Cond.methodLink RX6 51 yX6_isRegister, Cond.static yX6_isRegister, Cond.initialized RX6, Cond.code yX6_isRegister cX6_isRegister 1 (some .boolean), Cond.methodLink RX6 55 yX6_isMask, Cond.instanceMethod yX6_isMask, Cond.selects RX6 yX6_isMask yX6_isMask, Cond.code yX6_isMask cX6_isMask 2 (some .boolean), Cond.methodLink RX6 82 yX3_transformed, Cond.static yX3_transformed, Cond.initialized RX3, Cond.code yX3_transformed cX3_transformed 6 (some .long), Cond.methodLink RX3 19 yX3_raised, Cond.static yX3_raised, Cond.code yX3_raised cX3_raised 3 (some .long), Cond.methodLink RX3 15 yX3_without, Cond.static yX3_without, Cond.code yX3_without cX3_without 1 (some .long), Cond.fieldLink RX3 9 "BooleanRing$Poly" "WITHOUT" "[J", Cond.methodLink RX6 64 yX6_put, Cond.instanceMethod yX6_put, Cond.selects RX6 yX6_put yX6_put]
def wsX6_flip_r2 : List Cond := [Cond.code yX6_put cX6_put 4 (some .int), Cond.fieldLink RX6 20 "BooleanRing" "history" "LBooleanRing$History;", Cond.methodLink RX6 152 yX1_keep, Cond.instanceMethod yX1_keep, Cond.selects RX1 yX1_keep yX1_keep, Cond.initialized RX1, Cond.code yX1_keep cX1_keep 2 none, Cond.fieldLink RX1 15 "BooleanRing$History" "kept" "I", Cond.fieldLink RX1 11 "BooleanRing$History" "states" "[J", Cond.methodLink RX1 19 arraycopyName, Cond.native arraycopyName, Cond.static arraycopyName, Cond.initialized "java/lang/System", Cond.methodLink RX6 110 yJ13_bitCount_95d88, Cond.static yJ13_bitCount_95d88, Cond.initialized RJ13, Cond.code yJ13_bitCount_95d88 cJ13_bitCount_95d88 2 (some .int), Cond.constantLong RJ13 314 (6148914691236517205), Cond.constantLong RJ13 316 (3689348814741910323), Cond.constantLong RJ13 318 (1085102592571150095)]
def wsX6_flip : List Cond := .code yX6_flip cX6_flip 5 (some .int) :: ((wsX6_flip_r1 ++ wsX6_flip_r2) ++ wsX60 ++ wsX10)
def wsX6_exchange_r1 : List Cond := [Cond.fieldLink RX6 9 "BooleanRing" "registers" "[J", Cond.methodLink RX6 85 Lib.Math.min.name, Cond.static Lib.Math.min.name, Cond.initialized "java/lang/Math", Cond.code Lib.Math.min.name Lib.Math.min.code 2 (some .int), Cond.methodLink RX6 91 Lib.Math.max.name, Cond.static Lib.Math.max.name, Cond.code Lib.Math.max.name Lib.Math.max.code 2 (some .int), Cond.methodLink RX6 51 yX6_isRegister, Cond.static yX6_isRegister, Cond.initialized RX6, Cond.code yX6_isRegister cX6_isRegister 1 (some .boolean), Cond.methodLink RX6 72 yX6_isVariable, Cond.instanceMethod yX6_isVariable, Cond.selects RX6 yX6_isVariable yX6_isVariable, Cond.code yX6_isVariable cX6_isVariable 2 (some .boolean), Cond.fieldLink RX6 38 "BooleanRing" "n" "I", Cond.methodLink RX6 94 yX3_exchanged, Cond.static yX3_exchanged, Cond.initialized RX3, Cond.code yX3_exchanged cX3_exchanged 11 (some .long), Cond.constantLong RX3 26 (-1), Cond.methodLink RX3 15 yX3_without, Cond.static yX3_without]
def wsX6_exchange_r2 : List Cond := [Cond.code yX3_without cX3_without 1 (some .long), Cond.fieldLink RX3 9 "BooleanRing$Poly" "WITHOUT" "[J", Cond.methodLink RX6 64 yX6_put, Cond.instanceMethod yX6_put, Cond.selects RX6 yX6_put yX6_put, Cond.code yX6_put cX6_put 4 (some .int), Cond.fieldLink RX6 20 "BooleanRing" "history" "LBooleanRing$History;", Cond.methodLink RX6 152 yX1_keep, Cond.instanceMethod yX1_keep, Cond.selects RX1 yX1_keep yX1_keep, Cond.initialized RX1, Cond.code yX1_keep cX1_keep 2 none, Cond.fieldLink RX1 15 "BooleanRing$History" "kept" "I", Cond.fieldLink RX1 11 "BooleanRing$History" "states" "[J", Cond.methodLink RX1 19 arraycopyName, Cond.native arraycopyName, Cond.static arraycopyName, Cond.initialized "java/lang/System", Cond.methodLink RX6 110 yJ13_bitCount_95d88, Cond.static yJ13_bitCount_95d88, Cond.initialized RJ13, Cond.code yJ13_bitCount_95d88 cJ13_bitCount_95d88 2 (some .int), Cond.constantLong RJ13 314 (6148914691236517205), Cond.constantLong RJ13 316 (3689348814741910323)]
def wsX6_exchange_r3 : List Cond := [Cond.constantLong RJ13 318 (1085102592571150095)]
def wsX6_exchange : List Cond := .code yX6_exchange cX6_exchange 4 (some .int) :: ((wsX6_exchange_r1 ++ (wsX6_exchange_r2 ++ wsX6_exchange_r3)) ++ wsX60 ++ wsX10)
def wsX6_undo : List Cond := .code yX6_undo cX6_undo 1 (some .int) :: ([.fieldLink RX6 20 "BooleanRing" "history" "LBooleanRing$History;", .fieldLink RX6 9 "BooleanRing" "registers" "[J", .methodLink RX6 98 yX1_isEmpty, .instanceMethod yX1_isEmpty, .selects RX1 yX1_isEmpty yX1_isEmpty, .initialized RX1, .code yX1_isEmpty cX1_isEmpty 1 (some .boolean), .fieldLink RX1 15 "BooleanRing$History" "kept" "I", .methodLink RX6 102 yX1_restore, .instanceMethod yX1_restore, .selects RX1 yX1_restore yX1_restore, .code yX1_restore cX1_restore 2 (some .int), .fieldLink RX1 11 "BooleanRing$History" "states" "[J", .methodLink RX1 19 arraycopyName, .native arraycopyName, .static arraycopyName, .initialized "java/lang/System"] ++ wsX60 ++ wsX10)
def wsX6_has : List Cond := .code yX6_has cX6_has 3 (some .int) :: ([.fieldLink RX6 9 "BooleanRing" "registers" "[J", .methodLink RX6 51 yX6_isRegister, .static yX6_isRegister, .initialized RX6, .code yX6_isRegister cX6_isRegister 1 (some .boolean), .methodLink RX6 55 yX6_isMask, .instanceMethod yX6_isMask, .selects RX6 yX6_isMask yX6_isMask, .code yX6_isMask cX6_isMask 2 (some .boolean), .fieldLink RX6 38 "BooleanRing" "n" "I", .methodLink RX6 106 yX3_bit, .static yX3_bit, .initialized RX3, .code yX3_bit cX3_bit 3 (some .int)] ++ wsX60)
def wsX6_terms : List Cond := .code yX6_terms cX6_terms 2 (some .int) :: ([.fieldLink RX6 9 "BooleanRing" "registers" "[J", .methodLink RX6 51 yX6_isRegister, .static yX6_isRegister, .initialized RX6, .code yX6_isRegister cX6_isRegister 1 (some .boolean), .methodLink RX6 110 yJ13_bitCount_95d88, .static yJ13_bitCount_95d88, .initialized RJ13, .code yJ13_bitCount_95d88 cJ13_bitCount_95d88 2 (some .int), .constantLong RJ13 314 (6148914691236517205), .constantLong RJ13 316 (3689348814741910323), .constantLong RJ13 318 (1085102592571150095)] ++ wsX60)
def wsX6_degree_r1 : List Cond := [Cond.fieldLink RX6 9 "BooleanRing" "registers" "[J", Cond.methodLink RX6 51 yX6_isRegister, Cond.static yX6_isRegister, Cond.initialized RX6, Cond.code yX6_isRegister cX6_isRegister 1 (some .boolean), Cond.methodLink RX6 118 yX2_termOf, Cond.static yX2_termOf, Cond.initialized RX2, Cond.code yX2_termOf cX2_termOf 7 (some .int), Cond.methodLink RX2 25 yJ13_bitCount_95d88, Cond.static yJ13_bitCount_95d88, Cond.initialized RJ13, Cond.code yJ13_bitCount_95d88 cJ13_bitCount_95d88 2 (some .int), Cond.constantLong RJ13 314 (6148914691236517205), Cond.constantLong RJ13 316 (3689348814741910323), Cond.constantLong RJ13 318 (1085102592571150095), Cond.methodLink RX2 31 yX2_monomialAt, Cond.static yX2_monomialAt, Cond.code yX2_monomialAt cX2_monomialAt 3 (some .int), Cond.methodLink RX2 21 yX2_tableOf, Cond.static yX2_tableOf, Cond.code yX2_tableOf cX2_tableOf 1 (some (.array .int)), Cond.fieldLink RX2 9 "BooleanRing$Orders" "BY_LEX" "[I", Cond.fieldLink RX2 15 "BooleanRing$Orders" "BY_GRADED" "[I"]
def wsX6_degree_r2 : List Cond := [Cond.fieldLink RX2 18 "BooleanRing$Orders" "BY_REVERSE" "[I", Cond.methodLink RX2 35 yX3_bit, Cond.static yX3_bit, Cond.initialized RX3, Cond.code yX3_bit cX3_bit 3 (some .int), Cond.methodLink RX6 122 yJ6_bitCount_0f7a4, Cond.static yJ6_bitCount_0f7a4, Cond.initialized RJ6, Cond.code yJ6_bitCount_0f7a4 cJ6_bitCount_0f7a4 1 (some .int), Cond.constant RJ6 265 (1431655765), Cond.constant RJ6 266 (858993459), Cond.constant RJ6 267 (252645135)]
def wsX6_degree : List Cond := .code yX6_degree cX6_degree 3 (some .int) :: ((wsX6_degree_r1 ++ wsX6_degree_r2) ++ wsX60)
def wsX6_occurring : List Cond := .code yX6_occurring cX6_occurring 4 (some .int) :: ([.fieldLink RX6 38 "BooleanRing" "n" "I", .fieldLink RX6 9 "BooleanRing" "registers" "[J", .methodLink RX6 51 yX6_isRegister, .static yX6_isRegister, .initialized RX6, .code yX6_isRegister cX6_isRegister 1 (some .boolean), .methodLink RX6 79 yX3_upperHalf, .static yX3_upperHalf, .initialized RX3, .code yX3_upperHalf cX3_upperHalf 3 (some .long), .methodLink RX3 15 yX3_without, .static yX3_without, .code yX3_without cX3_without 1 (some .long), .fieldLink RX3 9 "BooleanRing$Poly" "WITHOUT" "[J"] ++ wsX60)
def wsX6_size_r1 : List Cond := [Cond.fieldLink RX6 27 "BooleanRing" "diagrams" "LBooleanRing$Diagrams;", Cond.fieldLink RX6 9 "BooleanRing" "registers" "[J", Cond.methodLink RX6 51 yX6_isRegister, Cond.static yX6_isRegister, Cond.initialized RX6, Cond.code yX6_isRegister cX6_isRegister 1 (some .boolean), Cond.methodLink RX6 127 yX0_forget, Cond.instanceMethod yX0_forget, Cond.selects RX0 yX0_forget yX0_forget, Cond.initialized RX0, Cond.code yX0_forget cX0_forget 1 none, Cond.fieldLink RX0 15 "BooleanRing$Diagrams" "count" "I", Cond.methodLink RX6 128 yX0_enter, Cond.instanceMethod yX0_enter, Cond.selects RX0 yX0_enter yX0_enter, Cond.code yX0_enter cX0_enter 4 none, Cond.constantLong RX0 19 (-2), Cond.fieldLink RX0 9 "BooleanRing$Diagrams" "found" "[J", Cond.methodLink RX0 21 yX0_isKnown, Cond.instanceMethod yX0_isKnown, Cond.selects RX0 yX0_isKnown yX0_isKnown, Cond.code yX0_isKnown cX0_isKnown 4 (some .boolean), Cond.methodLink RX6 132 yX0_closedCount, Cond.instanceMethod yX0_closedCount]
def wsX6_size_r2 : List Cond := [Cond.selects RX0 yX0_closedCount yX0_closedCount, Cond.code yX0_closedCount cX0_closedCount 3 (some .int), Cond.methodLink RX0 25 yX3_lowestVariable, Cond.static yX3_lowestVariable, Cond.initialized RX3, Cond.code yX3_lowestVariable cX3_lowestVariable 3 (some .int), Cond.methodLink RX3 28 yX3_upperHalf, Cond.static yX3_upperHalf, Cond.code yX3_upperHalf cX3_upperHalf 3 (some .long), Cond.methodLink RX3 15 yX3_without, Cond.static yX3_without, Cond.code yX3_without cX3_without 1 (some .long), Cond.fieldLink RX3 9 "BooleanRing$Poly" "WITHOUT" "[J", Cond.methodLink RX0 31 yX3_upperHalf, Cond.methodLink RX0 35 yX0_enter, Cond.methodLink RX0 39 yX3_lowerHalf, Cond.static yX3_lowerHalf, Cond.code yX3_lowerHalf cX3_lowerHalf 3 (some .long)]
def wsX6_size : List Cond := .code yX6_size cX6_size 2 (some .int) :: ((wsX6_size_r1 ++ wsX6_size_r2) ++ wsX60 ++ wsX00)
def wsX6_sharedSize_r1 : List Cond := [Cond.fieldLink RX6 27 "BooleanRing" "diagrams" "LBooleanRing$Diagrams;", Cond.fieldLink RX6 9 "BooleanRing" "registers" "[J", Cond.methodLink RX6 127 yX0_forget, Cond.instanceMethod yX0_forget, Cond.selects RX0 yX0_forget yX0_forget, Cond.initialized RX0, Cond.code yX0_forget cX0_forget 1 none, Cond.fieldLink RX0 15 "BooleanRing$Diagrams" "count" "I", Cond.methodLink RX6 128 yX0_enter, Cond.instanceMethod yX0_enter, Cond.selects RX0 yX0_enter yX0_enter, Cond.code yX0_enter cX0_enter 4 none, Cond.constantLong RX0 19 (-2), Cond.fieldLink RX0 9 "BooleanRing$Diagrams" "found" "[J", Cond.methodLink RX0 21 yX0_isKnown, Cond.instanceMethod yX0_isKnown, Cond.selects RX0 yX0_isKnown yX0_isKnown, Cond.code yX0_isKnown cX0_isKnown 4 (some .boolean), Cond.methodLink RX6 132 yX0_closedCount, Cond.instanceMethod yX0_closedCount, Cond.selects RX0 yX0_closedCount yX0_closedCount, Cond.code yX0_closedCount cX0_closedCount 3 (some .int), Cond.methodLink RX0 25 yX3_lowestVariable, Cond.static yX3_lowestVariable]
def wsX6_sharedSize_r2 : List Cond := [Cond.initialized RX3, Cond.code yX3_lowestVariable cX3_lowestVariable 3 (some .int), Cond.methodLink RX3 28 yX3_upperHalf, Cond.static yX3_upperHalf, Cond.code yX3_upperHalf cX3_upperHalf 3 (some .long), Cond.methodLink RX3 15 yX3_without, Cond.static yX3_without, Cond.code yX3_without cX3_without 1 (some .long), Cond.fieldLink RX3 9 "BooleanRing$Poly" "WITHOUT" "[J", Cond.methodLink RX0 31 yX3_upperHalf, Cond.methodLink RX0 35 yX0_enter, Cond.methodLink RX0 39 yX3_lowerHalf, Cond.static yX3_lowerHalf, Cond.code yX3_lowerHalf cX3_lowerHalf 3 (some .long)]
def wsX6_sharedSize : List Cond := .code yX6_sharedSize cX6_sharedSize 2 (some .int) :: ((wsX6_sharedSize_r1 ++ wsX6_sharedSize_r2) ++ wsX60 ++ wsX00)
def wsX6_isOrder : List Cond := .code yX6_isOrder cX6_isOrder 1 (some .boolean) :: ([])
def wsX6_termAt_r1 : List Cond := [Cond.fieldLink RX6 9 "BooleanRing" "registers" "[J", Cond.methodLink RX6 51 yX6_isRegister, Cond.static yX6_isRegister, Cond.initialized RX6, Cond.code yX6_isRegister cX6_isRegister 1 (some .boolean), Cond.methodLink RX6 136 yX6_isOrder, Cond.static yX6_isOrder, Cond.code yX6_isOrder cX6_isOrder 1 (some .boolean), Cond.methodLink RX6 118 yX2_termOf, Cond.static yX2_termOf, Cond.initialized RX2, Cond.code yX2_termOf cX2_termOf 7 (some .int), Cond.methodLink RX2 25 yJ13_bitCount_95d88, Cond.static yJ13_bitCount_95d88, Cond.initialized RJ13, Cond.code yJ13_bitCount_95d88 cJ13_bitCount_95d88 2 (some .int), Cond.constantLong RJ13 314 (6148914691236517205), Cond.constantLong RJ13 316 (3689348814741910323), Cond.constantLong RJ13 318 (1085102592571150095), Cond.methodLink RX2 31 yX2_monomialAt, Cond.static yX2_monomialAt, Cond.code yX2_monomialAt cX2_monomialAt 3 (some .int), Cond.methodLink RX2 21 yX2_tableOf, Cond.static yX2_tableOf]
def wsX6_termAt_r2 : List Cond := [Cond.code yX2_tableOf cX2_tableOf 1 (some (.array .int)), Cond.fieldLink RX2 9 "BooleanRing$Orders" "BY_LEX" "[I", Cond.fieldLink RX2 15 "BooleanRing$Orders" "BY_GRADED" "[I", Cond.fieldLink RX2 18 "BooleanRing$Orders" "BY_REVERSE" "[I", Cond.methodLink RX2 35 yX3_bit, Cond.static yX3_bit, Cond.initialized RX3, Cond.code yX3_bit cX3_bit 3 (some .int)]
def wsX6_termAt : List Cond := .code yX6_termAt cX6_termAt 4 (some .int) :: ((wsX6_termAt_r1 ++ wsX6_termAt_r2) ++ wsX60)
def wsX6_value : List Cond := .code yX6_value cX6_value 3 (some .int) :: ([.fieldLink RX6 9 "BooleanRing" "registers" "[J", .fieldLink RX6 38 "BooleanRing" "n" "I", .methodLink RX6 51 yX6_isRegister, .static yX6_isRegister, .initialized RX6, .code yX6_isRegister cX6_isRegister 1 (some .boolean), .methodLink RX6 55 yX6_isMask, .instanceMethod yX6_isMask, .selects RX6 yX6_isMask yX6_isMask, .code yX6_isMask cX6_isMask 2 (some .boolean), .methodLink RX6 82 yX3_transformed, .static yX3_transformed, .initialized RX3, .code yX3_transformed cX3_transformed 6 (some .long), .methodLink RX3 19 yX3_raised, .static yX3_raised, .code yX3_raised cX3_raised 3 (some .long), .methodLink RX3 15 yX3_without, .static yX3_without, .code yX3_without cX3_without 1 (some .long), .fieldLink RX3 9 "BooleanRing$Poly" "WITHOUT" "[J", .methodLink RX6 106 yX3_bit, .static yX3_bit, .code yX3_bit cX3_bit 3 (some .int)] ++ wsX60)
def wsX6_isSame : List Cond := .code yX6_isSame cX6_isSame 3 (some .int) :: ([.fieldLink RX6 9 "BooleanRing" "registers" "[J", .methodLink RX6 51 yX6_isRegister, .static yX6_isRegister, .initialized RX6, .code yX6_isRegister cX6_isRegister 1 (some .boolean)] ++ wsX60)
def wsX6_isSet : List Cond := .code yX6_isSet cX6_isSet 1 (some .boolean) :: ([])
def wsX6_findLeading_r1 : List Cond := [Cond.fieldLink RX6 13 "BooleanRing" "leading" "[I", Cond.fieldLink RX6 9 "BooleanRing" "registers" "[J", Cond.methodLink RX6 118 yX2_termOf, Cond.static yX2_termOf, Cond.initialized RX2, Cond.code yX2_termOf cX2_termOf 7 (some .int), Cond.methodLink RX2 25 yJ13_bitCount_95d88, Cond.static yJ13_bitCount_95d88, Cond.initialized RJ13, Cond.code yJ13_bitCount_95d88 cJ13_bitCount_95d88 2 (some .int), Cond.constantLong RJ13 314 (6148914691236517205), Cond.constantLong RJ13 316 (3689348814741910323), Cond.constantLong RJ13 318 (1085102592571150095), Cond.methodLink RX2 31 yX2_monomialAt, Cond.static yX2_monomialAt, Cond.code yX2_monomialAt cX2_monomialAt 3 (some .int), Cond.methodLink RX2 21 yX2_tableOf, Cond.static yX2_tableOf, Cond.code yX2_tableOf cX2_tableOf 1 (some (.array .int)), Cond.fieldLink RX2 9 "BooleanRing$Orders" "BY_LEX" "[I", Cond.fieldLink RX2 15 "BooleanRing$Orders" "BY_GRADED" "[I", Cond.fieldLink RX2 18 "BooleanRing$Orders" "BY_REVERSE" "[I", Cond.methodLink RX2 35 yX3_bit, Cond.static yX3_bit]
def wsX6_findLeading_r2 : List Cond := [Cond.initialized RX3, Cond.code yX3_bit cX3_bit 3 (some .int)]
def wsX6_findLeading : List Cond := .code yX6_findLeading cX6_findLeading 3 none :: ((wsX6_findLeading_r1 ++ wsX6_findLeading_r2) ++ wsX60)
def wsX6_isIn : List Cond := .code yX6_isIn cX6_isIn 2 (some .boolean) :: ([])
def wsX6_reducerOf : List Cond := .code yX6_reducerOf cX6_reducerOf 4 (some .int) :: ([.fieldLink RX6 13 "BooleanRing" "leading" "[I", .methodLink RX6 203 yX6_isIn, .static yX6_isIn, .initialized RX6, .code yX6_isIn cX6_isIn 2 (some .boolean)] ++ wsX60)
def wsX6_reduce_r1 : List Cond := [Cond.fieldLink RX6 9 "BooleanRing" "registers" "[J", Cond.fieldLink RX6 13 "BooleanRing" "leading" "[I", Cond.fieldLink RX6 38 "BooleanRing" "n" "I", Cond.methodLink RX6 51 yX6_isRegister, Cond.static yX6_isRegister, Cond.initialized RX6, Cond.code yX6_isRegister cX6_isRegister 1 (some .boolean), Cond.methodLink RX6 139 yX6_isSet, Cond.static yX6_isSet, Cond.code yX6_isSet cX6_isSet 1 (some .boolean), Cond.methodLink RX6 136 yX6_isOrder, Cond.static yX6_isOrder, Cond.code yX6_isOrder cX6_isOrder 1 (some .boolean), Cond.methodLink RX6 142 yX6_findLeading, Cond.instanceMethod yX6_findLeading, Cond.selects RX6 yX6_findLeading yX6_findLeading, Cond.code yX6_findLeading cX6_findLeading 3 none, Cond.methodLink RX6 118 yX2_termOf, Cond.static yX2_termOf, Cond.initialized RX2, Cond.code yX2_termOf cX2_termOf 7 (some .int), Cond.methodLink RX2 25 yJ13_bitCount_95d88, Cond.static yJ13_bitCount_95d88, Cond.initialized RJ13]
def wsX6_reduce_r2 : List Cond := [Cond.code yJ13_bitCount_95d88 cJ13_bitCount_95d88 2 (some .int), Cond.constantLong RJ13 314 (6148914691236517205), Cond.constantLong RJ13 316 (3689348814741910323), Cond.constantLong RJ13 318 (1085102592571150095), Cond.methodLink RX2 31 yX2_monomialAt, Cond.static yX2_monomialAt, Cond.code yX2_monomialAt cX2_monomialAt 3 (some .int), Cond.methodLink RX2 21 yX2_tableOf, Cond.static yX2_tableOf, Cond.code yX2_tableOf cX2_tableOf 1 (some (.array .int)), Cond.fieldLink RX2 9 "BooleanRing$Orders" "BY_LEX" "[I", Cond.fieldLink RX2 15 "BooleanRing$Orders" "BY_GRADED" "[I", Cond.fieldLink RX2 18 "BooleanRing$Orders" "BY_REVERSE" "[I", Cond.methodLink RX2 35 yX3_bit, Cond.static yX3_bit, Cond.initialized RX3, Cond.code yX3_bit cX3_bit 3 (some .int), Cond.methodLink RX6 146 yX2_monomialAt, Cond.methodLink RX6 106 yX3_bit, Cond.methodLink RX6 149 yX6_reducerOf, Cond.instanceMethod yX6_reducerOf, Cond.selects RX6 yX6_reducerOf yX6_reducerOf, Cond.code yX6_reducerOf cX6_reducerOf 4 (some .int), Cond.methodLink RX6 203 yX6_isIn]
def wsX6_reduce_r3 : List Cond := [Cond.static yX6_isIn, Cond.code yX6_isIn cX6_isIn 2 (some .boolean), Cond.methodLink RX6 58 yX3_ofMonomial, Cond.static yX3_ofMonomial, Cond.code yX3_ofMonomial cX3_ofMonomial 1 (some .long), Cond.methodLink RX6 68 yX3_multiplied, Cond.static yX3_multiplied, Cond.code yX3_multiplied cX3_multiplied 5 (some .long), Cond.methodLink RX3 23 yX3_transformed, Cond.static yX3_transformed, Cond.code yX3_transformed cX3_transformed 6 (some .long), Cond.methodLink RX3 19 yX3_raised, Cond.static yX3_raised, Cond.code yX3_raised cX3_raised 3 (some .long), Cond.methodLink RX3 15 yX3_without, Cond.static yX3_without, Cond.code yX3_without cX3_without 1 (some .long), Cond.fieldLink RX3 9 "BooleanRing$Poly" "WITHOUT" "[J", Cond.methodLink RX6 64 yX6_put, Cond.instanceMethod yX6_put, Cond.selects RX6 yX6_put yX6_put, Cond.code yX6_put cX6_put 4 (some .int), Cond.fieldLink RX6 20 "BooleanRing" "history" "LBooleanRing$History;", Cond.methodLink RX6 152 yX1_keep]
def wsX6_reduce_r4 : List Cond := [Cond.instanceMethod yX1_keep, Cond.selects RX1 yX1_keep yX1_keep, Cond.initialized RX1, Cond.code yX1_keep cX1_keep 2 none, Cond.fieldLink RX1 15 "BooleanRing$History" "kept" "I", Cond.fieldLink RX1 11 "BooleanRing$History" "states" "[J", Cond.methodLink RX1 19 arraycopyName, Cond.native arraycopyName, Cond.static arraycopyName, Cond.initialized "java/lang/System", Cond.methodLink RX6 110 yJ13_bitCount_95d88]
def wsX6_reduce : List Cond := .code yX6_reduce cX6_reduce 12 (some .int) :: ((wsX6_reduce_r1 ++ (wsX6_reduce_r2 ++ (wsX6_reduce_r3 ++ wsX6_reduce_r4))) ++ wsX60 ++ wsX10)
def wsX6_nextOf : List Cond := .code yX6_nextOf cX6_nextOf 3 (some .int) :: ([.methodLink RX6 203 yX6_isIn, .static yX6_isIn, .initialized RX6, .code yX6_isIn cX6_isIn 2 (some .boolean)])
def wsX6_bringUp : List Cond := .code yX6_bringUp cX6_bringUp 7 (some .boolean) :: ([.fieldLink RX6 9 "BooleanRing" "registers" "[J", .methodLink RX6 51 yX6_isRegister, .static yX6_isRegister, .initialized RX6, .code yX6_isRegister cX6_isRegister 1 (some .boolean), .methodLink RX6 203 yX6_isIn, .static yX6_isIn, .code yX6_isIn cX6_isIn 2 (some .boolean), .methodLink RX6 106 yX3_bit, .static yX3_bit, .initialized RX3, .code yX3_bit cX3_bit 3 (some .int)] ++ wsX60)
def wsX6_clearElsewhere : List Cond := .code yX6_clearElsewhere cX6_clearElsewhere 5 none :: ([.fieldLink RX6 9 "BooleanRing" "registers" "[J", .methodLink RX6 51 yX6_isRegister, .static yX6_isRegister, .initialized RX6, .code yX6_isRegister cX6_isRegister 1 (some .boolean), .methodLink RX6 203 yX6_isIn, .static yX6_isIn, .code yX6_isIn cX6_isIn 2 (some .boolean), .methodLink RX6 106 yX3_bit, .static yX3_bit, .initialized RX3, .code yX3_bit cX3_bit 3 (some .int)] ++ wsX60)
def wsX6_echelon_r1 : List Cond := [Cond.fieldLink RX6 20 "BooleanRing" "history" "LBooleanRing$History;", Cond.fieldLink RX6 9 "BooleanRing" "registers" "[J", Cond.methodLink RX6 139 yX6_isSet, Cond.static yX6_isSet, Cond.initialized RX6, Cond.code yX6_isSet cX6_isSet 1 (some .boolean), Cond.methodLink RX6 136 yX6_isOrder, Cond.static yX6_isOrder, Cond.code yX6_isOrder cX6_isOrder 1 (some .boolean), Cond.methodLink RX6 152 yX1_keep, Cond.instanceMethod yX1_keep, Cond.selects RX1 yX1_keep yX1_keep, Cond.initialized RX1, Cond.code yX1_keep cX1_keep 2 none, Cond.fieldLink RX1 15 "BooleanRing$History" "kept" "I", Cond.fieldLink RX1 11 "BooleanRing$History" "states" "[J", Cond.methodLink RX1 19 arraycopyName, Cond.native arraycopyName, Cond.static arraycopyName, Cond.initialized "java/lang/System", Cond.methodLink RX6 156 yX6_nextOf, Cond.static yX6_nextOf, Cond.code yX6_nextOf cX6_nextOf 3 (some .int), Cond.methodLink RX6 203 yX6_isIn]
def wsX6_echelon_r2 : List Cond := [Cond.static yX6_isIn, Cond.code yX6_isIn cX6_isIn 2 (some .boolean), Cond.methodLink RX6 146 yX2_monomialAt, Cond.static yX2_monomialAt, Cond.initialized RX2, Cond.code yX2_monomialAt cX2_monomialAt 3 (some .int), Cond.methodLink RX2 21 yX2_tableOf, Cond.static yX2_tableOf, Cond.code yX2_tableOf cX2_tableOf 1 (some (.array .int)), Cond.fieldLink RX2 9 "BooleanRing$Orders" "BY_LEX" "[I", Cond.fieldLink RX2 15 "BooleanRing$Orders" "BY_GRADED" "[I", Cond.fieldLink RX2 18 "BooleanRing$Orders" "BY_REVERSE" "[I", Cond.methodLink RX6 159 yX6_bringUp, Cond.instanceMethod yX6_bringUp, Cond.selects RX6 yX6_bringUp yX6_bringUp, Cond.code yX6_bringUp cX6_bringUp 7 (some .boolean), Cond.methodLink RX6 51 yX6_isRegister, Cond.static yX6_isRegister, Cond.code yX6_isRegister cX6_isRegister 1 (some .boolean), Cond.methodLink RX6 106 yX3_bit, Cond.static yX3_bit, Cond.initialized RX3, Cond.code yX3_bit cX3_bit 3 (some .int), Cond.methodLink RX6 163 yX6_clearElsewhere]
def wsX6_echelon_r3 : List Cond := [Cond.instanceMethod yX6_clearElsewhere, Cond.selects RX6 yX6_clearElsewhere yX6_clearElsewhere, Cond.code yX6_clearElsewhere cX6_clearElsewhere 5 none]
def wsX6_echelon : List Cond := .code yX6_echelon cX6_echelon 7 (some .int) :: ((wsX6_echelon_r1 ++ (wsX6_echelon_r2 ++ wsX6_echelon_r3)) ++ wsX60 ++ wsX10)
def wsX6_allPoints : List Cond := .code yX6_allPoints cX6_allPoints 1 (some .long) :: ([.fieldLink RX6 38 "BooleanRing" "n" "I", .constantLong RX6 180 (-1)] ++ wsX60)
def wsX6_nonZeros : List Cond := .code yX6_nonZeros cX6_nonZeros 5 (some .long) :: ([.fieldLink RX6 9 "BooleanRing" "registers" "[J", .fieldLink RX6 38 "BooleanRing" "n" "I", .methodLink RX6 203 yX6_isIn, .static yX6_isIn, .initialized RX6, .code yX6_isIn cX6_isIn 2 (some .boolean), .methodLink RX6 82 yX3_transformed, .static yX3_transformed, .initialized RX3, .code yX3_transformed cX3_transformed 6 (some .long), .methodLink RX3 19 yX3_raised, .static yX3_raised, .code yX3_raised cX3_raised 3 (some .long), .methodLink RX3 15 yX3_without, .static yX3_without, .code yX3_without cX3_without 1 (some .long), .fieldLink RX3 9 "BooleanRing$Poly" "WITHOUT" "[J"] ++ wsX60)
def wsX6_commonZeros_r1 : List Cond := [Cond.constantLong RX6 180 (-1), Cond.methodLink RX6 176 yX6_allPoints, Cond.instanceMethod yX6_allPoints, Cond.selects RX6 yX6_allPoints yX6_allPoints, Cond.initialized RX6, Cond.code yX6_allPoints cX6_allPoints 1 (some .long), Cond.fieldLink RX6 38 "BooleanRing" "n" "I", Cond.methodLink RX6 170 yX6_nonZeros, Cond.instanceMethod yX6_nonZeros, Cond.selects RX6 yX6_nonZeros yX6_nonZeros, Cond.code yX6_nonZeros cX6_nonZeros 5 (some .long), Cond.fieldLink RX6 9 "BooleanRing" "registers" "[J", Cond.methodLink RX6 203 yX6_isIn, Cond.static yX6_isIn, Cond.code yX6_isIn cX6_isIn 2 (some .boolean), Cond.methodLink RX6 82 yX3_transformed, Cond.static yX3_transformed, Cond.initialized RX3, Cond.code yX3_transformed cX3_transformed 6 (some .long), Cond.methodLink RX3 19 yX3_raised, Cond.static yX3_raised, Cond.code yX3_raised cX3_raised 3 (some .long), Cond.methodLink RX3 15 yX3_without, Cond.static yX3_without]
def wsX6_commonZeros_r2 : List Cond := [Cond.code yX3_without cX3_without 1 (some .long), Cond.fieldLink RX3 9 "BooleanRing$Poly" "WITHOUT" "[J"]
def wsX6_commonZeros : List Cond := .code yX6_commonZeros cX6_commonZeros 2 (some .long) :: ((wsX6_commonZeros_r1 ++ wsX6_commonZeros_r2) ++ wsX60)
def wsX6_zeros_r1 : List Cond := [Cond.methodLink RX6 139 yX6_isSet, Cond.static yX6_isSet, Cond.initialized RX6, Cond.code yX6_isSet cX6_isSet 1 (some .boolean), Cond.methodLink RX6 167 yX6_commonZeros, Cond.instanceMethod yX6_commonZeros, Cond.selects RX6 yX6_commonZeros yX6_commonZeros, Cond.code yX6_commonZeros cX6_commonZeros 2 (some .long), Cond.constantLong RX6 180 (-1), Cond.methodLink RX6 176 yX6_allPoints, Cond.instanceMethod yX6_allPoints, Cond.selects RX6 yX6_allPoints yX6_allPoints, Cond.code yX6_allPoints cX6_allPoints 1 (some .long), Cond.fieldLink RX6 38 "BooleanRing" "n" "I", Cond.methodLink RX6 170 yX6_nonZeros, Cond.instanceMethod yX6_nonZeros, Cond.selects RX6 yX6_nonZeros yX6_nonZeros, Cond.code yX6_nonZeros cX6_nonZeros 5 (some .long), Cond.fieldLink RX6 9 "BooleanRing" "registers" "[J", Cond.methodLink RX6 203 yX6_isIn, Cond.static yX6_isIn, Cond.code yX6_isIn cX6_isIn 2 (some .boolean), Cond.methodLink RX6 82 yX3_transformed, Cond.static yX3_transformed]
def wsX6_zeros_r2 : List Cond := [Cond.initialized RX3, Cond.code yX3_transformed cX3_transformed 6 (some .long), Cond.methodLink RX3 19 yX3_raised, Cond.static yX3_raised, Cond.code yX3_raised cX3_raised 3 (some .long), Cond.methodLink RX3 15 yX3_without, Cond.static yX3_without, Cond.code yX3_without cX3_without 1 (some .long), Cond.fieldLink RX3 9 "BooleanRing$Poly" "WITHOUT" "[J", Cond.methodLink RX6 110 yJ13_bitCount_95d88, Cond.static yJ13_bitCount_95d88, Cond.initialized RJ13, Cond.code yJ13_bitCount_95d88 cJ13_bitCount_95d88 2 (some .int), Cond.constantLong RJ13 314 (6148914691236517205), Cond.constantLong RJ13 316 (3689348814741910323), Cond.constantLong RJ13 318 (1085102592571150095)]
def wsX6_zeros : List Cond := .code yX6_zeros cX6_zeros 2 (some .int) :: ((wsX6_zeros_r1 ++ wsX6_zeros_r2) ++ wsX60)
def wsX6_zeroAt_r1 : List Cond := [Cond.methodLink RX6 139 yX6_isSet, Cond.static yX6_isSet, Cond.initialized RX6, Cond.code yX6_isSet cX6_isSet 1 (some .boolean), Cond.methodLink RX6 167 yX6_commonZeros, Cond.instanceMethod yX6_commonZeros, Cond.selects RX6 yX6_commonZeros yX6_commonZeros, Cond.code yX6_commonZeros cX6_commonZeros 2 (some .long), Cond.constantLong RX6 180 (-1), Cond.methodLink RX6 176 yX6_allPoints, Cond.instanceMethod yX6_allPoints, Cond.selects RX6 yX6_allPoints yX6_allPoints, Cond.code yX6_allPoints cX6_allPoints 1 (some .long), Cond.fieldLink RX6 38 "BooleanRing" "n" "I", Cond.methodLink RX6 170 yX6_nonZeros, Cond.instanceMethod yX6_nonZeros, Cond.selects RX6 yX6_nonZeros yX6_nonZeros, Cond.code yX6_nonZeros cX6_nonZeros 5 (some .long), Cond.fieldLink RX6 9 "BooleanRing" "registers" "[J", Cond.methodLink RX6 203 yX6_isIn, Cond.static yX6_isIn, Cond.code yX6_isIn cX6_isIn 2 (some .boolean), Cond.methodLink RX6 82 yX3_transformed, Cond.static yX3_transformed]
def wsX6_zeroAt_r2 : List Cond := [Cond.initialized RX3, Cond.code yX3_transformed cX3_transformed 6 (some .long), Cond.methodLink RX3 19 yX3_raised, Cond.static yX3_raised, Cond.code yX3_raised cX3_raised 3 (some .long), Cond.methodLink RX3 15 yX3_without, Cond.static yX3_without, Cond.code yX3_without cX3_without 1 (some .long), Cond.fieldLink RX3 9 "BooleanRing$Poly" "WITHOUT" "[J", Cond.methodLink RX6 106 yX3_bit, Cond.static yX3_bit, Cond.code yX3_bit cX3_bit 3 (some .int)]
def wsX6_zeroAt : List Cond := .code yX6_zeroAt cX6_zeroAt 7 (some .int) :: ((wsX6_zeroAt_r1 ++ wsX6_zeroAt_r2) ++ wsX60)
def wsX6_combine_r1 : List Cond := [Cond.fieldLink RX6 38 "BooleanRing" "n" "I", Cond.methodLink RX6 139 yX6_isSet, Cond.static yX6_isSet, Cond.initialized RX6, Cond.code yX6_isSet cX6_isSet 1 (some .boolean), Cond.methodLink RX6 51 yX6_isRegister, Cond.static yX6_isRegister, Cond.code yX6_isRegister cX6_isRegister 1 (some .boolean), Cond.methodLink RX6 170 yX6_nonZeros, Cond.instanceMethod yX6_nonZeros, Cond.selects RX6 yX6_nonZeros yX6_nonZeros, Cond.code yX6_nonZeros cX6_nonZeros 5 (some .long), Cond.fieldLink RX6 9 "BooleanRing" "registers" "[J", Cond.methodLink RX6 203 yX6_isIn, Cond.static yX6_isIn, Cond.code yX6_isIn cX6_isIn 2 (some .boolean), Cond.methodLink RX6 82 yX3_transformed, Cond.static yX3_transformed, Cond.initialized RX3, Cond.code yX3_transformed cX3_transformed 6 (some .long), Cond.methodLink RX3 19 yX3_raised, Cond.static yX3_raised, Cond.code yX3_raised cX3_raised 3 (some .long), Cond.methodLink RX3 15 yX3_without]
def wsX6_combine_r2 : List Cond := [Cond.static yX3_without, Cond.code yX3_without cX3_without 1 (some .long), Cond.fieldLink RX3 9 "BooleanRing$Poly" "WITHOUT" "[J", Cond.methodLink RX6 64 yX6_put, Cond.instanceMethod yX6_put, Cond.selects RX6 yX6_put yX6_put, Cond.code yX6_put cX6_put 4 (some .int), Cond.fieldLink RX6 20 "BooleanRing" "history" "LBooleanRing$History;", Cond.methodLink RX6 152 yX1_keep, Cond.instanceMethod yX1_keep, Cond.selects RX1 yX1_keep yX1_keep, Cond.initialized RX1, Cond.code yX1_keep cX1_keep 2 none, Cond.fieldLink RX1 15 "BooleanRing$History" "kept" "I", Cond.fieldLink RX1 11 "BooleanRing$History" "states" "[J", Cond.methodLink RX1 19 arraycopyName, Cond.native arraycopyName, Cond.static arraycopyName, Cond.initialized "java/lang/System", Cond.methodLink RX6 110 yJ13_bitCount_95d88, Cond.static yJ13_bitCount_95d88, Cond.initialized RJ13, Cond.code yJ13_bitCount_95d88 cJ13_bitCount_95d88 2 (some .int), Cond.constantLong RJ13 314 (6148914691236517205)]
def wsX6_combine_r3 : List Cond := [Cond.constantLong RJ13 316 (3689348814741910323), Cond.constantLong RJ13 318 (1085102592571150095)]
def wsX6_combine : List Cond := .code yX6_combine cX6_combine 3 (some .int) :: ((wsX6_combine_r1 ++ (wsX6_combine_r2 ++ wsX6_combine_r3)) ++ wsX60 ++ wsX10)
def wsX6_eliminate_r1 : List Cond := [Cond.fieldLink RX6 38 "BooleanRing" "n" "I", Cond.methodLink RX6 139 yX6_isSet, Cond.static yX6_isSet, Cond.initialized RX6, Cond.code yX6_isSet cX6_isSet 1 (some .boolean), Cond.methodLink RX6 72 yX6_isVariable, Cond.instanceMethod yX6_isVariable, Cond.selects RX6 yX6_isVariable yX6_isVariable, Cond.code yX6_isVariable cX6_isVariable 2 (some .boolean), Cond.methodLink RX6 51 yX6_isRegister, Cond.static yX6_isRegister, Cond.code yX6_isRegister cX6_isRegister 1 (some .boolean), Cond.methodLink RX6 170 yX6_nonZeros, Cond.instanceMethod yX6_nonZeros, Cond.selects RX6 yX6_nonZeros yX6_nonZeros, Cond.code yX6_nonZeros cX6_nonZeros 5 (some .long), Cond.fieldLink RX6 9 "BooleanRing" "registers" "[J", Cond.methodLink RX6 203 yX6_isIn, Cond.static yX6_isIn, Cond.code yX6_isIn cX6_isIn 2 (some .boolean), Cond.methodLink RX6 82 yX3_transformed, Cond.static yX3_transformed, Cond.initialized RX3, Cond.code yX3_transformed cX3_transformed 6 (some .long)]
def wsX6_eliminate_r2 : List Cond := [Cond.methodLink RX3 19 yX3_raised, Cond.static yX3_raised, Cond.code yX3_raised cX3_raised 3 (some .long), Cond.methodLink RX3 15 yX3_without, Cond.static yX3_without, Cond.code yX3_without cX3_without 1 (some .long), Cond.fieldLink RX3 9 "BooleanRing$Poly" "WITHOUT" "[J", Cond.methodLink RX6 75 yX3_lowerHalf, Cond.static yX3_lowerHalf, Cond.code yX3_lowerHalf cX3_lowerHalf 3 (some .long), Cond.methodLink RX6 79 yX3_upperHalf, Cond.static yX3_upperHalf, Cond.code yX3_upperHalf cX3_upperHalf 3 (some .long), Cond.methodLink RX6 173 yX3_raised, Cond.methodLink RX6 64 yX6_put, Cond.instanceMethod yX6_put, Cond.selects RX6 yX6_put yX6_put, Cond.code yX6_put cX6_put 4 (some .int), Cond.fieldLink RX6 20 "BooleanRing" "history" "LBooleanRing$History;", Cond.methodLink RX6 152 yX1_keep, Cond.instanceMethod yX1_keep, Cond.selects RX1 yX1_keep yX1_keep, Cond.initialized RX1, Cond.code yX1_keep cX1_keep 2 none]
def wsX6_eliminate_r3 : List Cond := [Cond.fieldLink RX1 15 "BooleanRing$History" "kept" "I", Cond.fieldLink RX1 11 "BooleanRing$History" "states" "[J", Cond.methodLink RX1 19 arraycopyName, Cond.native arraycopyName, Cond.static arraycopyName, Cond.initialized "java/lang/System", Cond.methodLink RX6 110 yJ13_bitCount_95d88, Cond.static yJ13_bitCount_95d88, Cond.initialized RJ13, Cond.code yJ13_bitCount_95d88 cJ13_bitCount_95d88 2 (some .int), Cond.constantLong RJ13 314 (6148914691236517205), Cond.constantLong RJ13 316 (3689348814741910323), Cond.constantLong RJ13 318 (1085102592571150095)]
def wsX6_eliminate : List Cond := .code yX6_eliminate cX6_eliminate 10 (some .int) :: ((wsX6_eliminate_r1 ++ (wsX6_eliminate_r2 ++ wsX6_eliminate_r3)) ++ wsX60 ++ wsX10)
def wsX6_fibres_r1 : List Cond := [Cond.constantLong RX6 180 (-1), Cond.methodLink RX6 139 yX6_isSet, Cond.static yX6_isSet, Cond.initialized RX6, Cond.code yX6_isSet cX6_isSet 1 (some .boolean), Cond.methodLink RX6 72 yX6_isVariable, Cond.instanceMethod yX6_isVariable, Cond.selects RX6 yX6_isVariable yX6_isVariable, Cond.code yX6_isVariable cX6_isVariable 2 (some .boolean), Cond.fieldLink RX6 38 "BooleanRing" "n" "I", Cond.methodLink RX6 167 yX6_commonZeros, Cond.instanceMethod yX6_commonZeros, Cond.selects RX6 yX6_commonZeros yX6_commonZeros, Cond.code yX6_commonZeros cX6_commonZeros 2 (some .long), Cond.methodLink RX6 176 yX6_allPoints, Cond.instanceMethod yX6_allPoints, Cond.selects RX6 yX6_allPoints yX6_allPoints, Cond.code yX6_allPoints cX6_allPoints 1 (some .long), Cond.methodLink RX6 170 yX6_nonZeros, Cond.instanceMethod yX6_nonZeros, Cond.selects RX6 yX6_nonZeros yX6_nonZeros, Cond.code yX6_nonZeros cX6_nonZeros 5 (some .long), Cond.fieldLink RX6 9 "BooleanRing" "registers" "[J", Cond.methodLink RX6 203 yX6_isIn]
def wsX6_fibres_r2 : List Cond := [Cond.static yX6_isIn, Cond.code yX6_isIn cX6_isIn 2 (some .boolean), Cond.methodLink RX6 82 yX3_transformed, Cond.static yX3_transformed, Cond.initialized RX3, Cond.code yX3_transformed cX3_transformed 6 (some .long), Cond.methodLink RX3 19 yX3_raised, Cond.static yX3_raised, Cond.code yX3_raised cX3_raised 3 (some .long), Cond.methodLink RX3 15 yX3_without, Cond.static yX3_without, Cond.code yX3_without cX3_without 1 (some .long), Cond.fieldLink RX3 9 "BooleanRing$Poly" "WITHOUT" "[J", Cond.methodLink RX6 75 yX3_lowerHalf, Cond.static yX3_lowerHalf, Cond.code yX3_lowerHalf cX3_lowerHalf 3 (some .long), Cond.methodLink RX6 79 yX3_upperHalf, Cond.static yX3_upperHalf, Cond.code yX3_upperHalf cX3_upperHalf 3 (some .long), Cond.methodLink RX6 110 yJ13_bitCount_95d88, Cond.static yJ13_bitCount_95d88, Cond.initialized RJ13, Cond.code yJ13_bitCount_95d88 cJ13_bitCount_95d88 2 (some .int), Cond.constantLong RJ13 314 (6148914691236517205)]
def wsX6_fibres_r3 : List Cond := [Cond.constantLong RJ13 316 (3689348814741910323), Cond.constantLong RJ13 318 (1085102592571150095)]
def wsX6_fibres : List Cond := .code yX6_fibres cX6_fibres 10 (some .int) :: ((wsX6_fibres_r1 ++ (wsX6_fibres_r2 ++ wsX6_fibres_r3)) ++ wsX60)
def wsX6_isMember_r1 : List Cond := [Cond.fieldLink RX6 9 "BooleanRing" "registers" "[J", Cond.fieldLink RX6 38 "BooleanRing" "n" "I", Cond.methodLink RX6 51 yX6_isRegister, Cond.static yX6_isRegister, Cond.initialized RX6, Cond.code yX6_isRegister cX6_isRegister 1 (some .boolean), Cond.methodLink RX6 139 yX6_isSet, Cond.static yX6_isSet, Cond.code yX6_isSet cX6_isSet 1 (some .boolean), Cond.methodLink RX6 82 yX3_transformed, Cond.static yX3_transformed, Cond.initialized RX3, Cond.code yX3_transformed cX3_transformed 6 (some .long), Cond.methodLink RX3 19 yX3_raised, Cond.static yX3_raised, Cond.code yX3_raised cX3_raised 3 (some .long), Cond.methodLink RX3 15 yX3_without, Cond.static yX3_without, Cond.code yX3_without cX3_without 1 (some .long), Cond.fieldLink RX3 9 "BooleanRing$Poly" "WITHOUT" "[J", Cond.methodLink RX6 167 yX6_commonZeros, Cond.instanceMethod yX6_commonZeros, Cond.selects RX6 yX6_commonZeros yX6_commonZeros, Cond.code yX6_commonZeros cX6_commonZeros 2 (some .long)]
def wsX6_isMember_r2 : List Cond := [Cond.constantLong RX6 180 (-1), Cond.methodLink RX6 176 yX6_allPoints, Cond.instanceMethod yX6_allPoints, Cond.selects RX6 yX6_allPoints yX6_allPoints, Cond.code yX6_allPoints cX6_allPoints 1 (some .long), Cond.methodLink RX6 170 yX6_nonZeros, Cond.instanceMethod yX6_nonZeros, Cond.selects RX6 yX6_nonZeros yX6_nonZeros, Cond.code yX6_nonZeros cX6_nonZeros 5 (some .long), Cond.methodLink RX6 203 yX6_isIn, Cond.static yX6_isIn, Cond.code yX6_isIn cX6_isIn 2 (some .boolean)]
def wsX6_isMember : List Cond := .code yX6_isMember cX6_isMember 5 (some .int) :: ((wsX6_isMember_r1 ++ wsX6_isMember_r2) ++ wsX60)
def wsX6_isSameIdeal : List Cond := .code yX6_isSameIdeal cX6_isSameIdeal 3 (some .int) :: ([.methodLink RX6 139 yX6_isSet, .static yX6_isSet, .initialized RX6, .code yX6_isSet cX6_isSet 1 (some .boolean), .methodLink RX6 170 yX6_nonZeros, .instanceMethod yX6_nonZeros, .selects RX6 yX6_nonZeros yX6_nonZeros, .code yX6_nonZeros cX6_nonZeros 5 (some .long), .fieldLink RX6 9 "BooleanRing" "registers" "[J", .fieldLink RX6 38 "BooleanRing" "n" "I", .methodLink RX6 203 yX6_isIn, .static yX6_isIn, .code yX6_isIn cX6_isIn 2 (some .boolean), .methodLink RX6 82 yX3_transformed, .static yX3_transformed, .initialized RX3, .code yX3_transformed cX3_transformed 6 (some .long), .methodLink RX3 19 yX3_raised, .static yX3_raised, .code yX3_raised cX3_raised 3 (some .long), .methodLink RX3 15 yX3_without, .static yX3_without, .code yX3_without cX3_without 1 (some .long), .fieldLink RX3 9 "BooleanRing$Poly" "WITHOUT" "[J"] ++ wsX60)
def wsX6_fixedVariables_r1 : List Cond := [Cond.fieldLink RX6 38 "BooleanRing" "n" "I", Cond.methodLink RX6 139 yX6_isSet, Cond.static yX6_isSet, Cond.initialized RX6, Cond.code yX6_isSet cX6_isSet 1 (some .boolean), Cond.methodLink RX6 167 yX6_commonZeros, Cond.instanceMethod yX6_commonZeros, Cond.selects RX6 yX6_commonZeros yX6_commonZeros, Cond.code yX6_commonZeros cX6_commonZeros 2 (some .long), Cond.constantLong RX6 180 (-1), Cond.methodLink RX6 176 yX6_allPoints, Cond.instanceMethod yX6_allPoints, Cond.selects RX6 yX6_allPoints yX6_allPoints, Cond.code yX6_allPoints cX6_allPoints 1 (some .long), Cond.methodLink RX6 170 yX6_nonZeros, Cond.instanceMethod yX6_nonZeros, Cond.selects RX6 yX6_nonZeros yX6_nonZeros, Cond.code yX6_nonZeros cX6_nonZeros 5 (some .long), Cond.fieldLink RX6 9 "BooleanRing" "registers" "[J", Cond.methodLink RX6 203 yX6_isIn, Cond.static yX6_isIn, Cond.code yX6_isIn cX6_isIn 2 (some .boolean), Cond.methodLink RX6 82 yX3_transformed, Cond.static yX3_transformed]
def wsX6_fixedVariables_r2 : List Cond := [Cond.initialized RX3, Cond.code yX3_transformed cX3_transformed 6 (some .long), Cond.methodLink RX3 19 yX3_raised, Cond.static yX3_raised, Cond.code yX3_raised cX3_raised 3 (some .long), Cond.methodLink RX3 15 yX3_without, Cond.static yX3_without, Cond.code yX3_without cX3_without 1 (some .long), Cond.fieldLink RX3 9 "BooleanRing$Poly" "WITHOUT" "[J", Cond.methodLink RX6 75 yX3_lowerHalf, Cond.static yX3_lowerHalf, Cond.code yX3_lowerHalf cX3_lowerHalf 3 (some .long), Cond.methodLink RX6 79 yX3_upperHalf, Cond.static yX3_upperHalf, Cond.code yX3_upperHalf cX3_upperHalf 3 (some .long)]
def wsX6_fixedVariables : List Cond := .code yX6_fixedVariables cX6_fixedVariables 6 (some .int) :: ((wsX6_fixedVariables_r1 ++ wsX6_fixedVariables_r2) ++ wsX60)
def wsX6_type : List Cond := .code yX6_type cX6_type 2 (some .int) :: ([.fieldLink RX6 34 "BooleanRing" "typed" "LBooleanRing$Typed;", .methodLink RX6 182 yX5_append, .instanceMethod yX5_append, .selects RX5 yX5_append yX5_append, .initialized RX5, .code yX5_append cX5_append 2 (some .int), .fieldLink RX5 15 "BooleanRing$Typed" "length" "I", .fieldLink RX5 11 "BooleanRing$Typed" "text" "[C"] ++ wsX60 ++ wsX50)
def wsX6_clearText : List Cond := .code yX6_clearText cX6_clearText 1 (some .int) :: ([.fieldLink RX6 34 "BooleanRing" "typed" "LBooleanRing$Typed;", .methodLink RX6 186 yX5_empty, .instanceMethod yX5_empty, .selects RX5 yX5_empty yX5_empty, .initialized RX5, .code yX5_empty cX5_empty 2 (some .int), .fieldLink RX5 15 "BooleanRing$Typed" "length" "I"] ++ wsX60 ++ wsX50)
def wsX6_fault : List Cond := .code yX6_fault cX6_fault 1 (some .int) :: ([.fieldLink RX6 34 "BooleanRing" "typed" "LBooleanRing$Typed;", .fieldLink RX6 38 "BooleanRing" "n" "I", .methodLink RX6 189 yX5_firstFault, .instanceMethod yX5_firstFault, .selects RX5 yX5_firstFault yX5_firstFault, .initialized RX5, .code yX5_firstFault cX5_firstFault 4 (some .int), .fieldLink RX5 15 "BooleanRing$Typed" "length" "I", .fieldLink RX5 11 "BooleanRing$Typed" "text" "[C", .methodLink RX5 19 yX5_seenAfter, .static yX5_seenAfter, .code yX5_seenAfter cX5_seenAfter 4 (some .int)] ++ wsX60 ++ wsX50)
def wsX6_read_r1 : List Cond := [Cond.fieldLink RX6 34 "BooleanRing" "typed" "LBooleanRing$Typed;", Cond.fieldLink RX6 38 "BooleanRing" "n" "I", Cond.methodLink RX6 51 yX6_isRegister, Cond.static yX6_isRegister, Cond.initialized RX6, Cond.code yX6_isRegister cX6_isRegister 1 (some .boolean), Cond.methodLink RX6 189 yX5_firstFault, Cond.instanceMethod yX5_firstFault, Cond.selects RX5 yX5_firstFault yX5_firstFault, Cond.initialized RX5, Cond.code yX5_firstFault cX5_firstFault 4 (some .int), Cond.fieldLink RX5 15 "BooleanRing$Typed" "length" "I", Cond.fieldLink RX5 11 "BooleanRing$Typed" "text" "[C", Cond.methodLink RX5 19 yX5_seenAfter, Cond.static yX5_seenAfter, Cond.code yX5_seenAfter cX5_seenAfter 4 (some .int), Cond.methodLink RX6 192 yX5_polynomial, Cond.instanceMethod yX5_polynomial, Cond.selects RX5 yX5_polynomial yX5_polynomial, Cond.code yX5_polynomial cX5_polynomial 7 (some .long), Cond.methodLink RX5 23 yX3_ofMonomial, Cond.static yX3_ofMonomial, Cond.initialized RX3, Cond.code yX3_ofMonomial cX3_ofMonomial 1 (some .long)]
def wsX6_read_r2 : List Cond := [Cond.methodLink RX6 64 yX6_put, Cond.instanceMethod yX6_put, Cond.selects RX6 yX6_put yX6_put, Cond.code yX6_put cX6_put 4 (some .int), Cond.fieldLink RX6 20 "BooleanRing" "history" "LBooleanRing$History;", Cond.fieldLink RX6 9 "BooleanRing" "registers" "[J", Cond.methodLink RX6 152 yX1_keep, Cond.instanceMethod yX1_keep, Cond.selects RX1 yX1_keep yX1_keep, Cond.initialized RX1, Cond.code yX1_keep cX1_keep 2 none, Cond.fieldLink RX1 15 "BooleanRing$History" "kept" "I", Cond.fieldLink RX1 11 "BooleanRing$History" "states" "[J", Cond.methodLink RX1 19 arraycopyName, Cond.native arraycopyName, Cond.static arraycopyName, Cond.initialized "java/lang/System", Cond.methodLink RX6 110 yJ13_bitCount_95d88, Cond.static yJ13_bitCount_95d88, Cond.initialized RJ13, Cond.code yJ13_bitCount_95d88 cJ13_bitCount_95d88 2 (some .int), Cond.constantLong RJ13 314 (6148914691236517205), Cond.constantLong RJ13 316 (3689348814741910323), Cond.constantLong RJ13 318 (1085102592571150095)]
def wsX6_read : List Cond := .code yX6_read cX6_read 2 (some .int) :: ((wsX6_read_r1 ++ wsX6_read_r2) ++ wsX60 ++ wsX50 ++ wsX10)
def wsX6_textLength_r1 : List Cond := [Cond.fieldLink RX6 9 "BooleanRing" "registers" "[J", Cond.methodLink RX6 51 yX6_isRegister, Cond.static yX6_isRegister, Cond.initialized RX6, Cond.code yX6_isRegister cX6_isRegister 1 (some .boolean), Cond.methodLink RX6 195 yX4_lengthOf, Cond.static yX4_lengthOf, Cond.initialized RX4, Cond.code yX4_lengthOf cX4_lengthOf 4 (some .int), Cond.methodLink RX4 9 yX3_bit, Cond.static yX3_bit, Cond.initialized RX3, Cond.code yX3_bit cX3_bit 3 (some .int), Cond.methodLink RX4 15 yX4_widthOf, Cond.static yX4_widthOf, Cond.code yX4_widthOf cX4_widthOf 1 (some .int), Cond.methodLink RX4 39 yJ6_bitCount_0f7a4, Cond.static yJ6_bitCount_0f7a4, Cond.initialized RJ6, Cond.code yJ6_bitCount_0f7a4 cJ6_bitCount_0f7a4 1 (some .int), Cond.constant RJ6 265 (1431655765), Cond.constant RJ6 266 (858993459), Cond.constant RJ6 267 (252645135), Cond.methodLink RX4 21 yJ13_bitCount_95d88]
def wsX6_textLength_r2 : List Cond := [Cond.static yJ13_bitCount_95d88, Cond.initialized RJ13, Cond.code yJ13_bitCount_95d88 cJ13_bitCount_95d88 2 (some .int), Cond.constantLong RJ13 314 (6148914691236517205), Cond.constantLong RJ13 316 (3689348814741910323), Cond.constantLong RJ13 318 (1085102592571150095)]
def wsX6_textLength : List Cond := .code yX6_textLength cX6_textLength 2 (some .int) :: ((wsX6_textLength_r1 ++ wsX6_textLength_r2) ++ wsX60)
def wsX6_textAt_r1 : List Cond := [Cond.fieldLink RX6 9 "BooleanRing" "registers" "[J", Cond.methodLink RX6 51 yX6_isRegister, Cond.static yX6_isRegister, Cond.initialized RX6, Cond.code yX6_isRegister cX6_isRegister 1 (some .boolean), Cond.methodLink RX6 200 yX4_characterOf, Cond.static yX4_characterOf, Cond.initialized RX4, Cond.code yX4_characterOf cX4_characterOf 7 (some .int), Cond.methodLink RX4 27 yX4_lengthOf, Cond.static yX4_lengthOf, Cond.code yX4_lengthOf cX4_lengthOf 4 (some .int), Cond.methodLink RX4 9 yX3_bit, Cond.static yX3_bit, Cond.initialized RX3, Cond.code yX3_bit cX3_bit 3 (some .int), Cond.methodLink RX4 15 yX4_widthOf, Cond.static yX4_widthOf, Cond.code yX4_widthOf cX4_widthOf 1 (some .int), Cond.methodLink RX4 39 yJ6_bitCount_0f7a4, Cond.static yJ6_bitCount_0f7a4, Cond.initialized RJ6, Cond.code yJ6_bitCount_0f7a4 cJ6_bitCount_0f7a4 1 (some .int), Cond.constant RJ6 265 (1431655765)]
def wsX6_textAt_r2 : List Cond := [Cond.constant RJ6 266 (858993459), Cond.constant RJ6 267 (252645135), Cond.methodLink RX4 21 yJ13_bitCount_95d88, Cond.static yJ13_bitCount_95d88, Cond.initialized RJ13, Cond.code yJ13_bitCount_95d88 cJ13_bitCount_95d88 2 (some .int), Cond.constantLong RJ13 314 (6148914691236517205), Cond.constantLong RJ13 316 (3689348814741910323), Cond.constantLong RJ13 318 (1085102592571150095), Cond.methodLink RX4 32 yX2_monomialAt, Cond.static yX2_monomialAt, Cond.initialized RX2, Cond.code yX2_monomialAt cX2_monomialAt 3 (some .int), Cond.methodLink RX2 21 yX2_tableOf, Cond.static yX2_tableOf, Cond.code yX2_tableOf cX2_tableOf 1 (some (.array .int)), Cond.fieldLink RX2 9 "BooleanRing$Orders" "BY_LEX" "[I", Cond.fieldLink RX2 15 "BooleanRing$Orders" "BY_GRADED" "[I", Cond.fieldLink RX2 18 "BooleanRing$Orders" "BY_REVERSE" "[I", Cond.methodLink RX4 36 yX4_signOf, Cond.static yX4_signOf, Cond.code yX4_signOf cX4_signOf 4 (some .int)]
def wsX6_textAt : List Cond := .code yX6_textAt cX6_textAt 3 (some .int) :: ((wsX6_textAt_r1 ++ wsX6_textAt_r2) ++ wsX60)
def wsX7_init : List Cond := .code yX7_init cX7_init 1 none :: ([.methodLink RX7 1 objectInit, .instanceMethod objectInit, .code objectInit ⟨#[0xb1]⟩ 1 none, .fieldLink RX7 7 "BooleanRingModel" "n" "I", .arrayClass .long, .fieldLink RX7 13 "BooleanRingModel" "p" "[J", .fieldLink RX7 17 "BooleanRingModel" "was" "[J", .arrayClass .char, .fieldLink RX7 20 "BooleanRingModel" "text" "[C", .fieldLink RX7 24 "BooleanRingModel" "found" "[J", .fieldLink RX7 27 "BooleanRingModel" "by" "[J"] ++ wsX70)
def wsX7_in : List Cond := .code yX7_in cX7_in 3 (some .boolean) :: ([])
def wsX7_isRegister : List Cond := .code yX7_isRegister cX7_isRegister 1 (some .boolean) :: ([.methodLink RX7 30 yX7_in, .static yX7_in, .initialized RX7, .code yX7_in cX7_in 3 (some .boolean)])
def wsX7_isVariable : List Cond := .code yX7_isVariable cX7_isVariable 2 (some .boolean) :: ([.fieldLink RX7 7 "BooleanRingModel" "n" "I", .methodLink RX7 30 yX7_in, .static yX7_in, .initialized RX7, .code yX7_in cX7_in 3 (some .boolean)] ++ wsX70)
def wsX7_isMask : List Cond := .code yX7_isMask cX7_isMask 2 (some .boolean) :: ([.fieldLink RX7 7 "BooleanRingModel" "n" "I", .methodLink RX7 30 yX7_in, .static yX7_in, .initialized RX7, .code yX7_in cX7_in 3 (some .boolean)] ++ wsX70)
def wsX7_isOrder : List Cond := .code yX7_isOrder cX7_isOrder 1 (some .boolean) :: ([.methodLink RX7 30 yX7_in, .static yX7_in, .initialized RX7, .code yX7_in cX7_in 3 (some .boolean)])
def wsX7_isSet : List Cond := .code yX7_isSet cX7_isSet 1 (some .boolean) :: ([.methodLink RX7 30 yX7_in, .static yX7_in, .initialized RX7, .code yX7_in cX7_in 3 (some .boolean)])
def wsX7_has1 : List Cond := .code yX7_has1 cX7_has1 3 (some .boolean) :: ([])
def wsX7_many : List Cond := .code yX7_many cX7_many 5 (some .int) :: ([])
def wsX7_records : List Cond := .code yX7_records cX7_records 2 none :: ([.fieldLink RX7 34 "BooleanRingModel" "states" "I", .fieldLink RX7 17 "BooleanRingModel" "was" "[J", .fieldLink RX7 13 "BooleanRingModel" "p" "[J"] ++ wsX70)
def wsX7_gets : List Cond := .code yX7_gets cX7_gets 4 (some .int) :: ([.fieldLink RX7 13 "BooleanRingModel" "p" "[J", .methodLink RX7 37 yX7_records, .instanceMethod yX7_records, .selects RX7 yX7_records yX7_records, .initialized RX7, .code yX7_records cX7_records 2 none, .fieldLink RX7 34 "BooleanRingModel" "states" "I", .fieldLink RX7 17 "BooleanRingModel" "was" "[J", .methodLink RX7 40 yX7_many, .static yX7_many, .code yX7_many cX7_many 5 (some .int)] ++ wsX70)
def wsX7_product1 : List Cond := .code yX7_product1 cX7_product1 9 (some .long) :: ([.fieldLink RX7 7 "BooleanRingModel" "n" "I", .methodLink RX7 44 yX7_has1, .static yX7_has1, .initialized RX7, .code yX7_has1 cX7_has1 3 (some .boolean)] ++ wsX70)
def wsX7_upper : List Cond := .code yX7_upper cX7_upper 7 (some .long) :: ([.fieldLink RX7 7 "BooleanRingModel" "n" "I", .methodLink RX7 44 yX7_has1, .static yX7_has1, .initialized RX7, .code yX7_has1 cX7_has1 3 (some .boolean)] ++ wsX70)
def wsX7_lower : List Cond := .code yX7_lower cX7_lower 7 (some .long) :: ([.fieldLink RX7 7 "BooleanRingModel" "n" "I", .methodLink RX7 44 yX7_has1, .static yX7_has1, .initialized RX7, .code yX7_has1 cX7_has1 3 (some .boolean)] ++ wsX70)
def wsX7_values : List Cond := .code yX7_values cX7_values 7 (some .long) :: ([.fieldLink RX7 7 "BooleanRingModel" "n" "I", .methodLink RX7 44 yX7_has1, .static yX7_has1, .initialized RX7, .code yX7_has1 cX7_has1 3 (some .boolean)] ++ wsX70)
def wsX7_occurs : List Cond := .code yX7_occurs cX7_occurs 5 (some .int) :: ([.fieldLink RX7 7 "BooleanRingModel" "n" "I", .methodLink RX7 44 yX7_has1, .static yX7_has1, .initialized RX7, .code yX7_has1 cX7_has1 3 (some .boolean)] ++ wsX70)
def wsX7_reset : List Cond := .code yX7_reset cX7_reset 4 (some .int) :: ([.fieldLink RX7 7 "BooleanRingModel" "n" "I", .fieldLink RX7 34 "BooleanRingModel" "states" "I", .fieldLink RX7 13 "BooleanRingModel" "p" "[J", .methodLink RX7 30 yX7_in, .static yX7_in, .initialized RX7, .code yX7_in cX7_in 3 (some .boolean)] ++ wsX70)
def wsX7_variables : List Cond := .code yX7_variables cX7_variables 1 (some .int) :: ([.fieldLink RX7 7 "BooleanRingModel" "n" "I"] ++ wsX70)
def wsX7_toggle_r1 : List Cond := [Cond.fieldLink RX7 13 "BooleanRingModel" "p" "[J", Cond.methodLink RX7 48 yX7_isRegister, Cond.static yX7_isRegister, Cond.initialized RX7, Cond.code yX7_isRegister cX7_isRegister 1 (some .boolean), Cond.methodLink RX7 30 yX7_in, Cond.static yX7_in, Cond.code yX7_in cX7_in 3 (some .boolean), Cond.methodLink RX7 52 yX7_isMask, Cond.instanceMethod yX7_isMask, Cond.selects RX7 yX7_isMask yX7_isMask, Cond.code yX7_isMask cX7_isMask 2 (some .boolean), Cond.fieldLink RX7 7 "BooleanRingModel" "n" "I", Cond.methodLink RX7 55 yX7_gets, Cond.instanceMethod yX7_gets, Cond.selects RX7 yX7_gets yX7_gets, Cond.code yX7_gets cX7_gets 4 (some .int), Cond.methodLink RX7 37 yX7_records, Cond.instanceMethod yX7_records, Cond.selects RX7 yX7_records yX7_records, Cond.code yX7_records cX7_records 2 none, Cond.fieldLink RX7 34 "BooleanRingModel" "states" "I", Cond.fieldLink RX7 17 "BooleanRingModel" "was" "[J", Cond.methodLink RX7 40 yX7_many]
def wsX7_toggle_r2 : List Cond := [Cond.static yX7_many, Cond.code yX7_many cX7_many 5 (some .int)]
def wsX7_toggle : List Cond := .code yX7_toggle cX7_toggle 3 (some .int) :: ((wsX7_toggle_r1 ++ wsX7_toggle_r2) ++ wsX70)
def wsX7_copy : List Cond := .code yX7_copy cX7_copy 3 (some .int) :: ([.fieldLink RX7 13 "BooleanRingModel" "p" "[J", .methodLink RX7 48 yX7_isRegister, .static yX7_isRegister, .initialized RX7, .code yX7_isRegister cX7_isRegister 1 (some .boolean), .methodLink RX7 30 yX7_in, .static yX7_in, .code yX7_in cX7_in 3 (some .boolean), .methodLink RX7 55 yX7_gets, .instanceMethod yX7_gets, .selects RX7 yX7_gets yX7_gets, .code yX7_gets cX7_gets 4 (some .int), .methodLink RX7 37 yX7_records, .instanceMethod yX7_records, .selects RX7 yX7_records yX7_records, .code yX7_records cX7_records 2 none, .fieldLink RX7 34 "BooleanRingModel" "states" "I", .fieldLink RX7 17 "BooleanRingModel" "was" "[J", .methodLink RX7 40 yX7_many, .static yX7_many, .code yX7_many cX7_many 5 (some .int)] ++ wsX70)
def wsX7_sum : List Cond := .code yX7_sum cX7_sum 4 (some .int) :: ([.fieldLink RX7 13 "BooleanRingModel" "p" "[J", .methodLink RX7 48 yX7_isRegister, .static yX7_isRegister, .initialized RX7, .code yX7_isRegister cX7_isRegister 1 (some .boolean), .methodLink RX7 30 yX7_in, .static yX7_in, .code yX7_in cX7_in 3 (some .boolean), .methodLink RX7 55 yX7_gets, .instanceMethod yX7_gets, .selects RX7 yX7_gets yX7_gets, .code yX7_gets cX7_gets 4 (some .int), .methodLink RX7 37 yX7_records, .instanceMethod yX7_records, .selects RX7 yX7_records yX7_records, .code yX7_records cX7_records 2 none, .fieldLink RX7 34 "BooleanRingModel" "states" "I", .fieldLink RX7 17 "BooleanRingModel" "was" "[J", .methodLink RX7 40 yX7_many, .static yX7_many, .code yX7_many cX7_many 5 (some .int)] ++ wsX70)
def wsX7_product_r1 : List Cond := [Cond.fieldLink RX7 13 "BooleanRingModel" "p" "[J", Cond.methodLink RX7 48 yX7_isRegister, Cond.static yX7_isRegister, Cond.initialized RX7, Cond.code yX7_isRegister cX7_isRegister 1 (some .boolean), Cond.methodLink RX7 30 yX7_in, Cond.static yX7_in, Cond.code yX7_in cX7_in 3 (some .boolean), Cond.methodLink RX7 59 yX7_product1, Cond.instanceMethod yX7_product1, Cond.selects RX7 yX7_product1 yX7_product1, Cond.code yX7_product1 cX7_product1 9 (some .long), Cond.fieldLink RX7 7 "BooleanRingModel" "n" "I", Cond.methodLink RX7 44 yX7_has1, Cond.static yX7_has1, Cond.code yX7_has1 cX7_has1 3 (some .boolean), Cond.methodLink RX7 55 yX7_gets, Cond.instanceMethod yX7_gets, Cond.selects RX7 yX7_gets yX7_gets, Cond.code yX7_gets cX7_gets 4 (some .int), Cond.methodLink RX7 37 yX7_records, Cond.instanceMethod yX7_records, Cond.selects RX7 yX7_records yX7_records, Cond.code yX7_records cX7_records 2 none]
def wsX7_product_r2 : List Cond := [Cond.fieldLink RX7 34 "BooleanRingModel" "states" "I", Cond.fieldLink RX7 17 "BooleanRingModel" "was" "[J", Cond.methodLink RX7 40 yX7_many, Cond.static yX7_many, Cond.code yX7_many cX7_many 5 (some .int)]
def wsX7_product : List Cond := .code yX7_product cX7_product 4 (some .int) :: ((wsX7_product_r1 ++ wsX7_product_r2) ++ wsX70)
def wsX7_times_r1 : List Cond := [Cond.fieldLink RX7 13 "BooleanRingModel" "p" "[J", Cond.methodLink RX7 48 yX7_isRegister, Cond.static yX7_isRegister, Cond.initialized RX7, Cond.code yX7_isRegister cX7_isRegister 1 (some .boolean), Cond.methodLink RX7 30 yX7_in, Cond.static yX7_in, Cond.code yX7_in cX7_in 3 (some .boolean), Cond.methodLink RX7 52 yX7_isMask, Cond.instanceMethod yX7_isMask, Cond.selects RX7 yX7_isMask yX7_isMask, Cond.code yX7_isMask cX7_isMask 2 (some .boolean), Cond.fieldLink RX7 7 "BooleanRingModel" "n" "I", Cond.methodLink RX7 59 yX7_product1, Cond.instanceMethod yX7_product1, Cond.selects RX7 yX7_product1 yX7_product1, Cond.code yX7_product1 cX7_product1 9 (some .long), Cond.methodLink RX7 44 yX7_has1, Cond.static yX7_has1, Cond.code yX7_has1 cX7_has1 3 (some .boolean), Cond.methodLink RX7 55 yX7_gets, Cond.instanceMethod yX7_gets, Cond.selects RX7 yX7_gets yX7_gets, Cond.code yX7_gets cX7_gets 4 (some .int)]
def wsX7_times_r2 : List Cond := [Cond.methodLink RX7 37 yX7_records, Cond.instanceMethod yX7_records, Cond.selects RX7 yX7_records yX7_records, Cond.code yX7_records cX7_records 2 none, Cond.fieldLink RX7 34 "BooleanRingModel" "states" "I", Cond.fieldLink RX7 17 "BooleanRingModel" "was" "[J", Cond.methodLink RX7 40 yX7_many, Cond.static yX7_many, Cond.code yX7_many cX7_many 5 (some .int)]
def wsX7_times : List Cond := .code yX7_times cX7_times 4 (some .int) :: ((wsX7_times_r1 ++ wsX7_times_r2) ++ wsX70)
def wsX7_restrict_r1 : List Cond := [Cond.fieldLink RX7 13 "BooleanRingModel" "p" "[J", Cond.methodLink RX7 48 yX7_isRegister, Cond.static yX7_isRegister, Cond.initialized RX7, Cond.code yX7_isRegister cX7_isRegister 1 (some .boolean), Cond.methodLink RX7 30 yX7_in, Cond.static yX7_in, Cond.code yX7_in cX7_in 3 (some .boolean), Cond.methodLink RX7 63 yX7_isVariable, Cond.instanceMethod yX7_isVariable, Cond.selects RX7 yX7_isVariable yX7_isVariable, Cond.code yX7_isVariable cX7_isVariable 2 (some .boolean), Cond.fieldLink RX7 7 "BooleanRingModel" "n" "I", Cond.methodLink RX7 66 yX7_lower, Cond.instanceMethod yX7_lower, Cond.selects RX7 yX7_lower yX7_lower, Cond.code yX7_lower cX7_lower 7 (some .long), Cond.methodLink RX7 44 yX7_has1, Cond.static yX7_has1, Cond.code yX7_has1 cX7_has1 3 (some .boolean), Cond.methodLink RX7 70 yX7_upper, Cond.instanceMethod yX7_upper, Cond.selects RX7 yX7_upper yX7_upper, Cond.code yX7_upper cX7_upper 7 (some .long)]
def wsX7_restrict_r2 : List Cond := [Cond.methodLink RX7 55 yX7_gets, Cond.instanceMethod yX7_gets, Cond.selects RX7 yX7_gets yX7_gets, Cond.code yX7_gets cX7_gets 4 (some .int), Cond.methodLink RX7 37 yX7_records, Cond.instanceMethod yX7_records, Cond.selects RX7 yX7_records yX7_records, Cond.code yX7_records cX7_records 2 none, Cond.fieldLink RX7 34 "BooleanRingModel" "states" "I", Cond.fieldLink RX7 17 "BooleanRingModel" "was" "[J", Cond.methodLink RX7 40 yX7_many, Cond.static yX7_many, Cond.code yX7_many cX7_many 5 (some .int)]
def wsX7_restrict : List Cond := .code yX7_restrict cX7_restrict 5 (some .int) :: ((wsX7_restrict_r1 ++ wsX7_restrict_r2) ++ wsX70)
def wsX7_substitute_r1 : List Cond := [Cond.fieldLink RX7 13 "BooleanRingModel" "p" "[J", Cond.methodLink RX7 48 yX7_isRegister, Cond.static yX7_isRegister, Cond.initialized RX7, Cond.code yX7_isRegister cX7_isRegister 1 (some .boolean), Cond.methodLink RX7 30 yX7_in, Cond.static yX7_in, Cond.code yX7_in cX7_in 3 (some .boolean), Cond.methodLink RX7 63 yX7_isVariable, Cond.instanceMethod yX7_isVariable, Cond.selects RX7 yX7_isVariable yX7_isVariable, Cond.code yX7_isVariable cX7_isVariable 2 (some .boolean), Cond.fieldLink RX7 7 "BooleanRingModel" "n" "I", Cond.methodLink RX7 66 yX7_lower, Cond.instanceMethod yX7_lower, Cond.selects RX7 yX7_lower yX7_lower, Cond.code yX7_lower cX7_lower 7 (some .long), Cond.methodLink RX7 44 yX7_has1, Cond.static yX7_has1, Cond.code yX7_has1 cX7_has1 3 (some .boolean), Cond.methodLink RX7 70 yX7_upper, Cond.instanceMethod yX7_upper, Cond.selects RX7 yX7_upper yX7_upper, Cond.code yX7_upper cX7_upper 7 (some .long)]
def wsX7_substitute_r2 : List Cond := [Cond.methodLink RX7 59 yX7_product1, Cond.instanceMethod yX7_product1, Cond.selects RX7 yX7_product1 yX7_product1, Cond.code yX7_product1 cX7_product1 9 (some .long), Cond.methodLink RX7 55 yX7_gets, Cond.instanceMethod yX7_gets, Cond.selects RX7 yX7_gets yX7_gets, Cond.code yX7_gets cX7_gets 4 (some .int), Cond.methodLink RX7 37 yX7_records, Cond.instanceMethod yX7_records, Cond.selects RX7 yX7_records yX7_records, Cond.code yX7_records cX7_records 2 none, Cond.fieldLink RX7 34 "BooleanRingModel" "states" "I", Cond.fieldLink RX7 17 "BooleanRingModel" "was" "[J", Cond.methodLink RX7 40 yX7_many, Cond.static yX7_many, Cond.code yX7_many cX7_many 5 (some .int)]
def wsX7_substitute : List Cond := .code yX7_substitute cX7_substitute 5 (some .int) :: ((wsX7_substitute_r1 ++ wsX7_substitute_r2) ++ wsX70)
def wsX7_derivative_r1 : List Cond := [Cond.fieldLink RX7 13 "BooleanRingModel" "p" "[J", Cond.methodLink RX7 48 yX7_isRegister, Cond.static yX7_isRegister, Cond.initialized RX7, Cond.code yX7_isRegister cX7_isRegister 1 (some .boolean), Cond.methodLink RX7 30 yX7_in, Cond.static yX7_in, Cond.code yX7_in cX7_in 3 (some .boolean), Cond.methodLink RX7 63 yX7_isVariable, Cond.instanceMethod yX7_isVariable, Cond.selects RX7 yX7_isVariable yX7_isVariable, Cond.code yX7_isVariable cX7_isVariable 2 (some .boolean), Cond.fieldLink RX7 7 "BooleanRingModel" "n" "I", Cond.methodLink RX7 70 yX7_upper, Cond.instanceMethod yX7_upper, Cond.selects RX7 yX7_upper yX7_upper, Cond.code yX7_upper cX7_upper 7 (some .long), Cond.methodLink RX7 44 yX7_has1, Cond.static yX7_has1, Cond.code yX7_has1 cX7_has1 3 (some .boolean), Cond.methodLink RX7 55 yX7_gets, Cond.instanceMethod yX7_gets, Cond.selects RX7 yX7_gets yX7_gets, Cond.code yX7_gets cX7_gets 4 (some .int)]
def wsX7_derivative_r2 : List Cond := [Cond.methodLink RX7 37 yX7_records, Cond.instanceMethod yX7_records, Cond.selects RX7 yX7_records yX7_records, Cond.code yX7_records cX7_records 2 none, Cond.fieldLink RX7 34 "BooleanRingModel" "states" "I", Cond.fieldLink RX7 17 "BooleanRingModel" "was" "[J", Cond.methodLink RX7 40 yX7_many, Cond.static yX7_many, Cond.code yX7_many cX7_many 5 (some .int)]
def wsX7_derivative : List Cond := .code yX7_derivative cX7_derivative 4 (some .int) :: ((wsX7_derivative_r1 ++ wsX7_derivative_r2) ++ wsX70)
def wsX7_flip_r1 : List Cond := [Cond.fieldLink RX7 13 "BooleanRingModel" "p" "[J", Cond.methodLink RX7 48 yX7_isRegister, Cond.static yX7_isRegister, Cond.initialized RX7, Cond.code yX7_isRegister cX7_isRegister 1 (some .boolean), Cond.methodLink RX7 30 yX7_in, Cond.static yX7_in, Cond.code yX7_in cX7_in 3 (some .boolean), Cond.methodLink RX7 52 yX7_isMask, Cond.instanceMethod yX7_isMask, Cond.selects RX7 yX7_isMask yX7_isMask, Cond.code yX7_isMask cX7_isMask 2 (some .boolean), Cond.fieldLink RX7 7 "BooleanRingModel" "n" "I", Cond.methodLink RX7 73 yX7_values, Cond.instanceMethod yX7_values, Cond.selects RX7 yX7_values yX7_values, Cond.code yX7_values cX7_values 7 (some .long), Cond.methodLink RX7 44 yX7_has1, Cond.static yX7_has1, Cond.code yX7_has1 cX7_has1 3 (some .boolean), Cond.methodLink RX7 55 yX7_gets, Cond.instanceMethod yX7_gets, Cond.selects RX7 yX7_gets yX7_gets, Cond.code yX7_gets cX7_gets 4 (some .int)]
def wsX7_flip_r2 : List Cond := [Cond.methodLink RX7 37 yX7_records, Cond.instanceMethod yX7_records, Cond.selects RX7 yX7_records yX7_records, Cond.code yX7_records cX7_records 2 none, Cond.fieldLink RX7 34 "BooleanRingModel" "states" "I", Cond.fieldLink RX7 17 "BooleanRingModel" "was" "[J", Cond.methodLink RX7 40 yX7_many, Cond.static yX7_many, Cond.code yX7_many cX7_many 5 (some .int)]
def wsX7_flip : List Cond := .code yX7_flip cX7_flip 3 (some .int) :: ((wsX7_flip_r1 ++ wsX7_flip_r2) ++ wsX70)
def wsX7_exchange_r1 : List Cond := [Cond.fieldLink RX7 7 "BooleanRingModel" "n" "I", Cond.fieldLink RX7 13 "BooleanRingModel" "p" "[J", Cond.methodLink RX7 48 yX7_isRegister, Cond.static yX7_isRegister, Cond.initialized RX7, Cond.code yX7_isRegister cX7_isRegister 1 (some .boolean), Cond.methodLink RX7 30 yX7_in, Cond.static yX7_in, Cond.code yX7_in cX7_in 3 (some .boolean), Cond.methodLink RX7 63 yX7_isVariable, Cond.instanceMethod yX7_isVariable, Cond.selects RX7 yX7_isVariable yX7_isVariable, Cond.code yX7_isVariable cX7_isVariable 2 (some .boolean), Cond.methodLink RX7 44 yX7_has1, Cond.static yX7_has1, Cond.code yX7_has1 cX7_has1 3 (some .boolean), Cond.methodLink RX7 55 yX7_gets, Cond.instanceMethod yX7_gets, Cond.selects RX7 yX7_gets yX7_gets, Cond.code yX7_gets cX7_gets 4 (some .int), Cond.methodLink RX7 37 yX7_records, Cond.instanceMethod yX7_records, Cond.selects RX7 yX7_records yX7_records, Cond.code yX7_records cX7_records 2 none]
def wsX7_exchange_r2 : List Cond := [Cond.fieldLink RX7 34 "BooleanRingModel" "states" "I", Cond.fieldLink RX7 17 "BooleanRingModel" "was" "[J", Cond.methodLink RX7 40 yX7_many, Cond.static yX7_many, Cond.code yX7_many cX7_many 5 (some .int)]
def wsX7_exchange : List Cond := .code yX7_exchange cX7_exchange 8 (some .int) :: ((wsX7_exchange_r1 ++ wsX7_exchange_r2) ++ wsX70)
def wsX7_undo : List Cond := .code yX7_undo cX7_undo 2 (some .int) :: ([.fieldLink RX7 34 "BooleanRingModel" "states" "I", .fieldLink RX7 13 "BooleanRingModel" "p" "[J", .fieldLink RX7 17 "BooleanRingModel" "was" "[J"] ++ wsX70)
def wsX7_has : List Cond := .code yX7_has cX7_has 3 (some .int) :: ([.fieldLink RX7 13 "BooleanRingModel" "p" "[J", .methodLink RX7 48 yX7_isRegister, .static yX7_isRegister, .initialized RX7, .code yX7_isRegister cX7_isRegister 1 (some .boolean), .methodLink RX7 30 yX7_in, .static yX7_in, .code yX7_in cX7_in 3 (some .boolean), .methodLink RX7 52 yX7_isMask, .instanceMethod yX7_isMask, .selects RX7 yX7_isMask yX7_isMask, .code yX7_isMask cX7_isMask 2 (some .boolean), .fieldLink RX7 7 "BooleanRingModel" "n" "I", .methodLink RX7 44 yX7_has1, .static yX7_has1, .code yX7_has1 cX7_has1 3 (some .boolean)] ++ wsX70)
def wsX7_terms : List Cond := .code yX7_terms cX7_terms 2 (some .int) :: ([.fieldLink RX7 13 "BooleanRingModel" "p" "[J", .methodLink RX7 48 yX7_isRegister, .static yX7_isRegister, .initialized RX7, .code yX7_isRegister cX7_isRegister 1 (some .boolean), .methodLink RX7 30 yX7_in, .static yX7_in, .code yX7_in cX7_in 3 (some .boolean), .methodLink RX7 40 yX7_many, .static yX7_many, .code yX7_many cX7_many 5 (some .int)] ++ wsX70)
def wsX7_degree : List Cond := .code yX7_degree cX7_degree 5 (some .int) :: ([.fieldLink RX7 7 "BooleanRingModel" "n" "I", .fieldLink RX7 13 "BooleanRingModel" "p" "[J", .methodLink RX7 48 yX7_isRegister, .static yX7_isRegister, .initialized RX7, .code yX7_isRegister cX7_isRegister 1 (some .boolean), .methodLink RX7 30 yX7_in, .static yX7_in, .code yX7_in cX7_in 3 (some .boolean), .methodLink RX7 40 yX7_many, .static yX7_many, .code yX7_many cX7_many 5 (some .int), .methodLink RX7 44 yX7_has1, .static yX7_has1, .code yX7_has1 cX7_has1 3 (some .boolean)] ++ wsX70)
def wsX7_occurring : List Cond := .code yX7_occurring cX7_occurring 2 (some .int) :: ([.fieldLink RX7 13 "BooleanRingModel" "p" "[J", .methodLink RX7 48 yX7_isRegister, .static yX7_isRegister, .initialized RX7, .code yX7_isRegister cX7_isRegister 1 (some .boolean), .methodLink RX7 30 yX7_in, .static yX7_in, .code yX7_in cX7_in 3 (some .boolean), .methodLink RX7 77 yX7_occurs, .instanceMethod yX7_occurs, .selects RX7 yX7_occurs yX7_occurs, .code yX7_occurs cX7_occurs 5 (some .int), .fieldLink RX7 7 "BooleanRingModel" "n" "I", .methodLink RX7 44 yX7_has1, .static yX7_has1, .code yX7_has1 cX7_has1 3 (some .boolean)] ++ wsX70)
def wsX7_notes : List Cond := .code yX7_notes cX7_notes 5 none :: ([.fieldLink RX7 80 "BooleanRingModel" "founds" "I", .fieldLink RX7 24 "BooleanRingModel" "found" "[J", .methodLink RX7 77 yX7_occurs, .instanceMethod yX7_occurs, .selects RX7 yX7_occurs yX7_occurs, .initialized RX7, .code yX7_occurs cX7_occurs 5 (some .int), .fieldLink RX7 7 "BooleanRingModel" "n" "I", .methodLink RX7 44 yX7_has1, .static yX7_has1, .code yX7_has1 cX7_has1 3 (some .boolean)] ++ wsX70)
def wsX7_spreads : List Cond := .code yX7_spreads cX7_spreads 3 (some .int) :: ([.fieldLink RX7 80 "BooleanRingModel" "founds" "I", .fieldLink RX7 24 "BooleanRingModel" "found" "[J", .methodLink RX7 77 yX7_occurs, .instanceMethod yX7_occurs, .selects RX7 yX7_occurs yX7_occurs, .initialized RX7, .code yX7_occurs cX7_occurs 5 (some .int), .fieldLink RX7 7 "BooleanRingModel" "n" "I", .methodLink RX7 44 yX7_has1, .static yX7_has1, .code yX7_has1 cX7_has1 3 (some .boolean), .methodLink RX7 70 yX7_upper, .instanceMethod yX7_upper, .selects RX7 yX7_upper yX7_upper, .code yX7_upper cX7_upper 7 (some .long), .methodLink RX7 83 yX7_notes, .instanceMethod yX7_notes, .selects RX7 yX7_notes yX7_notes, .code yX7_notes cX7_notes 5 none, .methodLink RX7 66 yX7_lower, .instanceMethod yX7_lower, .selects RX7 yX7_lower yX7_lower, .code yX7_lower cX7_lower 7 (some .long)] ++ wsX70)
def wsX7_size_r1 : List Cond := [Cond.fieldLink RX7 80 "BooleanRingModel" "founds" "I", Cond.fieldLink RX7 13 "BooleanRingModel" "p" "[J", Cond.methodLink RX7 48 yX7_isRegister, Cond.static yX7_isRegister, Cond.initialized RX7, Cond.code yX7_isRegister cX7_isRegister 1 (some .boolean), Cond.methodLink RX7 30 yX7_in, Cond.static yX7_in, Cond.code yX7_in cX7_in 3 (some .boolean), Cond.methodLink RX7 83 yX7_notes, Cond.instanceMethod yX7_notes, Cond.selects RX7 yX7_notes yX7_notes, Cond.code yX7_notes cX7_notes 5 none, Cond.fieldLink RX7 24 "BooleanRingModel" "found" "[J", Cond.methodLink RX7 77 yX7_occurs, Cond.instanceMethod yX7_occurs, Cond.selects RX7 yX7_occurs yX7_occurs, Cond.code yX7_occurs cX7_occurs 5 (some .int), Cond.fieldLink RX7 7 "BooleanRingModel" "n" "I", Cond.methodLink RX7 44 yX7_has1, Cond.static yX7_has1, Cond.code yX7_has1 cX7_has1 3 (some .boolean), Cond.methodLink RX7 87 yX7_spreads, Cond.instanceMethod yX7_spreads]
def wsX7_size_r2 : List Cond := [Cond.selects RX7 yX7_spreads yX7_spreads, Cond.code yX7_spreads cX7_spreads 3 (some .int), Cond.methodLink RX7 70 yX7_upper, Cond.instanceMethod yX7_upper, Cond.selects RX7 yX7_upper yX7_upper, Cond.code yX7_upper cX7_upper 7 (some .long), Cond.methodLink RX7 66 yX7_lower, Cond.instanceMethod yX7_lower, Cond.selects RX7 yX7_lower yX7_lower, Cond.code yX7_lower cX7_lower 7 (some .long)]
def wsX7_size : List Cond := .code yX7_size cX7_size 2 (some .int) :: ((wsX7_size_r1 ++ wsX7_size_r2) ++ wsX70)
def wsX7_sharedSize_r1 : List Cond := [Cond.fieldLink RX7 80 "BooleanRingModel" "founds" "I", Cond.fieldLink RX7 13 "BooleanRingModel" "p" "[J", Cond.methodLink RX7 83 yX7_notes, Cond.instanceMethod yX7_notes, Cond.selects RX7 yX7_notes yX7_notes, Cond.initialized RX7, Cond.code yX7_notes cX7_notes 5 none, Cond.fieldLink RX7 24 "BooleanRingModel" "found" "[J", Cond.methodLink RX7 77 yX7_occurs, Cond.instanceMethod yX7_occurs, Cond.selects RX7 yX7_occurs yX7_occurs, Cond.code yX7_occurs cX7_occurs 5 (some .int), Cond.fieldLink RX7 7 "BooleanRingModel" "n" "I", Cond.methodLink RX7 44 yX7_has1, Cond.static yX7_has1, Cond.code yX7_has1 cX7_has1 3 (some .boolean), Cond.methodLink RX7 87 yX7_spreads, Cond.instanceMethod yX7_spreads, Cond.selects RX7 yX7_spreads yX7_spreads, Cond.code yX7_spreads cX7_spreads 3 (some .int), Cond.methodLink RX7 70 yX7_upper, Cond.instanceMethod yX7_upper, Cond.selects RX7 yX7_upper yX7_upper, Cond.code yX7_upper cX7_upper 7 (some .long)]
def wsX7_sharedSize_r2 : List Cond := [Cond.methodLink RX7 66 yX7_lower, Cond.instanceMethod yX7_lower, Cond.selects RX7 yX7_lower yX7_lower, Cond.code yX7_lower cX7_lower 7 (some .long)]
def wsX7_sharedSize : List Cond := .code yX7_sharedSize cX7_sharedSize 2 (some .int) :: ((wsX7_sharedSize_r1 ++ wsX7_sharedSize_r2) ++ wsX70)
def wsX7_isGreater : List Cond := .code yX7_isGreater cX7_isGreater 7 (some .boolean) :: ([.fieldLink RX7 7 "BooleanRingModel" "n" "I", .methodLink RX7 40 yX7_many, .static yX7_many, .initialized RX7, .code yX7_many cX7_many 5 (some .int)] ++ wsX70)
def wsX7_leads : List Cond := .code yX7_leads cX7_leads 6 (some .int) :: ([.fieldLink RX7 7 "BooleanRingModel" "n" "I", .methodLink RX7 44 yX7_has1, .static yX7_has1, .initialized RX7, .code yX7_has1 cX7_has1 3 (some .boolean), .methodLink RX7 91 yX7_isGreater, .instanceMethod yX7_isGreater, .selects RX7 yX7_isGreater yX7_isGreater, .code yX7_isGreater cX7_isGreater 7 (some .boolean), .methodLink RX7 40 yX7_many, .static yX7_many, .code yX7_many cX7_many 5 (some .int)] ++ wsX70)
def wsX7_termAt_r1 : List Cond := [Cond.fieldLink RX7 13 "BooleanRingModel" "p" "[J", Cond.methodLink RX7 48 yX7_isRegister, Cond.static yX7_isRegister, Cond.initialized RX7, Cond.code yX7_isRegister cX7_isRegister 1 (some .boolean), Cond.methodLink RX7 30 yX7_in, Cond.static yX7_in, Cond.code yX7_in cX7_in 3 (some .boolean), Cond.methodLink RX7 94 yX7_isOrder, Cond.static yX7_isOrder, Cond.code yX7_isOrder cX7_isOrder 1 (some .boolean), Cond.methodLink RX7 97 yX7_leads, Cond.instanceMethod yX7_leads, Cond.selects RX7 yX7_leads yX7_leads, Cond.code yX7_leads cX7_leads 6 (some .int), Cond.fieldLink RX7 7 "BooleanRingModel" "n" "I", Cond.methodLink RX7 44 yX7_has1, Cond.static yX7_has1, Cond.code yX7_has1 cX7_has1 3 (some .boolean), Cond.methodLink RX7 91 yX7_isGreater, Cond.instanceMethod yX7_isGreater, Cond.selects RX7 yX7_isGreater yX7_isGreater, Cond.code yX7_isGreater cX7_isGreater 7 (some .boolean), Cond.methodLink RX7 40 yX7_many]
def wsX7_termAt_r2 : List Cond := [Cond.static yX7_many, Cond.code yX7_many cX7_many 5 (some .int)]
def wsX7_termAt : List Cond := .code yX7_termAt cX7_termAt 7 (some .int) :: ((wsX7_termAt_r1 ++ wsX7_termAt_r2) ++ wsX70)
def wsX7_value : List Cond := .code yX7_value cX7_value 3 (some .int) :: ([.fieldLink RX7 13 "BooleanRingModel" "p" "[J", .methodLink RX7 48 yX7_isRegister, .static yX7_isRegister, .initialized RX7, .code yX7_isRegister cX7_isRegister 1 (some .boolean), .methodLink RX7 30 yX7_in, .static yX7_in, .code yX7_in cX7_in 3 (some .boolean), .methodLink RX7 52 yX7_isMask, .instanceMethod yX7_isMask, .selects RX7 yX7_isMask yX7_isMask, .code yX7_isMask cX7_isMask 2 (some .boolean), .fieldLink RX7 7 "BooleanRingModel" "n" "I", .methodLink RX7 73 yX7_values, .instanceMethod yX7_values, .selects RX7 yX7_values yX7_values, .code yX7_values cX7_values 7 (some .long), .methodLink RX7 44 yX7_has1, .static yX7_has1, .code yX7_has1 cX7_has1 3 (some .boolean)] ++ wsX70)
def wsX7_isSame : List Cond := .code yX7_isSame cX7_isSame 3 (some .int) :: ([.fieldLink RX7 13 "BooleanRingModel" "p" "[J", .methodLink RX7 48 yX7_isRegister, .static yX7_isRegister, .initialized RX7, .code yX7_isRegister cX7_isRegister 1 (some .boolean), .methodLink RX7 30 yX7_in, .static yX7_in, .code yX7_in cX7_in 3 (some .boolean)] ++ wsX70)
def wsX7_taker : List Cond := .code yX7_taker cX7_taker 6 (some .int) :: ([.fieldLink RX7 27 "BooleanRingModel" "by" "[J", .methodLink RX7 97 yX7_leads, .instanceMethod yX7_leads, .selects RX7 yX7_leads yX7_leads, .initialized RX7, .code yX7_leads cX7_leads 6 (some .int), .fieldLink RX7 7 "BooleanRingModel" "n" "I", .methodLink RX7 44 yX7_has1, .static yX7_has1, .code yX7_has1 cX7_has1 3 (some .boolean), .methodLink RX7 91 yX7_isGreater, .instanceMethod yX7_isGreater, .selects RX7 yX7_isGreater yX7_isGreater, .code yX7_isGreater cX7_isGreater 7 (some .boolean), .methodLink RX7 40 yX7_many, .static yX7_many, .code yX7_many cX7_many 5 (some .int)] ++ wsX70)
def wsX7_reduce_r1 : List Cond := [Cond.fieldLink RX7 27 "BooleanRingModel" "by" "[J", Cond.fieldLink RX7 13 "BooleanRingModel" "p" "[J", Cond.constantLong RX7 104 (-1), Cond.methodLink RX7 48 yX7_isRegister, Cond.static yX7_isRegister, Cond.initialized RX7, Cond.code yX7_isRegister cX7_isRegister 1 (some .boolean), Cond.methodLink RX7 30 yX7_in, Cond.static yX7_in, Cond.code yX7_in cX7_in 3 (some .boolean), Cond.methodLink RX7 101 yX7_isSet, Cond.static yX7_isSet, Cond.code yX7_isSet cX7_isSet 1 (some .boolean), Cond.methodLink RX7 94 yX7_isOrder, Cond.static yX7_isOrder, Cond.code yX7_isOrder cX7_isOrder 1 (some .boolean), Cond.methodLink RX7 97 yX7_leads, Cond.instanceMethod yX7_leads, Cond.selects RX7 yX7_leads yX7_leads, Cond.code yX7_leads cX7_leads 6 (some .int), Cond.fieldLink RX7 7 "BooleanRingModel" "n" "I", Cond.methodLink RX7 44 yX7_has1, Cond.static yX7_has1, Cond.code yX7_has1 cX7_has1 3 (some .boolean)]
def wsX7_reduce_r2 : List Cond := [Cond.methodLink RX7 91 yX7_isGreater, Cond.instanceMethod yX7_isGreater, Cond.selects RX7 yX7_isGreater yX7_isGreater, Cond.code yX7_isGreater cX7_isGreater 7 (some .boolean), Cond.methodLink RX7 40 yX7_many, Cond.static yX7_many, Cond.code yX7_many cX7_many 5 (some .int), Cond.methodLink RX7 106 yX7_taker, Cond.instanceMethod yX7_taker, Cond.selects RX7 yX7_taker yX7_taker, Cond.code yX7_taker cX7_taker 6 (some .int), Cond.methodLink RX7 59 yX7_product1, Cond.instanceMethod yX7_product1, Cond.selects RX7 yX7_product1 yX7_product1, Cond.code yX7_product1 cX7_product1 9 (some .long), Cond.methodLink RX7 55 yX7_gets, Cond.instanceMethod yX7_gets, Cond.selects RX7 yX7_gets yX7_gets, Cond.code yX7_gets cX7_gets 4 (some .int), Cond.methodLink RX7 37 yX7_records, Cond.instanceMethod yX7_records, Cond.selects RX7 yX7_records yX7_records, Cond.code yX7_records cX7_records 2 none, Cond.fieldLink RX7 34 "BooleanRingModel" "states" "I"]
def wsX7_reduce_r3 : List Cond := [Cond.fieldLink RX7 17 "BooleanRingModel" "was" "[J"]
def wsX7_reduce : List Cond := .code yX7_reduce cX7_reduce 12 (some .int) :: ((wsX7_reduce_r1 ++ (wsX7_reduce_r2 ++ wsX7_reduce_r3)) ++ wsX70)
def wsX7_echelon_r1 : List Cond := [Cond.fieldLink RX7 27 "BooleanRingModel" "by" "[J", Cond.fieldLink RX7 13 "BooleanRingModel" "p" "[J", Cond.methodLink RX7 101 yX7_isSet, Cond.static yX7_isSet, Cond.initialized RX7, Cond.code yX7_isSet cX7_isSet 1 (some .boolean), Cond.methodLink RX7 30 yX7_in, Cond.static yX7_in, Cond.code yX7_in cX7_in 3 (some .boolean), Cond.methodLink RX7 94 yX7_isOrder, Cond.static yX7_isOrder, Cond.code yX7_isOrder cX7_isOrder 1 (some .boolean), Cond.methodLink RX7 37 yX7_records, Cond.instanceMethod yX7_records, Cond.selects RX7 yX7_records yX7_records, Cond.code yX7_records cX7_records 2 none, Cond.fieldLink RX7 34 "BooleanRingModel" "states" "I", Cond.fieldLink RX7 17 "BooleanRingModel" "was" "[J", Cond.methodLink RX7 97 yX7_leads, Cond.instanceMethod yX7_leads, Cond.selects RX7 yX7_leads yX7_leads, Cond.code yX7_leads cX7_leads 6 (some .int), Cond.fieldLink RX7 7 "BooleanRingModel" "n" "I", Cond.methodLink RX7 44 yX7_has1]
def wsX7_echelon_r2 : List Cond := [Cond.static yX7_has1, Cond.code yX7_has1 cX7_has1 3 (some .boolean), Cond.methodLink RX7 91 yX7_isGreater, Cond.instanceMethod yX7_isGreater, Cond.selects RX7 yX7_isGreater yX7_isGreater, Cond.code yX7_isGreater cX7_isGreater 7 (some .boolean), Cond.methodLink RX7 40 yX7_many, Cond.static yX7_many, Cond.code yX7_many cX7_many 5 (some .int)]
def wsX7_echelon : List Cond := .code yX7_echelon cX7_echelon 11 (some .int) :: ((wsX7_echelon_r1 ++ wsX7_echelon_r2) ++ wsX70)
def wsX7_barred : List Cond := .code yX7_barred cX7_barred 5 (some .long) :: ([.fieldLink RX7 13 "BooleanRingModel" "p" "[J", .methodLink RX7 73 yX7_values, .instanceMethod yX7_values, .selects RX7 yX7_values yX7_values, .initialized RX7, .code yX7_values cX7_values 7 (some .long), .fieldLink RX7 7 "BooleanRingModel" "n" "I", .methodLink RX7 44 yX7_has1, .static yX7_has1, .code yX7_has1 cX7_has1 3 (some .boolean)] ++ wsX70)
def wsX7_zeros : List Cond := .code yX7_zeros cX7_zeros 2 (some .int) :: ([.fieldLink RX7 7 "BooleanRingModel" "n" "I", .methodLink RX7 101 yX7_isSet, .static yX7_isSet, .initialized RX7, .code yX7_isSet cX7_isSet 1 (some .boolean), .methodLink RX7 30 yX7_in, .static yX7_in, .code yX7_in cX7_in 3 (some .boolean), .methodLink RX7 110 yX7_barred, .instanceMethod yX7_barred, .selects RX7 yX7_barred yX7_barred, .code yX7_barred cX7_barred 5 (some .long), .fieldLink RX7 13 "BooleanRingModel" "p" "[J", .methodLink RX7 73 yX7_values, .instanceMethod yX7_values, .selects RX7 yX7_values yX7_values, .code yX7_values cX7_values 7 (some .long), .methodLink RX7 44 yX7_has1, .static yX7_has1, .code yX7_has1 cX7_has1 3 (some .boolean), .methodLink RX7 40 yX7_many, .static yX7_many, .code yX7_many cX7_many 5 (some .int)] ++ wsX70)
def wsX7_zeroAt : List Cond := .code yX7_zeroAt cX7_zeroAt 7 (some .int) :: ([.fieldLink RX7 7 "BooleanRingModel" "n" "I", .methodLink RX7 101 yX7_isSet, .static yX7_isSet, .initialized RX7, .code yX7_isSet cX7_isSet 1 (some .boolean), .methodLink RX7 30 yX7_in, .static yX7_in, .code yX7_in cX7_in 3 (some .boolean), .methodLink RX7 110 yX7_barred, .instanceMethod yX7_barred, .selects RX7 yX7_barred yX7_barred, .code yX7_barred cX7_barred 5 (some .long), .fieldLink RX7 13 "BooleanRingModel" "p" "[J", .methodLink RX7 73 yX7_values, .instanceMethod yX7_values, .selects RX7 yX7_values yX7_values, .code yX7_values cX7_values 7 (some .long), .methodLink RX7 44 yX7_has1, .static yX7_has1, .code yX7_has1 cX7_has1 3 (some .boolean)] ++ wsX70)
def wsX7_combine_r1 : List Cond := [Cond.methodLink RX7 101 yX7_isSet, Cond.static yX7_isSet, Cond.initialized RX7, Cond.code yX7_isSet cX7_isSet 1 (some .boolean), Cond.methodLink RX7 30 yX7_in, Cond.static yX7_in, Cond.code yX7_in cX7_in 3 (some .boolean), Cond.methodLink RX7 48 yX7_isRegister, Cond.static yX7_isRegister, Cond.code yX7_isRegister cX7_isRegister 1 (some .boolean), Cond.methodLink RX7 110 yX7_barred, Cond.instanceMethod yX7_barred, Cond.selects RX7 yX7_barred yX7_barred, Cond.code yX7_barred cX7_barred 5 (some .long), Cond.fieldLink RX7 13 "BooleanRingModel" "p" "[J", Cond.methodLink RX7 73 yX7_values, Cond.instanceMethod yX7_values, Cond.selects RX7 yX7_values yX7_values, Cond.code yX7_values cX7_values 7 (some .long), Cond.fieldLink RX7 7 "BooleanRingModel" "n" "I", Cond.methodLink RX7 44 yX7_has1, Cond.static yX7_has1, Cond.code yX7_has1 cX7_has1 3 (some .boolean), Cond.methodLink RX7 55 yX7_gets]
def wsX7_combine_r2 : List Cond := [Cond.instanceMethod yX7_gets, Cond.selects RX7 yX7_gets yX7_gets, Cond.code yX7_gets cX7_gets 4 (some .int), Cond.methodLink RX7 37 yX7_records, Cond.instanceMethod yX7_records, Cond.selects RX7 yX7_records yX7_records, Cond.code yX7_records cX7_records 2 none, Cond.fieldLink RX7 34 "BooleanRingModel" "states" "I", Cond.fieldLink RX7 17 "BooleanRingModel" "was" "[J", Cond.methodLink RX7 40 yX7_many, Cond.static yX7_many, Cond.code yX7_many cX7_many 5 (some .int)]
def wsX7_combine : List Cond := .code yX7_combine cX7_combine 3 (some .int) :: ((wsX7_combine_r1 ++ wsX7_combine_r2) ++ wsX70)
def wsX7_eliminate_r1 : List Cond := [Cond.fieldLink RX7 7 "BooleanRingModel" "n" "I", Cond.methodLink RX7 101 yX7_isSet, Cond.static yX7_isSet, Cond.initialized RX7, Cond.code yX7_isSet cX7_isSet 1 (some .boolean), Cond.methodLink RX7 30 yX7_in, Cond.static yX7_in, Cond.code yX7_in cX7_in 3 (some .boolean), Cond.methodLink RX7 63 yX7_isVariable, Cond.instanceMethod yX7_isVariable, Cond.selects RX7 yX7_isVariable yX7_isVariable, Cond.code yX7_isVariable cX7_isVariable 2 (some .boolean), Cond.methodLink RX7 48 yX7_isRegister, Cond.static yX7_isRegister, Cond.code yX7_isRegister cX7_isRegister 1 (some .boolean), Cond.methodLink RX7 110 yX7_barred, Cond.instanceMethod yX7_barred, Cond.selects RX7 yX7_barred yX7_barred, Cond.code yX7_barred cX7_barred 5 (some .long), Cond.fieldLink RX7 13 "BooleanRingModel" "p" "[J", Cond.methodLink RX7 73 yX7_values, Cond.instanceMethod yX7_values, Cond.selects RX7 yX7_values yX7_values, Cond.code yX7_values cX7_values 7 (some .long)]
def wsX7_eliminate_r2 : List Cond := [Cond.methodLink RX7 44 yX7_has1, Cond.static yX7_has1, Cond.code yX7_has1 cX7_has1 3 (some .boolean), Cond.methodLink RX7 55 yX7_gets, Cond.instanceMethod yX7_gets, Cond.selects RX7 yX7_gets yX7_gets, Cond.code yX7_gets cX7_gets 4 (some .int), Cond.methodLink RX7 37 yX7_records, Cond.instanceMethod yX7_records, Cond.selects RX7 yX7_records yX7_records, Cond.code yX7_records cX7_records 2 none, Cond.fieldLink RX7 34 "BooleanRingModel" "states" "I", Cond.fieldLink RX7 17 "BooleanRingModel" "was" "[J", Cond.methodLink RX7 40 yX7_many, Cond.static yX7_many, Cond.code yX7_many cX7_many 5 (some .int)]
def wsX7_eliminate : List Cond := .code yX7_eliminate cX7_eliminate 9 (some .int) :: ((wsX7_eliminate_r1 ++ wsX7_eliminate_r2) ++ wsX70)
def wsX7_fibres : List Cond := .code yX7_fibres cX7_fibres 9 (some .int) :: ([.fieldLink RX7 7 "BooleanRingModel" "n" "I", .methodLink RX7 101 yX7_isSet, .static yX7_isSet, .initialized RX7, .code yX7_isSet cX7_isSet 1 (some .boolean), .methodLink RX7 30 yX7_in, .static yX7_in, .code yX7_in cX7_in 3 (some .boolean), .methodLink RX7 63 yX7_isVariable, .instanceMethod yX7_isVariable, .selects RX7 yX7_isVariable yX7_isVariable, .code yX7_isVariable cX7_isVariable 2 (some .boolean), .methodLink RX7 110 yX7_barred, .instanceMethod yX7_barred, .selects RX7 yX7_barred yX7_barred, .code yX7_barred cX7_barred 5 (some .long), .fieldLink RX7 13 "BooleanRingModel" "p" "[J", .methodLink RX7 73 yX7_values, .instanceMethod yX7_values, .selects RX7 yX7_values yX7_values, .code yX7_values cX7_values 7 (some .long), .methodLink RX7 44 yX7_has1, .static yX7_has1, .code yX7_has1 cX7_has1 3 (some .boolean)] ++ wsX70)
def wsX7_isMember : List Cond := .code yX7_isMember cX7_isMember 3 (some .int) :: ([.fieldLink RX7 13 "BooleanRingModel" "p" "[J", .constantLong RX7 104 (-1), .methodLink RX7 48 yX7_isRegister, .static yX7_isRegister, .initialized RX7, .code yX7_isRegister cX7_isRegister 1 (some .boolean), .methodLink RX7 30 yX7_in, .static yX7_in, .code yX7_in cX7_in 3 (some .boolean), .methodLink RX7 101 yX7_isSet, .static yX7_isSet, .code yX7_isSet cX7_isSet 1 (some .boolean), .methodLink RX7 73 yX7_values, .instanceMethod yX7_values, .selects RX7 yX7_values yX7_values, .code yX7_values cX7_values 7 (some .long), .fieldLink RX7 7 "BooleanRingModel" "n" "I", .methodLink RX7 44 yX7_has1, .static yX7_has1, .code yX7_has1 cX7_has1 3 (some .boolean), .methodLink RX7 110 yX7_barred, .instanceMethod yX7_barred, .selects RX7 yX7_barred yX7_barred, .code yX7_barred cX7_barred 5 (some .long)] ++ wsX70)
def wsX7_isSameIdeal : List Cond := .code yX7_isSameIdeal cX7_isSameIdeal 3 (some .int) :: ([.methodLink RX7 101 yX7_isSet, .static yX7_isSet, .initialized RX7, .code yX7_isSet cX7_isSet 1 (some .boolean), .methodLink RX7 30 yX7_in, .static yX7_in, .code yX7_in cX7_in 3 (some .boolean), .methodLink RX7 110 yX7_barred, .instanceMethod yX7_barred, .selects RX7 yX7_barred yX7_barred, .code yX7_barred cX7_barred 5 (some .long), .fieldLink RX7 13 "BooleanRingModel" "p" "[J", .methodLink RX7 73 yX7_values, .instanceMethod yX7_values, .selects RX7 yX7_values yX7_values, .code yX7_values cX7_values 7 (some .long), .fieldLink RX7 7 "BooleanRingModel" "n" "I", .methodLink RX7 44 yX7_has1, .static yX7_has1, .code yX7_has1 cX7_has1 3 (some .boolean)] ++ wsX70)
def wsX7_fixedVariables : List Cond := .code yX7_fixedVariables cX7_fixedVariables 7 (some .int) :: ([.fieldLink RX7 7 "BooleanRingModel" "n" "I", .methodLink RX7 101 yX7_isSet, .static yX7_isSet, .initialized RX7, .code yX7_isSet cX7_isSet 1 (some .boolean), .methodLink RX7 30 yX7_in, .static yX7_in, .code yX7_in cX7_in 3 (some .boolean), .methodLink RX7 110 yX7_barred, .instanceMethod yX7_barred, .selects RX7 yX7_barred yX7_barred, .code yX7_barred cX7_barred 5 (some .long), .fieldLink RX7 13 "BooleanRingModel" "p" "[J", .methodLink RX7 73 yX7_values, .instanceMethod yX7_values, .selects RX7 yX7_values yX7_values, .code yX7_values cX7_values 7 (some .long), .methodLink RX7 44 yX7_has1, .static yX7_has1, .code yX7_has1 cX7_has1 3 (some .boolean), .methodLink RX7 40 yX7_many, .static yX7_many, .code yX7_many cX7_many 5 (some .int)] ++ wsX70)
def wsX7_type : List Cond := .code yX7_type cX7_type 2 (some .int) :: ([.fieldLink RX7 114 "BooleanRingModel" "typed" "I", .fieldLink RX7 20 "BooleanRingModel" "text" "[C", .methodLink RX7 30 yX7_in, .static yX7_in, .initialized RX7, .code yX7_in cX7_in 3 (some .boolean)] ++ wsX70)
def wsX7_clearText : List Cond := .code yX7_clearText cX7_clearText 2 (some .int) :: ([.fieldLink RX7 114 "BooleanRingModel" "typed" "I"] ++ wsX70)
def wsX7_behind : List Cond := .code yX7_behind cX7_behind 4 (some .int) :: ([.fieldLink RX7 7 "BooleanRingModel" "n" "I", .methodLink RX7 30 yX7_in, .static yX7_in, .initialized RX7, .code yX7_in cX7_in 3 (some .boolean)] ++ wsX70)
def wsX7_fault : List Cond := .code yX7_fault cX7_fault 3 (some .int) :: ([.fieldLink RX7 114 "BooleanRingModel" "typed" "I", .fieldLink RX7 20 "BooleanRingModel" "text" "[C", .methodLink RX7 117 yX7_behind, .instanceMethod yX7_behind, .selects RX7 yX7_behind yX7_behind, .initialized RX7, .code yX7_behind cX7_behind 4 (some .int), .fieldLink RX7 7 "BooleanRingModel" "n" "I", .methodLink RX7 30 yX7_in, .static yX7_in, .code yX7_in cX7_in 3 (some .boolean)] ++ wsX70)
def wsX7_read_r1 : List Cond := [Cond.fieldLink RX7 114 "BooleanRingModel" "typed" "I", Cond.fieldLink RX7 20 "BooleanRingModel" "text" "[C", Cond.methodLink RX7 48 yX7_isRegister, Cond.static yX7_isRegister, Cond.initialized RX7, Cond.code yX7_isRegister cX7_isRegister 1 (some .boolean), Cond.methodLink RX7 30 yX7_in, Cond.static yX7_in, Cond.code yX7_in cX7_in 3 (some .boolean), Cond.methodLink RX7 121 yX7_fault, Cond.instanceMethod yX7_fault, Cond.selects RX7 yX7_fault yX7_fault, Cond.code yX7_fault cX7_fault 3 (some .int), Cond.methodLink RX7 117 yX7_behind, Cond.instanceMethod yX7_behind, Cond.selects RX7 yX7_behind yX7_behind, Cond.code yX7_behind cX7_behind 4 (some .int), Cond.fieldLink RX7 7 "BooleanRingModel" "n" "I", Cond.methodLink RX7 55 yX7_gets, Cond.instanceMethod yX7_gets, Cond.selects RX7 yX7_gets yX7_gets, Cond.code yX7_gets cX7_gets 4 (some .int), Cond.fieldLink RX7 13 "BooleanRingModel" "p" "[J", Cond.methodLink RX7 37 yX7_records]
def wsX7_read_r2 : List Cond := [Cond.instanceMethod yX7_records, Cond.selects RX7 yX7_records yX7_records, Cond.code yX7_records cX7_records 2 none, Cond.fieldLink RX7 34 "BooleanRingModel" "states" "I", Cond.fieldLink RX7 17 "BooleanRingModel" "was" "[J", Cond.methodLink RX7 40 yX7_many, Cond.static yX7_many, Cond.code yX7_many cX7_many 5 (some .int)]
def wsX7_read : List Cond := .code yX7_read cX7_read 8 (some .int) :: ((wsX7_read_r1 ++ wsX7_read_r2) ++ wsX70)
def wsX7_longOf : List Cond := .code yX7_longOf cX7_longOf 1 (some .int) :: ([.methodLink RX7 40 yX7_many, .static yX7_many, .initialized RX7, .code yX7_many cX7_many 5 (some .int)])
def wsX7_textLength : List Cond := .code yX7_textLength cX7_textLength 4 (some .int) :: ([.fieldLink RX7 13 "BooleanRingModel" "p" "[J", .fieldLink RX7 7 "BooleanRingModel" "n" "I", .methodLink RX7 48 yX7_isRegister, .static yX7_isRegister, .initialized RX7, .code yX7_isRegister cX7_isRegister 1 (some .boolean), .methodLink RX7 30 yX7_in, .static yX7_in, .code yX7_in cX7_in 3 (some .boolean), .methodLink RX7 44 yX7_has1, .static yX7_has1, .code yX7_has1 cX7_has1 3 (some .boolean), .methodLink RX7 124 yX7_longOf, .static yX7_longOf, .code yX7_longOf cX7_longOf 1 (some .int), .methodLink RX7 40 yX7_many, .static yX7_many, .code yX7_many cX7_many 5 (some .int)] ++ wsX70)
def wsX7_letter : List Cond := .code yX7_letter cX7_letter 4 (some .int) :: ([])
def wsX7_textAt_r1 : List Cond := [Cond.fieldLink RX7 13 "BooleanRingModel" "p" "[J", Cond.methodLink RX7 48 yX7_isRegister, Cond.static yX7_isRegister, Cond.initialized RX7, Cond.code yX7_isRegister cX7_isRegister 1 (some .boolean), Cond.methodLink RX7 30 yX7_in, Cond.static yX7_in, Cond.code yX7_in cX7_in 3 (some .boolean), Cond.methodLink RX7 97 yX7_leads, Cond.instanceMethod yX7_leads, Cond.selects RX7 yX7_leads yX7_leads, Cond.code yX7_leads cX7_leads 6 (some .int), Cond.fieldLink RX7 7 "BooleanRingModel" "n" "I", Cond.methodLink RX7 44 yX7_has1, Cond.static yX7_has1, Cond.code yX7_has1 cX7_has1 3 (some .boolean), Cond.methodLink RX7 91 yX7_isGreater, Cond.instanceMethod yX7_isGreater, Cond.selects RX7 yX7_isGreater yX7_isGreater, Cond.code yX7_isGreater cX7_isGreater 7 (some .boolean), Cond.methodLink RX7 40 yX7_many, Cond.static yX7_many, Cond.code yX7_many cX7_many 5 (some .int), Cond.methodLink RX7 124 yX7_longOf]
def wsX7_textAt_r2 : List Cond := [Cond.static yX7_longOf, Cond.code yX7_longOf cX7_longOf 1 (some .int), Cond.methodLink RX7 128 yX7_letter, Cond.static yX7_letter, Cond.code yX7_letter cX7_letter 4 (some .int)]
def wsX7_textAt : List Cond := .code yX7_textAt cX7_textAt 7 (some .int) :: ((wsX7_textAt_r1 ++ wsX7_textAt_r2) ++ wsX70)
def wsJ9_max_7cf53 : List Cond := .code yJ9_max_7cf53 cJ9_max_7cf53 2 (some .int) :: ([])
def wsJ9_min_7cf53 : List Cond := .code yJ9_min_7cf53 cJ9_min_7cf53 2 (some .int) :: ([])
def wsL_law_r1 : List Cond := [Cond.classLink RL 7 RX6, Cond.instantiable RX6 6, Cond.initialized RX6, Cond.classLink RL 10 RX7, Cond.instantiable RX7 9, Cond.initialized RX7, Cond.methodLink RL 9 yX6_init, Cond.instanceMethod yX6_init, Cond.code yX6_init cX6_init 1 none, Cond.methodLink RX6 3 objectInit, Cond.instanceMethod objectInit, Cond.code objectInit ⟨#[0xb1]⟩ 1 none, Cond.arrayClass .long, Cond.fieldLink RX6 9 "BooleanRing" "registers" "[J", Cond.arrayClass .int, Cond.fieldLink RX6 13 "BooleanRing" "leading" "[I", Cond.classLink RX6 17 RX1, Cond.instantiable RX1 2, Cond.initialized RX1, Cond.fieldLink RX6 20 "BooleanRing" "history" "LBooleanRing$History;", Cond.classLink RX6 24 RX0, Cond.instantiable RX0 2, Cond.initialized RX0, Cond.fieldLink RX6 27 "BooleanRing" "diagrams" "LBooleanRing$Diagrams;"]
def wsL_law_r2 : List Cond := [Cond.classLink RX6 31 RX5, Cond.instantiable RX5 2, Cond.initialized RX5, Cond.fieldLink RX6 34 "BooleanRing" "typed" "LBooleanRing$Typed;", Cond.fieldLink RX6 38 "BooleanRing" "n" "I", Cond.instanceMethod yX1_init, Cond.code yX1_init cX1_init 1 none, Cond.methodLink RX1 3 objectInit, Cond.fieldLink RX1 11 "BooleanRing$History" "states" "[J", Cond.fieldLink RX1 15 "BooleanRing$History" "kept" "I", Cond.instanceMethod yX0_init, Cond.code yX0_init cX0_init 1 none, Cond.methodLink RX0 3 objectInit, Cond.fieldLink RX0 9 "BooleanRing$Diagrams" "found" "[J", Cond.fieldLink RX0 15 "BooleanRing$Diagrams" "count" "I", Cond.instanceMethod yX5_init, Cond.code yX5_init cX5_init 1 none, Cond.methodLink RX5 3 objectInit, Cond.arrayClass .char, Cond.fieldLink RX5 11 "BooleanRing$Typed" "text" "[C", Cond.fieldLink RX5 15 "BooleanRing$Typed" "length" "I", Cond.methodLink RL 12 yX7_init, Cond.instanceMethod yX7_init, Cond.code yX7_init cX7_init 1 none]
def wsL_law_r3 : List Cond := [Cond.methodLink RX7 1 objectInit, Cond.fieldLink RX7 7 "BooleanRingModel" "n" "I", Cond.fieldLink RX7 13 "BooleanRingModel" "p" "[J", Cond.fieldLink RX7 17 "BooleanRingModel" "was" "[J", Cond.fieldLink RX7 20 "BooleanRingModel" "text" "[C", Cond.fieldLink RX7 24 "BooleanRingModel" "found" "[J", Cond.fieldLink RX7 27 "BooleanRingModel" "by" "[J", Cond.methodLink RL 13 yX6_reset, Cond.instanceMethod yX6_reset, Cond.selects RX6 yX6_reset yX6_reset, Cond.code yX6_reset cX6_reset 3 (some .int), Cond.methodLink RX6 42 yJ7_fill_d0a16, Cond.static yJ7_fill_d0a16, Cond.initialized RJ7, Cond.code yJ7_fill_d0a16 cJ7_fill_d0a16 5 none, Cond.methodLink RX6 48 yX1_forget, Cond.instanceMethod yX1_forget, Cond.selects RX1 yX1_forget yX1_forget, Cond.code yX1_forget cX1_forget 1 none, Cond.methodLink RL 17 yX7_reset, Cond.instanceMethod yX7_reset, Cond.selects RX7 yX7_reset yX7_reset, Cond.code yX7_reset cX7_reset 4 (some .int), Cond.fieldLink RX7 34 "BooleanRingModel" "states" "I"]
def wsL_law_r4 : List Cond := [Cond.methodLink RX7 30 yX7_in, Cond.static yX7_in, Cond.code yX7_in cX7_in 3 (some .boolean), Cond.methodLink RL 18 yX6_variables, Cond.instanceMethod yX6_variables, Cond.selects RX6 yX6_variables yX6_variables, Cond.code yX6_variables cX6_variables 1 (some .int), Cond.methodLink RL 22 yX7_variables, Cond.instanceMethod yX7_variables, Cond.selects RX7 yX7_variables yX7_variables, Cond.code yX7_variables cX7_variables 1 (some .int), Cond.methodLink RL 23 yX6_toggle, Cond.instanceMethod yX6_toggle, Cond.selects RX6 yX6_toggle yX6_toggle, Cond.code yX6_toggle cX6_toggle 3 (some .int), Cond.methodLink RX6 51 yX6_isRegister, Cond.static yX6_isRegister, Cond.code yX6_isRegister cX6_isRegister 1 (some .boolean), Cond.methodLink RX6 55 yX6_isMask, Cond.instanceMethod yX6_isMask, Cond.selects RX6 yX6_isMask yX6_isMask, Cond.code yX6_isMask cX6_isMask 2 (some .boolean), Cond.methodLink RX6 58 yX3_ofMonomial, Cond.static yX3_ofMonomial]
def wsL_law_r5 : List Cond := [Cond.initialized RX3, Cond.code yX3_ofMonomial cX3_ofMonomial 1 (some .long), Cond.methodLink RX6 64 yX6_put, Cond.instanceMethod yX6_put, Cond.selects RX6 yX6_put yX6_put, Cond.code yX6_put cX6_put 4 (some .int), Cond.methodLink RX6 152 yX1_keep, Cond.instanceMethod yX1_keep, Cond.selects RX1 yX1_keep yX1_keep, Cond.code yX1_keep cX1_keep 2 none, Cond.methodLink RX1 19 arraycopyName, Cond.native arraycopyName, Cond.static arraycopyName, Cond.initialized "java/lang/System", Cond.methodLink RX6 110 yJ13_bitCount_95d88, Cond.static yJ13_bitCount_95d88, Cond.initialized RJ13, Cond.code yJ13_bitCount_95d88 cJ13_bitCount_95d88 2 (some .int), Cond.constantLong RJ13 314 (6148914691236517205), Cond.constantLong RJ13 316 (3689348814741910323), Cond.constantLong RJ13 318 (1085102592571150095), Cond.methodLink RL 27 yX7_toggle, Cond.instanceMethod yX7_toggle, Cond.selects RX7 yX7_toggle yX7_toggle]
def wsL_law_r6 : List Cond := [Cond.code yX7_toggle cX7_toggle 3 (some .int), Cond.methodLink RX7 48 yX7_isRegister, Cond.static yX7_isRegister, Cond.code yX7_isRegister cX7_isRegister 1 (some .boolean), Cond.methodLink RX7 52 yX7_isMask, Cond.instanceMethod yX7_isMask, Cond.selects RX7 yX7_isMask yX7_isMask, Cond.code yX7_isMask cX7_isMask 2 (some .boolean), Cond.methodLink RX7 55 yX7_gets, Cond.instanceMethod yX7_gets, Cond.selects RX7 yX7_gets yX7_gets, Cond.code yX7_gets cX7_gets 4 (some .int), Cond.methodLink RX7 37 yX7_records, Cond.instanceMethod yX7_records, Cond.selects RX7 yX7_records yX7_records, Cond.code yX7_records cX7_records 2 none, Cond.methodLink RX7 40 yX7_many, Cond.static yX7_many, Cond.code yX7_many cX7_many 5 (some .int), Cond.methodLink RL 28 yX6_copy, Cond.instanceMethod yX6_copy, Cond.selects RX6 yX6_copy yX6_copy, Cond.code yX6_copy cX6_copy 3 (some .int), Cond.methodLink RL 31 yX7_copy]
def wsL_law_r7 : List Cond := [Cond.instanceMethod yX7_copy, Cond.selects RX7 yX7_copy yX7_copy, Cond.code yX7_copy cX7_copy 3 (some .int), Cond.methodLink RL 32 yX6_sum, Cond.instanceMethod yX6_sum, Cond.selects RX6 yX6_sum yX6_sum, Cond.code yX6_sum cX6_sum 4 (some .int), Cond.methodLink RL 36 yX7_sum, Cond.instanceMethod yX7_sum, Cond.selects RX7 yX7_sum yX7_sum, Cond.code yX7_sum cX7_sum 4 (some .int), Cond.methodLink RL 37 yX6_product, Cond.instanceMethod yX6_product, Cond.selects RX6 yX6_product yX6_product, Cond.code yX6_product cX6_product 4 (some .int), Cond.methodLink RX6 68 yX3_multiplied, Cond.static yX3_multiplied, Cond.code yX3_multiplied cX3_multiplied 5 (some .long), Cond.methodLink RX3 23 yX3_transformed, Cond.static yX3_transformed, Cond.code yX3_transformed cX3_transformed 6 (some .long), Cond.methodLink RX3 19 yX3_raised, Cond.static yX3_raised, Cond.code yX3_raised cX3_raised 3 (some .long)]
def wsL_law_r8 : List Cond := [Cond.methodLink RX3 15 yX3_without, Cond.static yX3_without, Cond.code yX3_without cX3_without 1 (some .long), Cond.fieldLink RX3 9 "BooleanRing$Poly" "WITHOUT" "[J", Cond.methodLink RL 40 yX7_product, Cond.instanceMethod yX7_product, Cond.selects RX7 yX7_product yX7_product, Cond.code yX7_product cX7_product 4 (some .int), Cond.methodLink RX7 59 yX7_product1, Cond.instanceMethod yX7_product1, Cond.selects RX7 yX7_product1 yX7_product1, Cond.code yX7_product1 cX7_product1 9 (some .long), Cond.methodLink RX7 44 yX7_has1, Cond.static yX7_has1, Cond.code yX7_has1 cX7_has1 3 (some .boolean), Cond.methodLink RL 41 yX6_times, Cond.instanceMethod yX6_times, Cond.selects RX6 yX6_times yX6_times, Cond.code yX6_times cX6_times 4 (some .int), Cond.methodLink RL 44 yX7_times, Cond.instanceMethod yX7_times, Cond.selects RX7 yX7_times yX7_times, Cond.code yX7_times cX7_times 4 (some .int), Cond.methodLink RL 45 yX6_restrict]
def wsL_law_r9 : List Cond := [Cond.instanceMethod yX6_restrict, Cond.selects RX6 yX6_restrict yX6_restrict, Cond.code yX6_restrict cX6_restrict 7 (some .int), Cond.methodLink RX6 72 yX6_isVariable, Cond.instanceMethod yX6_isVariable, Cond.selects RX6 yX6_isVariable yX6_isVariable, Cond.code yX6_isVariable cX6_isVariable 2 (some .boolean), Cond.methodLink RX6 75 yX3_lowerHalf, Cond.static yX3_lowerHalf, Cond.code yX3_lowerHalf cX3_lowerHalf 3 (some .long), Cond.methodLink RX6 79 yX3_upperHalf, Cond.static yX3_upperHalf, Cond.code yX3_upperHalf cX3_upperHalf 3 (some .long), Cond.methodLink RL 49 yX7_restrict, Cond.instanceMethod yX7_restrict, Cond.selects RX7 yX7_restrict yX7_restrict, Cond.code yX7_restrict cX7_restrict 5 (some .int), Cond.methodLink RX7 63 yX7_isVariable, Cond.instanceMethod yX7_isVariable, Cond.selects RX7 yX7_isVariable yX7_isVariable, Cond.code yX7_isVariable cX7_isVariable 2 (some .boolean), Cond.methodLink RX7 66 yX7_lower, Cond.instanceMethod yX7_lower, Cond.selects RX7 yX7_lower yX7_lower]
def wsL_law_r10 : List Cond := [Cond.code yX7_lower cX7_lower 7 (some .long), Cond.methodLink RX7 70 yX7_upper, Cond.instanceMethod yX7_upper, Cond.selects RX7 yX7_upper yX7_upper, Cond.code yX7_upper cX7_upper 7 (some .long), Cond.methodLink RL 50 yX6_substitute, Cond.instanceMethod yX6_substitute, Cond.selects RX6 yX6_substitute yX6_substitute, Cond.code yX6_substitute cX6_substitute 9 (some .int), Cond.methodLink RL 53 yX7_substitute, Cond.instanceMethod yX7_substitute, Cond.selects RX7 yX7_substitute yX7_substitute, Cond.code yX7_substitute cX7_substitute 5 (some .int), Cond.methodLink RL 54 yX6_derivative, Cond.instanceMethod yX6_derivative, Cond.selects RX6 yX6_derivative yX6_derivative, Cond.code yX6_derivative cX6_derivative 4 (some .int), Cond.methodLink RL 57 yX7_derivative, Cond.instanceMethod yX7_derivative, Cond.selects RX7 yX7_derivative yX7_derivative, Cond.code yX7_derivative cX7_derivative 4 (some .int), Cond.methodLink RL 58 yX6_flip, Cond.instanceMethod yX6_flip, Cond.selects RX6 yX6_flip yX6_flip]
def wsL_law_r11 : List Cond := [Cond.code yX6_flip cX6_flip 5 (some .int), Cond.methodLink RX6 82 yX3_transformed, Cond.methodLink RL 61 yX7_flip, Cond.instanceMethod yX7_flip, Cond.selects RX7 yX7_flip yX7_flip, Cond.code yX7_flip cX7_flip 3 (some .int), Cond.methodLink RX7 73 yX7_values, Cond.instanceMethod yX7_values, Cond.selects RX7 yX7_values yX7_values, Cond.code yX7_values cX7_values 7 (some .long), Cond.methodLink RL 62 yX6_exchange, Cond.instanceMethod yX6_exchange, Cond.selects RX6 yX6_exchange yX6_exchange, Cond.code yX6_exchange cX6_exchange 4 (some .int), Cond.methodLink RX6 85 Lib.Math.min.name, Cond.static Lib.Math.min.name, Cond.initialized "java/lang/Math", Cond.code Lib.Math.min.name Lib.Math.min.code 2 (some .int), Cond.methodLink RX6 91 Lib.Math.max.name, Cond.static Lib.Math.max.name, Cond.code Lib.Math.max.name Lib.Math.max.code 2 (some .int), Cond.methodLink RX6 94 yX3_exchanged, Cond.static yX3_exchanged, Cond.code yX3_exchanged cX3_exchanged 11 (some .long)]
def wsL_law_r12 : List Cond := [Cond.constantLong RX3 26 (-1), Cond.methodLink RL 65 yX7_exchange, Cond.instanceMethod yX7_exchange, Cond.selects RX7 yX7_exchange yX7_exchange, Cond.code yX7_exchange cX7_exchange 8 (some .int), Cond.methodLink RL 66 yX6_undo, Cond.instanceMethod yX6_undo, Cond.selects RX6 yX6_undo yX6_undo, Cond.code yX6_undo cX6_undo 1 (some .int), Cond.methodLink RX6 98 yX1_isEmpty, Cond.instanceMethod yX1_isEmpty, Cond.selects RX1 yX1_isEmpty yX1_isEmpty, Cond.code yX1_isEmpty cX1_isEmpty 1 (some .boolean), Cond.methodLink RX6 102 yX1_restore, Cond.instanceMethod yX1_restore, Cond.selects RX1 yX1_restore yX1_restore, Cond.code yX1_restore cX1_restore 2 (some .int), Cond.methodLink RL 69 yX7_undo, Cond.instanceMethod yX7_undo, Cond.selects RX7 yX7_undo yX7_undo, Cond.code yX7_undo cX7_undo 2 (some .int), Cond.methodLink RL 70 yX6_has, Cond.instanceMethod yX6_has, Cond.selects RX6 yX6_has yX6_has]
def wsL_law_r13 : List Cond := [Cond.code yX6_has cX6_has 3 (some .int), Cond.methodLink RX6 106 yX3_bit, Cond.static yX3_bit, Cond.code yX3_bit cX3_bit 3 (some .int), Cond.methodLink RL 73 yX7_has, Cond.instanceMethod yX7_has, Cond.selects RX7 yX7_has yX7_has, Cond.code yX7_has cX7_has 3 (some .int), Cond.methodLink RL 74 yX6_terms, Cond.instanceMethod yX6_terms, Cond.selects RX6 yX6_terms yX6_terms, Cond.code yX6_terms cX6_terms 2 (some .int), Cond.methodLink RL 77 yX7_terms, Cond.instanceMethod yX7_terms, Cond.selects RX7 yX7_terms yX7_terms, Cond.code yX7_terms cX7_terms 2 (some .int), Cond.methodLink RL 78 yX6_degree, Cond.instanceMethod yX6_degree, Cond.selects RX6 yX6_degree yX6_degree, Cond.code yX6_degree cX6_degree 3 (some .int), Cond.methodLink RX6 118 yX2_termOf, Cond.static yX2_termOf, Cond.initialized RX2, Cond.code yX2_termOf cX2_termOf 7 (some .int)]
def wsL_law_r14 : List Cond := [Cond.methodLink RX2 25 yJ13_bitCount_95d88, Cond.methodLink RX2 31 yX2_monomialAt, Cond.static yX2_monomialAt, Cond.code yX2_monomialAt cX2_monomialAt 3 (some .int), Cond.methodLink RX2 21 yX2_tableOf, Cond.static yX2_tableOf, Cond.code yX2_tableOf cX2_tableOf 1 (some (.array .int)), Cond.fieldLink RX2 9 "BooleanRing$Orders" "BY_LEX" "[I", Cond.fieldLink RX2 15 "BooleanRing$Orders" "BY_GRADED" "[I", Cond.fieldLink RX2 18 "BooleanRing$Orders" "BY_REVERSE" "[I", Cond.methodLink RX2 35 yX3_bit, Cond.methodLink RX6 122 yJ6_bitCount_0f7a4, Cond.static yJ6_bitCount_0f7a4, Cond.initialized RJ6, Cond.code yJ6_bitCount_0f7a4 cJ6_bitCount_0f7a4 1 (some .int), Cond.constant RJ6 265 (1431655765), Cond.constant RJ6 266 (858993459), Cond.constant RJ6 267 (252645135), Cond.methodLink RL 81 yX7_degree, Cond.instanceMethod yX7_degree, Cond.selects RX7 yX7_degree yX7_degree, Cond.code yX7_degree cX7_degree 5 (some .int), Cond.methodLink RL 82 yX6_occurring, Cond.instanceMethod yX6_occurring]
def wsL_law_r15 : List Cond := [Cond.selects RX6 yX6_occurring yX6_occurring, Cond.code yX6_occurring cX6_occurring 4 (some .int), Cond.methodLink RL 85 yX7_occurring, Cond.instanceMethod yX7_occurring, Cond.selects RX7 yX7_occurring yX7_occurring, Cond.code yX7_occurring cX7_occurring 2 (some .int), Cond.methodLink RX7 77 yX7_occurs, Cond.instanceMethod yX7_occurs, Cond.selects RX7 yX7_occurs yX7_occurs, Cond.code yX7_occurs cX7_occurs 5 (some .int), Cond.methodLink RL 86 yX6_size, Cond.instanceMethod yX6_size, Cond.selects RX6 yX6_size yX6_size, Cond.code yX6_size cX6_size 2 (some .int), Cond.methodLink RX6 127 yX0_forget, Cond.instanceMethod yX0_forget, Cond.selects RX0 yX0_forget yX0_forget, Cond.code yX0_forget cX0_forget 1 none, Cond.methodLink RX6 128 yX0_enter, Cond.instanceMethod yX0_enter, Cond.selects RX0 yX0_enter yX0_enter, Cond.code yX0_enter cX0_enter 4 none, Cond.constantLong RX0 19 (-2), Cond.methodLink RX0 21 yX0_isKnown]
def wsL_law_r16 : List Cond := [Cond.instanceMethod yX0_isKnown, Cond.selects RX0 yX0_isKnown yX0_isKnown, Cond.code yX0_isKnown cX0_isKnown 4 (some .boolean), Cond.methodLink RX6 132 yX0_closedCount, Cond.instanceMethod yX0_closedCount, Cond.selects RX0 yX0_closedCount yX0_closedCount, Cond.code yX0_closedCount cX0_closedCount 3 (some .int), Cond.methodLink RX0 25 yX3_lowestVariable, Cond.static yX3_lowestVariable, Cond.code yX3_lowestVariable cX3_lowestVariable 3 (some .int), Cond.methodLink RX3 28 yX3_upperHalf, Cond.methodLink RX0 31 yX3_upperHalf, Cond.methodLink RX0 35 yX0_enter, Cond.methodLink RX0 39 yX3_lowerHalf, Cond.methodLink RL 89 yX7_size, Cond.instanceMethod yX7_size, Cond.selects RX7 yX7_size yX7_size, Cond.code yX7_size cX7_size 2 (some .int), Cond.fieldLink RX7 80 "BooleanRingModel" "founds" "I", Cond.methodLink RX7 83 yX7_notes, Cond.instanceMethod yX7_notes, Cond.selects RX7 yX7_notes yX7_notes, Cond.code yX7_notes cX7_notes 5 none, Cond.methodLink RX7 87 yX7_spreads]
def wsL_law_r17 : List Cond := [Cond.instanceMethod yX7_spreads, Cond.selects RX7 yX7_spreads yX7_spreads, Cond.code yX7_spreads cX7_spreads 3 (some .int), Cond.methodLink RL 90 yX6_sharedSize, Cond.instanceMethod yX6_sharedSize, Cond.selects RX6 yX6_sharedSize yX6_sharedSize, Cond.code yX6_sharedSize cX6_sharedSize 2 (some .int), Cond.methodLink RL 93 yX7_sharedSize, Cond.instanceMethod yX7_sharedSize, Cond.selects RX7 yX7_sharedSize yX7_sharedSize, Cond.code yX7_sharedSize cX7_sharedSize 2 (some .int), Cond.methodLink RL 94 yX6_termAt, Cond.instanceMethod yX6_termAt, Cond.selects RX6 yX6_termAt yX6_termAt, Cond.code yX6_termAt cX6_termAt 4 (some .int), Cond.methodLink RX6 136 yX6_isOrder, Cond.static yX6_isOrder, Cond.code yX6_isOrder cX6_isOrder 1 (some .boolean), Cond.methodLink RL 97 yX7_termAt, Cond.instanceMethod yX7_termAt, Cond.selects RX7 yX7_termAt yX7_termAt, Cond.code yX7_termAt cX7_termAt 7 (some .int), Cond.methodLink RX7 94 yX7_isOrder, Cond.static yX7_isOrder]
def wsL_law_r18 : List Cond := [Cond.code yX7_isOrder cX7_isOrder 1 (some .boolean), Cond.methodLink RX7 97 yX7_leads, Cond.instanceMethod yX7_leads, Cond.selects RX7 yX7_leads yX7_leads, Cond.code yX7_leads cX7_leads 6 (some .int), Cond.methodLink RX7 91 yX7_isGreater, Cond.instanceMethod yX7_isGreater, Cond.selects RX7 yX7_isGreater yX7_isGreater, Cond.code yX7_isGreater cX7_isGreater 7 (some .boolean), Cond.methodLink RL 98 yX6_value, Cond.instanceMethod yX6_value, Cond.selects RX6 yX6_value yX6_value, Cond.code yX6_value cX6_value 3 (some .int), Cond.methodLink RL 101 yX7_value, Cond.instanceMethod yX7_value, Cond.selects RX7 yX7_value yX7_value, Cond.code yX7_value cX7_value 3 (some .int), Cond.methodLink RL 102 yX6_isSame, Cond.instanceMethod yX6_isSame, Cond.selects RX6 yX6_isSame yX6_isSame, Cond.code yX6_isSame cX6_isSame 3 (some .int), Cond.methodLink RL 105 yX7_isSame, Cond.instanceMethod yX7_isSame, Cond.selects RX7 yX7_isSame yX7_isSame]
def wsL_law_r19 : List Cond := [Cond.code yX7_isSame cX7_isSame 3 (some .int), Cond.methodLink RL 106 yX6_reduce, Cond.instanceMethod yX6_reduce, Cond.selects RX6 yX6_reduce yX6_reduce, Cond.code yX6_reduce cX6_reduce 12 (some .int), Cond.methodLink RX6 139 yX6_isSet, Cond.static yX6_isSet, Cond.code yX6_isSet cX6_isSet 1 (some .boolean), Cond.methodLink RX6 142 yX6_findLeading, Cond.instanceMethod yX6_findLeading, Cond.selects RX6 yX6_findLeading yX6_findLeading, Cond.code yX6_findLeading cX6_findLeading 3 none, Cond.methodLink RX6 146 yX2_monomialAt, Cond.methodLink RX6 149 yX6_reducerOf, Cond.instanceMethod yX6_reducerOf, Cond.selects RX6 yX6_reducerOf yX6_reducerOf, Cond.code yX6_reducerOf cX6_reducerOf 4 (some .int), Cond.methodLink RX6 203 yX6_isIn, Cond.static yX6_isIn, Cond.code yX6_isIn cX6_isIn 2 (some .boolean), Cond.methodLink RL 109 yX7_reduce, Cond.instanceMethod yX7_reduce, Cond.selects RX7 yX7_reduce yX7_reduce, Cond.code yX7_reduce cX7_reduce 12 (some .int)]
def wsL_law_r20 : List Cond := [Cond.constantLong RX7 104 (-1), Cond.methodLink RX7 101 yX7_isSet, Cond.static yX7_isSet, Cond.code yX7_isSet cX7_isSet 1 (some .boolean), Cond.methodLink RX7 106 yX7_taker, Cond.instanceMethod yX7_taker, Cond.selects RX7 yX7_taker yX7_taker, Cond.code yX7_taker cX7_taker 6 (some .int), Cond.methodLink RL 110 yX6_echelon, Cond.instanceMethod yX6_echelon, Cond.selects RX6 yX6_echelon yX6_echelon, Cond.code yX6_echelon cX6_echelon 7 (some .int), Cond.methodLink RX6 156 yX6_nextOf, Cond.static yX6_nextOf, Cond.code yX6_nextOf cX6_nextOf 3 (some .int), Cond.methodLink RX6 159 yX6_bringUp, Cond.instanceMethod yX6_bringUp, Cond.selects RX6 yX6_bringUp yX6_bringUp, Cond.code yX6_bringUp cX6_bringUp 7 (some .boolean), Cond.methodLink RX6 163 yX6_clearElsewhere, Cond.instanceMethod yX6_clearElsewhere, Cond.selects RX6 yX6_clearElsewhere yX6_clearElsewhere, Cond.code yX6_clearElsewhere cX6_clearElsewhere 5 none, Cond.methodLink RL 113 yX7_echelon]
def wsL_law_r21 : List Cond := [Cond.instanceMethod yX7_echelon, Cond.selects RX7 yX7_echelon yX7_echelon, Cond.code yX7_echelon cX7_echelon 11 (some .int), Cond.methodLink RL 114 yX6_zeros, Cond.instanceMethod yX6_zeros, Cond.selects RX6 yX6_zeros yX6_zeros, Cond.code yX6_zeros cX6_zeros 2 (some .int), Cond.methodLink RX6 167 yX6_commonZeros, Cond.instanceMethod yX6_commonZeros, Cond.selects RX6 yX6_commonZeros yX6_commonZeros, Cond.code yX6_commonZeros cX6_commonZeros 2 (some .long), Cond.constantLong RX6 180 (-1), Cond.methodLink RX6 176 yX6_allPoints, Cond.instanceMethod yX6_allPoints, Cond.selects RX6 yX6_allPoints yX6_allPoints, Cond.code yX6_allPoints cX6_allPoints 1 (some .long), Cond.methodLink RX6 170 yX6_nonZeros, Cond.instanceMethod yX6_nonZeros, Cond.selects RX6 yX6_nonZeros yX6_nonZeros, Cond.code yX6_nonZeros cX6_nonZeros 5 (some .long), Cond.methodLink RL 117 yX7_zeros, Cond.instanceMethod yX7_zeros, Cond.selects RX7 yX7_zeros yX7_zeros, Cond.code yX7_zeros cX7_zeros 2 (some .int)]
def wsL_law_r22 : List Cond := [Cond.methodLink RX7 110 yX7_barred, Cond.instanceMethod yX7_barred, Cond.selects RX7 yX7_barred yX7_barred, Cond.code yX7_barred cX7_barred 5 (some .long), Cond.methodLink RL 118 yX6_zeroAt, Cond.instanceMethod yX6_zeroAt, Cond.selects RX6 yX6_zeroAt yX6_zeroAt, Cond.code yX6_zeroAt cX6_zeroAt 7 (some .int), Cond.methodLink RL 121 yX7_zeroAt, Cond.instanceMethod yX7_zeroAt, Cond.selects RX7 yX7_zeroAt yX7_zeroAt, Cond.code yX7_zeroAt cX7_zeroAt 7 (some .int), Cond.methodLink RL 122 yX6_combine, Cond.instanceMethod yX6_combine, Cond.selects RX6 yX6_combine yX6_combine, Cond.code yX6_combine cX6_combine 3 (some .int), Cond.methodLink RL 125 yX7_combine, Cond.instanceMethod yX7_combine, Cond.selects RX7 yX7_combine yX7_combine, Cond.code yX7_combine cX7_combine 3 (some .int), Cond.methodLink RL 126 yX6_eliminate, Cond.instanceMethod yX6_eliminate, Cond.selects RX6 yX6_eliminate yX6_eliminate, Cond.code yX6_eliminate cX6_eliminate 10 (some .int)]
def wsL_law_r23 : List Cond := [Cond.methodLink RX6 173 yX3_raised, Cond.methodLink RL 129 yX7_eliminate, Cond.instanceMethod yX7_eliminate, Cond.selects RX7 yX7_eliminate yX7_eliminate, Cond.code yX7_eliminate cX7_eliminate 9 (some .int), Cond.methodLink RL 130 yX6_fibres, Cond.instanceMethod yX6_fibres, Cond.selects RX6 yX6_fibres yX6_fibres, Cond.code yX6_fibres cX6_fibres 10 (some .int), Cond.methodLink RL 133 yX7_fibres, Cond.instanceMethod yX7_fibres, Cond.selects RX7 yX7_fibres yX7_fibres, Cond.code yX7_fibres cX7_fibres 9 (some .int), Cond.methodLink RL 134 yX6_isMember, Cond.instanceMethod yX6_isMember, Cond.selects RX6 yX6_isMember yX6_isMember, Cond.code yX6_isMember cX6_isMember 5 (some .int), Cond.methodLink RL 137 yX7_isMember, Cond.instanceMethod yX7_isMember, Cond.selects RX7 yX7_isMember yX7_isMember, Cond.code yX7_isMember cX7_isMember 3 (some .int), Cond.methodLink RL 138 yX6_isSameIdeal, Cond.instanceMethod yX6_isSameIdeal, Cond.selects RX6 yX6_isSameIdeal yX6_isSameIdeal]
def wsL_law_r24 : List Cond := [Cond.code yX6_isSameIdeal cX6_isSameIdeal 3 (some .int), Cond.methodLink RL 141 yX7_isSameIdeal, Cond.instanceMethod yX7_isSameIdeal, Cond.selects RX7 yX7_isSameIdeal yX7_isSameIdeal, Cond.code yX7_isSameIdeal cX7_isSameIdeal 3 (some .int), Cond.methodLink RL 142 yX6_fixedVariables, Cond.instanceMethod yX6_fixedVariables, Cond.selects RX6 yX6_fixedVariables yX6_fixedVariables, Cond.code yX6_fixedVariables cX6_fixedVariables 6 (some .int), Cond.methodLink RL 145 yX7_fixedVariables, Cond.instanceMethod yX7_fixedVariables, Cond.selects RX7 yX7_fixedVariables yX7_fixedVariables, Cond.code yX7_fixedVariables cX7_fixedVariables 7 (some .int), Cond.methodLink RL 146 yX6_type, Cond.instanceMethod yX6_type, Cond.selects RX6 yX6_type yX6_type, Cond.code yX6_type cX6_type 2 (some .int), Cond.methodLink RX6 182 yX5_append, Cond.instanceMethod yX5_append, Cond.selects RX5 yX5_append yX5_append, Cond.code yX5_append cX5_append 2 (some .int), Cond.methodLink RL 149 yX7_type, Cond.instanceMethod yX7_type, Cond.selects RX7 yX7_type yX7_type]
def wsL_law_r25 : List Cond := [Cond.code yX7_type cX7_type 2 (some .int), Cond.fieldLink RX7 114 "BooleanRingModel" "typed" "I", Cond.methodLink RL 150 yX6_clearText, Cond.instanceMethod yX6_clearText, Cond.selects RX6 yX6_clearText yX6_clearText, Cond.code yX6_clearText cX6_clearText 1 (some .int), Cond.methodLink RX6 186 yX5_empty, Cond.instanceMethod yX5_empty, Cond.selects RX5 yX5_empty yX5_empty, Cond.code yX5_empty cX5_empty 2 (some .int), Cond.methodLink RL 153 yX7_clearText, Cond.instanceMethod yX7_clearText, Cond.selects RX7 yX7_clearText yX7_clearText, Cond.code yX7_clearText cX7_clearText 2 (some .int), Cond.methodLink RL 154 yX6_fault, Cond.instanceMethod yX6_fault, Cond.selects RX6 yX6_fault yX6_fault, Cond.code yX6_fault cX6_fault 1 (some .int), Cond.methodLink RX6 189 yX5_firstFault, Cond.instanceMethod yX5_firstFault, Cond.selects RX5 yX5_firstFault yX5_firstFault, Cond.code yX5_firstFault cX5_firstFault 4 (some .int), Cond.methodLink RX5 19 yX5_seenAfter, Cond.static yX5_seenAfter]
def wsL_law_r26 : List Cond := [Cond.code yX5_seenAfter cX5_seenAfter 4 (some .int), Cond.methodLink RL 157 yX7_fault, Cond.instanceMethod yX7_fault, Cond.selects RX7 yX7_fault yX7_fault, Cond.code yX7_fault cX7_fault 3 (some .int), Cond.methodLink RX7 117 yX7_behind, Cond.instanceMethod yX7_behind, Cond.selects RX7 yX7_behind yX7_behind, Cond.code yX7_behind cX7_behind 4 (some .int), Cond.methodLink RL 158 yX6_read, Cond.instanceMethod yX6_read, Cond.selects RX6 yX6_read yX6_read, Cond.code yX6_read cX6_read 2 (some .int), Cond.methodLink RX6 192 yX5_polynomial, Cond.instanceMethod yX5_polynomial, Cond.selects RX5 yX5_polynomial yX5_polynomial, Cond.code yX5_polynomial cX5_polynomial 7 (some .long), Cond.methodLink RX5 23 yX3_ofMonomial, Cond.methodLink RL 161 yX7_read, Cond.instanceMethod yX7_read, Cond.selects RX7 yX7_read yX7_read, Cond.code yX7_read cX7_read 8 (some .int), Cond.methodLink RX7 121 yX7_fault, Cond.methodLink RL 162 yX6_textLength]
def wsL_law_r27 : List Cond := [Cond.instanceMethod yX6_textLength, Cond.selects RX6 yX6_textLength yX6_textLength, Cond.code yX6_textLength cX6_textLength 2 (some .int), Cond.methodLink RX6 195 yX4_lengthOf, Cond.static yX4_lengthOf, Cond.initialized RX4, Cond.code yX4_lengthOf cX4_lengthOf 4 (some .int), Cond.methodLink RX4 9 yX3_bit, Cond.methodLink RX4 15 yX4_widthOf, Cond.static yX4_widthOf, Cond.code yX4_widthOf cX4_widthOf 1 (some .int), Cond.methodLink RX4 39 yJ6_bitCount_0f7a4, Cond.methodLink RX4 21 yJ13_bitCount_95d88, Cond.methodLink RL 165 yX7_textLength, Cond.instanceMethod yX7_textLength, Cond.selects RX7 yX7_textLength yX7_textLength, Cond.code yX7_textLength cX7_textLength 4 (some .int), Cond.methodLink RX7 124 yX7_longOf, Cond.static yX7_longOf, Cond.code yX7_longOf cX7_longOf 1 (some .int), Cond.methodLink RL 166 yX6_textAt, Cond.instanceMethod yX6_textAt, Cond.selects RX6 yX6_textAt yX6_textAt, Cond.code yX6_textAt cX6_textAt 3 (some .int)]
def wsL_law_r28 : List Cond := [Cond.methodLink RX6 200 yX4_characterOf, Cond.static yX4_characterOf, Cond.code yX4_characterOf cX4_characterOf 7 (some .int), Cond.methodLink RX4 27 yX4_lengthOf, Cond.methodLink RX4 32 yX2_monomialAt, Cond.methodLink RX4 36 yX4_signOf, Cond.static yX4_signOf, Cond.code yX4_signOf cX4_signOf 4 (some .int), Cond.methodLink RL 169 yX7_textAt, Cond.instanceMethod yX7_textAt, Cond.selects RX7 yX7_textAt yX7_textAt, Cond.code yX7_textAt cX7_textAt 7 (some .int), Cond.methodLink RX7 128 yX7_letter, Cond.static yX7_letter, Cond.code yX7_letter cX7_letter 4 (some .int)]
def wsL_law : List Cond := (wsL_law_r1 ++ (wsL_law_r2 ++ (wsL_law_r3 ++ (wsL_law_r4 ++ (wsL_law_r5 ++ (wsL_law_r6 ++ (wsL_law_r7 ++ (wsL_law_r8 ++ (wsL_law_r9 ++ (wsL_law_r10 ++ (wsL_law_r11 ++ (wsL_law_r12 ++ (wsL_law_r13 ++ (wsL_law_r14 ++ (wsL_law_r15 ++ (wsL_law_r16 ++ (wsL_law_r17 ++ (wsL_law_r18 ++ (wsL_law_r19 ++ (wsL_law_r20 ++ (wsL_law_r21 ++ (wsL_law_r22 ++ (wsL_law_r23 ++ (wsL_law_r24 ++ (wsL_law_r25 ++ (wsL_law_r26 ++ (wsL_law_r27 ++ wsL_law_r28))))))))))))))))))))))))))) ++ wsX60 ++ wsX70 ++ wsX10 ++ wsX00 ++ wsX50 ++ ([] : List Cond)
set_option maxRecDepth 20000 in
theorem lin_wsL_law_r1 : ∀ w ∈ wsL_law_r1, w ∈ lw_tbl := fun w h => (goodIn_r wsL_law_r1 [41, 42, 28, 469, 470, 32, 43, 44, 45, 46, 47, 48, 62, 91, 63, 92, 49, 50, 29, 93, 64, 65, 30, 94] (by decide +kernel) (by decide +kernel) w h).1
set_option maxRecDepth 20000 in
theorem lin_wsL_law_r2 : ∀ w ∈ wsL_law_r2, w ∈ lw_tbl := fun w h => (goodIn_r wsL_law_r2 [77, 78, 31, 95, 96, 52, 53, 54, 55, 56, 67, 68, 69, 70, 71, 80, 81, 82, 90, 83, 84, 471, 472, 473] (by decide +kernel) (by decide +kernel) w h).1
set_option maxRecDepth 20000 in
theorem lin_wsL_law_r3 : ∀ w ∈ wsL_law_r3, w ∈ lw_tbl := fun w h => (goodIn_r wsL_law_r3 [474, 475, 476, 477, 479, 481, 483, 110, 111, 112, 113, 114, 115, 33, 116, 117, 118, 119, 120, 503, 504, 505, 506, 478] (by decide +kernel) (by decide +kernel) w h).1
set_option maxRecDepth 20000 in
theorem lin_wsL_law_r4 : ∀ w ∈ wsL_law_r4, w ∈ lw_tbl := fun w h => (goodIn_r wsL_law_r4 [507, 508, 509, 121, 122, 123, 124, 510, 511, 512, 513, 125, 126, 127, 128, 129, 130, 131, 132, 134, 0, 135, 136, 137] (by decide +kernel) (by decide +kernel) w h).1
set_option maxRecDepth 20000 in
theorem lin_wsL_law_r5 : ∀ w ∈ wsL_law_r5, w ∈ lw_tbl := fun w h => (goodIn_r wsL_law_r5 [34, 138, 139, 141, 1, 142, 143, 144, 145, 146, 147, 149, 148, 35, 150, 151, 36, 152, 153, 154, 155, 514, 515, 516] (by decide +kernel) (by decide +kernel) w h).1
set_option maxRecDepth 20000 in
theorem lin_wsL_law_r6 : ∀ w ∈ wsL_law_r6, w ∈ lw_tbl := fun w h => (goodIn_r wsL_law_r6 [517, 518, 519, 520, 521, 523, 11, 524, 525, 527, 12, 528, 529, 531, 13, 532, 533, 534, 535, 156, 157, 158, 159, 536] (by decide +kernel) (by decide +kernel) w h).1
set_option maxRecDepth 20000 in
theorem lin_wsL_law_r7 : ∀ w ∈ wsL_law_r7, w ∈ lw_tbl := fun w h => (goodIn_r wsL_law_r7 [537, 538, 539, 160, 161, 162, 163, 540, 541, 542, 543, 164, 165, 166, 167, 168, 169, 170, 171, 172, 173, 174, 175, 176] (by decide +kernel) (by decide +kernel) w h).1
set_option maxRecDepth 20000 in
theorem lin_wsL_law_r8 : ∀ w ∈ wsL_law_r8, w ∈ lw_tbl := fun w h => (goodIn_r wsL_law_r8 [177, 178, 179, 180, 544, 545, 546, 547, 548, 550, 14, 551, 552, 553, 554, 182, 183, 184, 185, 555, 556, 557, 558, 186] (by decide +kernel) (by decide +kernel) w h).1
set_option maxRecDepth 20000 in
theorem lin_wsL_law_r9 : ∀ w ∈ wsL_law_r9, w ∈ lw_tbl := fun w h => (goodIn_r wsL_law_r9 [187, 188, 189, 190, 192, 2, 193, 194, 195, 196, 197, 198, 199, 559, 560, 561, 562, 563, 565, 15, 566, 567, 569, 16] (by decide +kernel) (by decide +kernel) w h).1
set_option maxRecDepth 20000 in
theorem lin_wsL_law_r10 : ∀ w ∈ wsL_law_r10, w ∈ lw_tbl := fun w h => (goodIn_r wsL_law_r10 [570, 571, 573, 17, 574, 200, 201, 202, 203, 575, 576, 577, 578, 204, 205, 206, 207, 579, 580, 581, 582, 208, 209, 210] (by decide +kernel) (by decide +kernel) w h).1
set_option maxRecDepth 20000 in
theorem lin_wsL_law_r11 : ∀ w ∈ wsL_law_r11, w ∈ lw_tbl := fun w h => (goodIn_r wsL_law_r11 [211, 212, 583, 584, 585, 586, 587, 589, 18, 590, 213, 214, 215, 216, 217, 218, 37, 219, 220, 221, 222, 223, 224, 225] (by decide +kernel) (by decide +kernel) w h).1
set_option maxRecDepth 20000 in
theorem lin_wsL_law_r12 : ∀ w ∈ wsL_law_r12, w ∈ lw_tbl := fun w h => (goodIn_r wsL_law_r12 [226, 591, 592, 593, 594, 227, 228, 229, 230, 231, 232, 233, 234, 235, 236, 237, 238, 595, 596, 597, 598, 239, 240, 241] (by decide +kernel) (by decide +kernel) w h).1
set_option maxRecDepth 20000 in
theorem lin_wsL_law_r13 : ∀ w ∈ wsL_law_r13, w ∈ lw_tbl := fun w h => (goodIn_r wsL_law_r13 [242, 243, 244, 245, 599, 600, 601, 602, 246, 247, 248, 249, 603, 604, 605, 606, 250, 251, 252, 253, 254, 255, 38, 256] (by decide +kernel) (by decide +kernel) w h).1
set_option maxRecDepth 20000 in
theorem lin_wsL_law_r14 : ∀ w ∈ wsL_law_r14, w ∈ lw_tbl := fun w h => (goodIn_r wsL_law_r14 [257, 258, 259, 260, 261, 262, 263, 264, 266, 268, 270, 271, 272, 39, 273, 274, 275, 276, 607, 608, 609, 610, 277, 278] (by decide +kernel) (by decide +kernel) w h).1
set_option maxRecDepth 20000 in
theorem lin_wsL_law_r15 : ∀ w ∈ wsL_law_r15, w ∈ lw_tbl := fun w h => (goodIn_r wsL_law_r15 [279, 280, 611, 612, 613, 614, 615, 617, 19, 618, 281, 282, 283, 284, 285, 286, 287, 288, 289, 290, 291, 292, 293, 294] (by decide +kernel) (by decide +kernel) w h).1
set_option maxRecDepth 20000 in
theorem lin_wsL_law_r16 : ∀ w ∈ wsL_law_r16, w ∈ lw_tbl := fun w h => (goodIn_r wsL_law_r16 [296, 3, 297, 298, 299, 300, 301, 302, 303, 304, 305, 306, 307, 308, 619, 620, 621, 622, 482, 623, 625, 20, 626, 627] (by decide +kernel) (by decide +kernel) w h).1
set_option maxRecDepth 20000 in
theorem lin_wsL_law_r17 : ∀ w ∈ wsL_law_r17, w ∈ lw_tbl := fun w h => (goodIn_r wsL_law_r17 [629, 21, 630, 309, 310, 311, 312, 631, 632, 633, 634, 313, 314, 315, 316, 317, 318, 319, 635, 636, 637, 638, 639, 640] (by decide +kernel) (by decide +kernel) w h).1
set_option maxRecDepth 20000 in
theorem lin_wsL_law_r18 : ∀ w ∈ wsL_law_r18, w ∈ lw_tbl := fun w h => (goodIn_r wsL_law_r18 [641, 642, 644, 22, 645, 646, 648, 23, 649, 320, 321, 322, 323, 650, 651, 652, 653, 324, 325, 326, 327, 654, 655, 656] (by decide +kernel) (by decide +kernel) w h).1
set_option maxRecDepth 20000 in
theorem lin_wsL_law_r19 : ∀ w ∈ wsL_law_r19, w ∈ lw_tbl := fun w h => (goodIn_r wsL_law_r19 [657, 328, 329, 330, 331, 332, 333, 334, 335, 337, 4, 338, 339, 340, 342, 5, 343, 344, 345, 346, 658, 659, 660, 661] (by decide +kernel) (by decide +kernel) w h).1
set_option maxRecDepth 20000 in
theorem lin_wsL_law_r20 : ∀ w ∈ wsL_law_r20, w ∈ lw_tbl := fun w h => (goodIn_r wsL_law_r20 [665, 662, 663, 664, 666, 668, 24, 669, 347, 348, 349, 350, 351, 352, 353, 354, 356, 6, 357, 358, 360, 7, 361, 670] (by decide +kernel) (by decide +kernel) w h).1
set_option maxRecDepth 20000 in
theorem lin_wsL_law_r21 : ∀ w ∈ wsL_law_r21, w ∈ lw_tbl := fun w h => (goodIn_r wsL_law_r21 [671, 672, 673, 362, 363, 364, 365, 366, 368, 8, 369, 374, 370, 372, 9, 373, 375, 377, 10, 378, 674, 675, 676, 677] (by decide +kernel) (by decide +kernel) w h).1
set_option maxRecDepth 20000 in
theorem lin_wsL_law_r22 : ∀ w ∈ wsL_law_r22, w ∈ lw_tbl := fun w h => (goodIn_r wsL_law_r22 [678, 680, 25, 681, 379, 380, 381, 382, 682, 683, 684, 685, 383, 384, 385, 386, 686, 687, 688, 689, 387, 388, 389, 390] (by decide +kernel) (by decide +kernel) w h).1
set_option maxRecDepth 20000 in
theorem lin_wsL_law_r23 : ∀ w ∈ wsL_law_r23, w ∈ lw_tbl := fun w h => (goodIn_r wsL_law_r23 [391, 690, 691, 692, 693, 392, 393, 394, 395, 694, 695, 696, 697, 396, 397, 398, 399, 698, 699, 700, 701, 400, 401, 402] (by decide +kernel) (by decide +kernel) w h).1
set_option maxRecDepth 20000 in
theorem lin_wsL_law_r24 : ∀ w ∈ wsL_law_r24, w ∈ lw_tbl := fun w h => (goodIn_r wsL_law_r24 [403, 702, 703, 704, 705, 404, 405, 406, 407, 706, 707, 708, 709, 408, 409, 410, 411, 412, 413, 414, 415, 710, 711, 712] (by decide +kernel) (by decide +kernel) w h).1
set_option maxRecDepth 20000 in
theorem lin_wsL_law_r25 : ∀ w ∈ wsL_law_r25, w ∈ lw_tbl := fun w h => (goodIn_r wsL_law_r25 [713, 480, 416, 417, 418, 419, 420, 421, 422, 423, 714, 715, 716, 717, 424, 425, 426, 427, 428, 429, 430, 431, 432, 433] (by decide +kernel) (by decide +kernel) w h).1
set_option maxRecDepth 20000 in
theorem lin_wsL_law_r26 : ∀ w ∈ wsL_law_r26, w ∈ lw_tbl := fun w h => (goodIn_r wsL_law_r26 [434, 718, 719, 720, 721, 722, 724, 26, 725, 435, 436, 437, 438, 439, 440, 441, 442, 443, 726, 727, 728, 729, 730, 444] (by decide +kernel) (by decide +kernel) w h).1
set_option maxRecDepth 20000 in
theorem lin_wsL_law_r27 : ∀ w ∈ wsL_law_r27, w ∈ lw_tbl := fun w h => (goodIn_r wsL_law_r27 [445, 446, 447, 448, 449, 40, 450, 451, 452, 453, 454, 455, 456, 731, 732, 733, 734, 735, 736, 737, 457, 458, 459, 460] (by decide +kernel) (by decide +kernel) w h).1
set_option maxRecDepth 20000 in
theorem lin_wsL_law_r28 : ∀ w ∈ wsL_law_r28, w ∈ lw_tbl := fun w h => (goodIn_r wsL_law_r28 [461, 462, 463, 464, 465, 466, 467, 468, 738, 739, 740, 741, 742, 743, 744] (by decide +kernel) (by decide +kernel) w h).1
set_option maxRecDepth 20000 in
theorem lin_wsX60 : ∀ w ∈ wsX60, w ∈ lw_tbl := fun w h => (goodIn_r wsX60 [97, 99, 101, 103, 105, 107] (by decide +kernel) (by decide +kernel) w h).1
set_option maxRecDepth 20000 in
theorem lin_wsX70 : ∀ w ∈ wsX70, w ∈ lw_tbl := fun w h => (goodIn_r wsX70 [484, 486, 488, 490, 492, 494, 496, 498, 500] (by decide +kernel) (by decide +kernel) w h).1
set_option maxRecDepth 20000 in
theorem lin_wsX10 : ∀ w ∈ wsX10, w ∈ lw_tbl := fun w h => (goodIn_r wsX10 [57, 59] (by decide +kernel) (by decide +kernel) w h).1
set_option maxRecDepth 20000 in
theorem lin_wsX00 : ∀ w ∈ wsX00, w ∈ lw_tbl := fun w h => (goodIn_r wsX00 [72, 74] (by decide +kernel) (by decide +kernel) w h).1
set_option maxRecDepth 20000 in
theorem lin_wsX50 : ∀ w ∈ wsX50, w ∈ lw_tbl := fun w h => (goodIn_r wsX50 [85, 87] (by decide +kernel) (by decide +kernel) w h).1
theorem wsL_law_in : ∀ w ∈ wsL_law, w ∈ lw_tbl := (fun w h => (List.mem_append.mp h).elim ((fun w h => (List.mem_append.mp h).elim ((fun w h => (List.mem_append.mp h).elim ((fun w h => (List.mem_append.mp h).elim ((fun w h => (List.mem_append.mp h).elim ((fun w h => (List.mem_append.mp h).elim ((fun w h => (List.mem_append.mp h).elim (lin_wsL_law_r1 w) ((fun w h => (List.mem_append.mp h).elim (lin_wsL_law_r2 w) ((fun w h => (List.mem_append.mp h).elim (lin_wsL_law_r3 w) ((fun w h => (List.mem_append.mp h).elim (lin_wsL_law_r4 w) ((fun w h => (List.mem_append.mp h).elim (lin_wsL_law_r5 w) ((fun w h => (List.mem_append.mp h).elim (lin_wsL_law_r6 w) ((fun w h => (List.mem_append.mp h).elim (lin_wsL_law_r7 w) ((fun w h => (List.mem_append.mp h).elim (lin_wsL_law_r8 w) ((fun w h => (List.mem_append.mp h).elim (lin_wsL_law_r9 w) ((fun w h => (List.mem_append.mp h).elim (lin_wsL_law_r10 w) ((fun w h => (List.mem_append.mp h).elim (lin_wsL_law_r11 w) ((fun w h => (List.mem_append.mp h).elim (lin_wsL_law_r12 w) ((fun w h => (List.mem_append.mp h).elim (lin_wsL_law_r13 w) ((fun w h => (List.mem_append.mp h).elim (lin_wsL_law_r14 w) ((fun w h => (List.mem_append.mp h).elim (lin_wsL_law_r15 w) ((fun w h => (List.mem_append.mp h).elim (lin_wsL_law_r16 w) ((fun w h => (List.mem_append.mp h).elim (lin_wsL_law_r17 w) ((fun w h => (List.mem_append.mp h).elim (lin_wsL_law_r18 w) ((fun w h => (List.mem_append.mp h).elim (lin_wsL_law_r19 w) ((fun w h => (List.mem_append.mp h).elim (lin_wsL_law_r20 w) ((fun w h => (List.mem_append.mp h).elim (lin_wsL_law_r21 w) ((fun w h => (List.mem_append.mp h).elim (lin_wsL_law_r22 w) ((fun w h => (List.mem_append.mp h).elim (lin_wsL_law_r23 w) ((fun w h => (List.mem_append.mp h).elim (lin_wsL_law_r24 w) ((fun w h => (List.mem_append.mp h).elim (lin_wsL_law_r25 w) ((fun w h => (List.mem_append.mp h).elim (lin_wsL_law_r26 w) ((fun w h => (List.mem_append.mp h).elim (lin_wsL_law_r27 w) (lin_wsL_law_r28 w)) w)) w)) w)) w)) w)) w)) w)) w)) w)) w)) w)) w)) w)) w)) w)) w)) w)) w)) w)) w)) w)) w)) w)) w)) w)) w)) w) (lin_wsX60 w)) w) (lin_wsX70 w)) w) (lin_wsX10 w)) w) (lin_wsX00 w)) w) (lin_wsX50 w)) w) (fun h => absurd h List.not_mem_nil))
theorem inlX0 : ∀ w ∈ wsX00, w ∈ wsL_law := fun _ h => List.mem_append_left _ (List.mem_append_left _ (List.mem_append_right _ h))
theorem inX0 : ∀ w ∈ wsX00, w ∈ lw_tbl := fun w h => wsL_law_in w (inlX0 w h)
theorem inlX1 : ∀ w ∈ wsX10, w ∈ wsL_law := fun _ h => List.mem_append_left _ (List.mem_append_left _ (List.mem_append_left _ (List.mem_append_right _ h)))
theorem inX1 : ∀ w ∈ wsX10, w ∈ lw_tbl := fun w h => wsL_law_in w (inlX1 w h)
theorem inX2 : ∀ w ∈ wsX20, w ∈ lw_tbl := by decide +kernel
theorem inX3 : ∀ w ∈ wsX30, w ∈ lw_tbl := by decide +kernel
theorem inX4 : ∀ w ∈ wsX40, w ∈ lw_tbl := by decide +kernel
theorem inlX5 : ∀ w ∈ wsX50, w ∈ wsL_law := fun _ h => List.mem_append_left _ (List.mem_append_right _ h)
theorem inX5 : ∀ w ∈ wsX50, w ∈ lw_tbl := fun w h => wsL_law_in w (inlX5 w h)
theorem inlX6 : ∀ w ∈ wsX60, w ∈ wsL_law := fun _ h => List.mem_append_left _ (List.mem_append_left _ (List.mem_append_left _ (List.mem_append_left _ (List.mem_append_left _ (List.mem_append_right _ h)))))
theorem inX6 : ∀ w ∈ wsX60, w ∈ lw_tbl := fun w h => wsL_law_in w (inlX6 w h)
theorem inlX7 : ∀ w ∈ wsX70, w ∈ wsL_law := fun _ h => List.mem_append_left _ (List.mem_append_left _ (List.mem_append_left _ (List.mem_append_left _ (List.mem_append_right _ h))))
theorem inX7 : ∀ w ∈ wsX70, w ∈ lw_tbl := fun w h => wsL_law_in w (inlX7 w h)
theorem inJ6 : ∀ w ∈ wsJ60, w ∈ lw_tbl := by decide +kernel
theorem inJ13 : ∀ w ∈ wsJ130, w ∈ lw_tbl := by decide +kernel
theorem inJ9 : ∀ w ∈ wsJ90, w ∈ lw_tbl := by decide +kernel
theorem inJ10 : ∀ w ∈ wsJ100, w ∈ lw_tbl := by decide +kernel
theorem inJ7 : ∀ w ∈ wsJ70, w ∈ lw_tbl := by decide +kernel
abbrev vwCl : List vw_C := [(RX0, TX0, 2), (RX1, TX1, 2), (RX5, TX5, 2), (RX6, TX6, 6), (RX7, TX7, 9)]
end
section
/-! the library of this claim: the state of the class and of the reference, static tables, contracts' forms, calls -/
-- what the static arrays hold
def kW (j : Nat) : Int64 := match j with
  | 0 => 6148914691236517205
  | 1 => 3689348814741910323
  | 2 => 1085102592571150095
  | 3 => 71777214294589695
  | 4 => 281470681808895
  | _ => 4294967295
def kT0 : List Int32 := [63, 31, 47, 15, 55, 23, 39, 7, 59, 27, 43, 11, 51, 19, 35, 3, 61, 29, 45, 13, 53, 21, 37, 5, 57, 25, 41, 9, 49, 17, 33, 1, 62, 30, 46, 14, 54, 22, 38, 6, 58, 26, 42, 10, 50, 18, 34, 2, 60, 28, 44, 12, 52, 20, 36, 4, 56, 24, 40, 8, 48, 16, 32, 0]
def kT1 : List Int32 := [63, 31, 47, 55, 59, 61, 62, 15, 23, 39, 27, 43, 51, 29, 45, 53, 57, 30, 46, 54, 58, 60, 7, 11, 19, 35, 13, 21, 37, 25, 41, 49, 14, 22, 38, 26, 42, 50, 28, 44, 52, 56, 3, 5, 9, 17, 33, 6, 10, 18, 34, 12, 20, 36, 24, 40, 48, 1, 2, 4, 8, 16, 32, 0]
def kT2 : List Int32 := [63, 31, 47, 55, 59, 61, 62, 15, 23, 27, 29, 30, 39, 43, 45, 46, 51, 53, 54, 57, 58, 60, 7, 11, 13, 14, 19, 21, 22, 25, 26, 28, 35, 37, 38, 41, 42, 44, 49, 50, 52, 56, 3, 5, 6, 9, 10, 12, 17, 18, 20, 24, 33, 34, 36, 40, 48, 1, 2, 4, 8, 16, 32, 0]
def kT (k j : Nat) : Int32 := match k with
  | 0 => kT0.getD j 0
  | 1 => kT1.getD j 0
  | _ => kT2.getD j 0
/-- the static arrays, at addresses outside A -/
def tW (tw : Nat) (tt : Nat → Nat) (A : Nat → Prop) (U : State) (H : Heap) : Prop :=
  va_Z "BooleanRing$Poly" "WITHOUT" "[J" (.ref tw) A U H ∧ va_T .long tw 6 (fun j => .long (kW j)) A U H ∧ va_Z "BooleanRing$Orders" "BY_LEX" "[I" (.ref (tt 0)) A U H ∧ va_Z "BooleanRing$Orders" "BY_GRADED" "[I" (.ref (tt 1)) A U H ∧ va_Z "BooleanRing$Orders" "BY_REVERSE" "[I" (.ref (tt 2)) A U H ∧ ∀ k : Nat, va_T .int (tt k) 64 (fun j => .int (kT k j)) A U H
theorem tW.moved {tw : Nat} {tt : Nat → Nat} {A : Nat → Prop} {u U : State} {H : Heap} (hvm : u.vm.Alike U.vm) (h : tW tw tt A u H) : tW tw tt A U H :=
  ⟨h.1.moved hvm, h.2.1.moved hvm, h.2.2.1.moved hvm, h.2.2.2.1.moved hvm, h.2.2.2.2.1.moved hvm, fun k => (h.2.2.2.2.2 k).moved hvm⟩
theorem tW.kept {tw : Nat} {tt : Nat → Nat} {A : Nat → Prop} {U : State} {H H1 : Heap} (h : tW tw tt A U H) (hq : ∀ a : Nat, a < H.size → ¬ A a → H1[a]? = H[a]?) : tW tw tt A U H1 :=
  ⟨h.1.kept hq, h.2.1.kept hq, h.2.2.1.kept hq, h.2.2.2.1.kept hq, h.2.2.2.2.1.kept hq, fun k => (h.2.2.2.2.2 k).kept hq⟩
theorem tW.narrow {tw : Nat} {tt : Nat → Nat} {A B : Nat → Prop} {U : State} {H : Heap} (h : tW tw tt A U H) (hAB : ∀ q, B q → A q) : tW tw tt B U H :=
  ⟨h.1.narrow hAB, h.2.1.narrow hAB, h.2.2.1.narrow hAB, h.2.2.2.1.narrow hAB, h.2.2.2.2.1.narrow hAB, fun k => (h.2.2.2.2.2 k).narrow hAB⟩
-- the class's state: n, kept, count, length; registers, history, found; leading, text
abbrev XS : Type := Int32 × Int32 × Int32 × Int32 × (Nat → Int64) × (Nat → Int64) × (Nat → Int64) × (Nat → Int32) × (Nat → Int32)
abbrev x_n (v : XS) : Int32 := v.1
abbrev x_kept (v : XS) : Int32 := v.2.1
abbrev x_count (v : XS) : Int32 := v.2.2.1
abbrev x_len (v : XS) : Int32 := v.2.2.2.1
abbrev x_regs (v : XS) : Nat → Int64 := v.2.2.2.2.1
abbrev x_hist (v : XS) : Nat → Int64 := v.2.2.2.2.2.1
abbrev x_found (v : XS) : Nat → Int64 := v.2.2.2.2.2.2.1
abbrev x_lead (v : XS) : Nat → Int32 := v.2.2.2.2.2.2.2.1
abbrev x_text (v : XS) : Nat → Int32 := v.2.2.2.2.2.2.2.2
abbrev xs_n (v : XS) (x : Int32) : XS := (x, v.2)
abbrev xs_kept (v : XS) (x : Int32) : XS := (v.1, x, v.2.2)
abbrev xs_count (v : XS) (x : Int32) : XS := (v.1, v.2.1, x, v.2.2.2)
abbrev xs_len (v : XS) (x : Int32) : XS := (v.1, v.2.1, v.2.2.1, x, v.2.2.2.2)
abbrev xs_regs (v : XS) (x : Nat → Int64) : XS := (v.1, v.2.1, v.2.2.1, v.2.2.2.1, x, v.2.2.2.2.2)
abbrev xs_hist (v : XS) (x : Nat → Int64) : XS := (v.1, v.2.1, v.2.2.1, v.2.2.2.1, v.2.2.2.2.1, x, v.2.2.2.2.2.2)
abbrev xs_found (v : XS) (x : Nat → Int64) : XS := (v.1, v.2.1, v.2.2.1, v.2.2.2.1, v.2.2.2.2.1, v.2.2.2.2.2.1, x, v.2.2.2.2.2.2.2)
abbrev xs_lead (v : XS) (x : Nat → Int32) : XS := (v.1, v.2.1, v.2.2.1, v.2.2.2.1, v.2.2.2.2.1, v.2.2.2.2.2.1, v.2.2.2.2.2.2.1, x, v.2.2.2.2.2.2.2.2)
abbrev xs_text (v : XS) (x : Nat → Int32) : XS := (v.1, v.2.1, v.2.2.1, v.2.2.2.1, v.2.2.2.2.1, v.2.2.2.2.2.1, v.2.2.2.2.2.2.1, v.2.2.2.2.2.2.2.1, x)
-- the reference's state: n, states, typed, founds; p, was, found, by; text
abbrev YS : Type := Int32 × Int32 × Int32 × Int32 × (Nat → Int64) × (Nat → Int64) × (Nat → Int64) × (Nat → Int64) × (Nat → Int32)
abbrev y_n (v : YS) : Int32 := v.1
abbrev y_states (v : YS) : Int32 := v.2.1
abbrev y_typed (v : YS) : Int32 := v.2.2.1
abbrev y_founds (v : YS) : Int32 := v.2.2.2.1
abbrev y_p (v : YS) : Nat → Int64 := v.2.2.2.2.1
abbrev y_was (v : YS) : Nat → Int64 := v.2.2.2.2.2.1
abbrev y_found (v : YS) : Nat → Int64 := v.2.2.2.2.2.2.1
abbrev y_by (v : YS) : Nat → Int64 := v.2.2.2.2.2.2.2.1
abbrev y_text (v : YS) : Nat → Int32 := v.2.2.2.2.2.2.2.2
abbrev ys_n (v : YS) (x : Int32) : YS := (x, v.2)
abbrev ys_states (v : YS) (x : Int32) : YS := (v.1, x, v.2.2)
abbrev ys_typed (v : YS) (x : Int32) : YS := (v.1, v.2.1, x, v.2.2.2)
abbrev ys_founds (v : YS) (x : Int32) : YS := (v.1, v.2.1, v.2.2.1, x, v.2.2.2.2)
abbrev ys_p (v : YS) (x : Nat → Int64) : YS := (v.1, v.2.1, v.2.2.1, v.2.2.2.1, x, v.2.2.2.2.2)
abbrev ys_was (v : YS) (x : Nat → Int64) : YS := (v.1, v.2.1, v.2.2.1, v.2.2.2.1, v.2.2.2.2.1, x, v.2.2.2.2.2.2)
abbrev ys_found (v : YS) (x : Nat → Int64) : YS := (v.1, v.2.1, v.2.2.1, v.2.2.2.1, v.2.2.2.2.1, v.2.2.2.2.2.1, x, v.2.2.2.2.2.2.2)
abbrev ys_by (v : YS) (x : Nat → Int64) : YS := (v.1, v.2.1, v.2.2.1, v.2.2.2.1, v.2.2.2.2.1, v.2.2.2.2.2.1, v.2.2.2.2.2.2.1, x, v.2.2.2.2.2.2.2.2)
abbrev ys_text (v : YS) (x : Nat → Int32) : YS := (v.1, v.2.1, v.2.2.1, v.2.2.2.1, v.2.2.2.2.1, v.2.2.2.2.2.1, v.2.2.2.2.2.2.1, v.2.2.2.2.2.2.2.1, x)
-- their cells: X at the addresses a 0 .. a 8, Y at b 0 .. b 5; ca 0, 1, 2: the classes of long, int, char arrays
def XW (ca : Nat → ClassId) (a : Nat → Nat) (v : XS) : va_W :=
  [(a 0, .inr (3, [.ref (a 1), .ref (a 2), .ref (a 3), .ref (a 5), .ref (a 7), .int (x_n v)])), (a 1, .inl (ca 0, 8, .inr (.inl (x_regs v)))), (a 2, .inl (ca 1, 8, .inl (x_lead v))), (a 3, .inr (1, [.ref (a 4), .int (x_kept v)])), (a 4, .inl (ca 0, 48, .inr (.inl (x_hist v)))), (a 5, .inr (0, [.ref (a 6), .int (x_count v)])), (a 6, .inl (ca 0, 504, .inr (.inl (x_found v)))), (a 7, .inr (2, [.ref (a 8), .int (x_len v)])), (a 8, .inl (ca 2, 60, .inl (x_text v)))]
def YW (ca : Nat → ClassId) (b : Nat → Nat) (v : YS) : va_W :=
  [(b 0, .inr (4, [.int (y_n v), .ref (b 1), .ref (b 2), .int (y_states v), .ref (b 3), .int (y_typed v), .ref (b 4), .int (y_founds v), .ref (b 5)])), (b 1, .inl (ca 0, 8, .inr (.inl (y_p v)))), (b 2, .inl (ca 0, 48, .inr (.inl (y_was v)))), (b 3, .inl (ca 2, 60, .inl (y_text v))), (b 4, .inl (ca 0, 1024, .inr (.inl (y_found v)))), (b 5, .inl (ca 0, 8, .inr (.inl (y_by v))))]
def tys3 (ca : Nat → ClassId) : List (ClassId × FieldType) := [(ca 0, .long), (ca 1, .int), (ca 2, .char)]
def ap_ok (n : Nat) (a : Nat → Nat) : Prop := ∀ i j, i < n → j < n → a i = a j → i = j
def ad_of (n : Nat) (a : Nat → Nat) : Nat → Prop := fun q => ∃ i, i < n ∧ q = a i
theorem ap_D {n : Nat} {a : Nat → Nat} (h : ap_ok n a) {ws : va_W} (hn : ws.length = n) (hw : ∀ k q, ws[k]? = some q → q.1 = a k) : va_D (ad_of n a) ws := by
  have lt : ∀ (k : Nat) (q : Nat × va_E), ws[k]? = some q → k < n := fun k q hk => by
    rw [← hn]; exact (List.getElem?_eq_some_iff.mp hk).1
  refine ⟨fun i j p q hi hj e => h i j (lt i p hi) (lt j q hj) ?_, fun k q hk => ⟨k, lt k q hk, hw k q hk⟩⟩
  rw [← hw i p hi, ← hw j q hj, e]
theorem XW_D {ca : Nat → ClassId} {a : Nat → Nat} (h : ap_ok 9 a) (v : XS) : va_D (ad_of 9 a) (XW ca a v) := by
  refine ap_D h rfl (fun k q hk => ?_)
  match k, hk with
  | 0, hk => cases hk; rfl
  | 1, hk => cases hk; rfl
  | 2, hk => cases hk; rfl
  | 3, hk => cases hk; rfl
  | 4, hk => cases hk; rfl
  | 5, hk => cases hk; rfl
  | 6, hk => cases hk; rfl
  | 7, hk => cases hk; rfl
  | 8, hk => cases hk; rfl
  | k + 9, hk => simp [XW] at hk
theorem YW_D {ca : Nat → ClassId} {b : Nat → Nat} (h : ap_ok 6 b) (v : YS) : va_D (ad_of 6 b) (YW ca b v) := by
  refine ap_D h rfl (fun k q hk => ?_)
  match k, hk with
  | 0, hk => cases hk; rfl
  | 1, hk => cases hk; rfl
  | 2, hk => cases hk; rfl
  | 3, hk => cases hk; rfl
  | 4, hk => cases hk; rfl
  | 5, hk => cases hk; rfl
  | k + 6, hk => simp [YW] at hk
-- reads and writes of rows, in the pure functions
def rd {α : Type} (f : Nat → α) (n : Nat) (i : Int32) : Option α := if i < 0 ∨ n ≤ i.toNatClampNeg then none else some (f i.toNatClampNeg)
theorem rd_some {α : Type} {f : Nat → α} {n : Nat} {i : Int32} {x : α} (h : rd f n i = some x) : vp_in i n ∧ x = f i.toNatClampNeg := by
  unfold rd at h
  split at h
  · cases h
  · rename_i hc
    exact ⟨hc, (Option.some.inj h).symm⟩
def wrL (f : Nat → Int64) (n : Nat) (i : Int32) (x : Int64) : Option (Nat → Int64) := if i < 0 ∨ n ≤ i.toNatClampNeg then none else some (vp_updL f i.toNatClampNeg x)
theorem wrL_some {f g : Nat → Int64} {n : Nat} {i : Int32} {x : Int64} (h : wrL f n i x = some g) : vp_in i n ∧ g = vp_updL f i.toNatClampNeg x := by
  unfold wrL at h
  split at h
  · cases h
  · rename_i hc
    exact ⟨hc, (Option.some.inj h).symm⟩
def wrI (f : Nat → Int32) (n : Nat) (i : Int32) (x : Int32) : Option (Nat → Int32) := if i < 0 ∨ n ≤ i.toNatClampNeg then none else some (upd f i.toNatClampNeg x)
theorem wrI_some {f g : Nat → Int32} {n : Nat} {i x : Int32} (h : wrI f n i x = some g) : vp_in i n ∧ g = upd f i.toNatClampNeg x := by
  unfold wrI at h
  split at h
  · cases h
  · rename_i hc
    exact ⟨hc, (Option.some.inj h).symm⟩
/-- a copy between rows, where it is inside both -/
def cpL (f g : Nat → Int64) (n0 n1 : Nat) (sp dp n : Int32) : Option (Nat → Int64) := if sp < 0 ∨ dp < 0 ∨ n < 0 ∨ n0 < sp.toNatClampNeg + n.toNatClampNeg ∨ n1 < dp.toNatClampNeg + n.toNatClampNeg then none else some (va_cpy f g sp.toNatClampNeg dp.toNatClampNeg n.toNatClampNeg)
theorem cpL_some {f g k : Nat → Int64} {n0 n1 : Nat} {sp dp n : Int32} (h : cpL f g n0 n1 sp dp n = some k) : ¬ sp < 0 ∧ ¬ dp < 0 ∧ ¬ n < 0 ∧ sp.toNatClampNeg + n.toNatClampNeg ≤ n0 ∧ dp.toNatClampNeg + n.toNatClampNeg ≤ n1 ∧ k = va_cpy f g sp.toNatClampNeg dp.toNatClampNeg n.toNatClampNeg := by
  unfold cpL at h
  split at h
  · cases h
  · rename_i hc
    refine ⟨fun q => hc (Or.inl q), fun q => hc (Or.inr (Or.inl q)), fun q => hc (Or.inr (Or.inr (Or.inl q))), Nat.not_lt.mp fun q => hc (Or.inr (Or.inr (Or.inr (Or.inl q)))), Nat.not_lt.mp fun q => hc (Or.inr (Or.inr (Or.inr (Or.inr q)))), (Option.some.inj h).symm⟩
/-- a boolean's int -/
def zb (v : Int32) : Option Int32 := if v = 0 ∨ v = 1 then some v else none
theorem zb_some {v w : Int32} (h : zb v = some w) : w = v ∧ narrow .boolean (.int v) = .int v := by
  unfold zb at h
  split at h
  · rename_i hc
    refine ⟨(Option.some.inj h).symm, ?_⟩
    rcases hc with rfl | rfl <;> rfl
  · cases h
/-- the loops' fuel -/
def FU : Nat := 3000
-- a method's surroundings
def Cx (p : Program) (s : State) (m : MethodId) (args : Array Value) (meth : Method) (c : Code) (cc : ByteArray) (ret : Option FieldType) (nL : Nat) (ws : List Cond) (own : String) : Prop :=
  p.tables.exec = Jvm.exec ∧ c.code = cc ∧ meth.sig.returnType = ret ∧ c.maxLocals = nL ∧ s.vm.findClass own = some m.cls ∧ (∀ w ∈ ws, w.before args s = true) ∧ meth.locks = false
/-- a method that leaves the heap as it is -/
def Hp (l : Launch) (y : MethodName) (ws : List Cond) (rm : Room) (As : List Value) (B : State → Prop) (r : Option Value) : Prop :=
  Met l y ws rm (va_Pc As B) (fun _ st oc t => oc = .returned r ∧ t.heap = st.heap) 0 0 (fun _ => False)
/-- a method that changes cells of its world alone -/
def Mp (l : Launch) (y : MethodName) (ws : List Cond) (rm : Room) (As : List Value) (B : State → Prop) (r : Option Value) (P : Heap → Prop) (A : Nat → Prop) : Prop :=
  Met l y ws rm (va_Pc As B) (fun _ st oc t => oc = .returned r ∧ P t.heap ∧ va_F A st t) 0 0 A
def Mv (B : State → Prop) : Prop := ∀ u U : State, u.vm.Alike U.vm → U.heap = u.heap → B u → B U
abbrev HQ (r : Option Value) : Array Value → State → Outcome → State → Prop := fun _ st oc t => oc = .returned r ∧ t.heap = st.heap
abbrev PQ (r : Option Value) (P : Heap → Prop) (A : Nat → Prop) : Array Value → State → Outcome → State → Prop := fun _ st oc t => oc = .returned r ∧ P t.heap ∧ va_F A st t
theorem Hp.of {l : Launch} {y : MethodName} {ws ws' : List Cond} {rm : Room} {As : List Value} {B : State → Prop} {r : Option Value} {cc : ByteArray} {nL : Nat} {ret : Option FieldType} {own : String} (hy : plainName y.cls = true) (ho : y.cls = own) (hw : ws = Cond.code y cc nL ret :: ws') (hn : (lg_sl As).length ≤ nL)
    (body : ∀ (p : Program) (e : Env) (s : State) (m : MethodId) (below : List Frame) (meth : Method) (c : Code) (ls : Array Slot), Cx p s m As.toArray meth c cc ret nL ws own → B s → lv_has ls nL (lv_args 0 As) → W p l e rm s m As.toArray below meth c s.heap [] 0 0 (MQ below (HQ r) As.toArray s 0 0 (fun _ => False)) (F0 m 0 ls [])) : Hp l y ws rm As B r := by
  subst ho
  refine Met.ofW (cc := cc) (maxL := nL) (ret := ret) hy hw ?_
  intro p e s m args below meth c s₁ Bd hml hv
  obtain ⟨rfl, hB⟩ := hv
  have hl := lv_entry As hn
  rw [lg_entry_eq]
  exact body p e s m below meth c _ ⟨Bd.exec, Bd.bytes, Bd.returns, hml, findClass_of_methodNamed Bd.named, atoms_spec (ws := ws) Bd.pre, Bd.notSynchronized⟩ hB hl
theorem Mp.of {l : Launch} {y : MethodName} {ws ws' : List Cond} {rm : Room} {As : List Value} {B : State → Prop} {r : Option Value} {P : Heap → Prop} {A : Nat → Prop} {cc : ByteArray} {nL : Nat} {ret : Option FieldType} {own : String} (hy : plainName y.cls = true) (ho : y.cls = own) (hw : ws = Cond.code y cc nL ret :: ws') (hn : (lg_sl As).length ≤ nL)
    (body : ∀ (p : Program) (e : Env) (s : State) (m : MethodId) (below : List Frame) (meth : Method) (c : Code) (ls : Array Slot), Cx p s m As.toArray meth c cc ret nL ws own → B s → lv_has ls nL (lv_args 0 As) → W p l e rm s m As.toArray below meth c s.heap [] 0 0 (MQ below (PQ r P A) As.toArray s 0 0 A) (F0 m 0 ls [])) : Mp l y ws rm As B r P A := by
  subst ho
  refine Met.ofW (cc := cc) (maxL := nL) (ret := ret) hy hw ?_
  intro p e s m args below meth c s₁ Bd hml hv
  obtain ⟨rfl, hB⟩ := hv
  have hl := lv_entry As hn
  rw [lg_entry_eq]
  exact body p e s m below meth c _ ⟨Bd.exec, Bd.bytes, Bd.returns, hml, findClass_of_methodNamed Bd.named, atoms_spec (ws := ws) Bd.pre, Bd.notSynchronized⟩ hB hl
-- the worlds: GP the static tables alone, GW with cells
def GP (tw : Nat) (tt : Nat → Nat) (U : State) : Prop := tW tw tt (fun _ => False) U U.heap
def GW (D : va_G) (ca : Nat → ClassId) (tw : Nat) (tt : Nat → Nat) (A : Nat → Prop) (ws : va_W) (U : State) : Prop := va_P D vwCl ws U.heap ∧ va_K D vwCl (tys3 ca) U ∧ tW tw tt A U U.heap
theorem GP.mv {tw : Nat} {tt : Nat → Nat} : Mv (GP tw tt) := fun u U h e b => by
  unfold GP at b ⊢
  rw [e]
  exact b.moved h
theorem GW.mv {D : va_G} {ca : Nat → ClassId} {tw : Nat} {tt : Nat → Nat} {A : Nat → Prop} {ws : va_W} : Mv (GW D ca tw tt A ws) := fun u U h e b => by
  unfold GW at b ⊢
  rw [e]
  exact ⟨b.1, b.2.1.moved h, b.2.2.moved h⟩
theorem Mv.blind {B : State → Prop} (h : Mv B) {As : List Value} : FrameBlind (va_Pc As B) := fun a U g mk q => ⟨q.1, h U (U.calling g mk a) (Vm.Alike.refl U.vm) rfl q.2⟩
section CALLS
variable {p : Program} {l : Launch} {e : Env} {R : Room} {s : State} {m : MethodId} {args : Array Value} {below : List Frame} {meth : Method} {c : Code} {H : Heap} {locs : List Loc} {cells slots : Nat} {Q : State → Prop}
variable {y : MethodName} {bytes cc : ByteArray} {maxL nL n index : Nat} {ret : Option FieldType} {ws : List Cond} {rm : Room} {Ts : List Cond} {own C : String} {b : Addr} {As rest : List Value} {B : State → Prop} {r : Option Value} {P : Heap → Prop} {A : Nat → Prop} {pc : Nat} {ls : Array Slot} {st0 : List Value}
theorem hp_go (hr : va_Run p l e R s m args below meth c H locs cells slots 0 0 (F0 m pc ls st0) rest (fun st oc t => oc = .returned r ∧ t.heap = st.heap) (fun _ => False))
    (kk : W p l e R s m args below meth c H locs cells slots Q (F0 m (pc + 3) ls (r.toList ++ rest))) : W p l e R s m args below meth c H locs cells slots Q (F0 m pc ls st0) := by
  intro T hT X
  obtain ⟨v, st₀, t, T', L, h0, X', hL, e1, e2, ⟨hv, hh⟩, st⟩ := hr T hT X
  cases hv
  obtain ⟨t2, a1, b1⟩ := kk T' (by rw [e1, hh, h0]) (Stand.forget X' (fun q h => (hL q h).elim))
  exact ⟨t2, st t2 a1, b1⟩
theorem mp_go (hr : va_Run p l e R s m args below meth c H locs cells slots 0 0 (F0 m pc ls st0) rest (fun st oc t => oc = .returned r ∧ P t.heap ∧ va_F A st t) A) (hS : va_S A s.heap H locs)
    (kk : ∀ (H1 : Heap) (locs1 : List Loc), P H1 → va_S A s.heap H1 locs1 → W p l e R s m args below meth c H1 locs1 cells slots Q (F0 m (pc + 3) ls (r.toList ++ rest))) : W p l e R s m args below meth c H locs cells slots Q (F0 m pc ls st0) := by
  intro T hT X
  obtain ⟨v, st₀, t, T', L, h0, X', hL, e1, e2, ⟨hv, hp, hz, hk⟩, st⟩ := hr T hT X
  cases hv
  rw [h0] at hz hk
  obtain ⟨t2, a1, b1⟩ := kk T'.heap (locs ++ L) (by rw [e1]; exact hp) ⟨Nat.le_trans hS.1 (by rw [e1]; exact hz), fun q h1 h2 => by rw [e1, hk q (Nat.lt_of_lt_of_le h1 hS.1) h2]; exact hS.2.1 q h1 h2, fun q hq => by
      rcases List.mem_append.mp hq with h | h
      · exact hS.2.2 q h
      · exact hL q h⟩ T' rfl X'
  exact ⟨t2, st t2 a1, b1⟩
/-- static, the heap stays -/
theorem hp_S (S : CallFix p m c cc nL s args Ts own) (hM : Hp l y ws rm As B r) (cw : CallB R s args own index y bytes maxL ret ws rm 0 0 n ∧ (Cond.static y).before args s = true) (hmv : Mv B) (hB : ∀ U : State, U.heap = H → s.vm.Alike U.vm → B U)
    (hn : As.length = n) (hsize : ls.size = nL) (hstack : st0 = As.reverse ++ rest) (hW : (rest.map fun v => v.category).sum ≤ 8) (hdg : decode cc pc = .ok (.invokestatic index, 3)) (hf : cells ≤ R.cells ∧ slots ≤ R.slots)
    (kk : W p l e R s m args below meth c H locs cells slots Q (F0 m (pc + 3) ls (r.toList ++ rest))) : W p l e R s m args below meth c H locs cells slots Q (F0 m pc ls st0) :=
  hp_go (va_runS S hM cw ⟨hmv.blind, fun U hU hW => ⟨rfl, hB U hU hW.alike⟩⟩ rfl hn hsize hstack (lv_room hW) hdg hf) kk
theorem hp_V (S : CallFix p m c cc nL s args Ts own) (hM : Hp l y ws rm (.ref b :: As) B r) (cw : CallW R s args own C index y bytes maxL ret ws rm 0 0 n) (hrv : ∃ cellB : Cell, H[b]? = some cellB ∧ cellB.vm.isStatics = false ∧ s.vm.findClass C = some cellB.cls) (hmv : Mv B) (hB : ∀ U : State, U.heap = H → s.vm.Alike U.vm → B U)
    (hn : As.length = n) (hsize : ls.size = nL) (hstack : st0 = As.reverse ++ .ref b :: rest) (hW : (rest.map fun v => v.category).sum ≤ 8) (hdg : decode cc pc = .ok (.invokevirtual index, 3)) (hf : cells ≤ R.cells ∧ slots ≤ R.slots)
    (kk : W p l e R s m args below meth c H locs cells slots Q (F0 m (pc + 3) ls (r.toList ++ rest))) : W p l e R s m args below meth c H locs cells slots Q (F0 m pc ls st0) :=
  hp_go (va_runV S hM cw ⟨hmv.blind, hrv, fun U hU hW => ⟨rfl, hB U hU hW.alike⟩⟩ rfl hn hsize hstack (lv_room hW) hdg hf) kk
/-- the callee changes its world -/
theorem mp_S (S : CallFix p m c cc nL s args Ts own) (hM : Mp l y ws rm As B r P A) (cw : CallB R s args own index y bytes maxL ret ws rm 0 0 n ∧ (Cond.static y).before args s = true) (hmv : Mv B) (hB : ∀ U : State, U.heap = H → s.vm.Alike U.vm → B U) (hS : va_S A s.heap H locs)
    (hn : As.length = n) (hsize : ls.size = nL) (hstack : st0 = As.reverse ++ rest) (hW : (rest.map fun v => v.category).sum ≤ 8) (hdg : decode cc pc = .ok (.invokestatic index, 3)) (hf : cells ≤ R.cells ∧ slots ≤ R.slots)
    (kk : ∀ (H1 : Heap) (locs1 : List Loc), P H1 → va_S A s.heap H1 locs1 → W p l e R s m args below meth c H1 locs1 cells slots Q (F0 m (pc + 3) ls (r.toList ++ rest))) : W p l e R s m args below meth c H locs cells slots Q (F0 m pc ls st0) :=
  mp_go (va_runS S hM cw ⟨hmv.blind, fun U hU hW => ⟨rfl, hB U hU hW.alike⟩⟩ rfl hn hsize hstack (lv_room hW) hdg hf) hS kk
theorem mp_V (S : CallFix p m c cc nL s args Ts own) (hM : Mp l y ws rm (.ref b :: As) B r P A) (cw : CallW R s args own C index y bytes maxL ret ws rm 0 0 n) (hrv : ∃ cellB : Cell, H[b]? = some cellB ∧ cellB.vm.isStatics = false ∧ s.vm.findClass C = some cellB.cls) (hmv : Mv B) (hB : ∀ U : State, U.heap = H → s.vm.Alike U.vm → B U) (hS : va_S A s.heap H locs)
    (hn : As.length = n) (hsize : ls.size = nL) (hstack : st0 = As.reverse ++ .ref b :: rest) (hW : (rest.map fun v => v.category).sum ≤ 8) (hdg : decode cc pc = .ok (.invokevirtual index, 3)) (hf : cells ≤ R.cells ∧ slots ≤ R.slots)
    (kk : ∀ (H1 : Heap) (locs1 : List Loc), P H1 → va_S A s.heap H1 locs1 → W p l e R s m args below meth c H1 locs1 cells slots Q (F0 m (pc + 3) ls (r.toList ++ rest))) : W p l e R s m args below meth c H locs cells slots Q (F0 m pc ls st0) :=
  mp_go (va_runV S hM cw ⟨hmv.blind, hrv, fun U hU hW => ⟨rfl, hB U hU hW.alike⟩⟩ rfl hn hsize hstack (lv_room hW) hdg hf) hS kk
/-- two longs compared, and the branch behind it -/
theorem wl_eq (hx : p.tables.exec = Jvm.exec) (hb : c.code = cc) {x y : Int64} {off : Int} {tgt : Nat} (hd1 : decode cc pc = .ok (.lcmp, 1)) (hd2 : decode cc (pc + 1) = .ok (.ifCond .eq off, 3)) (ht : ((pc + 1 : Nat) : Int) + off = (tgt : Int))
    (kt : x = y → W p l e R s m args below meth c H locs cells slots Q (F0 m tgt ls rest)) (kf : ¬ x = y → W p l e R s m args below meth c H locs cells slots Q (F0 m (pc + 4) ls rest)) : W p l e R s m args below meth c H locs cells slots Q (F0 m pc ls (.long y :: .long x :: rest)) :=
  W.lcmp hx hb hd1 (lv_if_eq hx hb hd2 ht (fun h => kt ((lg_cmp_eq x y).mp h)) (fun h => kf (fun h2 => h ((lg_cmp_eq x y).mpr h2))))
theorem wl_ne (hx : p.tables.exec = Jvm.exec) (hb : c.code = cc) {x y : Int64} {off : Int} {tgt : Nat} (hd1 : decode cc pc = .ok (.lcmp, 1)) (hd2 : decode cc (pc + 1) = .ok (.ifCond .ne off, 3)) (ht : ((pc + 1 : Nat) : Int) + off = (tgt : Int))
    (kt : ¬ x = y → W p l e R s m args below meth c H locs cells slots Q (F0 m tgt ls rest)) (kf : x = y → W p l e R s m args below meth c H locs cells slots Q (F0 m (pc + 4) ls rest)) : W p l e R s m args below meth c H locs cells slots Q (F0 m pc ls (.long y :: .long x :: rest)) :=
  W.lcmp hx hb hd1 (lv_if_ne hx hb hd2 ht (fun h => kt (fun h2 => h ((lg_cmp_eq x y).mpr h2))) (fun h => kf ((lg_cmp_eq x y).mp h)))
end CALLS
section ENDS
variable {p : Program} {l : Launch} {e : Env} {R : Room} {s : State} {m : MethodId} {args : Array Value} {below : List Frame} {meth : Method} {c : Code} {H : Heap} {locs : List Loc} {cc : ByteArray} {P : Heap → Prop} {A : Nat → Prop} {pc : Nat} {ls : Array Slot}
theorem hp_iret (hx : p.tables.exec = Jvm.exec) (hb : c.code = cc) (hr : meth.sig.returnType = some .int) (hlocks : meth.locks = false) {v : Int32} (hd : decode cc pc = .ok (.ireturn, 1)) : W p l e R s m args below meth c s.heap [] 0 0 (MQ below (HQ (some (.int v))) args s 0 0 (fun _ => False)) (F0 m pc ls [.int v]) :=
  W.iret hx hb hr (fun t ht _ => ⟨rfl, ht⟩) (fun _ h => by cases h) hd hlocks
theorem hp_zret (hx : p.tables.exec = Jvm.exec) (hb : c.code = cc) (hr : meth.sig.returnType = some .boolean) (hlocks : meth.locks = false) {v : Int32} (hn : narrow .boolean (.int v) = .int v) (hd : decode cc pc = .ok (.ireturn, 1)) : W p l e R s m args below meth c s.heap [] 0 0 (MQ below (HQ (some (.int v))) args s 0 0 (fun _ => False)) (F0 m pc ls [.int v]) :=
  W.zret hx hb hr hn (fun t ht _ => ⟨rfl, ht⟩) (fun _ h => by cases h) hd hlocks
theorem hp_lret (hx : p.tables.exec = Jvm.exec) (hb : c.code = cc) (hr : meth.sig.returnType = some .long) (hlocks : meth.locks = false) {v : Int64} (hd : decode cc pc = .ok (.lreturn, 1)) : W p l e R s m args below meth c s.heap [] 0 0 (MQ below (HQ (some (.long v))) args s 0 0 (fun _ => False)) (F0 m pc ls [.long v]) :=
  W.lret hx hb hr (fun t ht _ => ⟨rfl, ht⟩) (fun _ h => by cases h) hd hlocks
theorem hp_aret (hx : p.tables.exec = Jvm.exec) (hb : c.code = cc) {ty : FieldType} (hr : meth.sig.returnType = some (.array ty)) (hlocks : meth.locks = false) {v : Nat} (hd : decode cc pc = .ok (.areturn, 1)) : W p l e R s m args below meth c s.heap [] 0 0 (MQ below (HQ (some (.ref v))) args s 0 0 (fun _ => False)) (F0 m pc ls [.ref v]) :=
  W.aret hx hb hr (Or.inr ⟨_, rfl⟩) (Or.inr ⟨_, rfl⟩) (fun t ht _ => ⟨rfl, ht⟩) (fun _ h => by cases h) hd hlocks
theorem mp_iret (hx : p.tables.exec = Jvm.exec) (hb : c.code = cc) (hr : meth.sig.returnType = some .int) (hlocks : meth.locks = false) {v : Int32} (hP : P H) (hS : va_S A s.heap H locs) (hd : decode cc pc = .ok (.ireturn, 1)) : W p l e R s m args below meth c H locs 0 0 (MQ below (PQ (some (.int v)) P A) args s 0 0 A) (F0 m pc ls [.int v]) :=
  W.iret hx hb hr (fun t ht _ => ⟨rfl, by rw [ht]; exact hP, hS.F ht⟩) hS.2.2 hd hlocks
theorem mp_zret (hx : p.tables.exec = Jvm.exec) (hb : c.code = cc) (hr : meth.sig.returnType = some .boolean) (hlocks : meth.locks = false) {v : Int32} (hn : narrow .boolean (.int v) = .int v) (hP : P H) (hS : va_S A s.heap H locs) (hd : decode cc pc = .ok (.ireturn, 1)) : W p l e R s m args below meth c H locs 0 0 (MQ below (PQ (some (.int v)) P A) args s 0 0 A) (F0 m pc ls [.int v]) :=
  W.zret hx hb hr hn (fun t ht _ => ⟨rfl, by rw [ht]; exact hP, hS.F ht⟩) hS.2.2 hd hlocks
theorem mp_vret (hx : p.tables.exec = Jvm.exec) (hb : c.code = cc) (hr : meth.sig.returnType = none) (hlocks : meth.locks = false) (hP : P H) (hS : va_S A s.heap H locs) (hd : decode cc pc = .ok (.return_, 1)) : W p l e R s m args below meth c H locs 0 0 (MQ below (PQ none P A) args s 0 0 A) (F0 m pc ls []) :=
  W.vret hx hb hr (fun t ht _ => ⟨rfl, by rw [ht]; exact hP, hS.F ht⟩) hS.2.2 hd hlocks
end ENDS
/-- the static tables for a callee that has no cells -/
theorem GP.from {tw : Nat} {tt : Nat → Nat} {A : Nat → Prop} {s : State} {H : Heap} {locs : List Loc} (hT : tW tw tt A s s.heap) (hS : va_S A s.heap H locs) : ∀ U : State, U.heap = H → s.vm.Alike U.vm → GP tw tt U := fun U hU hv => by
  unfold GP
  rw [hU]
  exact ((hT.kept hS.2.1).narrow (fun _ h => h.elim)).moved hv
theorem GW.from {D : va_G} {ca : Nat → ClassId} {tw : Nat} {tt : Nat → Nat} {A : Nat → Prop} {s : State} {H : Heap} {locs : List Loc} {ws : va_W} (hP : va_P D vwCl ws H) (hK : va_K D vwCl (tys3 ca) s) (hT : tW tw tt A s s.heap) (hS : va_S A s.heap H locs) : ∀ U : State, U.heap = H → s.vm.Alike U.vm → GW D ca tw tt A ws U := fun U hU hv => by
  unfold GW
  rw [hU]
  exact ⟨hP, hK.moved hv, (hT.kept hS.2.1).moved hv⟩
theorem ite_t {c : Prop} [Decidable c] {α : Type} {a b q : α} (h : (if c then a else b) = q) (hc : c) : a = q := by
  rw [if_pos hc] at h
  exact h
theorem ite_f {c : Prop} [Decidable c] {α : Type} {a b q : α} (h : (if c then a else b) = q) (hc : ¬ c) : b = q := by
  rw [if_neg hc] at h
  exact h
abbrev lsh (x : Int64) (y : Int32) : Int64 := x <<< (y.toInt64 &&& 63)
abbrev lsr (x : Int64) (y : Int32) : Int64 := x >>> (y.toInt64 &&& 63)
abbrev lus (x : Int64) (y : Int32) : Int64 := (x.toUInt64 >>> (y.toInt64.toUInt64 &&& Int64.toUInt64 63)).toInt64
abbrev ish (x y : Int32) : Int32 := x <<< (y &&& 31)
abbrev isr (x y : Int32) : Int32 := x >>> (y &&& 31)
abbrev ius (x y : Int32) : Int32 := (x.toUInt32 >>> (y.toUInt32 &&& Int32.toUInt32 31)).toInt32
abbrev tch (x : Int32) : Int32 := (x.toUInt32 % 65536).toInt32
section ROWS
variable {p : Program} {l : Launch} {e : Env} {R : Room} {s : State} {m : MethodId} {args : Array Value} {below : List Frame} {meth : Method} {c : Code} {H : Heap} {locs : List Loc} {cells slots : Nat} {Q : State → Prop}
variable {cc : ByteArray} {pc : Nat} {ls : Array Slot} {rest : List Value} {D : va_G} {cl : List vw_C} {A : Nat → Prop} {a : Nat} {tys : List (ClassId × FieldType)} {ws : va_W} {H0 : Heap}
theorem rd_lald (hx : p.tables.exec = Jvm.exec) (hb : c.code = cc) (hK : va_K D cl tys s) (hP : va_P D cl ws H) (q0 t0 : Nat) {cA : ClassId} {n : Nat} {f : Nat → Int64} {i : Int32} {q : Int64} (er : rd f n i = some q) (ha : ws[q0]? = some (a, .inl (cA, n, .inr (.inl f)))) (ht : tys[t0]? = some (cA, .long)) (hdg : decode cc pc = .ok (.laload, 1))
    (kk : W p l e R s m args below meth c H locs cells slots Q (F0 m (pc + 1) ls (.long q :: rest))) : W p l e R s m args below meth c H locs cells slots Q (F0 m pc ls (.int i :: .ref a :: rest)) := by
  obtain ⟨hin, rfl⟩ := rd_some er
  exact va_lald hx hb hK hP q0 t0 ha ht hin hdg kk
theorem rd_iald (hx : p.tables.exec = Jvm.exec) (hb : c.code = cc) (hK : va_K D cl tys s) (hP : va_P D cl ws H) (q0 t0 : Nat) {cA : ClassId} {n : Nat} {f : Nat → Int32} {i : Int32} {q : Int32} (er : rd f n i = some q) (ha : ws[q0]? = some (a, .inl (cA, n, .inl f))) (ht : tys[t0]? = some (cA, .int)) (hdg : decode cc pc = .ok (.iaload, 1))
    (kk : W p l e R s m args below meth c H locs cells slots Q (F0 m (pc + 1) ls (.int q :: rest))) : W p l e R s m args below meth c H locs cells slots Q (F0 m pc ls (.int i :: .ref a :: rest)) := by
  obtain ⟨hin, rfl⟩ := rd_some er
  exact va_iald hx hb hK hP q0 t0 ha ht hin hdg kk
theorem rd_cald (hx : p.tables.exec = Jvm.exec) (hb : c.code = cc) (hK : va_K D cl tys s) (hP : va_P D cl ws H) (q0 t0 : Nat) {cA : ClassId} {n : Nat} {f : Nat → Int32} {i : Int32} {q : Int32} (er : rd f n i = some q) (ha : ws[q0]? = some (a, .inl (cA, n, .inl f))) (ht : tys[t0]? = some (cA, .char)) (hdg : decode cc pc = .ok (.caload, 1))
    (kk : W p l e R s m args below meth c H locs cells slots Q (F0 m (pc + 1) ls (.int q :: rest))) : W p l e R s m args below meth c H locs cells slots Q (F0 m pc ls (.int i :: .ref a :: rest)) := by
  obtain ⟨hin, rfl⟩ := rd_some er
  exact va_cald hx hb hK hP q0 t0 ha ht hin hdg kk
theorem rd_tl (hx : p.tables.exec = Jvm.exec) (hb : c.code = cc) {t N : Nat} {f : Nat → Int64} {i : Int32} {q : Int64} (er : rd f N i = some q) (hT : va_T .long t N (fun j => .long (f j)) A s s.heap) (hS : va_S A s.heap H locs) (hdg : decode cc pc = .ok (.laload, 1))
    (kk : W p l e R s m args below meth c H locs cells slots Q (F0 m (pc + 1) ls (.long q :: rest))) : W p l e R s m args below meth c H locs cells slots Q (F0 m pc ls (.int i :: .ref t :: rest)) := by
  obtain ⟨hin, rfl⟩ := rd_some er
  exact va_tl hx hb hT hS hin rfl hdg kk
theorem rd_ti (hx : p.tables.exec = Jvm.exec) (hb : c.code = cc) {t N : Nat} {f : Nat → Int32} {i : Int32} {q : Int32} (er : rd f N i = some q) (hT : va_T .int t N (fun j => .int (f j)) A s s.heap) (hS : va_S A s.heap H locs) (hdg : decode cc pc = .ok (.iaload, 1))
    (kk : W p l e R s m args below meth c H locs cells slots Q (F0 m (pc + 1) ls (.int q :: rest))) : W p l e R s m args below meth c H locs cells slots Q (F0 m pc ls (.int i :: .ref t :: rest)) := by
  obtain ⟨hin, rfl⟩ := rd_some er
  exact va_ti hx hb hT hS hin rfl hdg kk
theorem wr_last (hx : p.tables.exec = Jvm.exec) (hb : c.code = cc) (hK : va_K D cl tys s) (hP : va_P D cl ws H) (hD : va_D A ws) (hS : va_S A H0 H locs) (q0 t0 : Nat) {cA : ClassId} {n : Nat} {f g : Nat → Int64} {i : Int32} {x : Int64} (er : wrL f n i x = some g) (ha : ws[q0]? = some (a, .inl (cA, n, .inr (.inl f)))) (ht : tys[t0]? = some (cA, .long)) (hdg : decode cc pc = .ok (.lastore, 1))
    (kk : ∀ (H1 : Heap) (locs1 : List Loc), va_P D cl (ws.set q0 (a, .inl (cA, n, .inr (.inl g)))) H1 → va_S A H0 H1 locs1 → W p l e R s m args below meth c H1 locs1 cells slots Q (F0 m (pc + 1) ls rest)) : W p l e R s m args below meth c H locs cells slots Q (F0 m pc ls (.long x :: .int i :: .ref a :: rest)) := by
  obtain ⟨hin, rfl⟩ := wrL_some er
  exact va_last hx hb hK hP hD hS q0 t0 ha ht hin hdg (fun H1 l1 h1 _ h3 => kk H1 l1 h1 h3)
theorem wr_iast (hx : p.tables.exec = Jvm.exec) (hb : c.code = cc) (hK : va_K D cl tys s) (hP : va_P D cl ws H) (hD : va_D A ws) (hS : va_S A H0 H locs) (q0 t0 : Nat) {cA : ClassId} {n : Nat} {f g : Nat → Int32} {i : Int32} {x : Int32} (er : wrI f n i x = some g) (ha : ws[q0]? = some (a, .inl (cA, n, .inl f))) (ht : tys[t0]? = some (cA, .int)) (hdg : decode cc pc = .ok (.iastore, 1))
    (kk : ∀ (H1 : Heap) (locs1 : List Loc), va_P D cl (ws.set q0 (a, .inl (cA, n, .inl g))) H1 → va_S A H0 H1 locs1 → W p l e R s m args below meth c H1 locs1 cells slots Q (F0 m (pc + 1) ls rest)) : W p l e R s m args below meth c H locs cells slots Q (F0 m pc ls (.int x :: .int i :: .ref a :: rest)) := by
  obtain ⟨hin, rfl⟩ := wrI_some er
  exact va_iast hx hb hK hP hD hS q0 t0 ha ht hin hdg (fun H1 l1 h1 _ h3 => kk H1 l1 h1 h3)
theorem wr_cast (hx : p.tables.exec = Jvm.exec) (hb : c.code = cc) (hK : va_K D cl tys s) (hP : va_P D cl ws H) (hD : va_D A ws) (hS : va_S A H0 H locs) (q0 t0 : Nat) {cA : ClassId} {n : Nat} {f g : Nat → Int32} {i : Int32} {x : Int32} (er : wrI f n i (vp_nar .char x) = some g) (ha : ws[q0]? = some (a, .inl (cA, n, .inl f))) (ht : tys[t0]? = some (cA, .char)) (hdg : decode cc pc = .ok (.castore, 1))
    (kk : ∀ (H1 : Heap) (locs1 : List Loc), va_P D cl (ws.set q0 (a, .inl (cA, n, .inl g))) H1 → va_S A H0 H1 locs1 → W p l e R s m args below meth c H1 locs1 cells slots Q (F0 m (pc + 1) ls rest)) : W p l e R s m args below meth c H locs cells slots Q (F0 m pc ls (.int x :: .int i :: .ref a :: rest)) := by
  obtain ⟨hin, rfl⟩ := wrI_some er
  exact va_cast hx hb hK hP hD hS q0 t0 ha ht hin hdg (fun H1 l1 h1 _ h3 => kk H1 l1 h1 h3)
theorem cp_long (hx : p.tables.exec = Jvm.exec) (hb : c.code = cc) (hml : c.maxLocals = ls.size) {own : String} {index : Nat} (hown : s.vm.findClass own = some m.cls) (hlink : (Cond.methodLink own index arraycopyName).before args s = true) (hnat : (Cond.native arraycopyName).before args s = true) (hstat : (Cond.static arraycopyName).before args s = true) (hini : (Cond.initialized "java/lang/System").before args s = true)
    (hK : va_K D cl tys s) (hP : va_P D cl ws H) (hD : va_D A ws) (hS : va_S A H0 H locs) (q0 q1 t0 : Nat) {a0 : Nat} {cA : ClassId} {n0 n1 : Nat} {f g k : Nat → Int64} {sp dp n : Int32} (er : cpL f g n0 n1 sp dp n = some k) (ha0 : ws[q0]? = some (a0, .inl (cA, n0, .inr (.inl f)))) (ha1 : ws[q1]? = some (a, .inl (cA, n1, .inr (.inl g)))) (ht0 : tys[t0]? = some (cA, .long))
    (hframes : 1 ≤ R.frames) (hlocals : (rest.map fun v => v.category).sum + 18 ≤ R.locals) (hdg : decode cc pc = .ok (.invokestatic index, 3))
    (kk : ∀ (H1 : Heap) (locs1 : List Loc), va_P D cl (ws.set q1 (a, .inl (cA, n1, .inr (.inl k)))) H1 → va_S A H0 H1 locs1 → W p l e R s m args below meth c H1 locs1 cells slots Q (F0 m (pc + 3) ls rest)) : W p l e R s m args below meth c H locs cells slots Q (F0 m pc ls (.int n :: .int dp :: .ref a :: .int sp :: .ref a0 :: rest)) := by
  obtain ⟨h1, h2, h3, h4, h5, rfl⟩ := cpL_some er
  exact va_copyl hx hb hml hown hlink hnat hstat hini hK hP hD hS q0 q1 t0 t0 ha0 ha1 ht0 ht0 rfl h1 h2 h3 h4 h5 (fun _ _ => rfl) hframes hlocals hdg (fun H1 l1 h1 _ h3 => kk H1 l1 h1 h3)
end ROWS
end
