section
-- ===== PART A: goes FIRST, ahead of the names: the tables' words, and 'selects' of the private methods out of them =====
/-- a private method of a class that the tables say can be made, by its rows of tables_1 -/
def lw_okq (q : MethodName × Nat) : Prop := (q.1.cls ≠ "java/lang/invoke/MethodHandle" ∧ q.1.cls ≠ "java/lang/invoke/VarHandle") ∧ Cond.instantiable q.1.cls q.2 ∈ tables_1 ∧ Cond.privateMethod q.1 ∈ tables_1 ∧ Cond.instanceMethod q.1 ∈ tables_1
theorem lw_p0 : lw_okq (⟨"BooleanRing", "isMask", "(I)Z"⟩, 6) := ⟨⟨by decide +kernel, by decide +kernel⟩, List.mem_of_getElem? (i := 15) (by decide +kernel), List.mem_of_getElem? (i := 106) (by decide +kernel), List.mem_of_getElem? (i := 107) (by decide +kernel)⟩
theorem lw_p1 : lw_okq (⟨"BooleanRing", "put", "(IJ)I"⟩, 6) := ⟨⟨by decide +kernel, by decide +kernel⟩, List.mem_of_getElem? (i := 15) (by decide +kernel), List.mem_of_getElem? (i := 113) (by decide +kernel), List.mem_of_getElem? (i := 114) (by decide +kernel)⟩
theorem lw_p2 : lw_okq (⟨"BooleanRing", "isVariable", "(I)Z"⟩, 6) := ⟨⟨by decide +kernel, by decide +kernel⟩, List.mem_of_getElem? (i := 15) (by decide +kernel), List.mem_of_getElem? (i := 164) (by decide +kernel), List.mem_of_getElem? (i := 165) (by decide +kernel)⟩
theorem lw_p3 : lw_okq (⟨"BooleanRing$Diagrams", "isKnown", "(J)Z"⟩, 2) := ⟨⟨by decide +kernel, by decide +kernel⟩, List.mem_of_getElem? (i := 38) (by decide +kernel), List.mem_of_getElem? (i := 268) (by decide +kernel), List.mem_of_getElem? (i := 269) (by decide +kernel)⟩
theorem lw_p4 : lw_okq (⟨"BooleanRing", "findLeading", "(I)V"⟩, 6) := ⟨⟨by decide +kernel, by decide +kernel⟩, List.mem_of_getElem? (i := 15) (by decide +kernel), List.mem_of_getElem? (i := 309) (by decide +kernel), List.mem_of_getElem? (i := 310) (by decide +kernel)⟩
theorem lw_p5 : lw_okq (⟨"BooleanRing", "reducerOf", "(II)I"⟩, 6) := ⟨⟨by decide +kernel, by decide +kernel⟩, List.mem_of_getElem? (i := 15) (by decide +kernel), List.mem_of_getElem? (i := 314) (by decide +kernel), List.mem_of_getElem? (i := 315) (by decide +kernel)⟩
theorem lw_p6 : lw_okq (⟨"BooleanRing", "bringUp", "(III)Z"⟩, 6) := ⟨⟨by decide +kernel, by decide +kernel⟩, List.mem_of_getElem? (i := 15) (by decide +kernel), List.mem_of_getElem? (i := 328) (by decide +kernel), List.mem_of_getElem? (i := 329) (by decide +kernel)⟩
theorem lw_p7 : lw_okq (⟨"BooleanRing", "clearElsewhere", "(III)V"⟩, 6) := ⟨⟨by decide +kernel, by decide +kernel⟩, List.mem_of_getElem? (i := 15) (by decide +kernel), List.mem_of_getElem? (i := 332) (by decide +kernel), List.mem_of_getElem? (i := 333) (by decide +kernel)⟩
theorem lw_p8 : lw_okq (⟨"BooleanRing", "commonZeros", "(I)J"⟩, 6) := ⟨⟨by decide +kernel, by decide +kernel⟩, List.mem_of_getElem? (i := 15) (by decide +kernel), List.mem_of_getElem? (i := 340) (by decide +kernel), List.mem_of_getElem? (i := 341) (by decide +kernel)⟩
theorem lw_p9 : lw_okq (⟨"BooleanRing", "allPoints", "()J"⟩, 6) := ⟨⟨by decide +kernel, by decide +kernel⟩, List.mem_of_getElem? (i := 15) (by decide +kernel), List.mem_of_getElem? (i := 344) (by decide +kernel), List.mem_of_getElem? (i := 345) (by decide +kernel)⟩
theorem lw_p10 : lw_okq (⟨"BooleanRing", "nonZeros", "(I)J"⟩, 6) := ⟨⟨by decide +kernel, by decide +kernel⟩, List.mem_of_getElem? (i := 15) (by decide +kernel), List.mem_of_getElem? (i := 349) (by decide +kernel), List.mem_of_getElem? (i := 350) (by decide +kernel)⟩
theorem lw_p11 : lw_okq (⟨"BooleanRingModel", "isMask", "(I)Z"⟩, 9) := ⟨⟨by decide +kernel, by decide +kernel⟩, List.mem_of_getElem? (i := 443) (by decide +kernel), List.mem_of_getElem? (i := 495) (by decide +kernel), List.mem_of_getElem? (i := 496) (by decide +kernel)⟩
theorem lw_p12 : lw_okq (⟨"BooleanRingModel", "gets", "(IJ)I"⟩, 9) := ⟨⟨by decide +kernel, by decide +kernel⟩, List.mem_of_getElem? (i := 443) (by decide +kernel), List.mem_of_getElem? (i := 499) (by decide +kernel), List.mem_of_getElem? (i := 500) (by decide +kernel)⟩
theorem lw_p13 : lw_okq (⟨"BooleanRingModel", "records", "()V"⟩, 9) := ⟨⟨by decide +kernel, by decide +kernel⟩, List.mem_of_getElem? (i := 443) (by decide +kernel), List.mem_of_getElem? (i := 503) (by decide +kernel), List.mem_of_getElem? (i := 504) (by decide +kernel)⟩
theorem lw_p14 : lw_okq (⟨"BooleanRingModel", "product1", "(JJ)J"⟩, 9) := ⟨⟨by decide +kernel, by decide +kernel⟩, List.mem_of_getElem? (i := 443) (by decide +kernel), List.mem_of_getElem? (i := 522) (by decide +kernel), List.mem_of_getElem? (i := 523) (by decide +kernel)⟩
theorem lw_p15 : lw_okq (⟨"BooleanRingModel", "isVariable", "(I)Z"⟩, 9) := ⟨⟨by decide +kernel, by decide +kernel⟩, List.mem_of_getElem? (i := 443) (by decide +kernel), List.mem_of_getElem? (i := 537) (by decide +kernel), List.mem_of_getElem? (i := 538) (by decide +kernel)⟩
def lw_privs_1 : List (MethodName × Nat) := [(⟨"BooleanRing", "isMask", "(I)Z"⟩, 6), (⟨"BooleanRing", "put", "(IJ)I"⟩, 6), (⟨"BooleanRing", "isVariable", "(I)Z"⟩, 6), (⟨"BooleanRing$Diagrams", "isKnown", "(J)Z"⟩, 2), (⟨"BooleanRing", "findLeading", "(I)V"⟩, 6), (⟨"BooleanRing", "reducerOf", "(II)I"⟩, 6), (⟨"BooleanRing", "bringUp", "(III)Z"⟩, 6), (⟨"BooleanRing", "clearElsewhere", "(III)V"⟩, 6), (⟨"BooleanRing", "commonZeros", "(I)J"⟩, 6), (⟨"BooleanRing", "allPoints", "()J"⟩, 6), (⟨"BooleanRing", "nonZeros", "(I)J"⟩, 6), (⟨"BooleanRingModel", "isMask", "(I)Z"⟩, 9), (⟨"BooleanRingModel", "gets", "(IJ)I"⟩, 9), (⟨"BooleanRingModel", "records", "()V"⟩, 9), (⟨"BooleanRingModel", "product1", "(JJ)J"⟩, 9), (⟨"BooleanRingModel", "isVariable", "(I)Z"⟩, 9)]
theorem lw_r1 : ∀ q ∈ lw_privs_1, lw_okq q := List.forall_mem_cons.mpr ⟨lw_p0, List.forall_mem_cons.mpr ⟨lw_p1, List.forall_mem_cons.mpr ⟨lw_p2, List.forall_mem_cons.mpr ⟨lw_p3, List.forall_mem_cons.mpr ⟨lw_p4, List.forall_mem_cons.mpr ⟨lw_p5, List.forall_mem_cons.mpr ⟨lw_p6, List.forall_mem_cons.mpr ⟨lw_p7, List.forall_mem_cons.mpr ⟨lw_p8, List.forall_mem_cons.mpr ⟨lw_p9, List.forall_mem_cons.mpr ⟨lw_p10, List.forall_mem_cons.mpr ⟨lw_p11, List.forall_mem_cons.mpr ⟨lw_p12, List.forall_mem_cons.mpr ⟨lw_p13, List.forall_mem_cons.mpr ⟨lw_p14, List.forall_mem_cons.mpr ⟨lw_p15, fun _ h => absurd h List.not_mem_nil⟩⟩⟩⟩⟩⟩⟩⟩⟩⟩⟩⟩⟩⟩⟩⟩
theorem lw_p16 : lw_okq (⟨"BooleanRingModel", "lower", "(JI)J"⟩, 9) := ⟨⟨by decide +kernel, by decide +kernel⟩, List.mem_of_getElem? (i := 443) (by decide +kernel), List.mem_of_getElem? (i := 541) (by decide +kernel), List.mem_of_getElem? (i := 542) (by decide +kernel)⟩
theorem lw_p17 : lw_okq (⟨"BooleanRingModel", "upper", "(JI)J"⟩, 9) := ⟨⟨by decide +kernel, by decide +kernel⟩, List.mem_of_getElem? (i := 443) (by decide +kernel), List.mem_of_getElem? (i := 545) (by decide +kernel), List.mem_of_getElem? (i := 546) (by decide +kernel)⟩
theorem lw_p18 : lw_okq (⟨"BooleanRingModel", "values", "(J)J"⟩, 9) := ⟨⟨by decide +kernel, by decide +kernel⟩, List.mem_of_getElem? (i := 443) (by decide +kernel), List.mem_of_getElem? (i := 561) (by decide +kernel), List.mem_of_getElem? (i := 562) (by decide +kernel)⟩
theorem lw_p19 : lw_okq (⟨"BooleanRingModel", "occurs", "(J)I"⟩, 9) := ⟨⟨by decide +kernel, by decide +kernel⟩, List.mem_of_getElem? (i := 443) (by decide +kernel), List.mem_of_getElem? (i := 589) (by decide +kernel), List.mem_of_getElem? (i := 590) (by decide +kernel)⟩
theorem lw_p20 : lw_okq (⟨"BooleanRingModel", "notes", "(J)V"⟩, 9) := ⟨⟨by decide +kernel, by decide +kernel⟩, List.mem_of_getElem? (i := 443) (by decide +kernel), List.mem_of_getElem? (i := 597) (by decide +kernel), List.mem_of_getElem? (i := 598) (by decide +kernel)⟩
theorem lw_p21 : lw_okq (⟨"BooleanRingModel", "spreads", "()I"⟩, 9) := ⟨⟨by decide +kernel, by decide +kernel⟩, List.mem_of_getElem? (i := 443) (by decide +kernel), List.mem_of_getElem? (i := 601) (by decide +kernel), List.mem_of_getElem? (i := 602) (by decide +kernel)⟩
theorem lw_p22 : lw_okq (⟨"BooleanRingModel", "leads", "(JI)I"⟩, 9) := ⟨⟨by decide +kernel, by decide +kernel⟩, List.mem_of_getElem? (i := 443) (by decide +kernel), List.mem_of_getElem? (i := 616) (by decide +kernel), List.mem_of_getElem? (i := 617) (by decide +kernel)⟩
theorem lw_p23 : lw_okq (⟨"BooleanRingModel", "isGreater", "(III)Z"⟩, 9) := ⟨⟨by decide +kernel, by decide +kernel⟩, List.mem_of_getElem? (i := 443) (by decide +kernel), List.mem_of_getElem? (i := 620) (by decide +kernel), List.mem_of_getElem? (i := 621) (by decide +kernel)⟩
theorem lw_p24 : lw_okq (⟨"BooleanRingModel", "taker", "(III)I"⟩, 9) := ⟨⟨by decide +kernel, by decide +kernel⟩, List.mem_of_getElem? (i := 443) (by decide +kernel), List.mem_of_getElem? (i := 640) (by decide +kernel), List.mem_of_getElem? (i := 641) (by decide +kernel)⟩
theorem lw_p25 : lw_okq (⟨"BooleanRingModel", "barred", "(I)J"⟩, 9) := ⟨⟨by decide +kernel, by decide +kernel⟩, List.mem_of_getElem? (i := 443) (by decide +kernel), List.mem_of_getElem? (i := 652) (by decide +kernel), List.mem_of_getElem? (i := 653) (by decide +kernel)⟩
theorem lw_p26 : lw_okq (⟨"BooleanRingModel", "behind", "(IC)I"⟩, 9) := ⟨⟨by decide +kernel, by decide +kernel⟩, List.mem_of_getElem? (i := 443) (by decide +kernel), List.mem_of_getElem? (i := 696) (by decide +kernel), List.mem_of_getElem? (i := 697) (by decide +kernel)⟩
def lw_privs_2 : List (MethodName × Nat) := [(⟨"BooleanRingModel", "lower", "(JI)J"⟩, 9), (⟨"BooleanRingModel", "upper", "(JI)J"⟩, 9), (⟨"BooleanRingModel", "values", "(J)J"⟩, 9), (⟨"BooleanRingModel", "occurs", "(J)I"⟩, 9), (⟨"BooleanRingModel", "notes", "(J)V"⟩, 9), (⟨"BooleanRingModel", "spreads", "()I"⟩, 9), (⟨"BooleanRingModel", "leads", "(JI)I"⟩, 9), (⟨"BooleanRingModel", "isGreater", "(III)Z"⟩, 9), (⟨"BooleanRingModel", "taker", "(III)I"⟩, 9), (⟨"BooleanRingModel", "barred", "(I)J"⟩, 9), (⟨"BooleanRingModel", "behind", "(IC)I"⟩, 9)]
theorem lw_r2 : ∀ q ∈ lw_privs_2, lw_okq q := List.forall_mem_cons.mpr ⟨lw_p16, List.forall_mem_cons.mpr ⟨lw_p17, List.forall_mem_cons.mpr ⟨lw_p18, List.forall_mem_cons.mpr ⟨lw_p19, List.forall_mem_cons.mpr ⟨lw_p20, List.forall_mem_cons.mpr ⟨lw_p21, List.forall_mem_cons.mpr ⟨lw_p22, List.forall_mem_cons.mpr ⟨lw_p23, List.forall_mem_cons.mpr ⟨lw_p24, List.forall_mem_cons.mpr ⟨lw_p25, List.forall_mem_cons.mpr ⟨lw_p26, fun _ h => absurd h List.not_mem_nil⟩⟩⟩⟩⟩⟩⟩⟩⟩⟩⟩
def lw_privs : List (MethodName × Nat) := lw_privs_1 ++ (lw_privs_2)
def lw_tbl : List Cond := k2_sels lw_privs ++ tables_1
theorem lw_privs_ok : ∀ q ∈ lw_privs, lw_okq q := by
  show ∀ q ∈ lw_privs_1 ++ (lw_privs_2), lw_okq q
  exact List.forall_mem_append.mpr ⟨lw_r1, lw_r2⟩
end
section
/-! ===== BEGIN words of one list among another's, by their places ===== -/
theorem goodIn_r {big : List Cond} (ws : List Cond) (ps : List Nat) (hp : ws = ps.filterMap (fun i => big[i]?)) (h : ws.all goodWord = true) : GoodIn big ws := by
  intro w hw
  have h1 := List.all_eq_true.mp h w hw
  rw [hp] at hw
  obtain ⟨i, -, hi⟩ := List.mem_filterMap.mp hw
  have hm : w ∈ big := by first | exact List.mem_of_getElem? hi | exact List.getElem?_mem hi
  exact ⟨hm, good_of_word h1⟩
theorem goodIn_app {big a b : List Cond} (ha : GoodIn big a) (hb : GoodIn big b) : GoodIn big (a ++ b) := fun w h => (List.mem_append.mp h).elim (ha w) (hb w)
theorem goodIn_ca {big a b : List Cond} {c : Cond} (ha : GoodIn big (c :: a)) (hb : GoodIn big b) : GoodIn big (c :: (a ++ b)) := fun w h => (List.mem_cons.mp h).elim (fun e => ha w (List.mem_cons.mpr (Or.inl e))) (fun h => (List.mem_append.mp h).elim (fun h => ha w (List.mem_cons.mpr (Or.inr h))) (hb w))
theorem goodIn_sub {big ws : List Cond} (hm : ∀ w ∈ ws, w ∈ big) (h : ws.all goodWord = true) : GoodIn big ws := fun w hw => ⟨hm w hw, good_of_word (List.all_eq_true.mp h w hw)⟩
/-! ===== END ===== -/

/-! ===== BEGIN printed: names, fields, word lists, decode rows ===== -/
def RX0 : String := "BooleanRing$Diagrams"
def TX0 : u_T := fun k => match k with
  | 0 => ("BooleanRing$Diagrams", "found", "[J", true)
  | _ => ("BooleanRing$Diagrams", "count", "I", false)
def tyX0 : Nat → FieldType := fun k => match k with
  | 0 => .array .long
  | _ => .int
abbrev wsX00 : List Cond := u_ws RX0 TX0 2
theorem nmX0 : ∀ a, a < 2 → ∀ b, b < 2 → a ≠ b → (TX0 a).2.1 ≠ (TX0 b).2.1 := by decide +kernel
theorem tyX0_ok : ∀ k, k < 2 → parseFieldDescriptor (TX0 k).2.2.1 = some (tyX0 k) := by decide +kernel
abbrev cX0_init : ByteArray := prog_2_method_1_code
def yX0_init : MethodName := ⟨RX0, "<init>", "()V"⟩
abbrev cX0_forget : ByteArray := prog_2_method_2_code
def yX0_forget : MethodName := ⟨RX0, "forget", "()V"⟩
abbrev cX0_enter : ByteArray := prog_2_method_3_code
def yX0_enter : MethodName := ⟨RX0, "enter", "(J)V"⟩
abbrev cX0_isKnown : ByteArray := prog_2_method_4_code
def yX0_isKnown : MethodName := ⟨RX0, "isKnown", "(J)Z"⟩
abbrev cX0_closedCount : ByteArray := prog_2_method_5_code
def yX0_closedCount : MethodName := ⟨RX0, "closedCount", "()I"⟩
def RX1 : String := "BooleanRing$History"
def TX1 : u_T := fun k => match k with
  | 0 => ("BooleanRing$History", "states", "[J", true)
  | _ => ("BooleanRing$History", "kept", "I", false)
def tyX1 : Nat → FieldType := fun k => match k with
  | 0 => .array .long
  | _ => .int
abbrev wsX10 : List Cond := u_ws RX1 TX1 2
theorem nmX1 : ∀ a, a < 2 → ∀ b, b < 2 → a ≠ b → (TX1 a).2.1 ≠ (TX1 b).2.1 := by decide +kernel
theorem tyX1_ok : ∀ k, k < 2 → parseFieldDescriptor (TX1 k).2.2.1 = some (tyX1 k) := by decide +kernel
abbrev cX1_init : ByteArray := prog_3_method_1_code
def yX1_init : MethodName := ⟨RX1, "<init>", "()V"⟩
abbrev cX1_forget : ByteArray := prog_3_method_2_code
def yX1_forget : MethodName := ⟨RX1, "forget", "()V"⟩
abbrev cX1_isEmpty : ByteArray := prog_3_method_3_code
def yX1_isEmpty : MethodName := ⟨RX1, "isEmpty", "()Z"⟩
abbrev cX1_keep : ByteArray := prog_3_method_4_code
def yX1_keep : MethodName := ⟨RX1, "keep", "([J)V"⟩
abbrev cX1_restore : ByteArray := prog_3_method_5_code
def yX1_restore : MethodName := ⟨RX1, "restore", "([J)I"⟩
def RX2 : String := "BooleanRing$Orders"
def TX2 : u_T := fun k => match k with
  | _ => ("", "", "", false)
def tyX2 : Nat → FieldType := fun k => match k with
  | _ => .int
abbrev wsX20 : List Cond := u_ws RX2 TX2 0
theorem nmX2 : ∀ a, a < 0 → ∀ b, b < 0 → a ≠ b → (TX2 a).2.1 ≠ (TX2 b).2.1 := by decide +kernel
theorem tyX2_ok : ∀ k, k < 0 → parseFieldDescriptor (TX2 k).2.2.1 = some (tyX2 k) := by decide +kernel
abbrev cX2_tableOf : ByteArray := prog_4_method_2_code
def yX2_tableOf : MethodName := ⟨RX2, "tableOf", "(I)[I"⟩
abbrev cX2_monomialAt : ByteArray := prog_4_method_3_code
def yX2_monomialAt : MethodName := ⟨RX2, "monomialAt", "(II)I"⟩
abbrev cX2_termOf : ByteArray := prog_4_method_4_code
def yX2_termOf : MethodName := ⟨RX2, "termOf", "(JII)I"⟩
def RX3 : String := "BooleanRing$Poly"
def TX3 : u_T := fun k => match k with
  | _ => ("", "", "", false)
def tyX3 : Nat → FieldType := fun k => match k with
  | _ => .int
abbrev wsX30 : List Cond := u_ws RX3 TX3 0
theorem nmX3 : ∀ a, a < 0 → ∀ b, b < 0 → a ≠ b → (TX3 a).2.1 ≠ (TX3 b).2.1 := by decide +kernel
theorem tyX3_ok : ∀ k, k < 0 → parseFieldDescriptor (TX3 k).2.2.1 = some (tyX3 k) := by decide +kernel
abbrev cX3_without : ByteArray := prog_5_method_2_code
def yX3_without : MethodName := ⟨RX3, "without", "(I)J"⟩
abbrev cX3_ofMonomial : ByteArray := prog_5_method_3_code
def yX3_ofMonomial : MethodName := ⟨RX3, "ofMonomial", "(I)J"⟩
abbrev cX3_bit : ByteArray := prog_5_method_4_code
def yX3_bit : MethodName := ⟨RX3, "bit", "(JI)I"⟩
abbrev cX3_upperHalf : ByteArray := prog_5_method_5_code
def yX3_upperHalf : MethodName := ⟨RX3, "upperHalf", "(JI)J"⟩
abbrev cX3_lowerHalf : ByteArray := prog_5_method_6_code
def yX3_lowerHalf : MethodName := ⟨RX3, "lowerHalf", "(JI)J"⟩
abbrev cX3_raised : ByteArray := prog_5_method_7_code
def yX3_raised : MethodName := ⟨RX3, "raised", "(JI)J"⟩
abbrev cX3_transformed : ByteArray := prog_5_method_8_code
def yX3_transformed : MethodName := ⟨RX3, "transformed", "(JI)J"⟩
abbrev cX3_multiplied : ByteArray := prog_5_method_9_code
def yX3_multiplied : MethodName := ⟨RX3, "multiplied", "(JJI)J"⟩
abbrev cX3_exchanged : ByteArray := prog_5_method_10_code
def yX3_exchanged : MethodName := ⟨RX3, "exchanged", "(JII)J"⟩
abbrev cX3_lowestVariable : ByteArray := prog_5_method_11_code
def yX3_lowestVariable : MethodName := ⟨RX3, "lowestVariable", "(J)I"⟩
def RX4 : String := "BooleanRing$StandardText"
def TX4 : u_T := fun k => match k with
  | _ => ("", "", "", false)
def tyX4 : Nat → FieldType := fun k => match k with
  | _ => .int
abbrev wsX40 : List Cond := u_ws RX4 TX4 0
theorem nmX4 : ∀ a, a < 0 → ∀ b, b < 0 → a ≠ b → (TX4 a).2.1 ≠ (TX4 b).2.1 := by decide +kernel
theorem tyX4_ok : ∀ k, k < 0 → parseFieldDescriptor (TX4 k).2.2.1 = some (tyX4 k) := by decide +kernel
abbrev cX4_lengthOf : ByteArray := prog_6_method_2_code
def yX4_lengthOf : MethodName := ⟨RX4, "lengthOf", "(J)I"⟩
abbrev cX4_characterOf : ByteArray := prog_6_method_3_code
def yX4_characterOf : MethodName := ⟨RX4, "characterOf", "(JI)I"⟩
abbrev cX4_widthOf : ByteArray := prog_6_method_4_code
def yX4_widthOf : MethodName := ⟨RX4, "widthOf", "(I)I"⟩
abbrev cX4_signOf : ByteArray := prog_6_method_5_code
def yX4_signOf : MethodName := ⟨RX4, "signOf", "(II)I"⟩
def RX5 : String := "BooleanRing$Typed"
def TX5 : u_T := fun k => match k with
  | 0 => ("BooleanRing$Typed", "text", "[C", true)
  | _ => ("BooleanRing$Typed", "length", "I", false)
def tyX5 : Nat → FieldType := fun k => match k with
  | 0 => .array .char
  | _ => .int
abbrev wsX50 : List Cond := u_ws RX5 TX5 2
theorem nmX5 : ∀ a, a < 2 → ∀ b, b < 2 → a ≠ b → (TX5 a).2.1 ≠ (TX5 b).2.1 := by decide +kernel
theorem tyX5_ok : ∀ k, k < 2 → parseFieldDescriptor (TX5 k).2.2.1 = some (tyX5 k) := by decide +kernel
abbrev cX5_init : ByteArray := prog_7_method_1_code
def yX5_init : MethodName := ⟨RX5, "<init>", "()V"⟩
abbrev cX5_append : ByteArray := prog_7_method_2_code
def yX5_append : MethodName := ⟨RX5, "append", "(C)I"⟩
abbrev cX5_empty : ByteArray := prog_7_method_3_code
def yX5_empty : MethodName := ⟨RX5, "empty", "()I"⟩
abbrev cX5_firstFault : ByteArray := prog_7_method_4_code
def yX5_firstFault : MethodName := ⟨RX5, "firstFault", "(I)I"⟩
abbrev cX5_seenAfter : ByteArray := prog_7_method_5_code
def yX5_seenAfter : MethodName := ⟨RX5, "seenAfter", "(ICI)I"⟩
abbrev cX5_polynomial : ByteArray := prog_7_method_6_code
def yX5_polynomial : MethodName := ⟨RX5, "polynomial", "()J"⟩
def RX6 : String := "BooleanRing"
def TX6 : u_T := fun k => match k with
  | 0 => ("BooleanRing", "registers", "[J", true)
  | 1 => ("BooleanRing", "leading", "[I", true)
  | 2 => ("BooleanRing", "history", "LBooleanRing$History;", true)
  | 3 => ("BooleanRing", "diagrams", "LBooleanRing$Diagrams;", true)
  | 4 => ("BooleanRing", "typed", "LBooleanRing$Typed;", true)
  | _ => ("BooleanRing", "n", "I", false)
def tyX6 : Nat → FieldType := fun k => match k with
  | 0 => .array .long
  | 1 => .array .int
  | 2 => .object "BooleanRing$History"
  | 3 => .object "BooleanRing$Diagrams"
  | 4 => .object "BooleanRing$Typed"
  | _ => .int
abbrev wsX60 : List Cond := u_ws RX6 TX6 6
theorem nmX6 : ∀ a, a < 6 → ∀ b, b < 6 → a ≠ b → (TX6 a).2.1 ≠ (TX6 b).2.1 := by decide +kernel
theorem tyX6_ok : ∀ k, k < 6 → parseFieldDescriptor (TX6 k).2.2.1 = some (tyX6 k) := by decide +kernel
abbrev cX6_init : ByteArray := prog_1_method_1_code
def yX6_init : MethodName := ⟨RX6, "<init>", "()V"⟩
abbrev cX6_reset : ByteArray := prog_1_method_2_code
def yX6_reset : MethodName := ⟨RX6, "reset", "(I)I"⟩
abbrev cX6_variables : ByteArray := prog_1_method_3_code
def yX6_variables : MethodName := ⟨RX6, "variables", "()I"⟩
abbrev cX6_toggle : ByteArray := prog_1_method_4_code
def yX6_toggle : MethodName := ⟨RX6, "toggle", "(II)I"⟩
abbrev cX6_copy : ByteArray := prog_1_method_5_code
def yX6_copy : MethodName := ⟨RX6, "copy", "(II)I"⟩
abbrev cX6_sum : ByteArray := prog_1_method_6_code
def yX6_sum : MethodName := ⟨RX6, "sum", "(III)I"⟩
abbrev cX6_product : ByteArray := prog_1_method_7_code
def yX6_product : MethodName := ⟨RX6, "product", "(III)I"⟩
abbrev cX6_times : ByteArray := prog_1_method_8_code
def yX6_times : MethodName := ⟨RX6, "times", "(III)I"⟩
abbrev cX6_restrict : ByteArray := prog_1_method_9_code
def yX6_restrict : MethodName := ⟨RX6, "restrict", "(IIII)I"⟩
abbrev cX6_substitute : ByteArray := prog_1_method_10_code
def yX6_substitute : MethodName := ⟨RX6, "substitute", "(IIII)I"⟩
abbrev cX6_derivative : ByteArray := prog_1_method_11_code
def yX6_derivative : MethodName := ⟨RX6, "derivative", "(III)I"⟩
abbrev cX6_flip : ByteArray := prog_1_method_12_code
def yX6_flip : MethodName := ⟨RX6, "flip", "(II)I"⟩
abbrev cX6_exchange : ByteArray := prog_1_method_13_code
def yX6_exchange : MethodName := ⟨RX6, "exchange", "(III)I"⟩
abbrev cX6_undo : ByteArray := prog_1_method_14_code
def yX6_undo : MethodName := ⟨RX6, "undo", "()I"⟩
abbrev cX6_has : ByteArray := prog_1_method_15_code
def yX6_has : MethodName := ⟨RX6, "has", "(II)I"⟩
abbrev cX6_terms : ByteArray := prog_1_method_16_code
def yX6_terms : MethodName := ⟨RX6, "terms", "(I)I"⟩
abbrev cX6_degree : ByteArray := prog_1_method_17_code
def yX6_degree : MethodName := ⟨RX6, "degree", "(I)I"⟩
abbrev cX6_occurring : ByteArray := prog_1_method_18_code
def yX6_occurring : MethodName := ⟨RX6, "occurring", "(I)I"⟩
abbrev cX6_size : ByteArray := prog_1_method_19_code
def yX6_size : MethodName := ⟨RX6, "size", "(I)I"⟩
abbrev cX6_sharedSize : ByteArray := prog_1_method_20_code
def yX6_sharedSize : MethodName := ⟨RX6, "sharedSize", "()I"⟩
abbrev cX6_termAt : ByteArray := prog_1_method_21_code
def yX6_termAt : MethodName := ⟨RX6, "termAt", "(III)I"⟩
abbrev cX6_value : ByteArray := prog_1_method_22_code
def yX6_value : MethodName := ⟨RX6, "value", "(II)I"⟩
abbrev cX6_isSame : ByteArray := prog_1_method_23_code
def yX6_isSame : MethodName := ⟨RX6, "isSame", "(II)I"⟩
abbrev cX6_reduce : ByteArray := prog_1_method_24_code
def yX6_reduce : MethodName := ⟨RX6, "reduce", "(IIII)I"⟩
abbrev cX6_echelon : ByteArray := prog_1_method_25_code
def yX6_echelon : MethodName := ⟨RX6, "echelon", "(II)I"⟩
abbrev cX6_zeros : ByteArray := prog_1_method_26_code
def yX6_zeros : MethodName := ⟨RX6, "zeros", "(I)I"⟩
abbrev cX6_zeroAt : ByteArray := prog_1_method_27_code
def yX6_zeroAt : MethodName := ⟨RX6, "zeroAt", "(II)I"⟩
abbrev cX6_combine : ByteArray := prog_1_method_28_code
def yX6_combine : MethodName := ⟨RX6, "combine", "(II)I"⟩
abbrev cX6_eliminate : ByteArray := prog_1_method_29_code
def yX6_eliminate : MethodName := ⟨RX6, "eliminate", "(III)I"⟩
abbrev cX6_fibres : ByteArray := prog_1_method_30_code
def yX6_fibres : MethodName := ⟨RX6, "fibres", "(III)I"⟩
abbrev cX6_isMember : ByteArray := prog_1_method_31_code
def yX6_isMember : MethodName := ⟨RX6, "isMember", "(II)I"⟩
abbrev cX6_isSameIdeal : ByteArray := prog_1_method_32_code
def yX6_isSameIdeal : MethodName := ⟨RX6, "isSameIdeal", "(II)I"⟩
abbrev cX6_fixedVariables : ByteArray := prog_1_method_33_code
def yX6_fixedVariables : MethodName := ⟨RX6, "fixedVariables", "(I)I"⟩
abbrev cX6_type : ByteArray := prog_1_method_34_code
def yX6_type : MethodName := ⟨RX6, "type", "(I)I"⟩
abbrev cX6_clearText : ByteArray := prog_1_method_35_code
def yX6_clearText : MethodName := ⟨RX6, "clearText", "()I"⟩
abbrev cX6_fault : ByteArray := prog_1_method_36_code
def yX6_fault : MethodName := ⟨RX6, "fault", "()I"⟩
abbrev cX6_read : ByteArray := prog_1_method_37_code
def yX6_read : MethodName := ⟨RX6, "read", "(I)I"⟩
abbrev cX6_textLength : ByteArray := prog_1_method_38_code
def yX6_textLength : MethodName := ⟨RX6, "textLength", "(I)I"⟩
abbrev cX6_textAt : ByteArray := prog_1_method_39_code
def yX6_textAt : MethodName := ⟨RX6, "textAt", "(II)I"⟩
abbrev cX6_isRegister : ByteArray := prog_1_method_40_code
def yX6_isRegister : MethodName := ⟨RX6, "isRegister", "(I)Z"⟩
abbrev cX6_isSet : ByteArray := prog_1_method_41_code
def yX6_isSet : MethodName := ⟨RX6, "isSet", "(I)Z"⟩
abbrev cX6_isOrder : ByteArray := prog_1_method_42_code
def yX6_isOrder : MethodName := ⟨RX6, "isOrder", "(I)Z"⟩
abbrev cX6_isVariable : ByteArray := prog_1_method_43_code
def yX6_isVariable : MethodName := ⟨RX6, "isVariable", "(I)Z"⟩
abbrev cX6_isMask : ByteArray := prog_1_method_44_code
def yX6_isMask : MethodName := ⟨RX6, "isMask", "(I)Z"⟩
abbrev cX6_put : ByteArray := prog_1_method_45_code
def yX6_put : MethodName := ⟨RX6, "put", "(IJ)I"⟩
abbrev cX6_isIn : ByteArray := prog_1_method_46_code
def yX6_isIn : MethodName := ⟨RX6, "isIn", "(II)Z"⟩
abbrev cX6_nextOf : ByteArray := prog_1_method_47_code
def yX6_nextOf : MethodName := ⟨RX6, "nextOf", "(II)I"⟩
abbrev cX6_findLeading : ByteArray := prog_1_method_48_code
def yX6_findLeading : MethodName := ⟨RX6, "findLeading", "(I)V"⟩
abbrev cX6_reducerOf : ByteArray := prog_1_method_49_code
def yX6_reducerOf : MethodName := ⟨RX6, "reducerOf", "(II)I"⟩
abbrev cX6_bringUp : ByteArray := prog_1_method_50_code
def yX6_bringUp : MethodName := ⟨RX6, "bringUp", "(III)Z"⟩
abbrev cX6_clearElsewhere : ByteArray := prog_1_method_51_code
def yX6_clearElsewhere : MethodName := ⟨RX6, "clearElsewhere", "(III)V"⟩
abbrev cX6_allPoints : ByteArray := prog_1_method_52_code
def yX6_allPoints : MethodName := ⟨RX6, "allPoints", "()J"⟩
abbrev cX6_nonZeros : ByteArray := prog_1_method_53_code
def yX6_nonZeros : MethodName := ⟨RX6, "nonZeros", "(I)J"⟩
abbrev cX6_commonZeros : ByteArray := prog_1_method_54_code
def yX6_commonZeros : MethodName := ⟨RX6, "commonZeros", "(I)J"⟩
def RX7 : String := "BooleanRingModel"
def TX7 : u_T := fun k => match k with
  | 0 => ("BooleanRingModel", "n", "I", false)
  | 1 => ("BooleanRingModel", "p", "[J", true)
  | 2 => ("BooleanRingModel", "was", "[J", true)
  | 3 => ("BooleanRingModel", "states", "I", false)
  | 4 => ("BooleanRingModel", "text", "[C", true)
  | 5 => ("BooleanRingModel", "typed", "I", false)
  | 6 => ("BooleanRingModel", "found", "[J", true)
  | 7 => ("BooleanRingModel", "founds", "I", false)
  | _ => ("BooleanRingModel", "by", "[J", true)
def tyX7 : Nat → FieldType := fun k => match k with
  | 0 => .int
  | 1 => .array .long
  | 2 => .array .long
  | 3 => .int
  | 4 => .array .char
  | 5 => .int
  | 6 => .array .long
  | 7 => .int
  | _ => .array .long
abbrev wsX70 : List Cond := u_ws RX7 TX7 9
theorem nmX7 : ∀ a, a < 9 → ∀ b, b < 9 → a ≠ b → (TX7 a).2.1 ≠ (TX7 b).2.1 := by decide +kernel
theorem tyX7_ok : ∀ k, k < 9 → parseFieldDescriptor (TX7 k).2.2.1 = some (tyX7 k) := by decide +kernel
abbrev cX7_init : ByteArray := prog_9_method_1_code
def yX7_init : MethodName := ⟨RX7, "<init>", "()V"⟩
abbrev cX7_in : ByteArray := prog_9_method_2_code
def yX7_in : MethodName := ⟨RX7, "in", "(III)Z"⟩
abbrev cX7_isRegister : ByteArray := prog_9_method_3_code
def yX7_isRegister : MethodName := ⟨RX7, "isRegister", "(I)Z"⟩
abbrev cX7_isVariable : ByteArray := prog_9_method_4_code
def yX7_isVariable : MethodName := ⟨RX7, "isVariable", "(I)Z"⟩
abbrev cX7_isMask : ByteArray := prog_9_method_5_code
def yX7_isMask : MethodName := ⟨RX7, "isMask", "(I)Z"⟩
abbrev cX7_isOrder : ByteArray := prog_9_method_6_code
def yX7_isOrder : MethodName := ⟨RX7, "isOrder", "(I)Z"⟩
abbrev cX7_isSet : ByteArray := prog_9_method_7_code
def yX7_isSet : MethodName := ⟨RX7, "isSet", "(I)Z"⟩
abbrev cX7_has1 : ByteArray := prog_9_method_8_code
def yX7_has1 : MethodName := ⟨RX7, "has1", "(JI)Z"⟩
abbrev cX7_many : ByteArray := prog_9_method_9_code
def yX7_many : MethodName := ⟨RX7, "many", "(J)I"⟩
abbrev cX7_records : ByteArray := prog_9_method_10_code
def yX7_records : MethodName := ⟨RX7, "records", "()V"⟩
abbrev cX7_gets : ByteArray := prog_9_method_11_code
def yX7_gets : MethodName := ⟨RX7, "gets", "(IJ)I"⟩
abbrev cX7_product1 : ByteArray := prog_9_method_12_code
def yX7_product1 : MethodName := ⟨RX7, "product1", "(JJ)J"⟩
abbrev cX7_upper : ByteArray := prog_9_method_13_code
def yX7_upper : MethodName := ⟨RX7, "upper", "(JI)J"⟩
abbrev cX7_lower : ByteArray := prog_9_method_14_code
def yX7_lower : MethodName := ⟨RX7, "lower", "(JI)J"⟩
abbrev cX7_values : ByteArray := prog_9_method_15_code
def yX7_values : MethodName := ⟨RX7, "values", "(J)J"⟩
abbrev cX7_occurs : ByteArray := prog_9_method_16_code
def yX7_occurs : MethodName := ⟨RX7, "occurs", "(J)I"⟩
abbrev cX7_reset : ByteArray := prog_9_method_17_code
def yX7_reset : MethodName := ⟨RX7, "reset", "(I)I"⟩
abbrev cX7_variables : ByteArray := prog_9_method_18_code
def yX7_variables : MethodName := ⟨RX7, "variables", "()I"⟩
abbrev cX7_toggle : ByteArray := prog_9_method_19_code
def yX7_toggle : MethodName := ⟨RX7, "toggle", "(II)I"⟩
abbrev cX7_copy : ByteArray := prog_9_method_20_code
def yX7_copy : MethodName := ⟨RX7, "copy", "(II)I"⟩
abbrev cX7_sum : ByteArray := prog_9_method_21_code
def yX7_sum : MethodName := ⟨RX7, "sum", "(III)I"⟩
abbrev cX7_product : ByteArray := prog_9_method_22_code
def yX7_product : MethodName := ⟨RX7, "product", "(III)I"⟩
abbrev cX7_times : ByteArray := prog_9_method_23_code
def yX7_times : MethodName := ⟨RX7, "times", "(III)I"⟩
abbrev cX7_restrict : ByteArray := prog_9_method_24_code
def yX7_restrict : MethodName := ⟨RX7, "restrict", "(IIII)I"⟩
abbrev cX7_substitute : ByteArray := prog_9_method_25_code
def yX7_substitute : MethodName := ⟨RX7, "substitute", "(IIII)I"⟩
abbrev cX7_derivative : ByteArray := prog_9_method_26_code
def yX7_derivative : MethodName := ⟨RX7, "derivative", "(III)I"⟩
abbrev cX7_flip : ByteArray := prog_9_method_27_code
def yX7_flip : MethodName := ⟨RX7, "flip", "(II)I"⟩
abbrev cX7_exchange : ByteArray := prog_9_method_28_code
def yX7_exchange : MethodName := ⟨RX7, "exchange", "(III)I"⟩
abbrev cX7_undo : ByteArray := prog_9_method_29_code
def yX7_undo : MethodName := ⟨RX7, "undo", "()I"⟩
abbrev cX7_has : ByteArray := prog_9_method_30_code
def yX7_has : MethodName := ⟨RX7, "has", "(II)I"⟩
abbrev cX7_terms : ByteArray := prog_9_method_31_code
def yX7_terms : MethodName := ⟨RX7, "terms", "(I)I"⟩
abbrev cX7_degree : ByteArray := prog_9_method_32_code
def yX7_degree : MethodName := ⟨RX7, "degree", "(I)I"⟩
abbrev cX7_occurring : ByteArray := prog_9_method_33_code
def yX7_occurring : MethodName := ⟨RX7, "occurring", "(I)I"⟩
abbrev cX7_notes : ByteArray := prog_9_method_34_code
def yX7_notes : MethodName := ⟨RX7, "notes", "(J)V"⟩
abbrev cX7_spreads : ByteArray := prog_9_method_35_code
def yX7_spreads : MethodName := ⟨RX7, "spreads", "()I"⟩
abbrev cX7_size : ByteArray := prog_9_method_36_code
def yX7_size : MethodName := ⟨RX7, "size", "(I)I"⟩
abbrev cX7_sharedSize : ByteArray := prog_9_method_37_code
def yX7_sharedSize : MethodName := ⟨RX7, "sharedSize", "()I"⟩
abbrev cX7_isGreater : ByteArray := prog_9_method_38_code
def yX7_isGreater : MethodName := ⟨RX7, "isGreater", "(III)Z"⟩
abbrev cX7_leads : ByteArray := prog_9_method_39_code
def yX7_leads : MethodName := ⟨RX7, "leads", "(JI)I"⟩
abbrev cX7_termAt : ByteArray := prog_9_method_40_code
def yX7_termAt : MethodName := ⟨RX7, "termAt", "(III)I"⟩
abbrev cX7_value : ByteArray := prog_9_method_41_code
def yX7_value : MethodName := ⟨RX7, "value", "(II)I"⟩
abbrev cX7_isSame : ByteArray := prog_9_method_42_code
def yX7_isSame : MethodName := ⟨RX7, "isSame", "(II)I"⟩
abbrev cX7_taker : ByteArray := prog_9_method_43_code
def yX7_taker : MethodName := ⟨RX7, "taker", "(III)I"⟩
abbrev cX7_reduce : ByteArray := prog_9_method_44_code
def yX7_reduce : MethodName := ⟨RX7, "reduce", "(IIII)I"⟩
abbrev cX7_echelon : ByteArray := prog_9_method_45_code
def yX7_echelon : MethodName := ⟨RX7, "echelon", "(II)I"⟩
abbrev cX7_barred : ByteArray := prog_9_method_46_code
def yX7_barred : MethodName := ⟨RX7, "barred", "(I)J"⟩
abbrev cX7_zeros : ByteArray := prog_9_method_47_code
def yX7_zeros : MethodName := ⟨RX7, "zeros", "(I)I"⟩
abbrev cX7_zeroAt : ByteArray := prog_9_method_48_code
def yX7_zeroAt : MethodName := ⟨RX7, "zeroAt", "(II)I"⟩
abbrev cX7_combine : ByteArray := prog_9_method_49_code
def yX7_combine : MethodName := ⟨RX7, "combine", "(II)I"⟩
abbrev cX7_eliminate : ByteArray := prog_9_method_50_code
def yX7_eliminate : MethodName := ⟨RX7, "eliminate", "(III)I"⟩
abbrev cX7_fibres : ByteArray := prog_9_method_51_code
def yX7_fibres : MethodName := ⟨RX7, "fibres", "(III)I"⟩
abbrev cX7_isMember : ByteArray := prog_9_method_52_code
def yX7_isMember : MethodName := ⟨RX7, "isMember", "(II)I"⟩
abbrev cX7_isSameIdeal : ByteArray := prog_9_method_53_code
def yX7_isSameIdeal : MethodName := ⟨RX7, "isSameIdeal", "(II)I"⟩
abbrev cX7_fixedVariables : ByteArray := prog_9_method_54_code
def yX7_fixedVariables : MethodName := ⟨RX7, "fixedVariables", "(I)I"⟩
abbrev cX7_type : ByteArray := prog_9_method_55_code
def yX7_type : MethodName := ⟨RX7, "type", "(I)I"⟩
abbrev cX7_clearText : ByteArray := prog_9_method_56_code
def yX7_clearText : MethodName := ⟨RX7, "clearText", "()I"⟩
abbrev cX7_behind : ByteArray := prog_9_method_57_code
def yX7_behind : MethodName := ⟨RX7, "behind", "(IC)I"⟩
abbrev cX7_fault : ByteArray := prog_9_method_58_code
def yX7_fault : MethodName := ⟨RX7, "fault", "()I"⟩
abbrev cX7_read : ByteArray := prog_9_method_59_code
def yX7_read : MethodName := ⟨RX7, "read", "(I)I"⟩
abbrev cX7_longOf : ByteArray := prog_9_method_60_code
def yX7_longOf : MethodName := ⟨RX7, "longOf", "(I)I"⟩
abbrev cX7_textLength : ByteArray := prog_9_method_61_code
def yX7_textLength : MethodName := ⟨RX7, "textLength", "(I)I"⟩
abbrev cX7_letter : ByteArray := prog_9_method_62_code
def yX7_letter : MethodName := ⟨RX7, "letter", "(II)I"⟩
abbrev cX7_textAt : ByteArray := prog_9_method_63_code
def yX7_textAt : MethodName := ⟨RX7, "textAt", "(II)I"⟩
def RJ6 : String := "java/lang/Integer"
def TJ6 : u_T := fun k => match k with
  | _ => ("", "", "", false)
def tyJ6 : Nat → FieldType := fun k => match k with
  | _ => .int
abbrev wsJ60 : List Cond := u_ws RJ6 TJ6 0
theorem nmJ6 : ∀ a, a < 0 → ∀ b, b < 0 → a ≠ b → (TJ6 a).2.1 ≠ (TJ6 b).2.1 := by decide +kernel
theorem tyJ6_ok : ∀ k, k < 0 → parseFieldDescriptor (TJ6 k).2.2.1 = some (tyJ6 k) := by decide +kernel
abbrev cJ6_bitCount_0f7a4 : ByteArray := prog_10_method_49_code
def yJ6_bitCount_0f7a4 : MethodName := ⟨RJ6, "bitCount", "(I)I"⟩
def RJ13 : String := "java/lang/Long"
def TJ13 : u_T := fun k => match k with
  | _ => ("", "", "", false)
def tyJ13 : Nat → FieldType := fun k => match k with
  | _ => .int
abbrev wsJ130 : List Cond := u_ws RJ13 TJ13 0
theorem nmJ13 : ∀ a, a < 0 → ∀ b, b < 0 → a ≠ b → (TJ13 a).2.1 ≠ (TJ13 b).2.1 := by decide +kernel
theorem tyJ13_ok : ∀ k, k < 0 → parseFieldDescriptor (TJ13 k).2.2.1 = some (tyJ13 k) := by decide +kernel
abbrev cJ13_bitCount_95d88 : ByteArray := prog_11_method_50_code
def yJ13_bitCount_95d88 : MethodName := ⟨RJ13, "bitCount", "(J)I"⟩
def RJ9 : String := "java/lang/Math"
def TJ9 : u_T := fun k => match k with
  | _ => ("", "", "", false)
def tyJ9 : Nat → FieldType := fun k => match k with
  | _ => .int
abbrev wsJ90 : List Cond := u_ws RJ9 TJ9 0
theorem nmJ9 : ∀ a, a < 0 → ∀ b, b < 0 → a ≠ b → (TJ9 a).2.1 ≠ (TJ9 b).2.1 := by decide +kernel
theorem tyJ9_ok : ∀ k, k < 0 → parseFieldDescriptor (TJ9 k).2.2.1 = some (tyJ9 k) := by decide +kernel
abbrev cJ9_max_7cf53 : ByteArray := prog_12_method_65_code
def yJ9_max_7cf53 : MethodName := ⟨RJ9, "max", "(II)I"⟩
abbrev cJ9_min_7cf53 : ByteArray := prog_12_method_69_code
def yJ9_min_7cf53 : MethodName := ⟨RJ9, "min", "(II)I"⟩
def RJ10 : String := "java/lang/System"
def TJ10 : u_T := fun k => match k with
  | _ => ("", "", "", false)
def tyJ10 : Nat → FieldType := fun k => match k with
  | _ => .int
abbrev wsJ100 : List Cond := u_ws RJ10 TJ10 0
theorem nmJ10 : ∀ a, a < 0 → ∀ b, b < 0 → a ≠ b → (TJ10 a).2.1 ≠ (TJ10 b).2.1 := by decide +kernel
theorem tyJ10_ok : ∀ k, k < 0 → parseFieldDescriptor (TJ10 k).2.2.1 = some (tyJ10 k) := by decide +kernel
def RJ7 : String := "java/util/Arrays"
def TJ7 : u_T := fun k => match k with
  | _ => ("", "", "", false)
def tyJ7 : Nat → FieldType := fun k => match k with
  | _ => .int
abbrev wsJ70 : List Cond := u_ws RJ7 TJ7 0
theorem nmJ7 : ∀ a, a < 0 → ∀ b, b < 0 → a ≠ b → (TJ7 a).2.1 ≠ (TJ7 b).2.1 := by decide +kernel
theorem tyJ7_ok : ∀ k, k < 0 → parseFieldDescriptor (TJ7 k).2.2.1 = some (tyJ7 k) := by decide +kernel
abbrev cJ7_fill_d0a16 : ByteArray := prog_14_method_101_code
def yJ7_fill_d0a16 : MethodName := ⟨RJ7, "fill", "([JJ)V"⟩
def RL : String := "BooleanRingLaw"
abbrev cL_law : ByteArray := code
def yL_law : MethodName := ⟨RL, "law", "([I)Z"⟩
def wsX0_init : List Cond := .code yX0_init cX0_init 1 none :: ([.methodLink RX0 3 objectInit, .instanceMethod objectInit, .code objectInit ⟨#[0xb1]⟩ 1 none, .arrayClass .long, .fieldLink RX0 9 "BooleanRing$Diagrams" "found" "[J", .fieldLink RX0 15 "BooleanRing$Diagrams" "count" "I"] ++ wsX00)
def wsX0_forget : List Cond := .code yX0_forget cX0_forget 1 none :: ([.fieldLink RX0 15 "BooleanRing$Diagrams" "count" "I"] ++ wsX00)
def wsX0_isKnown : List Cond := .code yX0_isKnown cX0_isKnown 4 (some .boolean) :: ([.fieldLink RX0 15 "BooleanRing$Diagrams" "count" "I", .fieldLink RX0 9 "BooleanRing$Diagrams" "found" "[J"] ++ wsX00)
def wsX0_enter : List Cond := .code yX0_enter cX0_enter 4 none :: ([.constantLong RX0 19 (-2), .fieldLink RX0 15 "BooleanRing$Diagrams" "count" "I", .fieldLink RX0 9 "BooleanRing$Diagrams" "found" "[J", .methodLink RX0 21 yX0_isKnown, .instanceMethod yX0_isKnown, .selects RX0 yX0_isKnown yX0_isKnown, .initialized RX0, .code yX0_isKnown cX0_isKnown 4 (some .boolean)] ++ wsX00)
def wsX3_without : List Cond := .code yX3_without cX3_without 1 (some .long) :: ([.fieldLink RX3 9 "BooleanRing$Poly" "WITHOUT" "[J"])
def wsX3_upperHalf : List Cond := .code yX3_upperHalf cX3_upperHalf 3 (some .long) :: ([.methodLink RX3 15 yX3_without, .static yX3_without, .initialized RX3, .code yX3_without cX3_without 1 (some .long), .fieldLink RX3 9 "BooleanRing$Poly" "WITHOUT" "[J"])
def wsX3_lowestVariable : List Cond := .code yX3_lowestVariable cX3_lowestVariable 3 (some .int) :: ([.methodLink RX3 28 yX3_upperHalf, .static yX3_upperHalf, .initialized RX3, .code yX3_upperHalf cX3_upperHalf 3 (some .long), .methodLink RX3 15 yX3_without, .static yX3_without, .code yX3_without cX3_without 1 (some .long), .fieldLink RX3 9 "BooleanRing$Poly" "WITHOUT" "[J"])
def wsX3_lowerHalf : List Cond := .code yX3_lowerHalf cX3_lowerHalf 3 (some .long) :: ([.methodLink RX3 15 yX3_without, .static yX3_without, .initialized RX3, .code yX3_without cX3_without 1 (some .long), .fieldLink RX3 9 "BooleanRing$Poly" "WITHOUT" "[J"])
def wsX0_closedCount_r1 : List Cond := [Cond.fieldLink RX0 15 "BooleanRing$Diagrams" "count" "I", Cond.fieldLink RX0 9 "BooleanRing$Diagrams" "found" "[J", Cond.methodLink RX0 25 yX3_lowestVariable, Cond.static yX3_lowestVariable, Cond.initialized RX3, Cond.code yX3_lowestVariable cX3_lowestVariable 3 (some .int), Cond.methodLink RX3 28 yX3_upperHalf, Cond.static yX3_upperHalf, Cond.code yX3_upperHalf cX3_upperHalf 3 (some .long), Cond.methodLink RX3 15 yX3_without, Cond.static yX3_without, Cond.code yX3_without cX3_without 1 (some .long), Cond.fieldLink RX3 9 "BooleanRing$Poly" "WITHOUT" "[J", Cond.methodLink RX0 31 yX3_upperHalf, Cond.methodLink RX0 35 yX0_enter, Cond.instanceMethod yX0_enter, Cond.selects RX0 yX0_enter yX0_enter, Cond.initialized RX0, Cond.code yX0_enter cX0_enter 4 none, Cond.constantLong RX0 19 (-2), Cond.methodLink RX0 21 yX0_isKnown, Cond.instanceMethod yX0_isKnown, Cond.selects RX0 yX0_isKnown yX0_isKnown, Cond.code yX0_isKnown cX0_isKnown 4 (some .boolean)]
def wsX0_closedCount_r2 : List Cond := [Cond.methodLink RX0 39 yX3_lowerHalf, Cond.static yX3_lowerHalf, Cond.code yX3_lowerHalf cX3_lowerHalf 3 (some .long)]
def wsX0_closedCount : List Cond := .code yX0_closedCount cX0_closedCount 3 (some .int) :: ((wsX0_closedCount_r1 ++ wsX0_closedCount_r2) ++ wsX00)
def wsX1_init : List Cond := .code yX1_init cX1_init 1 none :: ([.methodLink RX1 3 objectInit, .instanceMethod objectInit, .code objectInit ⟨#[0xb1]⟩ 1 none, .arrayClass .long, .fieldLink RX1 11 "BooleanRing$History" "states" "[J", .fieldLink RX1 15 "BooleanRing$History" "kept" "I"] ++ wsX10)
def wsX1_forget : List Cond := .code yX1_forget cX1_forget 1 none :: ([.fieldLink RX1 15 "BooleanRing$History" "kept" "I"] ++ wsX10)
def wsX1_isEmpty : List Cond := .code yX1_isEmpty cX1_isEmpty 1 (some .boolean) :: ([.fieldLink RX1 15 "BooleanRing$History" "kept" "I"] ++ wsX10)
def wsX1_keep : List Cond := .code yX1_keep cX1_keep 2 none :: ([.fieldLink RX1 15 "BooleanRing$History" "kept" "I", .fieldLink RX1 11 "BooleanRing$History" "states" "[J", .methodLink RX1 19 arraycopyName, .native arraycopyName, .static arraycopyName, .initialized "java/lang/System"] ++ wsX10)
def wsX1_restore : List Cond := .code yX1_restore cX1_restore 2 (some .int) :: ([.fieldLink RX1 15 "BooleanRing$History" "kept" "I", .fieldLink RX1 11 "BooleanRing$History" "states" "[J", .methodLink RX1 19 arraycopyName, .native arraycopyName, .static arraycopyName, .initialized "java/lang/System"] ++ wsX10)
def wsX2_tableOf : List Cond := .code yX2_tableOf cX2_tableOf 1 (some (.array .int)) :: ([.fieldLink RX2 9 "BooleanRing$Orders" "BY_LEX" "[I", .fieldLink RX2 15 "BooleanRing$Orders" "BY_GRADED" "[I", .fieldLink RX2 18 "BooleanRing$Orders" "BY_REVERSE" "[I"])
def wsX2_monomialAt : List Cond := .code yX2_monomialAt cX2_monomialAt 3 (some .int) :: ([.methodLink RX2 21 yX2_tableOf, .static yX2_tableOf, .initialized RX2, .code yX2_tableOf cX2_tableOf 1 (some (.array .int)), .fieldLink RX2 9 "BooleanRing$Orders" "BY_LEX" "[I", .fieldLink RX2 15 "BooleanRing$Orders" "BY_GRADED" "[I", .fieldLink RX2 18 "BooleanRing$Orders" "BY_REVERSE" "[I"])
def wsJ13_bitCount_95d88 : List Cond := .code yJ13_bitCount_95d88 cJ13_bitCount_95d88 2 (some .int) :: ([.constantLong RJ13 314 (6148914691236517205), .constantLong RJ13 316 (3689348814741910323), .constantLong RJ13 318 (1085102592571150095)])
def wsX3_bit : List Cond := .code yX3_bit cX3_bit 3 (some .int) :: ([])
def wsX2_termOf : List Cond := .code yX2_termOf cX2_termOf 7 (some .int) :: ([.methodLink RX2 25 yJ13_bitCount_95d88, .static yJ13_bitCount_95d88, .initialized RJ13, .code yJ13_bitCount_95d88 cJ13_bitCount_95d88 2 (some .int), .constantLong RJ13 314 (6148914691236517205), .constantLong RJ13 316 (3689348814741910323), .constantLong RJ13 318 (1085102592571150095), .methodLink RX2 31 yX2_monomialAt, .static yX2_monomialAt, .initialized RX2, .code yX2_monomialAt cX2_monomialAt 3 (some .int), .methodLink RX2 21 yX2_tableOf, .static yX2_tableOf, .code yX2_tableOf cX2_tableOf 1 (some (.array .int)), .fieldLink RX2 9 "BooleanRing$Orders" "BY_LEX" "[I", .fieldLink RX2 15 "BooleanRing$Orders" "BY_GRADED" "[I", .fieldLink RX2 18 "BooleanRing$Orders" "BY_REVERSE" "[I", .methodLink RX2 35 yX3_bit, .static yX3_bit, .initialized RX3, .code yX3_bit cX3_bit 3 (some .int)])
def wsX3_ofMonomial : List Cond := .code yX3_ofMonomial cX3_ofMonomial 1 (some .long) :: ([])
def wsX3_raised : List Cond := .code yX3_raised cX3_raised 3 (some .long) :: ([.methodLink RX3 15 yX3_without, .static yX3_without, .initialized RX3, .code yX3_without cX3_without 1 (some .long), .fieldLink RX3 9 "BooleanRing$Poly" "WITHOUT" "[J"])
def wsX3_transformed : List Cond := .code yX3_transformed cX3_transformed 6 (some .long) :: ([.methodLink RX3 19 yX3_raised, .static yX3_raised, .initialized RX3, .code yX3_raised cX3_raised 3 (some .long), .methodLink RX3 15 yX3_without, .static yX3_without, .code yX3_without cX3_without 1 (some .long), .fieldLink RX3 9 "BooleanRing$Poly" "WITHOUT" "[J"])
def wsX3_multiplied : List Cond := .code yX3_multiplied cX3_multiplied 5 (some .long) :: ([.methodLink RX3 23 yX3_transformed, .static yX3_transformed, .initialized RX3, .code yX3_transformed cX3_transformed 6 (some .long), .methodLink RX3 19 yX3_raised, .static yX3_raised, .code yX3_raised cX3_raised 3 (some .long), .methodLink RX3 15 yX3_without, .static yX3_without, .code yX3_without cX3_without 1 (some .long), .fieldLink RX3 9 "BooleanRing$Poly" "WITHOUT" "[J"])
def wsX3_exchanged : List Cond := .code yX3_exchanged cX3_exchanged 11 (some .long) :: ([.constantLong RX3 26 (-1), .methodLink RX3 15 yX3_without, .static yX3_without, .initialized RX3, .code yX3_without cX3_without 1 (some .long), .fieldLink RX3 9 "BooleanRing$Poly" "WITHOUT" "[J"])
def wsJ6_bitCount_0f7a4 : List Cond := .code yJ6_bitCount_0f7a4 cJ6_bitCount_0f7a4 1 (some .int) :: ([.constant RJ6 265 (1431655765), .constant RJ6 266 (858993459), .constant RJ6 267 (252645135)])
def wsX4_widthOf : List Cond := .code yX4_widthOf cX4_widthOf 1 (some .int) :: ([.methodLink RX4 39 yJ6_bitCount_0f7a4, .static yJ6_bitCount_0f7a4, .initialized RJ6, .code yJ6_bitCount_0f7a4 cJ6_bitCount_0f7a4 1 (some .int), .constant RJ6 265 (1431655765), .constant RJ6 266 (858993459), .constant RJ6 267 (252645135)])
def wsX4_lengthOf : List Cond := .code yX4_lengthOf cX4_lengthOf 4 (some .int) :: ([.methodLink RX4 9 yX3_bit, .static yX3_bit, .initialized RX3, .code yX3_bit cX3_bit 3 (some .int), .methodLink RX4 15 yX4_widthOf, .static yX4_widthOf, .initialized RX4, .code yX4_widthOf cX4_widthOf 1 (some .int), .methodLink RX4 39 yJ6_bitCount_0f7a4, .static yJ6_bitCount_0f7a4, .initialized RJ6, .code yJ6_bitCount_0f7a4 cJ6_bitCount_0f7a4 1 (some .int), .constant RJ6 265 (1431655765), .constant RJ6 266 (858993459), .constant RJ6 267 (252645135), .methodLink RX4 21 yJ13_bitCount_95d88, .static yJ13_bitCount_95d88, .initialized RJ13, .code yJ13_bitCount_95d88 cJ13_bitCount_95d88 2 (some .int), .constantLong RJ13 314 (6148914691236517205), .constantLong RJ13 316 (3689348814741910323), .constantLong RJ13 318 (1085102592571150095)])
def wsX4_signOf : List Cond := .code yX4_signOf cX4_signOf 4 (some .int) :: ([])
def wsX4_characterOf_r1 : List Cond := [Cond.methodLink RX4 27 yX4_lengthOf, Cond.static yX4_lengthOf, Cond.initialized RX4, Cond.code yX4_lengthOf cX4_lengthOf 4 (some .int), Cond.methodLink RX4 9 yX3_bit, Cond.static yX3_bit, Cond.initialized RX3, Cond.code yX3_bit cX3_bit 3 (some .int), Cond.methodLink RX4 15 yX4_widthOf, Cond.static yX4_widthOf, Cond.code yX4_widthOf cX4_widthOf 1 (some .int), Cond.methodLink RX4 39 yJ6_bitCount_0f7a4, Cond.static yJ6_bitCount_0f7a4, Cond.initialized RJ6, Cond.code yJ6_bitCount_0f7a4 cJ6_bitCount_0f7a4 1 (some .int), Cond.constant RJ6 265 (1431655765), Cond.constant RJ6 266 (858993459), Cond.constant RJ6 267 (252645135), Cond.methodLink RX4 21 yJ13_bitCount_95d88, Cond.static yJ13_bitCount_95d88, Cond.initialized RJ13, Cond.code yJ13_bitCount_95d88 cJ13_bitCount_95d88 2 (some .int), Cond.constantLong RJ13 314 (6148914691236517205), Cond.constantLong RJ13 316 (3689348814741910323)]
def wsX4_characterOf_r2 : List Cond := [Cond.constantLong RJ13 318 (1085102592571150095), Cond.methodLink RX4 32 yX2_monomialAt, Cond.static yX2_monomialAt, Cond.initialized RX2, Cond.code yX2_monomialAt cX2_monomialAt 3 (some .int), Cond.methodLink RX2 21 yX2_tableOf, Cond.static yX2_tableOf, Cond.code yX2_tableOf cX2_tableOf 1 (some (.array .int)), Cond.fieldLink RX2 9 "BooleanRing$Orders" "BY_LEX" "[I", Cond.fieldLink RX2 15 "BooleanRing$Orders" "BY_GRADED" "[I", Cond.fieldLink RX2 18 "BooleanRing$Orders" "BY_REVERSE" "[I", Cond.methodLink RX4 36 yX4_signOf, Cond.static yX4_signOf, Cond.code yX4_signOf cX4_signOf 4 (some .int)]
def wsX4_characterOf : List Cond := .code yX4_characterOf cX4_characterOf 7 (some .int) :: ((wsX4_characterOf_r1 ++ wsX4_characterOf_r2))
def wsX5_init : List Cond := .code yX5_init cX5_init 1 none :: ([.methodLink RX5 3 objectInit, .instanceMethod objectInit, .code objectInit ⟨#[0xb1]⟩ 1 none, .arrayClass .char, .fieldLink RX5 11 "BooleanRing$Typed" "text" "[C", .fieldLink RX5 15 "BooleanRing$Typed" "length" "I"] ++ wsX50)
def wsX5_append : List Cond := .code yX5_append cX5_append 2 (some .int) :: ([.fieldLink RX5 15 "BooleanRing$Typed" "length" "I", .fieldLink RX5 11 "BooleanRing$Typed" "text" "[C"] ++ wsX50)
def wsX5_empty : List Cond := .code yX5_empty cX5_empty 2 (some .int) :: ([.fieldLink RX5 15 "BooleanRing$Typed" "length" "I"] ++ wsX50)
def wsX5_seenAfter : List Cond := .code yX5_seenAfter cX5_seenAfter 4 (some .int) :: ([])
def wsX5_firstFault : List Cond := .code yX5_firstFault cX5_firstFault 4 (some .int) :: ([.fieldLink RX5 15 "BooleanRing$Typed" "length" "I", .fieldLink RX5 11 "BooleanRing$Typed" "text" "[C", .methodLink RX5 19 yX5_seenAfter, .static yX5_seenAfter, .initialized RX5, .code yX5_seenAfter cX5_seenAfter 4 (some .int)] ++ wsX50)
def wsX5_polynomial : List Cond := .code yX5_polynomial cX5_polynomial 7 (some .long) :: ([.fieldLink RX5 15 "BooleanRing$Typed" "length" "I", .fieldLink RX5 11 "BooleanRing$Typed" "text" "[C", .methodLink RX5 23 yX3_ofMonomial, .static yX3_ofMonomial, .initialized RX3, .code yX3_ofMonomial cX3_ofMonomial 1 (some .long)] ++ wsX50)
def wsX6_init_r1 : List Cond := [Cond.methodLink RX6 3 objectInit, Cond.instanceMethod objectInit, Cond.code objectInit ⟨#[0xb1]⟩ 1 none, Cond.arrayClass .long, Cond.fieldLink RX6 9 "BooleanRing" "registers" "[J", Cond.arrayClass .int, Cond.fieldLink RX6 13 "BooleanRing" "leading" "[I", Cond.classLink RX6 17 RX1, Cond.instantiable RX1 2, Cond.initialized RX1, Cond.fieldLink RX6 20 "BooleanRing" "history" "LBooleanRing$History;", Cond.classLink RX6 24 RX0, Cond.instantiable RX0 2, Cond.initialized RX0, Cond.fieldLink RX6 27 "BooleanRing" "diagrams" "LBooleanRing$Diagrams;", Cond.classLink RX6 31 RX5, Cond.instantiable RX5 2, Cond.initialized RX5, Cond.fieldLink RX6 34 "BooleanRing" "typed" "LBooleanRing$Typed;", Cond.fieldLink RX6 38 "BooleanRing" "n" "I", Cond.instanceMethod yX1_init, Cond.code yX1_init cX1_init 1 none, Cond.methodLink RX1 3 objectInit, Cond.fieldLink RX1 11 "BooleanRing$History" "states" "[J"]
def wsX6_init_r2 : List Cond := [Cond.fieldLink RX1 15 "BooleanRing$History" "kept" "I", Cond.instanceMethod yX0_init, Cond.code yX0_init cX0_init 1 none, Cond.methodLink RX0 3 objectInit, Cond.fieldLink RX0 9 "BooleanRing$Diagrams" "found" "[J", Cond.fieldLink RX0 15 "BooleanRing$Diagrams" "count" "I", Cond.instanceMethod yX5_init, Cond.code yX5_init cX5_init 1 none, Cond.methodLink RX5 3 objectInit, Cond.arrayClass .char, Cond.fieldLink RX5 11 "BooleanRing$Typed" "text" "[C", Cond.fieldLink RX5 15 "BooleanRing$Typed" "length" "I"]
def wsX6_init : List Cond := .code yX6_init cX6_init 1 none :: ((wsX6_init_r1 ++ wsX6_init_r2) ++ wsX60 ++ wsX10 ++ wsX00 ++ wsX50)
def wsJ7_fill_d0a16 : List Cond := .code yJ7_fill_d0a16 cJ7_fill_d0a16 5 none :: ([])
def wsX6_reset : List Cond := .code yX6_reset cX6_reset 3 (some .int) :: ([.fieldLink RX6 38 "BooleanRing" "n" "I", .fieldLink RX6 9 "BooleanRing" "registers" "[J", .fieldLink RX6 20 "BooleanRing" "history" "LBooleanRing$History;", .methodLink RX6 42 yJ7_fill_d0a16, .static yJ7_fill_d0a16, .initialized RJ7, .code yJ7_fill_d0a16 cJ7_fill_d0a16 5 none, .methodLink RX6 48 yX1_forget, .instanceMethod yX1_forget, .selects RX1 yX1_forget yX1_forget, .initialized RX1, .code yX1_forget cX1_forget 1 none, .fieldLink RX1 15 "BooleanRing$History" "kept" "I"] ++ wsX60 ++ wsX10)
def wsX6_variables : List Cond := .code yX6_variables cX6_variables 1 (some .int) :: ([.fieldLink RX6 38 "BooleanRing" "n" "I"] ++ wsX60)
def wsX6_isRegister : List Cond := .code yX6_isRegister cX6_isRegister 1 (some .boolean) :: ([])
def wsX6_isMask : List Cond := .code yX6_isMask cX6_isMask 2 (some .boolean) :: ([.fieldLink RX6 38 "BooleanRing" "n" "I"] ++ wsX60)
def wsX6_put : List Cond := .code yX6_put cX6_put 4 (some .int) :: ([.fieldLink RX6 20 "BooleanRing" "history" "LBooleanRing$History;", .fieldLink RX6 9 "BooleanRing" "registers" "[J", .methodLink RX6 152 yX1_keep, .instanceMethod yX1_keep, .selects RX1 yX1_keep yX1_keep, .initialized RX1, .code yX1_keep cX1_keep 2 none, .fieldLink RX1 15 "BooleanRing$History" "kept" "I", .fieldLink RX1 11 "BooleanRing$History" "states" "[J", .methodLink RX1 19 arraycopyName, .native arraycopyName, .static arraycopyName, .initialized "java/lang/System", .methodLink RX6 51 yX6_isRegister, .static yX6_isRegister, .initialized RX6, .code yX6_isRegister cX6_isRegister 1 (some .boolean), .methodLink RX6 110 yJ13_bitCount_95d88, .static yJ13_bitCount_95d88, .initialized RJ13, .code yJ13_bitCount_95d88 cJ13_bitCount_95d88 2 (some .int), .constantLong RJ13 314 (6148914691236517205), .constantLong RJ13 316 (3689348814741910323), .constantLong RJ13 318 (1085102592571150095)] ++ wsX60 ++ wsX10)
def wsX6_toggle_r1 : List Cond := [Cond.fieldLink RX6 9 "BooleanRing" "registers" "[J", Cond.methodLink RX6 51 yX6_isRegister, Cond.static yX6_isRegister, Cond.initialized RX6, Cond.code yX6_isRegister cX6_isRegister 1 (some .boolean), Cond.methodLink RX6 55 yX6_isMask, Cond.instanceMethod yX6_isMask, Cond.selects RX6 yX6_isMask yX6_isMask, Cond.code yX6_isMask cX6_isMask 2 (some .boolean), Cond.fieldLink RX6 38 "BooleanRing" "n" "I", Cond.methodLink RX6 58 yX3_ofMonomial, Cond.static yX3_ofMonomial, Cond.initialized RX3, Cond.code yX3_ofMonomial cX3_ofMonomial 1 (some .long), Cond.methodLink RX6 64 yX6_put, Cond.instanceMethod yX6_put, Cond.selects RX6 yX6_put yX6_put, Cond.code yX6_put cX6_put 4 (some .int), Cond.fieldLink RX6 20 "BooleanRing" "history" "LBooleanRing$History;", Cond.methodLink RX6 152 yX1_keep, Cond.instanceMethod yX1_keep, Cond.selects RX1 yX1_keep yX1_keep, Cond.initialized RX1, Cond.code yX1_keep cX1_keep 2 none]
def wsX6_toggle_r2 : List Cond := [Cond.fieldLink RX1 15 "BooleanRing$History" "kept" "I", Cond.fieldLink RX1 11 "BooleanRing$History" "states" "[J", Cond.methodLink RX1 19 arraycopyName, Cond.native arraycopyName, Cond.static arraycopyName, Cond.initialized "java/lang/System", Cond.methodLink RX6 110 yJ13_bitCount_95d88, Cond.static yJ13_bitCount_95d88, Cond.initialized RJ13, Cond.code yJ13_bitCount_95d88 cJ13_bitCount_95d88 2 (some .int), Cond.constantLong RJ13 314 (6148914691236517205), Cond.constantLong RJ13 316 (3689348814741910323), Cond.constantLong RJ13 318 (1085102592571150095)]
def wsX6_toggle : List Cond := .code yX6_toggle cX6_toggle 3 (some .int) :: ((wsX6_toggle_r1 ++ wsX6_toggle_r2) ++ wsX60 ++ wsX10)
def wsX6_copy_r1 : List Cond := [Cond.fieldLink RX6 9 "BooleanRing" "registers" "[J", Cond.methodLink RX6 51 yX6_isRegister, Cond.static yX6_isRegister, Cond.initialized RX6, Cond.code yX6_isRegister cX6_isRegister 1 (some .boolean), Cond.methodLink RX6 64 yX6_put, Cond.instanceMethod yX6_put, Cond.selects RX6 yX6_put yX6_put, Cond.code yX6_put cX6_put 4 (some .int), Cond.fieldLink RX6 20 "BooleanRing" "history" "LBooleanRing$History;", Cond.methodLink RX6 152 yX1_keep, Cond.instanceMethod yX1_keep, Cond.selects RX1 yX1_keep yX1_keep, Cond.initialized RX1, Cond.code yX1_keep cX1_keep 2 none, Cond.fieldLink RX1 15 "BooleanRing$History" "kept" "I", Cond.fieldLink RX1 11 "BooleanRing$History" "states" "[J", Cond.methodLink RX1 19 arraycopyName, Cond.native arraycopyName, Cond.static arraycopyName, Cond.initialized "java/lang/System", Cond.methodLink RX6 110 yJ13_bitCount_95d88, Cond.static yJ13_bitCount_95d88, Cond.initialized RJ13]
def wsX6_copy_r2 : List Cond := [Cond.code yJ13_bitCount_95d88 cJ13_bitCount_95d88 2 (some .int), Cond.constantLong RJ13 314 (6148914691236517205), Cond.constantLong RJ13 316 (3689348814741910323), Cond.constantLong RJ13 318 (1085102592571150095)]
def wsX6_copy : List Cond := .code yX6_copy cX6_copy 3 (some .int) :: ((wsX6_copy_r1 ++ wsX6_copy_r2) ++ wsX60 ++ wsX10)
def wsX6_sum_r1 : List Cond := [Cond.fieldLink RX6 9 "BooleanRing" "registers" "[J", Cond.methodLink RX6 51 yX6_isRegister, Cond.static yX6_isRegister, Cond.initialized RX6, Cond.code yX6_isRegister cX6_isRegister 1 (some .boolean), Cond.methodLink RX6 64 yX6_put, Cond.instanceMethod yX6_put, Cond.selects RX6 yX6_put yX6_put, Cond.code yX6_put cX6_put 4 (some .int), Cond.fieldLink RX6 20 "BooleanRing" "history" "LBooleanRing$History;", Cond.methodLink RX6 152 yX1_keep, Cond.instanceMethod yX1_keep, Cond.selects RX1 yX1_keep yX1_keep, Cond.initialized RX1, Cond.code yX1_keep cX1_keep 2 none, Cond.fieldLink RX1 15 "BooleanRing$History" "kept" "I", Cond.fieldLink RX1 11 "BooleanRing$History" "states" "[J", Cond.methodLink RX1 19 arraycopyName, Cond.native arraycopyName, Cond.static arraycopyName, Cond.initialized "java/lang/System", Cond.methodLink RX6 110 yJ13_bitCount_95d88, Cond.static yJ13_bitCount_95d88, Cond.initialized RJ13]
def wsX6_sum_r2 : List Cond := [Cond.code yJ13_bitCount_95d88 cJ13_bitCount_95d88 2 (some .int), Cond.constantLong RJ13 314 (6148914691236517205), Cond.constantLong RJ13 316 (3689348814741910323), Cond.constantLong RJ13 318 (1085102592571150095)]
def wsX6_sum : List Cond := .code yX6_sum cX6_sum 4 (some .int) :: ((wsX6_sum_r1 ++ wsX6_sum_r2) ++ wsX60 ++ wsX10)
def wsX6_product_r1 : List Cond := [Cond.fieldLink RX6 9 "BooleanRing" "registers" "[J", Cond.fieldLink RX6 38 "BooleanRing" "n" "I", Cond.methodLink RX6 51 yX6_isRegister, Cond.static yX6_isRegister, Cond.initialized RX6, Cond.code yX6_isRegister cX6_isRegister 1 (some .boolean), Cond.methodLink RX6 68 yX3_multiplied, Cond.static yX3_multiplied, Cond.initialized RX3, Cond.code yX3_multiplied cX3_multiplied 5 (some .long), Cond.methodLink RX3 23 yX3_transformed, Cond.static yX3_transformed, Cond.code yX3_transformed cX3_transformed 6 (some .long), Cond.methodLink RX3 19 yX3_raised, Cond.static yX3_raised, Cond.code yX3_raised cX3_raised 3 (some .long), Cond.methodLink RX3 15 yX3_without, Cond.static yX3_without, Cond.code yX3_without cX3_without 1 (some .long), Cond.fieldLink RX3 9 "BooleanRing$Poly" "WITHOUT" "[J", Cond.methodLink RX6 64 yX6_put, Cond.instanceMethod yX6_put, Cond.selects RX6 yX6_put yX6_put, Cond.code yX6_put cX6_put 4 (some .int)]
def wsX6_product_r2 : List Cond := [Cond.fieldLink RX6 20 "BooleanRing" "history" "LBooleanRing$History;", Cond.methodLink RX6 152 yX1_keep, Cond.instanceMethod yX1_keep, Cond.selects RX1 yX1_keep yX1_keep, Cond.initialized RX1, Cond.code yX1_keep cX1_keep 2 none, Cond.fieldLink RX1 15 "BooleanRing$History" "kept" "I", Cond.fieldLink RX1 11 "BooleanRing$History" "states" "[J", Cond.methodLink RX1 19 arraycopyName, Cond.native arraycopyName, Cond.static arraycopyName, Cond.initialized "java/lang/System", Cond.methodLink RX6 110 yJ13_bitCount_95d88, Cond.static yJ13_bitCount_95d88, Cond.initialized RJ13, Cond.code yJ13_bitCount_95d88 cJ13_bitCount_95d88 2 (some .int), Cond.constantLong RJ13 314 (6148914691236517205), Cond.constantLong RJ13 316 (3689348814741910323), Cond.constantLong RJ13 318 (1085102592571150095)]
def wsX6_product : List Cond := .code yX6_product cX6_product 4 (some .int) :: ((wsX6_product_r1 ++ wsX6_product_r2) ++ wsX60 ++ wsX10)
def wsX6_times_r1 : List Cond := [Cond.fieldLink RX6 9 "BooleanRing" "registers" "[J", Cond.fieldLink RX6 38 "BooleanRing" "n" "I", Cond.methodLink RX6 51 yX6_isRegister, Cond.static yX6_isRegister, Cond.initialized RX6, Cond.code yX6_isRegister cX6_isRegister 1 (some .boolean), Cond.methodLink RX6 55 yX6_isMask, Cond.instanceMethod yX6_isMask, Cond.selects RX6 yX6_isMask yX6_isMask, Cond.code yX6_isMask cX6_isMask 2 (some .boolean), Cond.methodLink RX6 58 yX3_ofMonomial, Cond.static yX3_ofMonomial, Cond.initialized RX3, Cond.code yX3_ofMonomial cX3_ofMonomial 1 (some .long), Cond.methodLink RX6 68 yX3_multiplied, Cond.static yX3_multiplied, Cond.code yX3_multiplied cX3_multiplied 5 (some .long), Cond.methodLink RX3 23 yX3_transformed, Cond.static yX3_transformed, Cond.code yX3_transformed cX3_transformed 6 (some .long), Cond.methodLink RX3 19 yX3_raised, Cond.static yX3_raised, Cond.code yX3_raised cX3_raised 3 (some .long), Cond.methodLink RX3 15 yX3_without]
def wsX6_times_r2 : List Cond := [Cond.static yX3_without, Cond.code yX3_without cX3_without 1 (some .long), Cond.fieldLink RX3 9 "BooleanRing$Poly" "WITHOUT" "[J", Cond.methodLink RX6 64 yX6_put, Cond.instanceMethod yX6_put, Cond.selects RX6 yX6_put yX6_put, Cond.code yX6_put cX6_put 4 (some .int), Cond.fieldLink RX6 20 "BooleanRing" "history" "LBooleanRing$History;", Cond.methodLink RX6 152 yX1_keep, Cond.instanceMethod yX1_keep, Cond.selects RX1 yX1_keep yX1_keep, Cond.initialized RX1, Cond.code yX1_keep cX1_keep 2 none, Cond.fieldLink RX1 15 "BooleanRing$History" "kept" "I", Cond.fieldLink RX1 11 "BooleanRing$History" "states" "[J", Cond.methodLink RX1 19 arraycopyName, Cond.native arraycopyName, Cond.static arraycopyName, Cond.initialized "java/lang/System", Cond.methodLink RX6 110 yJ13_bitCount_95d88, Cond.static yJ13_bitCount_95d88, Cond.initialized RJ13, Cond.code yJ13_bitCount_95d88 cJ13_bitCount_95d88 2 (some .int), Cond.constantLong RJ13 314 (6148914691236517205)]
def wsX6_times_r3 : List Cond := [Cond.constantLong RJ13 316 (3689348814741910323), Cond.constantLong RJ13 318 (1085102592571150095)]
def wsX6_times : List Cond := .code yX6_times cX6_times 4 (some .int) :: ((wsX6_times_r1 ++ (wsX6_times_r2 ++ wsX6_times_r3)) ++ wsX60 ++ wsX10)
def wsX6_isVariable : List Cond := .code yX6_isVariable cX6_isVariable 2 (some .boolean) :: ([.fieldLink RX6 38 "BooleanRing" "n" "I"] ++ wsX60)
def wsX6_restrict_r1 : List Cond := [Cond.fieldLink RX6 9 "BooleanRing" "registers" "[J", Cond.methodLink RX6 51 yX6_isRegister, Cond.static yX6_isRegister, Cond.initialized RX6, Cond.code yX6_isRegister cX6_isRegister 1 (some .boolean), Cond.methodLink RX6 72 yX6_isVariable, Cond.instanceMethod yX6_isVariable, Cond.selects RX6 yX6_isVariable yX6_isVariable, Cond.code yX6_isVariable cX6_isVariable 2 (some .boolean), Cond.fieldLink RX6 38 "BooleanRing" "n" "I", Cond.methodLink RX6 75 yX3_lowerHalf, Cond.static yX3_lowerHalf, Cond.initialized RX3, Cond.code yX3_lowerHalf cX3_lowerHalf 3 (some .long), Cond.methodLink RX3 15 yX3_without, Cond.static yX3_without, Cond.code yX3_without cX3_without 1 (some .long), Cond.fieldLink RX3 9 "BooleanRing$Poly" "WITHOUT" "[J", Cond.methodLink RX6 79 yX3_upperHalf, Cond.static yX3_upperHalf, Cond.code yX3_upperHalf cX3_upperHalf 3 (some .long), Cond.methodLink RX6 64 yX6_put, Cond.instanceMethod yX6_put, Cond.selects RX6 yX6_put yX6_put]
def wsX6_restrict_r2 : List Cond := [Cond.code yX6_put cX6_put 4 (some .int), Cond.fieldLink RX6 20 "BooleanRing" "history" "LBooleanRing$History;", Cond.methodLink RX6 152 yX1_keep, Cond.instanceMethod yX1_keep, Cond.selects RX1 yX1_keep yX1_keep, Cond.initialized RX1, Cond.code yX1_keep cX1_keep 2 none, Cond.fieldLink RX1 15 "BooleanRing$History" "kept" "I", Cond.fieldLink RX1 11 "BooleanRing$History" "states" "[J", Cond.methodLink RX1 19 arraycopyName, Cond.native arraycopyName, Cond.static arraycopyName, Cond.initialized "java/lang/System", Cond.methodLink RX6 110 yJ13_bitCount_95d88, Cond.static yJ13_bitCount_95d88, Cond.initialized RJ13, Cond.code yJ13_bitCount_95d88 cJ13_bitCount_95d88 2 (some .int), Cond.constantLong RJ13 314 (6148914691236517205), Cond.constantLong RJ13 316 (3689348814741910323), Cond.constantLong RJ13 318 (1085102592571150095)]
def wsX6_restrict : List Cond := .code yX6_restrict cX6_restrict 7 (some .int) :: ((wsX6_restrict_r1 ++ wsX6_restrict_r2) ++ wsX60 ++ wsX10)
def wsX6_substitute_r1 : List Cond := [Cond.fieldLink RX6 9 "BooleanRing" "registers" "[J", Cond.fieldLink RX6 38 "BooleanRing" "n" "I", Cond.methodLink RX6 51 yX6_isRegister, Cond.static yX6_isRegister, Cond.initialized RX6, Cond.code yX6_isRegister cX6_isRegister 1 (some .boolean), Cond.methodLink RX6 72 yX6_isVariable, Cond.instanceMethod yX6_isVariable, Cond.selects RX6 yX6_isVariable yX6_isVariable, Cond.code yX6_isVariable cX6_isVariable 2 (some .boolean), Cond.methodLink RX6 79 yX3_upperHalf, Cond.static yX3_upperHalf, Cond.initialized RX3, Cond.code yX3_upperHalf cX3_upperHalf 3 (some .long), Cond.methodLink RX3 15 yX3_without, Cond.static yX3_without, Cond.code yX3_without cX3_without 1 (some .long), Cond.fieldLink RX3 9 "BooleanRing$Poly" "WITHOUT" "[J", Cond.methodLink RX6 75 yX3_lowerHalf, Cond.static yX3_lowerHalf, Cond.code yX3_lowerHalf cX3_lowerHalf 3 (some .long), Cond.methodLink RX6 68 yX3_multiplied, Cond.static yX3_multiplied, Cond.code yX3_multiplied cX3_multiplied 5 (some .long)]
def wsX6_substitute_r2 : List Cond := [Cond.methodLink RX3 23 yX3_transformed, Cond.static yX3_transformed, Cond.code yX3_transformed cX3_transformed 6 (some .long), Cond.methodLink RX3 19 yX3_raised, Cond.static yX3_raised, Cond.code yX3_raised cX3_raised 3 (some .long), Cond.methodLink RX6 64 yX6_put, Cond.instanceMethod yX6_put, Cond.selects RX6 yX6_put yX6_put, Cond.code yX6_put cX6_put 4 (some .int), Cond.fieldLink RX6 20 "BooleanRing" "history" "LBooleanRing$History;", Cond.methodLink RX6 152 yX1_keep, Cond.instanceMethod yX1_keep, Cond.selects RX1 yX1_keep yX1_keep, Cond.initialized RX1, Cond.code yX1_keep cX1_keep 2 none, Cond.fieldLink RX1 15 "BooleanRing$History" "kept" "I", Cond.fieldLink RX1 11 "BooleanRing$History" "states" "[J", Cond.methodLink RX1 19 arraycopyName, Cond.native arraycopyName, Cond.static arraycopyName, Cond.initialized "java/lang/System", Cond.methodLink RX6 110 yJ13_bitCount_95d88, Cond.static yJ13_bitCount_95d88]
def wsX6_substitute_r3 : List Cond := [Cond.initialized RJ13, Cond.code yJ13_bitCount_95d88 cJ13_bitCount_95d88 2 (some .int), Cond.constantLong RJ13 314 (6148914691236517205), Cond.constantLong RJ13 316 (3689348814741910323), Cond.constantLong RJ13 318 (1085102592571150095)]
def wsX6_substitute : List Cond := .code yX6_substitute cX6_substitute 9 (some .int) :: ((wsX6_substitute_r1 ++ (wsX6_substitute_r2 ++ wsX6_substitute_r3)) ++ wsX60 ++ wsX10)
def wsX6_derivative_r1 : List Cond := [Cond.fieldLink RX6 9 "BooleanRing" "registers" "[J", Cond.methodLink RX6 51 yX6_isRegister, Cond.static yX6_isRegister, Cond.initialized RX6, Cond.code yX6_isRegister cX6_isRegister 1 (some .boolean), Cond.methodLink RX6 72 yX6_isVariable, Cond.instanceMethod yX6_isVariable, Cond.selects RX6 yX6_isVariable yX6_isVariable, Cond.code yX6_isVariable cX6_isVariable 2 (some .boolean), Cond.fieldLink RX6 38 "BooleanRing" "n" "I", Cond.methodLink RX6 79 yX3_upperHalf, Cond.static yX3_upperHalf, Cond.initialized RX3, Cond.code yX3_upperHalf cX3_upperHalf 3 (some .long), Cond.methodLink RX3 15 yX3_without, Cond.static yX3_without, Cond.code yX3_without cX3_without 1 (some .long), Cond.fieldLink RX3 9 "BooleanRing$Poly" "WITHOUT" "[J", Cond.methodLink RX6 64 yX6_put, Cond.instanceMethod yX6_put, Cond.selects RX6 yX6_put yX6_put, Cond.code yX6_put cX6_put 4 (some .int), Cond.fieldLink RX6 20 "BooleanRing" "history" "LBooleanRing$History;", Cond.methodLink RX6 152 yX1_keep]
def wsX6_derivative_r2 : List Cond := [Cond.instanceMethod yX1_keep, Cond.selects RX1 yX1_keep yX1_keep, Cond.initialized RX1, Cond.code yX1_keep cX1_keep 2 none, Cond.fieldLink RX1 15 "BooleanRing$History" "kept" "I", Cond.fieldLink RX1 11 "BooleanRing$History" "states" "[J", Cond.methodLink RX1 19 arraycopyName, Cond.native arraycopyName, Cond.static arraycopyName, Cond.initialized "java/lang/System", Cond.methodLink RX6 110 yJ13_bitCount_95d88, Cond.static yJ13_bitCount_95d88, Cond.initialized RJ13, Cond.code yJ13_bitCount_95d88 cJ13_bitCount_95d88 2 (some .int), Cond.constantLong RJ13 314 (6148914691236517205), Cond.constantLong RJ13 316 (3689348814741910323), Cond.constantLong RJ13 318 (1085102592571150095)]
def wsX6_derivative : List Cond := .code yX6_derivative cX6_derivative 4 (some .int) :: ((wsX6_derivative_r1 ++ wsX6_derivative_r2) ++ wsX60 ++ wsX10)
def wsX6_flip_r1 : List Cond := [Cond.fieldLink RX6 38 "BooleanRing" "n" "I", Cond.fieldLink RX6 9 "BooleanRing" "registers" "[J", Cond.methodLink RX6 51 yX6_isRegister, Cond.static yX6_isRegister, Cond.initialized RX6, Cond.code yX6_isRegister cX6_isRegister 1 (some .boolean), Cond.methodLink RX6 55 yX6_isMask, Cond.instanceMethod yX6_isMask, Cond.selects RX6 yX6_isMask yX6_isMask, Cond.code yX6_isMask cX6_isMask 2 (some .boolean), Cond.methodLink RX6 82 yX3_transformed, Cond.static yX3_transformed, Cond.initialized RX3, Cond.code yX3_transformed cX3_transformed 6 (some .long), Cond.methodLink RX3 19 yX3_raised, Cond.static yX3_raised, Cond.code yX3_raised cX3_raised 3 (some .long), Cond.methodLink RX3 15 yX3_without, Cond.static yX3_without, Cond.code yX3_without cX3_without 1 (some .long), Cond.fieldLink RX3 9 "BooleanRing$Poly" "WITHOUT" "[J", Cond.methodLink RX6 64 yX6_put, Cond.instanceMethod yX6_put, Cond.selects RX6 yX6_put yX6_put]
def wsX6_flip_r2 : List Cond := [Cond.code yX6_put cX6_put 4 (some .int), Cond.fieldLink RX6 20 "BooleanRing" "history" "LBooleanRing$History;", Cond.methodLink RX6 152 yX1_keep, Cond.instanceMethod yX1_keep, Cond.selects RX1 yX1_keep yX1_keep, Cond.initialized RX1, Cond.code yX1_keep cX1_keep 2 none, Cond.fieldLink RX1 15 "BooleanRing$History" "kept" "I", Cond.fieldLink RX1 11 "BooleanRing$History" "states" "[J", Cond.methodLink RX1 19 arraycopyName, Cond.native arraycopyName, Cond.static arraycopyName, Cond.initialized "java/lang/System", Cond.methodLink RX6 110 yJ13_bitCount_95d88, Cond.static yJ13_bitCount_95d88, Cond.initialized RJ13, Cond.code yJ13_bitCount_95d88 cJ13_bitCount_95d88 2 (some .int), Cond.constantLong RJ13 314 (6148914691236517205), Cond.constantLong RJ13 316 (3689348814741910323), Cond.constantLong RJ13 318 (1085102592571150095)]
def wsX6_flip : List Cond := .code yX6_flip cX6_flip 5 (some .int) :: ((wsX6_flip_r1 ++ wsX6_flip_r2) ++ wsX60 ++ wsX10)
def wsX6_exchange_r1 : List Cond := [Cond.fieldLink RX6 9 "BooleanRing" "registers" "[J", Cond.methodLink RX6 85 Lib.Math.min.name, Cond.static Lib.Math.min.name, Cond.initialized "java/lang/Math", Cond.code Lib.Math.min.name Lib.Math.min.code 2 (some .int), Cond.methodLink RX6 91 Lib.Math.max.name, Cond.static Lib.Math.max.name, Cond.code Lib.Math.max.name Lib.Math.max.code 2 (some .int), Cond.methodLink RX6 51 yX6_isRegister, Cond.static yX6_isRegister, Cond.initialized RX6, Cond.code yX6_isRegister cX6_isRegister 1 (some .boolean), Cond.methodLink RX6 72 yX6_isVariable, Cond.instanceMethod yX6_isVariable, Cond.selects RX6 yX6_isVariable yX6_isVariable, Cond.code yX6_isVariable cX6_isVariable 2 (some .boolean), Cond.fieldLink RX6 38 "BooleanRing" "n" "I", Cond.methodLink RX6 94 yX3_exchanged, Cond.static yX3_exchanged, Cond.initialized RX3, Cond.code yX3_exchanged cX3_exchanged 11 (some .long), Cond.constantLong RX3 26 (-1), Cond.methodLink RX3 15 yX3_without, Cond.static yX3_without]
def wsX6_exchange_r2 : List Cond := [Cond.code yX3_without cX3_without 1 (some .long), Cond.fieldLink RX3 9 "BooleanRing$Poly" "WITHOUT" "[J", Cond.methodLink RX6 64 yX6_put, Cond.instanceMethod yX6_put, Cond.selects RX6 yX6_put yX6_put, Cond.code yX6_put cX6_put 4 (some .int), Cond.fieldLink RX6 20 "BooleanRing" "history" "LBooleanRing$History;", Cond.methodLink RX6 152 yX1_keep, Cond.instanceMethod yX1_keep, Cond.selects RX1 yX1_keep yX1_keep, Cond.initialized RX1, Cond.code yX1_keep cX1_keep 2 none, Cond.fieldLink RX1 15 "BooleanRing$History" "kept" "I", Cond.fieldLink RX1 11 "BooleanRing$History" "states" "[J", Cond.methodLink RX1 19 arraycopyName, Cond.native arraycopyName, Cond.static arraycopyName, Cond.initialized "java/lang/System", Cond.methodLink RX6 110 yJ13_bitCount_95d88, Cond.static yJ13_bitCount_95d88, Cond.initialized RJ13, Cond.code yJ13_bitCount_95d88 cJ13_bitCount_95d88 2 (some .int), Cond.constantLong RJ13 314 (6148914691236517205), Cond.constantLong RJ13 316 (3689348814741910323)]
def wsX6_exchange_r3 : List Cond := [Cond.constantLong RJ13 318 (1085102592571150095)]
def wsX6_exchange : List Cond := .code yX6_exchange cX6_exchange 4 (some .int) :: ((wsX6_exchange_r1 ++ (wsX6_exchange_r2 ++ wsX6_exchange_r3)) ++ wsX60 ++ wsX10)
def wsX6_undo : List Cond := .code yX6_undo cX6_undo 1 (some .int) :: ([.fieldLink RX6 20 "BooleanRing" "history" "LBooleanRing$History;", .fieldLink RX6 9 "BooleanRing" "registers" "[J", .methodLink RX6 98 yX1_isEmpty, .instanceMethod yX1_isEmpty, .selects RX1 yX1_isEmpty yX1_isEmpty, .initialized RX1, .code yX1_isEmpty cX1_isEmpty 1 (some .boolean), .fieldLink RX1 15 "BooleanRing$History" "kept" "I", .methodLink RX6 102 yX1_restore, .instanceMethod yX1_restore, .selects RX1 yX1_restore yX1_restore, .code yX1_restore cX1_restore 2 (some .int), .fieldLink RX1 11 "BooleanRing$History" "states" "[J", .methodLink RX1 19 arraycopyName, .native arraycopyName, .static arraycopyName, .initialized "java/lang/System"] ++ wsX60 ++ wsX10)
def wsX6_has : List Cond := .code yX6_has cX6_has 3 (some .int) :: ([.fieldLink RX6 9 "BooleanRing" "registers" "[J", .methodLink RX6 51 yX6_isRegister, .static yX6_isRegister, .initialized RX6, .code yX6_isRegister cX6_isRegister 1 (some .boolean), .methodLink RX6 55 yX6_isMask, .instanceMethod yX6_isMask, .selects RX6 yX6_isMask yX6_isMask, .code yX6_isMask cX6_isMask 2 (some .boolean), .fieldLink RX6 38 "BooleanRing" "n" "I", .methodLink RX6 106 yX3_bit, .static yX3_bit, .initialized RX3, .code yX3_bit cX3_bit 3 (some .int)] ++ wsX60)
def wsX6_terms : List Cond := .code yX6_terms cX6_terms 2 (some .int) :: ([.fieldLink RX6 9 "BooleanRing" "registers" "[J", .methodLink RX6 51 yX6_isRegister, .static yX6_isRegister, .initialized RX6, .code yX6_isRegister cX6_isRegister 1 (some .boolean), .methodLink RX6 110 yJ13_bitCount_95d88, .static yJ13_bitCount_95d88, .initialized RJ13, .code yJ13_bitCount_95d88 cJ13_bitCount_95d88 2 (some .int), .constantLong RJ13 314 (6148914691236517205), .constantLong RJ13 316 (3689348814741910323), .constantLong RJ13 318 (1085102592571150095)] ++ wsX60)
def wsX6_degree_r1 : List Cond := [Cond.fieldLink RX6 9 "BooleanRing" "registers" "[J", Cond.methodLink RX6 51 yX6_isRegister, Cond.static yX6_isRegister, Cond.initialized RX6, Cond.code yX6_isRegister cX6_isRegister 1 (some .boolean), Cond.methodLink RX6 118 yX2_termOf, Cond.static yX2_termOf, Cond.initialized RX2, Cond.code yX2_termOf cX2_termOf 7 (some .int), Cond.methodLink RX2 25 yJ13_bitCount_95d88, Cond.static yJ13_bitCount_95d88, Cond.initialized RJ13, Cond.code yJ13_bitCount_95d88 cJ13_bitCount_95d88 2 (some .int), Cond.constantLong RJ13 314 (6148914691236517205), Cond.constantLong RJ13 316 (3689348814741910323), Cond.constantLong RJ13 318 (1085102592571150095), Cond.methodLink RX2 31 yX2_monomialAt, Cond.static yX2_monomialAt, Cond.code yX2_monomialAt cX2_monomialAt 3 (some .int), Cond.methodLink RX2 21 yX2_tableOf, Cond.static yX2_tableOf, Cond.code yX2_tableOf cX2_tableOf 1 (some (.array .int)), Cond.fieldLink RX2 9 "BooleanRing$Orders" "BY_LEX" "[I", Cond.fieldLink RX2 15 "BooleanRing$Orders" "BY_GRADED" "[I"]
def wsX6_degree_r2 : List Cond := [Cond.fieldLink RX2 18 "BooleanRing$Orders" "BY_REVERSE" "[I", Cond.methodLink RX2 35 yX3_bit, Cond.static yX3_bit, Cond.initialized RX3, Cond.code yX3_bit cX3_bit 3 (some .int), Cond.methodLink RX6 122 yJ6_bitCount_0f7a4, Cond.static yJ6_bitCount_0f7a4, Cond.initialized RJ6, Cond.code yJ6_bitCount_0f7a4 cJ6_bitCount_0f7a4 1 (some .int), Cond.constant RJ6 265 (1431655765), Cond.constant RJ6 266 (858993459), Cond.constant RJ6 267 (252645135)]
def wsX6_degree : List Cond := .code yX6_degree cX6_degree 3 (some .int) :: ((wsX6_degree_r1 ++ wsX6_degree_r2) ++ wsX60)
def wsX6_occurring : List Cond := .code yX6_occurring cX6_occurring 4 (some .int) :: ([.fieldLink RX6 38 "BooleanRing" "n" "I", .fieldLink RX6 9 "BooleanRing" "registers" "[J", .methodLink RX6 51 yX6_isRegister, .static yX6_isRegister, .initialized RX6, .code yX6_isRegister cX6_isRegister 1 (some .boolean), .methodLink RX6 79 yX3_upperHalf, .static yX3_upperHalf, .initialized RX3, .code yX3_upperHalf cX3_upperHalf 3 (some .long), .methodLink RX3 15 yX3_without, .static yX3_without, .code yX3_without cX3_without 1 (some .long), .fieldLink RX3 9 "BooleanRing$Poly" "WITHOUT" "[J"] ++ wsX60)
def wsX6_size_r1 : List Cond := [Cond.fieldLink RX6 27 "BooleanRing" "diagrams" "LBooleanRing$Diagrams;", Cond.fieldLink RX6 9 "BooleanRing" "registers" "[J", Cond.methodLink RX6 51 yX6_isRegister, Cond.static yX6_isRegister, Cond.initialized RX6, Cond.code yX6_isRegister cX6_isRegister 1 (some .boolean), Cond.methodLink RX6 127 yX0_forget, Cond.instanceMethod yX0_forget, Cond.selects RX0 yX0_forget yX0_forget, Cond.initialized RX0, Cond.code yX0_forget cX0_forget 1 none, Cond.fieldLink RX0 15 "BooleanRing$Diagrams" "count" "I", Cond.methodLink RX6 128 yX0_enter, Cond.instanceMethod yX0_enter, Cond.selects RX0 yX0_enter yX0_enter, Cond.code yX0_enter cX0_enter 4 none, Cond.constantLong RX0 19 (-2), Cond.fieldLink RX0 9 "BooleanRing$Diagrams" "found" "[J", Cond.methodLink RX0 21 yX0_isKnown, Cond.instanceMethod yX0_isKnown, Cond.selects RX0 yX0_isKnown yX0_isKnown, Cond.code yX0_isKnown cX0_isKnown 4 (some .boolean), Cond.methodLink RX6 132 yX0_closedCount, Cond.instanceMethod yX0_closedCount]
def wsX6_size_r2 : List Cond := [Cond.selects RX0 yX0_closedCount yX0_closedCount, Cond.code yX0_closedCount cX0_closedCount 3 (some .int), Cond.methodLink RX0 25 yX3_lowestVariable, Cond.static yX3_lowestVariable, Cond.initialized RX3, Cond.code yX3_lowestVariable cX3_lowestVariable 3 (some .int), Cond.methodLink RX3 28 yX3_upperHalf, Cond.static yX3_upperHalf, Cond.code yX3_upperHalf cX3_upperHalf 3 (some .long), Cond.methodLink RX3 15 yX3_without, Cond.static yX3_without, Cond.code yX3_without cX3_without 1 (some .long), Cond.fieldLink RX3 9 "BooleanRing$Poly" "WITHOUT" "[J", Cond.methodLink RX0 31 yX3_upperHalf, Cond.methodLink RX0 35 yX0_enter, Cond.methodLink RX0 39 yX3_lowerHalf, Cond.static yX3_lowerHalf, Cond.code yX3_lowerHalf cX3_lowerHalf 3 (some .long)]
def wsX6_size : List Cond := .code yX6_size cX6_size 2 (some .int) :: ((wsX6_size_r1 ++ wsX6_size_r2) ++ wsX60 ++ wsX00)
def wsX6_sharedSize_r1 : List Cond := [Cond.fieldLink RX6 27 "BooleanRing" "diagrams" "LBooleanRing$Diagrams;", Cond.fieldLink RX6 9 "BooleanRing" "registers" "[J", Cond.methodLink RX6 127 yX0_forget, Cond.instanceMethod yX0_forget, Cond.selects RX0 yX0_forget yX0_forget, Cond.initialized RX0, Cond.code yX0_forget cX0_forget 1 none, Cond.fieldLink RX0 15 "BooleanRing$Diagrams" "count" "I", Cond.methodLink RX6 128 yX0_enter, Cond.instanceMethod yX0_enter, Cond.selects RX0 yX0_enter yX0_enter, Cond.code yX0_enter cX0_enter 4 none, Cond.constantLong RX0 19 (-2), Cond.fieldLink RX0 9 "BooleanRing$Diagrams" "found" "[J", Cond.methodLink RX0 21 yX0_isKnown, Cond.instanceMethod yX0_isKnown, Cond.selects RX0 yX0_isKnown yX0_isKnown, Cond.code yX0_isKnown cX0_isKnown 4 (some .boolean), Cond.methodLink RX6 132 yX0_closedCount, Cond.instanceMethod yX0_closedCount, Cond.selects RX0 yX0_closedCount yX0_closedCount, Cond.code yX0_closedCount cX0_closedCount 3 (some .int), Cond.methodLink RX0 25 yX3_lowestVariable, Cond.static yX3_lowestVariable]
def wsX6_sharedSize_r2 : List Cond := [Cond.initialized RX3, Cond.code yX3_lowestVariable cX3_lowestVariable 3 (some .int), Cond.methodLink RX3 28 yX3_upperHalf, Cond.static yX3_upperHalf, Cond.code yX3_upperHalf cX3_upperHalf 3 (some .long), Cond.methodLink RX3 15 yX3_without, Cond.static yX3_without, Cond.code yX3_without cX3_without 1 (some .long), Cond.fieldLink RX3 9 "BooleanRing$Poly" "WITHOUT" "[J", Cond.methodLink RX0 31 yX3_upperHalf, Cond.methodLink RX0 35 yX0_enter, Cond.methodLink RX0 39 yX3_lowerHalf, Cond.static yX3_lowerHalf, Cond.code yX3_lowerHalf cX3_lowerHalf 3 (some .long)]
def wsX6_sharedSize : List Cond := .code yX6_sharedSize cX6_sharedSize 2 (some .int) :: ((wsX6_sharedSize_r1 ++ wsX6_sharedSize_r2) ++ wsX60 ++ wsX00)
def wsX6_isOrder : List Cond := .code yX6_isOrder cX6_isOrder 1 (some .boolean) :: ([])
def wsX6_termAt_r1 : List Cond := [Cond.fieldLink RX6 9 "BooleanRing" "registers" "[J", Cond.methodLink RX6 51 yX6_isRegister, Cond.static yX6_isRegister, Cond.initialized RX6, Cond.code yX6_isRegister cX6_isRegister 1 (some .boolean), Cond.methodLink RX6 136 yX6_isOrder, Cond.static yX6_isOrder, Cond.code yX6_isOrder cX6_isOrder 1 (some .boolean), Cond.methodLink RX6 118 yX2_termOf, Cond.static yX2_termOf, Cond.initialized RX2, Cond.code yX2_termOf cX2_termOf 7 (some .int), Cond.methodLink RX2 25 yJ13_bitCount_95d88, Cond.static yJ13_bitCount_95d88, Cond.initialized RJ13, Cond.code yJ13_bitCount_95d88 cJ13_bitCount_95d88 2 (some .int), Cond.constantLong RJ13 314 (6148914691236517205), Cond.constantLong RJ13 316 (3689348814741910323), Cond.constantLong RJ13 318 (1085102592571150095), Cond.methodLink RX2 31 yX2_monomialAt, Cond.static yX2_monomialAt, Cond.code yX2_monomialAt cX2_monomialAt 3 (some .int), Cond.methodLink RX2 21 yX2_tableOf, Cond.static yX2_tableOf]
def wsX6_termAt_r2 : List Cond := [Cond.code yX2_tableOf cX2_tableOf 1 (some (.array .int)), Cond.fieldLink RX2 9 "BooleanRing$Orders" "BY_LEX" "[I", Cond.fieldLink RX2 15 "BooleanRing$Orders" "BY_GRADED" "[I", Cond.fieldLink RX2 18 "BooleanRing$Orders" "BY_REVERSE" "[I", Cond.methodLink RX2 35 yX3_bit, Cond.static yX3_bit, Cond.initialized RX3, Cond.code yX3_bit cX3_bit 3 (some .int)]
def wsX6_termAt : List Cond := .code yX6_termAt cX6_termAt 4 (some .int) :: ((wsX6_termAt_r1 ++ wsX6_termAt_r2) ++ wsX60)
def wsX6_value : List Cond := .code yX6_value cX6_value 3 (some .int) :: ([.fieldLink RX6 9 "BooleanRing" "registers" "[J", .fieldLink RX6 38 "BooleanRing" "n" "I", .methodLink RX6 51 yX6_isRegister, .static yX6_isRegister, .initialized RX6, .code yX6_isRegister cX6_isRegister 1 (some .boolean), .methodLink RX6 55 yX6_isMask, .instanceMethod yX6_isMask, .selects RX6 yX6_isMask yX6_isMask, .code yX6_isMask cX6_isMask 2 (some .boolean), .methodLink RX6 82 yX3_transformed, .static yX3_transformed, .initialized RX3, .code yX3_transformed cX3_transformed 6 (some .long), .methodLink RX3 19 yX3_raised, .static yX3_raised, .code yX3_raised cX3_raised 3 (some .long), .methodLink RX3 15 yX3_without, .static yX3_without, .code yX3_without cX3_without 1 (some .long), .fieldLink RX3 9 "BooleanRing$Poly" "WITHOUT" "[J", .methodLink RX6 106 yX3_bit, .static yX3_bit, .code yX3_bit cX3_bit 3 (some .int)] ++ wsX60)
def wsX6_isSame : List Cond := .code yX6_isSame cX6_isSame 3 (some .int) :: ([.fieldLink RX6 9 "BooleanRing" "registers" "[J", .methodLink RX6 51 yX6_isRegister, .static yX6_isRegister, .initialized RX6, .code yX6_isRegister cX6_isRegister 1 (some .boolean)] ++ wsX60)
def wsX6_isSet : List Cond := .code yX6_isSet cX6_isSet 1 (some .boolean) :: ([])
def wsX6_findLeading_r1 : List Cond := [Cond.fieldLink RX6 13 "BooleanRing" "leading" "[I", Cond.fieldLink RX6 9 "BooleanRing" "registers" "[J", Cond.methodLink RX6 118 yX2_termOf, Cond.static yX2_termOf, Cond.initialized RX2, Cond.code yX2_termOf cX2_termOf 7 (some .int), Cond.methodLink RX2 25 yJ13_bitCount_95d88, Cond.static yJ13_bitCount_95d88, Cond.initialized RJ13, Cond.code yJ13_bitCount_95d88 cJ13_bitCount_95d88 2 (some .int), Cond.constantLong RJ13 314 (6148914691236517205), Cond.constantLong RJ13 316 (3689348814741910323), Cond.constantLong RJ13 318 (1085102592571150095), Cond.methodLink RX2 31 yX2_monomialAt, Cond.static yX2_monomialAt, Cond.code yX2_monomialAt cX2_monomialAt 3 (some .int), Cond.methodLink RX2 21 yX2_tableOf, Cond.static yX2_tableOf, Cond.code yX2_tableOf cX2_tableOf 1 (some (.array .int)), Cond.fieldLink RX2 9 "BooleanRing$Orders" "BY_LEX" "[I", Cond.fieldLink RX2 15 "BooleanRing$Orders" "BY_GRADED" "[I", Cond.fieldLink RX2 18 "BooleanRing$Orders" "BY_REVERSE" "[I", Cond.methodLink RX2 35 yX3_bit, Cond.static yX3_bit]
def wsX6_findLeading_r2 : List Cond := [Cond.initialized RX3, Cond.code yX3_bit cX3_bit 3 (some .int)]
def wsX6_findLeading : List Cond := .code yX6_findLeading cX6_findLeading 3 none :: ((wsX6_findLeading_r1 ++ wsX6_findLeading_r2) ++ wsX60)
def wsX6_isIn : List Cond := .code yX6_isIn cX6_isIn 2 (some .boolean) :: ([])
def wsX6_reducerOf : List Cond := .code yX6_reducerOf cX6_reducerOf 4 (some .int) :: ([.fieldLink RX6 13 "BooleanRing" "leading" "[I", .methodLink RX6 203 yX6_isIn, .static yX6_isIn, .initialized RX6, .code yX6_isIn cX6_isIn 2 (some .boolean)] ++ wsX60)
def wsX6_reduce_r1 : List Cond := [Cond.fieldLink RX6 9 "BooleanRing" "registers" "[J", Cond.fieldLink RX6 13 "BooleanRing" "leading" "[I", Cond.fieldLink RX6 38 "BooleanRing" "n" "I", Cond.methodLink RX6 51 yX6_isRegister, Cond.static yX6_isRegister, Cond.initialized RX6, Cond.code yX6_isRegister cX6_isRegister 1 (some .boolean), Cond.methodLink RX6 139 yX6_isSet, Cond.static yX6_isSet, Cond.code yX6_isSet cX6_isSet 1 (some .boolean), Cond.methodLink RX6 136 yX6_isOrder, Cond.static yX6_isOrder, Cond.code yX6_isOrder cX6_isOrder 1 (some .boolean), Cond.methodLink RX6 142 yX6_findLeading, Cond.instanceMethod yX6_findLeading, Cond.selects RX6 yX6_findLeading yX6_findLeading, Cond.code yX6_findLeading cX6_findLeading 3 none, Cond.methodLink RX6 118 yX2_termOf, Cond.static yX2_termOf, Cond.initialized RX2, Cond.code yX2_termOf cX2_termOf 7 (some .int), Cond.methodLink RX2 25 yJ13_bitCount_95d88, Cond.static yJ13_bitCount_95d88, Cond.initialized RJ13]
def wsX6_reduce_r2 : List Cond := [Cond.code yJ13_bitCount_95d88 cJ13_bitCount_95d88 2 (some .int), Cond.constantLong RJ13 314 (6148914691236517205), Cond.constantLong RJ13 316 (3689348814741910323), Cond.constantLong RJ13 318 (1085102592571150095), Cond.methodLink RX2 31 yX2_monomialAt, Cond.static yX2_monomialAt, Cond.code yX2_monomialAt cX2_monomialAt 3 (some .int), Cond.methodLink RX2 21 yX2_tableOf, Cond.static yX2_tableOf, Cond.code yX2_tableOf cX2_tableOf 1 (some (.array .int)), Cond.fieldLink RX2 9 "BooleanRing$Orders" "BY_LEX" "[I", Cond.fieldLink RX2 15 "BooleanRing$Orders" "BY_GRADED" "[I", Cond.fieldLink RX2 18 "BooleanRing$Orders" "BY_REVERSE" "[I", Cond.methodLink RX2 35 yX3_bit, Cond.static yX3_bit, Cond.initialized RX3, Cond.code yX3_bit cX3_bit 3 (some .int), Cond.methodLink RX6 146 yX2_monomialAt, Cond.methodLink RX6 106 yX3_bit, Cond.methodLink RX6 149 yX6_reducerOf, Cond.instanceMethod yX6_reducerOf, Cond.selects RX6 yX6_reducerOf yX6_reducerOf, Cond.code yX6_reducerOf cX6_reducerOf 4 (some .int), Cond.methodLink RX6 203 yX6_isIn]
def wsX6_reduce_r3 : List Cond := [Cond.static yX6_isIn, Cond.code yX6_isIn cX6_isIn 2 (some .boolean), Cond.methodLink RX6 58 yX3_ofMonomial, Cond.static yX3_ofMonomial, Cond.code yX3_ofMonomial cX3_ofMonomial 1 (some .long), Cond.methodLink RX6 68 yX3_multiplied, Cond.static yX3_multiplied, Cond.code yX3_multiplied cX3_multiplied 5 (some .long), Cond.methodLink RX3 23 yX3_transformed, Cond.static yX3_transformed, Cond.code yX3_transformed cX3_transformed 6 (some .long), Cond.methodLink RX3 19 yX3_raised, Cond.static yX3_raised, Cond.code yX3_raised cX3_raised 3 (some .long), Cond.methodLink RX3 15 yX3_without, Cond.static yX3_without, Cond.code yX3_without cX3_without 1 (some .long), Cond.fieldLink RX3 9 "BooleanRing$Poly" "WITHOUT" "[J", Cond.methodLink RX6 64 yX6_put, Cond.instanceMethod yX6_put, Cond.selects RX6 yX6_put yX6_put, Cond.code yX6_put cX6_put 4 (some .int), Cond.fieldLink RX6 20 "BooleanRing" "history" "LBooleanRing$History;", Cond.methodLink RX6 152 yX1_keep]
def wsX6_reduce_r4 : List Cond := [Cond.instanceMethod yX1_keep, Cond.selects RX1 yX1_keep yX1_keep, Cond.initialized RX1, Cond.code yX1_keep cX1_keep 2 none, Cond.fieldLink RX1 15 "BooleanRing$History" "kept" "I", Cond.fieldLink RX1 11 "BooleanRing$History" "states" "[J", Cond.methodLink RX1 19 arraycopyName, Cond.native arraycopyName, Cond.static arraycopyName, Cond.initialized "java/lang/System", Cond.methodLink RX6 110 yJ13_bitCount_95d88]
def wsX6_reduce : List Cond := .code yX6_reduce cX6_reduce 12 (some .int) :: ((wsX6_reduce_r1 ++ (wsX6_reduce_r2 ++ (wsX6_reduce_r3 ++ wsX6_reduce_r4))) ++ wsX60 ++ wsX10)
def wsX6_nextOf : List Cond := .code yX6_nextOf cX6_nextOf 3 (some .int) :: ([.methodLink RX6 203 yX6_isIn, .static yX6_isIn, .initialized RX6, .code yX6_isIn cX6_isIn 2 (some .boolean)])
def wsX6_bringUp : List Cond := .code yX6_bringUp cX6_bringUp 7 (some .boolean) :: ([.fieldLink RX6 9 "BooleanRing" "registers" "[J", .methodLink RX6 51 yX6_isRegister, .static yX6_isRegister, .initialized RX6, .code yX6_isRegister cX6_isRegister 1 (some .boolean), .methodLink RX6 203 yX6_isIn, .static yX6_isIn, .code yX6_isIn cX6_isIn 2 (some .boolean), .methodLink RX6 106 yX3_bit, .static yX3_bit, .initialized RX3, .code yX3_bit cX3_bit 3 (some .int)] ++ wsX60)
def wsX6_clearElsewhere : List Cond := .code yX6_clearElsewhere cX6_clearElsewhere 5 none :: ([.fieldLink RX6 9 "BooleanRing" "registers" "[J", .methodLink RX6 51 yX6_isRegister, .static yX6_isRegister, .initialized RX6, .code yX6_isRegister cX6_isRegister 1 (some .boolean), .methodLink RX6 203 yX6_isIn, .static yX6_isIn, .code yX6_isIn cX6_isIn 2 (some .boolean), .methodLink RX6 106 yX3_bit, .static yX3_bit, .initialized RX3, .code yX3_bit cX3_bit 3 (some .int)] ++ wsX60)
def wsX6_echelon_r1 : List Cond := [Cond.fieldLink RX6 20 "BooleanRing" "history" "LBooleanRing$History;", Cond.fieldLink RX6 9 "BooleanRing" "registers" "[J", Cond.methodLink RX6 139 yX6_isSet, Cond.static yX6_isSet, Cond.initialized RX6, Cond.code yX6_isSet cX6_isSet 1 (some .boolean), Cond.methodLink RX6 136 yX6_isOrder, Cond.static yX6_isOrder, Cond.code yX6_isOrder cX6_isOrder 1 (some .boolean), Cond.methodLink RX6 152 yX1_keep, Cond.instanceMethod yX1_keep, Cond.selects RX1 yX1_keep yX1_keep, Cond.initialized RX1, Cond.code yX1_keep cX1_keep 2 none, Cond.fieldLink RX1 15 "BooleanRing$History" "kept" "I", Cond.fieldLink RX1 11 "BooleanRing$History" "states" "[J", Cond.methodLink RX1 19 arraycopyName, Cond.native arraycopyName, Cond.static arraycopyName, Cond.initialized "java/lang/System", Cond.methodLink RX6 156 yX6_nextOf, Cond.static yX6_nextOf, Cond.code yX6_nextOf cX6_nextOf 3 (some .int), Cond.methodLink RX6 203 yX6_isIn]
def wsX6_echelon_r2 : List Cond := [Cond.static yX6_isIn, Cond.code yX6_isIn cX6_isIn 2 (some .boolean), Cond.methodLink RX6 146 yX2_monomialAt, Cond.static yX2_monomialAt, Cond.initialized RX2, Cond.code yX2_monomialAt cX2_monomialAt 3 (some .int), Cond.methodLink RX2 21 yX2_tableOf, Cond.static yX2_tableOf, Cond.code yX2_tableOf cX2_tableOf 1 (some (.array .int)), Cond.fieldLink RX2 9 "BooleanRing$Orders" "BY_LEX" "[I", Cond.fieldLink RX2 15 "BooleanRing$Orders" "BY_GRADED" "[I", Cond.fieldLink RX2 18 "BooleanRing$Orders" "BY_REVERSE" "[I", Cond.methodLink RX6 159 yX6_bringUp, Cond.instanceMethod yX6_bringUp, Cond.selects RX6 yX6_bringUp yX6_bringUp, Cond.code yX6_bringUp cX6_bringUp 7 (some .boolean), Cond.methodLink RX6 51 yX6_isRegister, Cond.static yX6_isRegister, Cond.code yX6_isRegister cX6_isRegister 1 (some .boolean), Cond.methodLink RX6 106 yX3_bit, Cond.static yX3_bit, Cond.initialized RX3, Cond.code yX3_bit cX3_bit 3 (some .int), Cond.methodLink RX6 163 yX6_clearElsewhere]
def wsX6_echelon_r3 : List Cond := [Cond.instanceMethod yX6_clearElsewhere, Cond.selects RX6 yX6_clearElsewhere yX6_clearElsewhere, Cond.code yX6_clearElsewhere cX6_clearElsewhere 5 none]
def wsX6_echelon : List Cond := .code yX6_echelon cX6_echelon 7 (some .int) :: ((wsX6_echelon_r1 ++ (wsX6_echelon_r2 ++ wsX6_echelon_r3)) ++ wsX60 ++ wsX10)
def wsX6_allPoints : List Cond := .code yX6_allPoints cX6_allPoints 1 (some .long) :: ([.fieldLink RX6 38 "BooleanRing" "n" "I", .constantLong RX6 180 (-1)] ++ wsX60)
def wsX6_nonZeros : List Cond := .code yX6_nonZeros cX6_nonZeros 5 (some .long) :: ([.fieldLink RX6 9 "BooleanRing" "registers" "[J", .fieldLink RX6 38 "BooleanRing" "n" "I", .methodLink RX6 203 yX6_isIn, .static yX6_isIn, .initialized RX6, .code yX6_isIn cX6_isIn 2 (some .boolean), .methodLink RX6 82 yX3_transformed, .static yX3_transformed, .initialized RX3, .code yX3_transformed cX3_transformed 6 (some .long), .methodLink RX3 19 yX3_raised, .static yX3_raised, .code yX3_raised cX3_raised 3 (some .long), .methodLink RX3 15 yX3_without, .static yX3_without, .code yX3_without cX3_without 1 (some .long), .fieldLink RX3 9 "BooleanRing$Poly" "WITHOUT" "[J"] ++ wsX60)
def wsX6_commonZeros_r1 : List Cond := [Cond.constantLong RX6 180 (-1), Cond.methodLink RX6 176 yX6_allPoints, Cond.instanceMethod yX6_allPoints, Cond.selects RX6 yX6_allPoints yX6_allPoints, Cond.initialized RX6, Cond.code yX6_allPoints cX6_allPoints 1 (some .long), Cond.fieldLink RX6 38 "BooleanRing" "n" "I", Cond.methodLink RX6 170 yX6_nonZeros, Cond.instanceMethod yX6_nonZeros, Cond.selects RX6 yX6_nonZeros yX6_nonZeros, Cond.code yX6_nonZeros cX6_nonZeros 5 (some .long), Cond.fieldLink RX6 9 "BooleanRing" "registers" "[J", Cond.methodLink RX6 203 yX6_isIn, Cond.static yX6_isIn, Cond.code yX6_isIn cX6_isIn 2 (some .boolean), Cond.methodLink RX6 82 yX3_transformed, Cond.static yX3_transformed, Cond.initialized RX3, Cond.code yX3_transformed cX3_transformed 6 (some .long), Cond.methodLink RX3 19 yX3_raised, Cond.static yX3_raised, Cond.code yX3_raised cX3_raised 3 (some .long), Cond.methodLink RX3 15 yX3_without, Cond.static yX3_without]
def wsX6_commonZeros_r2 : List Cond := [Cond.code yX3_without cX3_without 1 (some .long), Cond.fieldLink RX3 9 "BooleanRing$Poly" "WITHOUT" "[J"]
def wsX6_commonZeros : List Cond := .code yX6_commonZeros cX6_commonZeros 2 (some .long) :: ((wsX6_commonZeros_r1 ++ wsX6_commonZeros_r2) ++ wsX60)
def wsX6_zeros_r1 : List Cond := [Cond.methodLink RX6 139 yX6_isSet, Cond.static yX6_isSet, Cond.initialized RX6, Cond.code yX6_isSet cX6_isSet 1 (some .boolean), Cond.methodLink RX6 167 yX6_commonZeros, Cond.instanceMethod yX6_commonZeros, Cond.selects RX6 yX6_commonZeros yX6_commonZeros, Cond.code yX6_commonZeros cX6_commonZeros 2 (some .long), Cond.constantLong RX6 180 (-1), Cond.methodLink RX6 176 yX6_allPoints, Cond.instanceMethod yX6_allPoints, Cond.selects RX6 yX6_allPoints yX6_allPoints, Cond.code yX6_allPoints cX6_allPoints 1 (some .long), Cond.fieldLink RX6 38 "BooleanRing" "n" "I", Cond.methodLink RX6 170 yX6_nonZeros, Cond.instanceMethod yX6_nonZeros, Cond.selects RX6 yX6_nonZeros yX6_nonZeros, Cond.code yX6_nonZeros cX6_nonZeros 5 (some .long), Cond.fieldLink RX6 9 "BooleanRing" "registers" "[J", Cond.methodLink RX6 203 yX6_isIn, Cond.static yX6_isIn, Cond.code yX6_isIn cX6_isIn 2 (some .boolean), Cond.methodLink RX6 82 yX3_transformed, Cond.static yX3_transformed]
def wsX6_zeros_r2 : List Cond := [Cond.initialized RX3, Cond.code yX3_transformed cX3_transformed 6 (some .long), Cond.methodLink RX3 19 yX3_raised, Cond.static yX3_raised, Cond.code yX3_raised cX3_raised 3 (some .long), Cond.methodLink RX3 15 yX3_without, Cond.static yX3_without, Cond.code yX3_without cX3_without 1 (some .long), Cond.fieldLink RX3 9 "BooleanRing$Poly" "WITHOUT" "[J", Cond.methodLink RX6 110 yJ13_bitCount_95d88, Cond.static yJ13_bitCount_95d88, Cond.initialized RJ13, Cond.code yJ13_bitCount_95d88 cJ13_bitCount_95d88 2 (some .int), Cond.constantLong RJ13 314 (6148914691236517205), Cond.constantLong RJ13 316 (3689348814741910323), Cond.constantLong RJ13 318 (1085102592571150095)]
def wsX6_zeros : List Cond := .code yX6_zeros cX6_zeros 2 (some .int) :: ((wsX6_zeros_r1 ++ wsX6_zeros_r2) ++ wsX60)
def wsX6_zeroAt_r1 : List Cond := [Cond.methodLink RX6 139 yX6_isSet, Cond.static yX6_isSet, Cond.initialized RX6, Cond.code yX6_isSet cX6_isSet 1 (some .boolean), Cond.methodLink RX6 167 yX6_commonZeros, Cond.instanceMethod yX6_commonZeros, Cond.selects RX6 yX6_commonZeros yX6_commonZeros, Cond.code yX6_commonZeros cX6_commonZeros 2 (some .long), Cond.constantLong RX6 180 (-1), Cond.methodLink RX6 176 yX6_allPoints, Cond.instanceMethod yX6_allPoints, Cond.selects RX6 yX6_allPoints yX6_allPoints, Cond.code yX6_allPoints cX6_allPoints 1 (some .long), Cond.fieldLink RX6 38 "BooleanRing" "n" "I", Cond.methodLink RX6 170 yX6_nonZeros, Cond.instanceMethod yX6_nonZeros, Cond.selects RX6 yX6_nonZeros yX6_nonZeros, Cond.code yX6_nonZeros cX6_nonZeros 5 (some .long), Cond.fieldLink RX6 9 "BooleanRing" "registers" "[J", Cond.methodLink RX6 203 yX6_isIn, Cond.static yX6_isIn, Cond.code yX6_isIn cX6_isIn 2 (some .boolean), Cond.methodLink RX6 82 yX3_transformed, Cond.static yX3_transformed]
def wsX6_zeroAt_r2 : List Cond := [Cond.initialized RX3, Cond.code yX3_transformed cX3_transformed 6 (some .long), Cond.methodLink RX3 19 yX3_raised, Cond.static yX3_raised, Cond.code yX3_raised cX3_raised 3 (some .long), Cond.methodLink RX3 15 yX3_without, Cond.static yX3_without, Cond.code yX3_without cX3_without 1 (some .long), Cond.fieldLink RX3 9 "BooleanRing$Poly" "WITHOUT" "[J", Cond.methodLink RX6 106 yX3_bit, Cond.static yX3_bit, Cond.code yX3_bit cX3_bit 3 (some .int)]
def wsX6_zeroAt : List Cond := .code yX6_zeroAt cX6_zeroAt 7 (some .int) :: ((wsX6_zeroAt_r1 ++ wsX6_zeroAt_r2) ++ wsX60)
def wsX6_combine_r1 : List Cond := [Cond.fieldLink RX6 38 "BooleanRing" "n" "I", Cond.methodLink RX6 139 yX6_isSet, Cond.static yX6_isSet, Cond.initialized RX6, Cond.code yX6_isSet cX6_isSet 1 (some .boolean), Cond.methodLink RX6 51 yX6_isRegister, Cond.static yX6_isRegister, Cond.code yX6_isRegister cX6_isRegister 1 (some .boolean), Cond.methodLink RX6 170 yX6_nonZeros, Cond.instanceMethod yX6_nonZeros, Cond.selects RX6 yX6_nonZeros yX6_nonZeros, Cond.code yX6_nonZeros cX6_nonZeros 5 (some .long), Cond.fieldLink RX6 9 "BooleanRing" "registers" "[J", Cond.methodLink RX6 203 yX6_isIn, Cond.static yX6_isIn, Cond.code yX6_isIn cX6_isIn 2 (some .boolean), Cond.methodLink RX6 82 yX3_transformed, Cond.static yX3_transformed, Cond.initialized RX3, Cond.code yX3_transformed cX3_transformed 6 (some .long), Cond.methodLink RX3 19 yX3_raised, Cond.static yX3_raised, Cond.code yX3_raised cX3_raised 3 (some .long), Cond.methodLink RX3 15 yX3_without]
def wsX6_combine_r2 : List Cond := [Cond.static yX3_without, Cond.code yX3_without cX3_without 1 (some .long), Cond.fieldLink RX3 9 "BooleanRing$Poly" "WITHOUT" "[J", Cond.methodLink RX6 64 yX6_put, Cond.instanceMethod yX6_put, Cond.selects RX6 yX6_put yX6_put, Cond.code yX6_put cX6_put 4 (some .int), Cond.fieldLink RX6 20 "BooleanRing" "history" "LBooleanRing$History;", Cond.methodLink RX6 152 yX1_keep, Cond.instanceMethod yX1_keep, Cond.selects RX1 yX1_keep yX1_keep, Cond.initialized RX1, Cond.code yX1_keep cX1_keep 2 none, Cond.fieldLink RX1 15 "BooleanRing$History" "kept" "I", Cond.fieldLink RX1 11 "BooleanRing$History" "states" "[J", Cond.methodLink RX1 19 arraycopyName, Cond.native arraycopyName, Cond.static arraycopyName, Cond.initialized "java/lang/System", Cond.methodLink RX6 110 yJ13_bitCount_95d88, Cond.static yJ13_bitCount_95d88, Cond.initialized RJ13, Cond.code yJ13_bitCount_95d88 cJ13_bitCount_95d88 2 (some .int), Cond.constantLong RJ13 314 (6148914691236517205)]
def wsX6_combine_r3 : List Cond := [Cond.constantLong RJ13 316 (3689348814741910323), Cond.constantLong RJ13 318 (1085102592571150095)]
def wsX6_combine : List Cond := .code yX6_combine cX6_combine 3 (some .int) :: ((wsX6_combine_r1 ++ (wsX6_combine_r2 ++ wsX6_combine_r3)) ++ wsX60 ++ wsX10)
def wsX6_eliminate_r1 : List Cond := [Cond.fieldLink RX6 38 "BooleanRing" "n" "I", Cond.methodLink RX6 139 yX6_isSet, Cond.static yX6_isSet, Cond.initialized RX6, Cond.code yX6_isSet cX6_isSet 1 (some .boolean), Cond.methodLink RX6 72 yX6_isVariable, Cond.instanceMethod yX6_isVariable, Cond.selects RX6 yX6_isVariable yX6_isVariable, Cond.code yX6_isVariable cX6_isVariable 2 (some .boolean), Cond.methodLink RX6 51 yX6_isRegister, Cond.static yX6_isRegister, Cond.code yX6_isRegister cX6_isRegister 1 (some .boolean), Cond.methodLink RX6 170 yX6_nonZeros, Cond.instanceMethod yX6_nonZeros, Cond.selects RX6 yX6_nonZeros yX6_nonZeros, Cond.code yX6_nonZeros cX6_nonZeros 5 (some .long), Cond.fieldLink RX6 9 "BooleanRing" "registers" "[J", Cond.methodLink RX6 203 yX6_isIn, Cond.static yX6_isIn, Cond.code yX6_isIn cX6_isIn 2 (some .boolean), Cond.methodLink RX6 82 yX3_transformed, Cond.static yX3_transformed, Cond.initialized RX3, Cond.code yX3_transformed cX3_transformed 6 (some .long)]
def wsX6_eliminate_r2 : List Cond := [Cond.methodLink RX3 19 yX3_raised, Cond.static yX3_raised, Cond.code yX3_raised cX3_raised 3 (some .long), Cond.methodLink RX3 15 yX3_without, Cond.static yX3_without, Cond.code yX3_without cX3_without 1 (some .long), Cond.fieldLink RX3 9 "BooleanRing$Poly" "WITHOUT" "[J", Cond.methodLink RX6 75 yX3_lowerHalf, Cond.static yX3_lowerHalf, Cond.code yX3_lowerHalf cX3_lowerHalf 3 (some .long), Cond.methodLink RX6 79 yX3_upperHalf, Cond.static yX3_upperHalf, Cond.code yX3_upperHalf cX3_upperHalf 3 (some .long), Cond.methodLink RX6 173 yX3_raised, Cond.methodLink RX6 64 yX6_put, Cond.instanceMethod yX6_put, Cond.selects RX6 yX6_put yX6_put, Cond.code yX6_put cX6_put 4 (some .int), Cond.fieldLink RX6 20 "BooleanRing" "history" "LBooleanRing$History;", Cond.methodLink RX6 152 yX1_keep, Cond.instanceMethod yX1_keep, Cond.selects RX1 yX1_keep yX1_keep, Cond.initialized RX1, Cond.code yX1_keep cX1_keep 2 none]
def wsX6_eliminate_r3 : List Cond := [Cond.fieldLink RX1 15 "BooleanRing$History" "kept" "I", Cond.fieldLink RX1 11 "BooleanRing$History" "states" "[J", Cond.methodLink RX1 19 arraycopyName, Cond.native arraycopyName, Cond.static arraycopyName, Cond.initialized "java/lang/System", Cond.methodLink RX6 110 yJ13_bitCount_95d88, Cond.static yJ13_bitCount_95d88, Cond.initialized RJ13, Cond.code yJ13_bitCount_95d88 cJ13_bitCount_95d88 2 (some .int), Cond.constantLong RJ13 314 (6148914691236517205), Cond.constantLong RJ13 316 (3689348814741910323), Cond.constantLong RJ13 318 (1085102592571150095)]
def wsX6_eliminate : List Cond := .code yX6_eliminate cX6_eliminate 10 (some .int) :: ((wsX6_eliminate_r1 ++ (wsX6_eliminate_r2 ++ wsX6_eliminate_r3)) ++ wsX60 ++ wsX10)
def wsX6_fibres_r1 : List Cond := [Cond.constantLong RX6 180 (-1), Cond.methodLink RX6 139 yX6_isSet, Cond.static yX6_isSet, Cond.initialized RX6, Cond.code yX6_isSet cX6_isSet 1 (some .boolean), Cond.methodLink RX6 72 yX6_isVariable, Cond.instanceMethod yX6_isVariable, Cond.selects RX6 yX6_isVariable yX6_isVariable, Cond.code yX6_isVariable cX6_isVariable 2 (some .boolean), Cond.fieldLink RX6 38 "BooleanRing" "n" "I", Cond.methodLink RX6 167 yX6_commonZeros, Cond.instanceMethod yX6_commonZeros, Cond.selects RX6 yX6_commonZeros yX6_commonZeros, Cond.code yX6_commonZeros cX6_commonZeros 2 (some .long), Cond.methodLink RX6 176 yX6_allPoints, Cond.instanceMethod yX6_allPoints, Cond.selects RX6 yX6_allPoints yX6_allPoints, Cond.code yX6_allPoints cX6_allPoints 1 (some .long), Cond.methodLink RX6 170 yX6_nonZeros, Cond.instanceMethod yX6_nonZeros, Cond.selects RX6 yX6_nonZeros yX6_nonZeros, Cond.code yX6_nonZeros cX6_nonZeros 5 (some .long), Cond.fieldLink RX6 9 "BooleanRing" "registers" "[J", Cond.methodLink RX6 203 yX6_isIn]
def wsX6_fibres_r2 : List Cond := [Cond.static yX6_isIn, Cond.code yX6_isIn cX6_isIn 2 (some .boolean), Cond.methodLink RX6 82 yX3_transformed, Cond.static yX3_transformed, Cond.initialized RX3, Cond.code yX3_transformed cX3_transformed 6 (some .long), Cond.methodLink RX3 19 yX3_raised, Cond.static yX3_raised, Cond.code yX3_raised cX3_raised 3 (some .long), Cond.methodLink RX3 15 yX3_without, Cond.static yX3_without, Cond.code yX3_without cX3_without 1 (some .long), Cond.fieldLink RX3 9 "BooleanRing$Poly" "WITHOUT" "[J", Cond.methodLink RX6 75 yX3_lowerHalf, Cond.static yX3_lowerHalf, Cond.code yX3_lowerHalf cX3_lowerHalf 3 (some .long), Cond.methodLink RX6 79 yX3_upperHalf, Cond.static yX3_upperHalf, Cond.code yX3_upperHalf cX3_upperHalf 3 (some .long), Cond.methodLink RX6 110 yJ13_bitCount_95d88, Cond.static yJ13_bitCount_95d88, Cond.initialized RJ13, Cond.code yJ13_bitCount_95d88 cJ13_bitCount_95d88 2 (some .int), Cond.constantLong RJ13 314 (6148914691236517205)]
def wsX6_fibres_r3 : List Cond := [Cond.constantLong RJ13 316 (3689348814741910323), Cond.constantLong RJ13 318 (1085102592571150095)]
def wsX6_fibres : List Cond := .code yX6_fibres cX6_fibres 10 (some .int) :: ((wsX6_fibres_r1 ++ (wsX6_fibres_r2 ++ wsX6_fibres_r3)) ++ wsX60)
def wsX6_isMember_r1 : List Cond := [Cond.fieldLink RX6 9 "BooleanRing" "registers" "[J", Cond.fieldLink RX6 38 "BooleanRing" "n" "I", Cond.methodLink RX6 51 yX6_isRegister, Cond.static yX6_isRegister, Cond.initialized RX6, Cond.code yX6_isRegister cX6_isRegister 1 (some .boolean), Cond.methodLink RX6 139 yX6_isSet, Cond.static yX6_isSet, Cond.code yX6_isSet cX6_isSet 1 (some .boolean), Cond.methodLink RX6 82 yX3_transformed, Cond.static yX3_transformed, Cond.initialized RX3, Cond.code yX3_transformed cX3_transformed 6 (some .long), Cond.methodLink RX3 19 yX3_raised, Cond.static yX3_raised, Cond.code yX3_raised cX3_raised 3 (some .long), Cond.methodLink RX3 15 yX3_without, Cond.static yX3_without, Cond.code yX3_without cX3_without 1 (some .long), Cond.fieldLink RX3 9 "BooleanRing$Poly" "WITHOUT" "[J", Cond.methodLink RX6 167 yX6_commonZeros, Cond.instanceMethod yX6_commonZeros, Cond.selects RX6 yX6_commonZeros yX6_commonZeros, Cond.code yX6_commonZeros cX6_commonZeros 2 (some .long)]
def wsX6_isMember_r2 : List Cond := [Cond.constantLong RX6 180 (-1), Cond.methodLink RX6 176 yX6_allPoints, Cond.instanceMethod yX6_allPoints, Cond.selects RX6 yX6_allPoints yX6_allPoints, Cond.code yX6_allPoints cX6_allPoints 1 (some .long), Cond.methodLink RX6 170 yX6_nonZeros, Cond.instanceMethod yX6_nonZeros, Cond.selects RX6 yX6_nonZeros yX6_nonZeros, Cond.code yX6_nonZeros cX6_nonZeros 5 (some .long), Cond.methodLink RX6 203 yX6_isIn, Cond.static yX6_isIn, Cond.code yX6_isIn cX6_isIn 2 (some .boolean)]
def wsX6_isMember : List Cond := .code yX6_isMember cX6_isMember 5 (some .int) :: ((wsX6_isMember_r1 ++ wsX6_isMember_r2) ++ wsX60)
def wsX6_isSameIdeal : List Cond := .code yX6_isSameIdeal cX6_isSameIdeal 3 (some .int) :: ([.methodLink RX6 139 yX6_isSet, .static yX6_isSet, .initialized RX6, .code yX6_isSet cX6_isSet 1 (some .boolean), .methodLink RX6 170 yX6_nonZeros, .instanceMethod yX6_nonZeros, .selects RX6 yX6_nonZeros yX6_nonZeros, .code yX6_nonZeros cX6_nonZeros 5 (some .long), .fieldLink RX6 9 "BooleanRing" "registers" "[J", .fieldLink RX6 38 "BooleanRing" "n" "I", .methodLink RX6 203 yX6_isIn, .static yX6_isIn, .code yX6_isIn cX6_isIn 2 (some .boolean), .methodLink RX6 82 yX3_transformed, .static yX3_transformed, .initialized RX3, .code yX3_transformed cX3_transformed 6 (some .long), .methodLink RX3 19 yX3_raised, .static yX3_raised, .code yX3_raised cX3_raised 3 (some .long), .methodLink RX3 15 yX3_without, .static yX3_without, .code yX3_without cX3_without 1 (some .long), .fieldLink RX3 9 "BooleanRing$Poly" "WITHOUT" "[J"] ++ wsX60)
def wsX6_fixedVariables_r1 : List Cond := [Cond.fieldLink RX6 38 "BooleanRing" "n" "I", Cond.methodLink RX6 139 yX6_isSet, Cond.static yX6_isSet, Cond.initialized RX6, Cond.code yX6_isSet cX6_isSet 1 (some .boolean), Cond.methodLink RX6 167 yX6_commonZeros, Cond.instanceMethod yX6_commonZeros, Cond.selects RX6 yX6_commonZeros yX6_commonZeros, Cond.code yX6_commonZeros cX6_commonZeros 2 (some .long), Cond.constantLong RX6 180 (-1), Cond.methodLink RX6 176 yX6_allPoints, Cond.instanceMethod yX6_allPoints, Cond.selects RX6 yX6_allPoints yX6_allPoints, Cond.code yX6_allPoints cX6_allPoints 1 (some .long), Cond.methodLink RX6 170 yX6_nonZeros, Cond.instanceMethod yX6_nonZeros, Cond.selects RX6 yX6_nonZeros yX6_nonZeros, Cond.code yX6_nonZeros cX6_nonZeros 5 (some .long), Cond.fieldLink RX6 9 "BooleanRing" "registers" "[J", Cond.methodLink RX6 203 yX6_isIn, Cond.static yX6_isIn, Cond.code yX6_isIn cX6_isIn 2 (some .boolean), Cond.methodLink RX6 82 yX3_transformed, Cond.static yX3_transformed]
def wsX6_fixedVariables_r2 : List Cond := [Cond.initialized RX3, Cond.code yX3_transformed cX3_transformed 6 (some .long), Cond.methodLink RX3 19 yX3_raised, Cond.static yX3_raised, Cond.code yX3_raised cX3_raised 3 (some .long), Cond.methodLink RX3 15 yX3_without, Cond.static yX3_without, Cond.code yX3_without cX3_without 1 (some .long), Cond.fieldLink RX3 9 "BooleanRing$Poly" "WITHOUT" "[J", Cond.methodLink RX6 75 yX3_lowerHalf, Cond.static yX3_lowerHalf, Cond.code yX3_lowerHalf cX3_lowerHalf 3 (some .long), Cond.methodLink RX6 79 yX3_upperHalf, Cond.static yX3_upperHalf, Cond.code yX3_upperHalf cX3_upperHalf 3 (some .long)]
def wsX6_fixedVariables : List Cond := .code yX6_fixedVariables cX6_fixedVariables 6 (some .int) :: ((wsX6_fixedVariables_r1 ++ wsX6_fixedVariables_r2) ++ wsX60)
def wsX6_type : List Cond := .code yX6_type cX6_type 2 (some .int) :: ([.fieldLink RX6 34 "BooleanRing" "typed" "LBooleanRing$Typed;", .methodLink RX6 182 yX5_append, .instanceMethod yX5_append, .selects RX5 yX5_append yX5_append, .initialized RX5, .code yX5_append cX5_append 2 (some .int), .fieldLink RX5 15 "BooleanRing$Typed" "length" "I", .fieldLink RX5 11 "BooleanRing$Typed" "text" "[C"] ++ wsX60 ++ wsX50)
def wsX6_clearText : List Cond := .code yX6_clearText cX6_clearText 1 (some .int) :: ([.fieldLink RX6 34 "BooleanRing" "typed" "LBooleanRing$Typed;", .methodLink RX6 186 yX5_empty, .instanceMethod yX5_empty, .selects RX5 yX5_empty yX5_empty, .initialized RX5, .code yX5_empty cX5_empty 2 (some .int), .fieldLink RX5 15 "BooleanRing$Typed" "length" "I"] ++ wsX60 ++ wsX50)
def wsX6_fault : List Cond := .code yX6_fault cX6_fault 1 (some .int) :: ([.fieldLink RX6 34 "BooleanRing" "typed" "LBooleanRing$Typed;", .fieldLink RX6 38 "BooleanRing" "n" "I", .methodLink RX6 189 yX5_firstFault, .instanceMethod yX5_firstFault, .selects RX5 yX5_firstFault yX5_firstFault, .initialized RX5, .code yX5_firstFault cX5_firstFault 4 (some .int), .fieldLink RX5 15 "BooleanRing$Typed" "length" "I", .fieldLink RX5 11 "BooleanRing$Typed" "text" "[C", .methodLink RX5 19 yX5_seenAfter, .static yX5_seenAfter, .code yX5_seenAfter cX5_seenAfter 4 (some .int)] ++ wsX60 ++ wsX50)
def wsX6_read_r1 : List Cond := [Cond.fieldLink RX6 34 "BooleanRing" "typed" "LBooleanRing$Typed;", Cond.fieldLink RX6 38 "BooleanRing" "n" "I", Cond.methodLink RX6 51 yX6_isRegister, Cond.static yX6_isRegister, Cond.initialized RX6, Cond.code yX6_isRegister cX6_isRegister 1 (some .boolean), Cond.methodLink RX6 189 yX5_firstFault, Cond.instanceMethod yX5_firstFault, Cond.selects RX5 yX5_firstFault yX5_firstFault, Cond.initialized RX5, Cond.code yX5_firstFault cX5_firstFault 4 (some .int), Cond.fieldLink RX5 15 "BooleanRing$Typed" "length" "I", Cond.fieldLink RX5 11 "BooleanRing$Typed" "text" "[C", Cond.methodLink RX5 19 yX5_seenAfter, Cond.static yX5_seenAfter, Cond.code yX5_seenAfter cX5_seenAfter 4 (some .int), Cond.methodLink RX6 192 yX5_polynomial, Cond.instanceMethod yX5_polynomial, Cond.selects RX5 yX5_polynomial yX5_polynomial, Cond.code yX5_polynomial cX5_polynomial 7 (some .long), Cond.methodLink RX5 23 yX3_ofMonomial, Cond.static yX3_ofMonomial, Cond.initialized RX3, Cond.code yX3_ofMonomial cX3_ofMonomial 1 (some .long)]
def wsX6_read_r2 : List Cond := [Cond.methodLink RX6 64 yX6_put, Cond.instanceMethod yX6_put, Cond.selects RX6 yX6_put yX6_put, Cond.code yX6_put cX6_put 4 (some .int), Cond.fieldLink RX6 20 "BooleanRing" "history" "LBooleanRing$History;", Cond.fieldLink RX6 9 "BooleanRing" "registers" "[J", Cond.methodLink RX6 152 yX1_keep, Cond.instanceMethod yX1_keep, Cond.selects RX1 yX1_keep yX1_keep, Cond.initialized RX1, Cond.code yX1_keep cX1_keep 2 none, Cond.fieldLink RX1 15 "BooleanRing$History" "kept" "I", Cond.fieldLink RX1 11 "BooleanRing$History" "states" "[J", Cond.methodLink RX1 19 arraycopyName, Cond.native arraycopyName, Cond.static arraycopyName, Cond.initialized "java/lang/System", Cond.methodLink RX6 110 yJ13_bitCount_95d88, Cond.static yJ13_bitCount_95d88, Cond.initialized RJ13, Cond.code yJ13_bitCount_95d88 cJ13_bitCount_95d88 2 (some .int), Cond.constantLong RJ13 314 (6148914691236517205), Cond.constantLong RJ13 316 (3689348814741910323), Cond.constantLong RJ13 318 (1085102592571150095)]
def wsX6_read : List Cond := .code yX6_read cX6_read 2 (some .int) :: ((wsX6_read_r1 ++ wsX6_read_r2) ++ wsX60 ++ wsX50 ++ wsX10)
def wsX6_textLength_r1 : List Cond := [Cond.fieldLink RX6 9 "BooleanRing" "registers" "[J", Cond.methodLink RX6 51 yX6_isRegister, Cond.static yX6_isRegister, Cond.initialized RX6, Cond.code yX6_isRegister cX6_isRegister 1 (some .boolean), Cond.methodLink RX6 195 yX4_lengthOf, Cond.static yX4_lengthOf, Cond.initialized RX4, Cond.code yX4_lengthOf cX4_lengthOf 4 (some .int), Cond.methodLink RX4 9 yX3_bit, Cond.static yX3_bit, Cond.initialized RX3, Cond.code yX3_bit cX3_bit 3 (some .int), Cond.methodLink RX4 15 yX4_widthOf, Cond.static yX4_widthOf, Cond.code yX4_widthOf cX4_widthOf 1 (some .int), Cond.methodLink RX4 39 yJ6_bitCount_0f7a4, Cond.static yJ6_bitCount_0f7a4, Cond.initialized RJ6, Cond.code yJ6_bitCount_0f7a4 cJ6_bitCount_0f7a4 1 (some .int), Cond.constant RJ6 265 (1431655765), Cond.constant RJ6 266 (858993459), Cond.constant RJ6 267 (252645135), Cond.methodLink RX4 21 yJ13_bitCount_95d88]
def wsX6_textLength_r2 : List Cond := [Cond.static yJ13_bitCount_95d88, Cond.initialized RJ13, Cond.code yJ13_bitCount_95d88 cJ13_bitCount_95d88 2 (some .int), Cond.constantLong RJ13 314 (6148914691236517205), Cond.constantLong RJ13 316 (3689348814741910323), Cond.constantLong RJ13 318 (1085102592571150095)]
def wsX6_textLength : List Cond := .code yX6_textLength cX6_textLength 2 (some .int) :: ((wsX6_textLength_r1 ++ wsX6_textLength_r2) ++ wsX60)
def wsX6_textAt_r1 : List Cond := [Cond.fieldLink RX6 9 "BooleanRing" "registers" "[J", Cond.methodLink RX6 51 yX6_isRegister, Cond.static yX6_isRegister, Cond.initialized RX6, Cond.code yX6_isRegister cX6_isRegister 1 (some .boolean), Cond.methodLink RX6 200 yX4_characterOf, Cond.static yX4_characterOf, Cond.initialized RX4, Cond.code yX4_characterOf cX4_characterOf 7 (some .int), Cond.methodLink RX4 27 yX4_lengthOf, Cond.static yX4_lengthOf, Cond.code yX4_lengthOf cX4_lengthOf 4 (some .int), Cond.methodLink RX4 9 yX3_bit, Cond.static yX3_bit, Cond.initialized RX3, Cond.code yX3_bit cX3_bit 3 (some .int), Cond.methodLink RX4 15 yX4_widthOf, Cond.static yX4_widthOf, Cond.code yX4_widthOf cX4_widthOf 1 (some .int), Cond.methodLink RX4 39 yJ6_bitCount_0f7a4, Cond.static yJ6_bitCount_0f7a4, Cond.initialized RJ6, Cond.code yJ6_bitCount_0f7a4 cJ6_bitCount_0f7a4 1 (some .int), Cond.constant RJ6 265 (1431655765)]
def wsX6_textAt_r2 : List Cond := [Cond.constant RJ6 266 (858993459), Cond.constant RJ6 267 (252645135), Cond.methodLink RX4 21 yJ13_bitCount_95d88, Cond.static yJ13_bitCount_95d88, Cond.initialized RJ13, Cond.code yJ13_bitCount_95d88 cJ13_bitCount_95d88 2 (some .int), Cond.constantLong RJ13 314 (6148914691236517205), Cond.constantLong RJ13 316 (3689348814741910323), Cond.constantLong RJ13 318 (1085102592571150095), Cond.methodLink RX4 32 yX2_monomialAt, Cond.static yX2_monomialAt, Cond.initialized RX2, Cond.code yX2_monomialAt cX2_monomialAt 3 (some .int), Cond.methodLink RX2 21 yX2_tableOf, Cond.static yX2_tableOf, Cond.code yX2_tableOf cX2_tableOf 1 (some (.array .int)), Cond.fieldLink RX2 9 "BooleanRing$Orders" "BY_LEX" "[I", Cond.fieldLink RX2 15 "BooleanRing$Orders" "BY_GRADED" "[I", Cond.fieldLink RX2 18 "BooleanRing$Orders" "BY_REVERSE" "[I", Cond.methodLink RX4 36 yX4_signOf, Cond.static yX4_signOf, Cond.code yX4_signOf cX4_signOf 4 (some .int)]
def wsX6_textAt : List Cond := .code yX6_textAt cX6_textAt 3 (some .int) :: ((wsX6_textAt_r1 ++ wsX6_textAt_r2) ++ wsX60)
def wsX7_init : List Cond := .code yX7_init cX7_init 1 none :: ([.methodLink RX7 1 objectInit, .instanceMethod objectInit, .code objectInit ⟨#[0xb1]⟩ 1 none, .fieldLink RX7 7 "BooleanRingModel" "n" "I", .arrayClass .long, .fieldLink RX7 13 "BooleanRingModel" "p" "[J", .fieldLink RX7 17 "BooleanRingModel" "was" "[J", .arrayClass .char, .fieldLink RX7 20 "BooleanRingModel" "text" "[C", .fieldLink RX7 24 "BooleanRingModel" "found" "[J", .fieldLink RX7 27 "BooleanRingModel" "by" "[J"] ++ wsX70)
def wsX7_in : List Cond := .code yX7_in cX7_in 3 (some .boolean) :: ([])
def wsX7_isRegister : List Cond := .code yX7_isRegister cX7_isRegister 1 (some .boolean) :: ([.methodLink RX7 30 yX7_in, .static yX7_in, .initialized RX7, .code yX7_in cX7_in 3 (some .boolean)])
def wsX7_isVariable : List Cond := .code yX7_isVariable cX7_isVariable 2 (some .boolean) :: ([.fieldLink RX7 7 "BooleanRingModel" "n" "I", .methodLink RX7 30 yX7_in, .static yX7_in, .initialized RX7, .code yX7_in cX7_in 3 (some .boolean)] ++ wsX70)
def wsX7_isMask : List Cond := .code yX7_isMask cX7_isMask 2 (some .boolean) :: ([.fieldLink RX7 7 "BooleanRingModel" "n" "I", .methodLink RX7 30 yX7_in, .static yX7_in, .initialized RX7, .code yX7_in cX7_in 3 (some .boolean)] ++ wsX70)
def wsX7_isOrder : List Cond := .code yX7_isOrder cX7_isOrder 1 (some .boolean) :: ([.methodLink RX7 30 yX7_in, .static yX7_in, .initialized RX7, .code yX7_in cX7_in 3 (some .boolean)])
def wsX7_isSet : List Cond := .code yX7_isSet cX7_isSet 1 (some .boolean) :: ([.methodLink RX7 30 yX7_in, .static yX7_in, .initialized RX7, .code yX7_in cX7_in 3 (some .boolean)])
def wsX7_has1 : List Cond := .code yX7_has1 cX7_has1 3 (some .boolean) :: ([])
def wsX7_many : List Cond := .code yX7_many cX7_many 5 (some .int) :: ([])
def wsX7_records : List Cond := .code yX7_records cX7_records 2 none :: ([.fieldLink RX7 34 "BooleanRingModel" "states" "I", .fieldLink RX7 17 "BooleanRingModel" "was" "[J", .fieldLink RX7 13 "BooleanRingModel" "p" "[J"] ++ wsX70)
def wsX7_gets : List Cond := .code yX7_gets cX7_gets 4 (some .int) :: ([.fieldLink RX7 13 "BooleanRingModel" "p" "[J", .methodLink RX7 37 yX7_records, .instanceMethod yX7_records, .selects RX7 yX7_records yX7_records, .initialized RX7, .code yX7_records cX7_records 2 none, .fieldLink RX7 34 "BooleanRingModel" "states" "I", .fieldLink RX7 17 "BooleanRingModel" "was" "[J", .methodLink RX7 40 yX7_many, .static yX7_many, .code yX7_many cX7_many 5 (some .int)] ++ wsX70)
def wsX7_product1 : List Cond := .code yX7_product1 cX7_product1 9 (some .long) :: ([.fieldLink RX7 7 "BooleanRingModel" "n" "I", .methodLink RX7 44 yX7_has1, .static yX7_has1, .initialized RX7, .code yX7_has1 cX7_has1 3 (some .boolean)] ++ wsX70)
def wsX7_upper : List Cond := .code yX7_upper cX7_upper 7 (some .long) :: ([.fieldLink RX7 7 "BooleanRingModel" "n" "I", .methodLink RX7 44 yX7_has1, .static yX7_has1, .initialized RX7, .code yX7_has1 cX7_has1 3 (some .boolean)] ++ wsX70)
def wsX7_lower : List Cond := .code yX7_lower cX7_lower 7 (some .long) :: ([.fieldLink RX7 7 "BooleanRingModel" "n" "I", .methodLink RX7 44 yX7_has1, .static yX7_has1, .initialized RX7, .code yX7_has1 cX7_has1 3 (some .boolean)] ++ wsX70)
def wsX7_values : List Cond := .code yX7_values cX7_values 7 (some .long) :: ([.fieldLink RX7 7 "BooleanRingModel" "n" "I", .methodLink RX7 44 yX7_has1, .static yX7_has1, .initialized RX7, .code yX7_has1 cX7_has1 3 (some .boolean)] ++ wsX70)
def wsX7_occurs : List Cond := .code yX7_occurs cX7_occurs 5 (some .int) :: ([.fieldLink RX7 7 "BooleanRingModel" "n" "I", .methodLink RX7 44 yX7_has1, .static yX7_has1, .initialized RX7, .code yX7_has1 cX7_has1 3 (some .boolean)] ++ wsX70)
def wsX7_reset : List Cond := .code yX7_reset cX7_reset 4 (some .int) :: ([.fieldLink RX7 7 "BooleanRingModel" "n" "I", .fieldLink RX7 34 "BooleanRingModel" "states" "I", .fieldLink RX7 13 "BooleanRingModel" "p" "[J", .methodLink RX7 30 yX7_in, .static yX7_in, .initialized RX7, .code yX7_in cX7_in 3 (some .boolean)] ++ wsX70)
def wsX7_variables : List Cond := .code yX7_variables cX7_variables 1 (some .int) :: ([.fieldLink RX7 7 "BooleanRingModel" "n" "I"] ++ wsX70)
def wsX7_toggle_r1 : List Cond := [Cond.fieldLink RX7 13 "BooleanRingModel" "p" "[J", Cond.methodLink RX7 48 yX7_isRegister, Cond.static yX7_isRegister, Cond.initialized RX7, Cond.code yX7_isRegister cX7_isRegister 1 (some .boolean), Cond.methodLink RX7 30 yX7_in, Cond.static yX7_in, Cond.code yX7_in cX7_in 3 (some .boolean), Cond.methodLink RX7 52 yX7_isMask, Cond.instanceMethod yX7_isMask, Cond.selects RX7 yX7_isMask yX7_isMask, Cond.code yX7_isMask cX7_isMask 2 (some .boolean), Cond.fieldLink RX7 7 "BooleanRingModel" "n" "I", Cond.methodLink RX7 55 yX7_gets, Cond.instanceMethod yX7_gets, Cond.selects RX7 yX7_gets yX7_gets, Cond.code yX7_gets cX7_gets 4 (some .int), Cond.methodLink RX7 37 yX7_records, Cond.instanceMethod yX7_records, Cond.selects RX7 yX7_records yX7_records, Cond.code yX7_records cX7_records 2 none, Cond.fieldLink RX7 34 "BooleanRingModel" "states" "I", Cond.fieldLink RX7 17 "BooleanRingModel" "was" "[J", Cond.methodLink RX7 40 yX7_many]
def wsX7_toggle_r2 : List Cond := [Cond.static yX7_many, Cond.code yX7_many cX7_many 5 (some .int)]
def wsX7_toggle : List Cond := .code yX7_toggle cX7_toggle 3 (some .int) :: ((wsX7_toggle_r1 ++ wsX7_toggle_r2) ++ wsX70)
def wsX7_copy : List Cond := .code yX7_copy cX7_copy 3 (some .int) :: ([.fieldLink RX7 13 "BooleanRingModel" "p" "[J", .methodLink RX7 48 yX7_isRegister, .static yX7_isRegister, .initialized RX7, .code yX7_isRegister cX7_isRegister 1 (some .boolean), .methodLink RX7 30 yX7_in, .static yX7_in, .code yX7_in cX7_in 3 (some .boolean), .methodLink RX7 55 yX7_gets, .instanceMethod yX7_gets, .selects RX7 yX7_gets yX7_gets, .code yX7_gets cX7_gets 4 (some .int), .methodLink RX7 37 yX7_records, .instanceMethod yX7_records, .selects RX7 yX7_records yX7_records, .code yX7_records cX7_records 2 none, .fieldLink RX7 34 "BooleanRingModel" "states" "I", .fieldLink RX7 17 "BooleanRingModel" "was" "[J", .methodLink RX7 40 yX7_many, .static yX7_many, .code yX7_many cX7_many 5 (some .int)] ++ wsX70)
def wsX7_sum : List Cond := .code yX7_sum cX7_sum 4 (some .int) :: ([.fieldLink RX7 13 "BooleanRingModel" "p" "[J", .methodLink RX7 48 yX7_isRegister, .static yX7_isRegister, .initialized RX7, .code yX7_isRegister cX7_isRegister 1 (some .boolean), .methodLink RX7 30 yX7_in, .static yX7_in, .code yX7_in cX7_in 3 (some .boolean), .methodLink RX7 55 yX7_gets, .instanceMethod yX7_gets, .selects RX7 yX7_gets yX7_gets, .code yX7_gets cX7_gets 4 (some .int), .methodLink RX7 37 yX7_records, .instanceMethod yX7_records, .selects RX7 yX7_records yX7_records, .code yX7_records cX7_records 2 none, .fieldLink RX7 34 "BooleanRingModel" "states" "I", .fieldLink RX7 17 "BooleanRingModel" "was" "[J", .methodLink RX7 40 yX7_many, .static yX7_many, .code yX7_many cX7_many 5 (some .int)] ++ wsX70)
def wsX7_product_r1 : List Cond := [Cond.fieldLink RX7 13 "BooleanRingModel" "p" "[J", Cond.methodLink RX7 48 yX7_isRegister, Cond.static yX7_isRegister, Cond.initialized RX7, Cond.code yX7_isRegister cX7_isRegister 1 (some .boolean), Cond.methodLink RX7 30 yX7_in, Cond.static yX7_in, Cond.code yX7_in cX7_in 3 (some .boolean), Cond.methodLink RX7 59 yX7_product1, Cond.instanceMethod yX7_product1, Cond.selects RX7 yX7_product1 yX7_product1, Cond.code yX7_product1 cX7_product1 9 (some .long), Cond.fieldLink RX7 7 "BooleanRingModel" "n" "I", Cond.methodLink RX7 44 yX7_has1, Cond.static yX7_has1, Cond.code yX7_has1 cX7_has1 3 (some .boolean), Cond.methodLink RX7 55 yX7_gets, Cond.instanceMethod yX7_gets, Cond.selects RX7 yX7_gets yX7_gets, Cond.code yX7_gets cX7_gets 4 (some .int), Cond.methodLink RX7 37 yX7_records, Cond.instanceMethod yX7_records, Cond.selects RX7 yX7_records yX7_records, Cond.code yX7_records cX7_records 2 none]
def wsX7_product_r2 : List Cond := [Cond.fieldLink RX7 34 "BooleanRingModel" "states" "I", Cond.fieldLink RX7 17 "BooleanRingModel" "was" "[J", Cond.methodLink RX7 40 yX7_many, Cond.static yX7_many, Cond.code yX7_many cX7_many 5 (some .int)]
def wsX7_product : List Cond := .code yX7_product cX7_product 4 (some .int) :: ((wsX7_product_r1 ++ wsX7_product_r2) ++ wsX70)
def wsX7_times_r1 : List Cond := [Cond.fieldLink RX7 13 "BooleanRingModel" "p" "[J", Cond.methodLink RX7 48 yX7_isRegister, Cond.static yX7_isRegister, Cond.initialized RX7, Cond.code yX7_isRegister cX7_isRegister 1 (some .boolean), Cond.methodLink RX7 30 yX7_in, Cond.static yX7_in, Cond.code yX7_in cX7_in 3 (some .boolean), Cond.methodLink RX7 52 yX7_isMask, Cond.instanceMethod yX7_isMask, Cond.selects RX7 yX7_isMask yX7_isMask, Cond.code yX7_isMask cX7_isMask 2 (some .boolean), Cond.fieldLink RX7 7 "BooleanRingModel" "n" "I", Cond.methodLink RX7 59 yX7_product1, Cond.instanceMethod yX7_product1, Cond.selects RX7 yX7_product1 yX7_product1, Cond.code yX7_product1 cX7_product1 9 (some .long), Cond.methodLink RX7 44 yX7_has1, Cond.static yX7_has1, Cond.code yX7_has1 cX7_has1 3 (some .boolean), Cond.methodLink RX7 55 yX7_gets, Cond.instanceMethod yX7_gets, Cond.selects RX7 yX7_gets yX7_gets, Cond.code yX7_gets cX7_gets 4 (some .int)]
def wsX7_times_r2 : List Cond := [Cond.methodLink RX7 37 yX7_records, Cond.instanceMethod yX7_records, Cond.selects RX7 yX7_records yX7_records, Cond.code yX7_records cX7_records 2 none, Cond.fieldLink RX7 34 "BooleanRingModel" "states" "I", Cond.fieldLink RX7 17 "BooleanRingModel" "was" "[J", Cond.methodLink RX7 40 yX7_many, Cond.static yX7_many, Cond.code yX7_many cX7_many 5 (some .int)]
def wsX7_times : List Cond := .code yX7_times cX7_times 4 (some .int) :: ((wsX7_times_r1 ++ wsX7_times_r2) ++ wsX70)
def wsX7_restrict_r1 : List Cond := [Cond.fieldLink RX7 13 "BooleanRingModel" "p" "[J", Cond.methodLink RX7 48 yX7_isRegister, Cond.static yX7_isRegister, Cond.initialized RX7, Cond.code yX7_isRegister cX7_isRegister 1 (some .boolean), Cond.methodLink RX7 30 yX7_in, Cond.static yX7_in, Cond.code yX7_in cX7_in 3 (some .boolean), Cond.methodLink RX7 63 yX7_isVariable, Cond.instanceMethod yX7_isVariable, Cond.selects RX7 yX7_isVariable yX7_isVariable, Cond.code yX7_isVariable cX7_isVariable 2 (some .boolean), Cond.fieldLink RX7 7 "BooleanRingModel" "n" "I", Cond.methodLink RX7 66 yX7_lower, Cond.instanceMethod yX7_lower, Cond.selects RX7 yX7_lower yX7_lower, Cond.code yX7_lower cX7_lower 7 (some .long), Cond.methodLink RX7 44 yX7_has1, Cond.static yX7_has1, Cond.code yX7_has1 cX7_has1 3 (some .boolean), Cond.methodLink RX7 70 yX7_upper, Cond.instanceMethod yX7_upper, Cond.selects RX7 yX7_upper yX7_upper, Cond.code yX7_upper cX7_upper 7 (some .long)]
def wsX7_restrict_r2 : List Cond := [Cond.methodLink RX7 55 yX7_gets, Cond.instanceMethod yX7_gets, Cond.selects RX7 yX7_gets yX7_gets, Cond.code yX7_gets cX7_gets 4 (some .int), Cond.methodLink RX7 37 yX7_records, Cond.instanceMethod yX7_records, Cond.selects RX7 yX7_records yX7_records, Cond.code yX7_records cX7_records 2 none, Cond.fieldLink RX7 34 "BooleanRingModel" "states" "I", Cond.fieldLink RX7 17 "BooleanRingModel" "was" "[J", Cond.methodLink RX7 40 yX7_many, Cond.static yX7_many, Cond.code yX7_many cX7_many 5 (some .int)]
def wsX7_restrict : List Cond := .code yX7_restrict cX7_restrict 5 (some .int) :: ((wsX7_restrict_r1 ++ wsX7_restrict_r2) ++ wsX70)
def wsX7_substitute_r1 : List Cond := [Cond.fieldLink RX7 13 "BooleanRingModel" "p" "[J", Cond.methodLink RX7 48 yX7_isRegister, Cond.static yX7_isRegister, Cond.initialized RX7, Cond.code yX7_isRegister cX7_isRegister 1 (some .boolean), Cond.methodLink RX7 30 yX7_in, Cond.static yX7_in, Cond.code yX7_in cX7_in 3 (some .boolean), Cond.methodLink RX7 63 yX7_isVariable, Cond.instanceMethod yX7_isVariable, Cond.selects RX7 yX7_isVariable yX7_isVariable, Cond.code yX7_isVariable cX7_isVariable 2 (some .boolean), Cond.fieldLink RX7 7 "BooleanRingModel" "n" "I", Cond.methodLink RX7 66 yX7_lower, Cond.instanceMethod yX7_lower, Cond.selects RX7 yX7_lower yX7_lower, Cond.code yX7_lower cX7_lower 7 (some .long), Cond.methodLink RX7 44 yX7_has1, Cond.static yX7_has1, Cond.code yX7_has1 cX7_has1 3 (some .boolean), Cond.methodLink RX7 70 yX7_upper, Cond.instanceMethod yX7_upper, Cond.selects RX7 yX7_upper yX7_upper, Cond.code yX7_upper cX7_upper 7 (some .long)]
def wsX7_substitute_r2 : List Cond := [Cond.methodLink RX7 59 yX7_product1, Cond.instanceMethod yX7_product1, Cond.selects RX7 yX7_product1 yX7_product1, Cond.code yX7_product1 cX7_product1 9 (some .long), Cond.methodLink RX7 55 yX7_gets, Cond.instanceMethod yX7_gets, Cond.selects RX7 yX7_gets yX7_gets, Cond.code yX7_gets cX7_gets 4 (some .int), Cond.methodLink RX7 37 yX7_records, Cond.instanceMethod yX7_records, Cond.selects RX7 yX7_records yX7_records, Cond.code yX7_records cX7_records 2 none, Cond.fieldLink RX7 34 "BooleanRingModel" "states" "I", Cond.fieldLink RX7 17 "BooleanRingModel" "was" "[J", Cond.methodLink RX7 40 yX7_many, Cond.static yX7_many, Cond.code yX7_many cX7_many 5 (some .int)]
def wsX7_substitute : List Cond := .code yX7_substitute cX7_substitute 5 (some .int) :: ((wsX7_substitute_r1 ++ wsX7_substitute_r2) ++ wsX70)
def wsX7_derivative_r1 : List Cond := [Cond.fieldLink RX7 13 "BooleanRingModel" "p" "[J", Cond.methodLink RX7 48 yX7_isRegister, Cond.static yX7_isRegister, Cond.initialized RX7, Cond.code yX7_isRegister cX7_isRegister 1 (some .boolean), Cond.methodLink RX7 30 yX7_in, Cond.static yX7_in, Cond.code yX7_in cX7_in 3 (some .boolean), Cond.methodLink RX7 63 yX7_isVariable, Cond.instanceMethod yX7_isVariable, Cond.selects RX7 yX7_isVariable yX7_isVariable, Cond.code yX7_isVariable cX7_isVariable 2 (some .boolean), Cond.fieldLink RX7 7 "BooleanRingModel" "n" "I", Cond.methodLink RX7 70 yX7_upper, Cond.instanceMethod yX7_upper, Cond.selects RX7 yX7_upper yX7_upper, Cond.code yX7_upper cX7_upper 7 (some .long), Cond.methodLink RX7 44 yX7_has1, Cond.static yX7_has1, Cond.code yX7_has1 cX7_has1 3 (some .boolean), Cond.methodLink RX7 55 yX7_gets, Cond.instanceMethod yX7_gets, Cond.selects RX7 yX7_gets yX7_gets, Cond.code yX7_gets cX7_gets 4 (some .int)]
def wsX7_derivative_r2 : List Cond := [Cond.methodLink RX7 37 yX7_records, Cond.instanceMethod yX7_records, Cond.selects RX7 yX7_records yX7_records, Cond.code yX7_records cX7_records 2 none, Cond.fieldLink RX7 34 "BooleanRingModel" "states" "I", Cond.fieldLink RX7 17 "BooleanRingModel" "was" "[J", Cond.methodLink RX7 40 yX7_many, Cond.static yX7_many, Cond.code yX7_many cX7_many 5 (some .int)]
def wsX7_derivative : List Cond := .code yX7_derivative cX7_derivative 4 (some .int) :: ((wsX7_derivative_r1 ++ wsX7_derivative_r2) ++ wsX70)
def wsX7_flip_r1 : List Cond := [Cond.fieldLink RX7 13 "BooleanRingModel" "p" "[J", Cond.methodLink RX7 48 yX7_isRegister, Cond.static yX7_isRegister, Cond.initialized RX7, Cond.code yX7_isRegister cX7_isRegister 1 (some .boolean), Cond.methodLink RX7 30 yX7_in, Cond.static yX7_in, Cond.code yX7_in cX7_in 3 (some .boolean), Cond.methodLink RX7 52 yX7_isMask, Cond.instanceMethod yX7_isMask, Cond.selects RX7 yX7_isMask yX7_isMask, Cond.code yX7_isMask cX7_isMask 2 (some .boolean), Cond.fieldLink RX7 7 "BooleanRingModel" "n" "I", Cond.methodLink RX7 73 yX7_values, Cond.instanceMethod yX7_values, Cond.selects RX7 yX7_values yX7_values, Cond.code yX7_values cX7_values 7 (some .long), Cond.methodLink RX7 44 yX7_has1, Cond.static yX7_has1, Cond.code yX7_has1 cX7_has1 3 (some .boolean), Cond.methodLink RX7 55 yX7_gets, Cond.instanceMethod yX7_gets, Cond.selects RX7 yX7_gets yX7_gets, Cond.code yX7_gets cX7_gets 4 (some .int)]
def wsX7_flip_r2 : List Cond := [Cond.methodLink RX7 37 yX7_records, Cond.instanceMethod yX7_records, Cond.selects RX7 yX7_records yX7_records, Cond.code yX7_records cX7_records 2 none, Cond.fieldLink RX7 34 "BooleanRingModel" "states" "I", Cond.fieldLink RX7 17 "BooleanRingModel" "was" "[J", Cond.methodLink RX7 40 yX7_many, Cond.static yX7_many, Cond.code yX7_many cX7_many 5 (some .int)]
def wsX7_flip : List Cond := .code yX7_flip cX7_flip 3 (some .int) :: ((wsX7_flip_r1 ++ wsX7_flip_r2) ++ wsX70)
def wsX7_exchange_r1 : List Cond := [Cond.fieldLink RX7 7 "BooleanRingModel" "n" "I", Cond.fieldLink RX7 13 "BooleanRingModel" "p" "[J", Cond.methodLink RX7 48 yX7_isRegister, Cond.static yX7_isRegister, Cond.initialized RX7, Cond.code yX7_isRegister cX7_isRegister 1 (some .boolean), Cond.methodLink RX7 30 yX7_in, Cond.static yX7_in, Cond.code yX7_in cX7_in 3 (some .boolean), Cond.methodLink RX7 63 yX7_isVariable, Cond.instanceMethod yX7_isVariable, Cond.selects RX7 yX7_isVariable yX7_isVariable, Cond.code yX7_isVariable cX7_isVariable 2 (some .boolean), Cond.methodLink RX7 44 yX7_has1, Cond.static yX7_has1, Cond.code yX7_has1 cX7_has1 3 (some .boolean), Cond.methodLink RX7 55 yX7_gets, Cond.instanceMethod yX7_gets, Cond.selects RX7 yX7_gets yX7_gets, Cond.code yX7_gets cX7_gets 4 (some .int), Cond.methodLink RX7 37 yX7_records, Cond.instanceMethod yX7_records, Cond.selects RX7 yX7_records yX7_records, Cond.code yX7_records cX7_records 2 none]
def wsX7_exchange_r2 : List Cond := [Cond.fieldLink RX7 34 "BooleanRingModel" "states" "I", Cond.fieldLink RX7 17 "BooleanRingModel" "was" "[J", Cond.methodLink RX7 40 yX7_many, Cond.static yX7_many, Cond.code yX7_many cX7_many 5 (some .int)]
def wsX7_exchange : List Cond := .code yX7_exchange cX7_exchange 8 (some .int) :: ((wsX7_exchange_r1 ++ wsX7_exchange_r2) ++ wsX70)
def wsX7_undo : List Cond := .code yX7_undo cX7_undo 2 (some .int) :: ([.fieldLink RX7 34 "BooleanRingModel" "states" "I", .fieldLink RX7 13 "BooleanRingModel" "p" "[J", .fieldLink RX7 17 "BooleanRingModel" "was" "[J"] ++ wsX70)
def wsX7_has : List Cond := .code yX7_has cX7_has 3 (some .int) :: ([.fieldLink RX7 13 "BooleanRingModel" "p" "[J", .methodLink RX7 48 yX7_isRegister, .static yX7_isRegister, .initialized RX7, .code yX7_isRegister cX7_isRegister 1 (some .boolean), .methodLink RX7 30 yX7_in, .static yX7_in, .code yX7_in cX7_in 3 (some .boolean), .methodLink RX7 52 yX7_isMask, .instanceMethod yX7_isMask, .selects RX7 yX7_isMask yX7_isMask, .code yX7_isMask cX7_isMask 2 (some .boolean), .fieldLink RX7 7 "BooleanRingModel" "n" "I", .methodLink RX7 44 yX7_has1, .static yX7_has1, .code yX7_has1 cX7_has1 3 (some .boolean)] ++ wsX70)
def wsX7_terms : List Cond := .code yX7_terms cX7_terms 2 (some .int) :: ([.fieldLink RX7 13 "BooleanRingModel" "p" "[J", .methodLink RX7 48 yX7_isRegister, .static yX7_isRegister, .initialized RX7, .code yX7_isRegister cX7_isRegister 1 (some .boolean), .methodLink RX7 30 yX7_in, .static yX7_in, .code yX7_in cX7_in 3 (some .boolean), .methodLink RX7 40 yX7_many, .static yX7_many, .code yX7_many cX7_many 5 (some .int)] ++ wsX70)
def wsX7_degree : List Cond := .code yX7_degree cX7_degree 5 (some .int) :: ([.fieldLink RX7 7 "BooleanRingModel" "n" "I", .fieldLink RX7 13 "BooleanRingModel" "p" "[J", .methodLink RX7 48 yX7_isRegister, .static yX7_isRegister, .initialized RX7, .code yX7_isRegister cX7_isRegister 1 (some .boolean), .methodLink RX7 30 yX7_in, .static yX7_in, .code yX7_in cX7_in 3 (some .boolean), .methodLink RX7 40 yX7_many, .static yX7_many, .code yX7_many cX7_many 5 (some .int), .methodLink RX7 44 yX7_has1, .static yX7_has1, .code yX7_has1 cX7_has1 3 (some .boolean)] ++ wsX70)
def wsX7_occurring : List Cond := .code yX7_occurring cX7_occurring 2 (some .int) :: ([.fieldLink RX7 13 "BooleanRingModel" "p" "[J", .methodLink RX7 48 yX7_isRegister, .static yX7_isRegister, .initialized RX7, .code yX7_isRegister cX7_isRegister 1 (some .boolean), .methodLink RX7 30 yX7_in, .static yX7_in, .code yX7_in cX7_in 3 (some .boolean), .methodLink RX7 77 yX7_occurs, .instanceMethod yX7_occurs, .selects RX7 yX7_occurs yX7_occurs, .code yX7_occurs cX7_occurs 5 (some .int), .fieldLink RX7 7 "BooleanRingModel" "n" "I", .methodLink RX7 44 yX7_has1, .static yX7_has1, .code yX7_has1 cX7_has1 3 (some .boolean)] ++ wsX70)
def wsX7_notes : List Cond := .code yX7_notes cX7_notes 5 none :: ([.fieldLink RX7 80 "BooleanRingModel" "founds" "I", .fieldLink RX7 24 "BooleanRingModel" "found" "[J", .methodLink RX7 77 yX7_occurs, .instanceMethod yX7_occurs, .selects RX7 yX7_occurs yX7_occurs, .initialized RX7, .code yX7_occurs cX7_occurs 5 (some .int), .fieldLink RX7 7 "BooleanRingModel" "n" "I", .methodLink RX7 44 yX7_has1, .static yX7_has1, .code yX7_has1 cX7_has1 3 (some .boolean)] ++ wsX70)
def wsX7_spreads : List Cond := .code yX7_spreads cX7_spreads 3 (some .int) :: ([.fieldLink RX7 80 "BooleanRingModel" "founds" "I", .fieldLink RX7 24 "BooleanRingModel" "found" "[J", .methodLink RX7 77 yX7_occurs, .instanceMethod yX7_occurs, .selects RX7 yX7_occurs yX7_occurs, .initialized RX7, .code yX7_occurs cX7_occurs 5 (some .int), .fieldLink RX7 7 "BooleanRingModel" "n" "I", .methodLink RX7 44 yX7_has1, .static yX7_has1, .code yX7_has1 cX7_has1 3 (some .boolean), .methodLink RX7 70 yX7_upper, .instanceMethod yX7_upper, .selects RX7 yX7_upper yX7_upper, .code yX7_upper cX7_upper 7 (some .long), .methodLink RX7 83 yX7_notes, .instanceMethod yX7_notes, .selects RX7 yX7_notes yX7_notes, .code yX7_notes cX7_notes 5 none, .methodLink RX7 66 yX7_lower, .instanceMethod yX7_lower, .selects RX7 yX7_lower yX7_lower, .code yX7_lower cX7_lower 7 (some .long)] ++ wsX70)
def wsX7_size_r1 : List Cond := [Cond.fieldLink RX7 80 "BooleanRingModel" "founds" "I", Cond.fieldLink RX7 13 "BooleanRingModel" "p" "[J", Cond.methodLink RX7 48 yX7_isRegister, Cond.static yX7_isRegister, Cond.initialized RX7, Cond.code yX7_isRegister cX7_isRegister 1 (some .boolean), Cond.methodLink RX7 30 yX7_in, Cond.static yX7_in, Cond.code yX7_in cX7_in 3 (some .boolean), Cond.methodLink RX7 83 yX7_notes, Cond.instanceMethod yX7_notes, Cond.selects RX7 yX7_notes yX7_notes, Cond.code yX7_notes cX7_notes 5 none, Cond.fieldLink RX7 24 "BooleanRingModel" "found" "[J", Cond.methodLink RX7 77 yX7_occurs, Cond.instanceMethod yX7_occurs, Cond.selects RX7 yX7_occurs yX7_occurs, Cond.code yX7_occurs cX7_occurs 5 (some .int), Cond.fieldLink RX7 7 "BooleanRingModel" "n" "I", Cond.methodLink RX7 44 yX7_has1, Cond.static yX7_has1, Cond.code yX7_has1 cX7_has1 3 (some .boolean), Cond.methodLink RX7 87 yX7_spreads, Cond.instanceMethod yX7_spreads]
def wsX7_size_r2 : List Cond := [Cond.selects RX7 yX7_spreads yX7_spreads, Cond.code yX7_spreads cX7_spreads 3 (some .int), Cond.methodLink RX7 70 yX7_upper, Cond.instanceMethod yX7_upper, Cond.selects RX7 yX7_upper yX7_upper, Cond.code yX7_upper cX7_upper 7 (some .long), Cond.methodLink RX7 66 yX7_lower, Cond.instanceMethod yX7_lower, Cond.selects RX7 yX7_lower yX7_lower, Cond.code yX7_lower cX7_lower 7 (some .long)]
def wsX7_size : List Cond := .code yX7_size cX7_size 2 (some .int) :: ((wsX7_size_r1 ++ wsX7_size_r2) ++ wsX70)
def wsX7_sharedSize_r1 : List Cond := [Cond.fieldLink RX7 80 "BooleanRingModel" "founds" "I", Cond.fieldLink RX7 13 "BooleanRingModel" "p" "[J", Cond.methodLink RX7 83 yX7_notes, Cond.instanceMethod yX7_notes, Cond.selects RX7 yX7_notes yX7_notes, Cond.initialized RX7, Cond.code yX7_notes cX7_notes 5 none, Cond.fieldLink RX7 24 "BooleanRingModel" "found" "[J", Cond.methodLink RX7 77 yX7_occurs, Cond.instanceMethod yX7_occurs, Cond.selects RX7 yX7_occurs yX7_occurs, Cond.code yX7_occurs cX7_occurs 5 (some .int), Cond.fieldLink RX7 7 "BooleanRingModel" "n" "I", Cond.methodLink RX7 44 yX7_has1, Cond.static yX7_has1, Cond.code yX7_has1 cX7_has1 3 (some .boolean), Cond.methodLink RX7 87 yX7_spreads, Cond.instanceMethod yX7_spreads, Cond.selects RX7 yX7_spreads yX7_spreads, Cond.code yX7_spreads cX7_spreads 3 (some .int), Cond.methodLink RX7 70 yX7_upper, Cond.instanceMethod yX7_upper, Cond.selects RX7 yX7_upper yX7_upper, Cond.code yX7_upper cX7_upper 7 (some .long)]
def wsX7_sharedSize_r2 : List Cond := [Cond.methodLink RX7 66 yX7_lower, Cond.instanceMethod yX7_lower, Cond.selects RX7 yX7_lower yX7_lower, Cond.code yX7_lower cX7_lower 7 (some .long)]
def wsX7_sharedSize : List Cond := .code yX7_sharedSize cX7_sharedSize 2 (some .int) :: ((wsX7_sharedSize_r1 ++ wsX7_sharedSize_r2) ++ wsX70)
def wsX7_isGreater : List Cond := .code yX7_isGreater cX7_isGreater 7 (some .boolean) :: ([.fieldLink RX7 7 "BooleanRingModel" "n" "I", .methodLink RX7 40 yX7_many, .static yX7_many, .initialized RX7, .code yX7_many cX7_many 5 (some .int)] ++ wsX70)
def wsX7_leads : List Cond := .code yX7_leads cX7_leads 6 (some .int) :: ([.fieldLink RX7 7 "BooleanRingModel" "n" "I", .methodLink RX7 44 yX7_has1, .static yX7_has1, .initialized RX7, .code yX7_has1 cX7_has1 3 (some .boolean), .methodLink RX7 91 yX7_isGreater, .instanceMethod yX7_isGreater, .selects RX7 yX7_isGreater yX7_isGreater, .code yX7_isGreater cX7_isGreater 7 (some .boolean), .methodLink RX7 40 yX7_many, .static yX7_many, .code yX7_many cX7_many 5 (some .int)] ++ wsX70)
def wsX7_termAt_r1 : List Cond := [Cond.fieldLink RX7 13 "BooleanRingModel" "p" "[J", Cond.methodLink RX7 48 yX7_isRegister, Cond.static yX7_isRegister, Cond.initialized RX7, Cond.code yX7_isRegister cX7_isRegister 1 (some .boolean), Cond.methodLink RX7 30 yX7_in, Cond.static yX7_in, Cond.code yX7_in cX7_in 3 (some .boolean), Cond.methodLink RX7 94 yX7_isOrder, Cond.static yX7_isOrder, Cond.code yX7_isOrder cX7_isOrder 1 (some .boolean), Cond.methodLink RX7 97 yX7_leads, Cond.instanceMethod yX7_leads, Cond.selects RX7 yX7_leads yX7_leads, Cond.code yX7_leads cX7_leads 6 (some .int), Cond.fieldLink RX7 7 "BooleanRingModel" "n" "I", Cond.methodLink RX7 44 yX7_has1, Cond.static yX7_has1, Cond.code yX7_has1 cX7_has1 3 (some .boolean), Cond.methodLink RX7 91 yX7_isGreater, Cond.instanceMethod yX7_isGreater, Cond.selects RX7 yX7_isGreater yX7_isGreater, Cond.code yX7_isGreater cX7_isGreater 7 (some .boolean), Cond.methodLink RX7 40 yX7_many]
def wsX7_termAt_r2 : List Cond := [Cond.static yX7_many, Cond.code yX7_many cX7_many 5 (some .int)]
def wsX7_termAt : List Cond := .code yX7_termAt cX7_termAt 7 (some .int) :: ((wsX7_termAt_r1 ++ wsX7_termAt_r2) ++ wsX70)
def wsX7_value : List Cond := .code yX7_value cX7_value 3 (some .int) :: ([.fieldLink RX7 13 "BooleanRingModel" "p" "[J", .methodLink RX7 48 yX7_isRegister, .static yX7_isRegister, .initialized RX7, .code yX7_isRegister cX7_isRegister 1 (some .boolean), .methodLink RX7 30 yX7_in, .static yX7_in, .code yX7_in cX7_in 3 (some .boolean), .methodLink RX7 52 yX7_isMask, .instanceMethod yX7_isMask, .selects RX7 yX7_isMask yX7_isMask, .code yX7_isMask cX7_isMask 2 (some .boolean), .fieldLink RX7 7 "BooleanRingModel" "n" "I", .methodLink RX7 73 yX7_values, .instanceMethod yX7_values, .selects RX7 yX7_values yX7_values, .code yX7_values cX7_values 7 (some .long), .methodLink RX7 44 yX7_has1, .static yX7_has1, .code yX7_has1 cX7_has1 3 (some .boolean)] ++ wsX70)
def wsX7_isSame : List Cond := .code yX7_isSame cX7_isSame 3 (some .int) :: ([.fieldLink RX7 13 "BooleanRingModel" "p" "[J", .methodLink RX7 48 yX7_isRegister, .static yX7_isRegister, .initialized RX7, .code yX7_isRegister cX7_isRegister 1 (some .boolean), .methodLink RX7 30 yX7_in, .static yX7_in, .code yX7_in cX7_in 3 (some .boolean)] ++ wsX70)
def wsX7_taker : List Cond := .code yX7_taker cX7_taker 6 (some .int) :: ([.fieldLink RX7 27 "BooleanRingModel" "by" "[J", .methodLink RX7 97 yX7_leads, .instanceMethod yX7_leads, .selects RX7 yX7_leads yX7_leads, .initialized RX7, .code yX7_leads cX7_leads 6 (some .int), .fieldLink RX7 7 "BooleanRingModel" "n" "I", .methodLink RX7 44 yX7_has1, .static yX7_has1, .code yX7_has1 cX7_has1 3 (some .boolean), .methodLink RX7 91 yX7_isGreater, .instanceMethod yX7_isGreater, .selects RX7 yX7_isGreater yX7_isGreater, .code yX7_isGreater cX7_isGreater 7 (some .boolean), .methodLink RX7 40 yX7_many, .static yX7_many, .code yX7_many cX7_many 5 (some .int)] ++ wsX70)
def wsX7_reduce_r1 : List Cond := [Cond.fieldLink RX7 27 "BooleanRingModel" "by" "[J", Cond.fieldLink RX7 13 "BooleanRingModel" "p" "[J", Cond.constantLong RX7 104 (-1), Cond.methodLink RX7 48 yX7_isRegister, Cond.static yX7_isRegister, Cond.initialized RX7, Cond.code yX7_isRegister cX7_isRegister 1 (some .boolean), Cond.methodLink RX7 30 yX7_in, Cond.static yX7_in, Cond.code yX7_in cX7_in 3 (some .boolean), Cond.methodLink RX7 101 yX7_isSet, Cond.static yX7_isSet, Cond.code yX7_isSet cX7_isSet 1 (some .boolean), Cond.methodLink RX7 94 yX7_isOrder, Cond.static yX7_isOrder, Cond.code yX7_isOrder cX7_isOrder 1 (some .boolean), Cond.methodLink RX7 97 yX7_leads, Cond.instanceMethod yX7_leads, Cond.selects RX7 yX7_leads yX7_leads, Cond.code yX7_leads cX7_leads 6 (some .int), Cond.fieldLink RX7 7 "BooleanRingModel" "n" "I", Cond.methodLink RX7 44 yX7_has1, Cond.static yX7_has1, Cond.code yX7_has1 cX7_has1 3 (some .boolean)]
def wsX7_reduce_r2 : List Cond := [Cond.methodLink RX7 91 yX7_isGreater, Cond.instanceMethod yX7_isGreater, Cond.selects RX7 yX7_isGreater yX7_isGreater, Cond.code yX7_isGreater cX7_isGreater 7 (some .boolean), Cond.methodLink RX7 40 yX7_many, Cond.static yX7_many, Cond.code yX7_many cX7_many 5 (some .int), Cond.methodLink RX7 106 yX7_taker, Cond.instanceMethod yX7_taker, Cond.selects RX7 yX7_taker yX7_taker, Cond.code yX7_taker cX7_taker 6 (some .int), Cond.methodLink RX7 59 yX7_product1, Cond.instanceMethod yX7_product1, Cond.selects RX7 yX7_product1 yX7_product1, Cond.code yX7_product1 cX7_product1 9 (some .long), Cond.methodLink RX7 55 yX7_gets, Cond.instanceMethod yX7_gets, Cond.selects RX7 yX7_gets yX7_gets, Cond.code yX7_gets cX7_gets 4 (some .int), Cond.methodLink RX7 37 yX7_records, Cond.instanceMethod yX7_records, Cond.selects RX7 yX7_records yX7_records, Cond.code yX7_records cX7_records 2 none, Cond.fieldLink RX7 34 "BooleanRingModel" "states" "I"]
def wsX7_reduce_r3 : List Cond := [Cond.fieldLink RX7 17 "BooleanRingModel" "was" "[J"]
def wsX7_reduce : List Cond := .code yX7_reduce cX7_reduce 12 (some .int) :: ((wsX7_reduce_r1 ++ (wsX7_reduce_r2 ++ wsX7_reduce_r3)) ++ wsX70)
def wsX7_echelon_r1 : List Cond := [Cond.fieldLink RX7 27 "BooleanRingModel" "by" "[J", Cond.fieldLink RX7 13 "BooleanRingModel" "p" "[J", Cond.methodLink RX7 101 yX7_isSet, Cond.static yX7_isSet, Cond.initialized RX7, Cond.code yX7_isSet cX7_isSet 1 (some .boolean), Cond.methodLink RX7 30 yX7_in, Cond.static yX7_in, Cond.code yX7_in cX7_in 3 (some .boolean), Cond.methodLink RX7 94 yX7_isOrder, Cond.static yX7_isOrder, Cond.code yX7_isOrder cX7_isOrder 1 (some .boolean), Cond.methodLink RX7 37 yX7_records, Cond.instanceMethod yX7_records, Cond.selects RX7 yX7_records yX7_records, Cond.code yX7_records cX7_records 2 none, Cond.fieldLink RX7 34 "BooleanRingModel" "states" "I", Cond.fieldLink RX7 17 "BooleanRingModel" "was" "[J", Cond.methodLink RX7 97 yX7_leads, Cond.instanceMethod yX7_leads, Cond.selects RX7 yX7_leads yX7_leads, Cond.code yX7_leads cX7_leads 6 (some .int), Cond.fieldLink RX7 7 "BooleanRingModel" "n" "I", Cond.methodLink RX7 44 yX7_has1]
def wsX7_echelon_r2 : List Cond := [Cond.static yX7_has1, Cond.code yX7_has1 cX7_has1 3 (some .boolean), Cond.methodLink RX7 91 yX7_isGreater, Cond.instanceMethod yX7_isGreater, Cond.selects RX7 yX7_isGreater yX7_isGreater, Cond.code yX7_isGreater cX7_isGreater 7 (some .boolean), Cond.methodLink RX7 40 yX7_many, Cond.static yX7_many, Cond.code yX7_many cX7_many 5 (some .int)]
def wsX7_echelon : List Cond := .code yX7_echelon cX7_echelon 11 (some .int) :: ((wsX7_echelon_r1 ++ wsX7_echelon_r2) ++ wsX70)
def wsX7_barred : List Cond := .code yX7_barred cX7_barred 5 (some .long) :: ([.fieldLink RX7 13 "BooleanRingModel" "p" "[J", .methodLink RX7 73 yX7_values, .instanceMethod yX7_values, .selects RX7 yX7_values yX7_values, .initialized RX7, .code yX7_values cX7_values 7 (some .long), .fieldLink RX7 7 "BooleanRingModel" "n" "I", .methodLink RX7 44 yX7_has1, .static yX7_has1, .code yX7_has1 cX7_has1 3 (some .boolean)] ++ wsX70)
def wsX7_zeros : List Cond := .code yX7_zeros cX7_zeros 2 (some .int) :: ([.fieldLink RX7 7 "BooleanRingModel" "n" "I", .methodLink RX7 101 yX7_isSet, .static yX7_isSet, .initialized RX7, .code yX7_isSet cX7_isSet 1 (some .boolean), .methodLink RX7 30 yX7_in, .static yX7_in, .code yX7_in cX7_in 3 (some .boolean), .methodLink RX7 110 yX7_barred, .instanceMethod yX7_barred, .selects RX7 yX7_barred yX7_barred, .code yX7_barred cX7_barred 5 (some .long), .fieldLink RX7 13 "BooleanRingModel" "p" "[J", .methodLink RX7 73 yX7_values, .instanceMethod yX7_values, .selects RX7 yX7_values yX7_values, .code yX7_values cX7_values 7 (some .long), .methodLink RX7 44 yX7_has1, .static yX7_has1, .code yX7_has1 cX7_has1 3 (some .boolean), .methodLink RX7 40 yX7_many, .static yX7_many, .code yX7_many cX7_many 5 (some .int)] ++ wsX70)
def wsX7_zeroAt : List Cond := .code yX7_zeroAt cX7_zeroAt 7 (some .int) :: ([.fieldLink RX7 7 "BooleanRingModel" "n" "I", .methodLink RX7 101 yX7_isSet, .static yX7_isSet, .initialized RX7, .code yX7_isSet cX7_isSet 1 (some .boolean), .methodLink RX7 30 yX7_in, .static yX7_in, .code yX7_in cX7_in 3 (some .boolean), .methodLink RX7 110 yX7_barred, .instanceMethod yX7_barred, .selects RX7 yX7_barred yX7_barred, .code yX7_barred cX7_barred 5 (some .long), .fieldLink RX7 13 "BooleanRingModel" "p" "[J", .methodLink RX7 73 yX7_values, .instanceMethod yX7_values, .selects RX7 yX7_values yX7_values, .code yX7_values cX7_values 7 (some .long), .methodLink RX7 44 yX7_has1, .static yX7_has1, .code yX7_has1 cX7_has1 3 (some .boolean)] ++ wsX70)
def wsX7_combine_r1 : List Cond := [Cond.methodLink RX7 101 yX7_isSet, Cond.static yX7_isSet, Cond.initialized RX7, Cond.code yX7_isSet cX7_isSet 1 (some .boolean), Cond.methodLink RX7 30 yX7_in, Cond.static yX7_in, Cond.code yX7_in cX7_in 3 (some .boolean), Cond.methodLink RX7 48 yX7_isRegister, Cond.static yX7_isRegister, Cond.code yX7_isRegister cX7_isRegister 1 (some .boolean), Cond.methodLink RX7 110 yX7_barred, Cond.instanceMethod yX7_barred, Cond.selects RX7 yX7_barred yX7_barred, Cond.code yX7_barred cX7_barred 5 (some .long), Cond.fieldLink RX7 13 "BooleanRingModel" "p" "[J", Cond.methodLink RX7 73 yX7_values, Cond.instanceMethod yX7_values, Cond.selects RX7 yX7_values yX7_values, Cond.code yX7_values cX7_values 7 (some .long), Cond.fieldLink RX7 7 "BooleanRingModel" "n" "I", Cond.methodLink RX7 44 yX7_has1, Cond.static yX7_has1, Cond.code yX7_has1 cX7_has1 3 (some .boolean), Cond.methodLink RX7 55 yX7_gets]
def wsX7_combine_r2 : List Cond := [Cond.instanceMethod yX7_gets, Cond.selects RX7 yX7_gets yX7_gets, Cond.code yX7_gets cX7_gets 4 (some .int), Cond.methodLink RX7 37 yX7_records, Cond.instanceMethod yX7_records, Cond.selects RX7 yX7_records yX7_records, Cond.code yX7_records cX7_records 2 none, Cond.fieldLink RX7 34 "BooleanRingModel" "states" "I", Cond.fieldLink RX7 17 "BooleanRingModel" "was" "[J", Cond.methodLink RX7 40 yX7_many, Cond.static yX7_many, Cond.code yX7_many cX7_many 5 (some .int)]
def wsX7_combine : List Cond := .code yX7_combine cX7_combine 3 (some .int) :: ((wsX7_combine_r1 ++ wsX7_combine_r2) ++ wsX70)
def wsX7_eliminate_r1 : List Cond := [Cond.fieldLink RX7 7 "BooleanRingModel" "n" "I", Cond.methodLink RX7 101 yX7_isSet, Cond.static yX7_isSet, Cond.initialized RX7, Cond.code yX7_isSet cX7_isSet 1 (some .boolean), Cond.methodLink RX7 30 yX7_in, Cond.static yX7_in, Cond.code yX7_in cX7_in 3 (some .boolean), Cond.methodLink RX7 63 yX7_isVariable, Cond.instanceMethod yX7_isVariable, Cond.selects RX7 yX7_isVariable yX7_isVariable, Cond.code yX7_isVariable cX7_isVariable 2 (some .boolean), Cond.methodLink RX7 48 yX7_isRegister, Cond.static yX7_isRegister, Cond.code yX7_isRegister cX7_isRegister 1 (some .boolean), Cond.methodLink RX7 110 yX7_barred, Cond.instanceMethod yX7_barred, Cond.selects RX7 yX7_barred yX7_barred, Cond.code yX7_barred cX7_barred 5 (some .long), Cond.fieldLink RX7 13 "BooleanRingModel" "p" "[J", Cond.methodLink RX7 73 yX7_values, Cond.instanceMethod yX7_values, Cond.selects RX7 yX7_values yX7_values, Cond.code yX7_values cX7_values 7 (some .long)]
def wsX7_eliminate_r2 : List Cond := [Cond.methodLink RX7 44 yX7_has1, Cond.static yX7_has1, Cond.code yX7_has1 cX7_has1 3 (some .boolean), Cond.methodLink RX7 55 yX7_gets, Cond.instanceMethod yX7_gets, Cond.selects RX7 yX7_gets yX7_gets, Cond.code yX7_gets cX7_gets 4 (some .int), Cond.methodLink RX7 37 yX7_records, Cond.instanceMethod yX7_records, Cond.selects RX7 yX7_records yX7_records, Cond.code yX7_records cX7_records 2 none, Cond.fieldLink RX7 34 "BooleanRingModel" "states" "I", Cond.fieldLink RX7 17 "BooleanRingModel" "was" "[J", Cond.methodLink RX7 40 yX7_many, Cond.static yX7_many, Cond.code yX7_many cX7_many 5 (some .int)]
def wsX7_eliminate : List Cond := .code yX7_eliminate cX7_eliminate 9 (some .int) :: ((wsX7_eliminate_r1 ++ wsX7_eliminate_r2) ++ wsX70)
def wsX7_fibres : List Cond := .code yX7_fibres cX7_fibres 9 (some .int) :: ([.fieldLink RX7 7 "BooleanRingModel" "n" "I", .methodLink RX7 101 yX7_isSet, .static yX7_isSet, .initialized RX7, .code yX7_isSet cX7_isSet 1 (some .boolean), .methodLink RX7 30 yX7_in, .static yX7_in, .code yX7_in cX7_in 3 (some .boolean), .methodLink RX7 63 yX7_isVariable, .instanceMethod yX7_isVariable, .selects RX7 yX7_isVariable yX7_isVariable, .code yX7_isVariable cX7_isVariable 2 (some .boolean), .methodLink RX7 110 yX7_barred, .instanceMethod yX7_barred, .selects RX7 yX7_barred yX7_barred, .code yX7_barred cX7_barred 5 (some .long), .fieldLink RX7 13 "BooleanRingModel" "p" "[J", .methodLink RX7 73 yX7_values, .instanceMethod yX7_values, .selects RX7 yX7_values yX7_values, .code yX7_values cX7_values 7 (some .long), .methodLink RX7 44 yX7_has1, .static yX7_has1, .code yX7_has1 cX7_has1 3 (some .boolean)] ++ wsX70)
def wsX7_isMember : List Cond := .code yX7_isMember cX7_isMember 3 (some .int) :: ([.fieldLink RX7 13 "BooleanRingModel" "p" "[J", .constantLong RX7 104 (-1), .methodLink RX7 48 yX7_isRegister, .static yX7_isRegister, .initialized RX7, .code yX7_isRegister cX7_isRegister 1 (some .boolean), .methodLink RX7 30 yX7_in, .static yX7_in, .code yX7_in cX7_in 3 (some .boolean), .methodLink RX7 101 yX7_isSet, .static yX7_isSet, .code yX7_isSet cX7_isSet 1 (some .boolean), .methodLink RX7 73 yX7_values, .instanceMethod yX7_values, .selects RX7 yX7_values yX7_values, .code yX7_values cX7_values 7 (some .long), .fieldLink RX7 7 "BooleanRingModel" "n" "I", .methodLink RX7 44 yX7_has1, .static yX7_has1, .code yX7_has1 cX7_has1 3 (some .boolean), .methodLink RX7 110 yX7_barred, .instanceMethod yX7_barred, .selects RX7 yX7_barred yX7_barred, .code yX7_barred cX7_barred 5 (some .long)] ++ wsX70)
def wsX7_isSameIdeal : List Cond := .code yX7_isSameIdeal cX7_isSameIdeal 3 (some .int) :: ([.methodLink RX7 101 yX7_isSet, .static yX7_isSet, .initialized RX7, .code yX7_isSet cX7_isSet 1 (some .boolean), .methodLink RX7 30 yX7_in, .static yX7_in, .code yX7_in cX7_in 3 (some .boolean), .methodLink RX7 110 yX7_barred, .instanceMethod yX7_barred, .selects RX7 yX7_barred yX7_barred, .code yX7_barred cX7_barred 5 (some .long), .fieldLink RX7 13 "BooleanRingModel" "p" "[J", .methodLink RX7 73 yX7_values, .instanceMethod yX7_values, .selects RX7 yX7_values yX7_values, .code yX7_values cX7_values 7 (some .long), .fieldLink RX7 7 "BooleanRingModel" "n" "I", .methodLink RX7 44 yX7_has1, .static yX7_has1, .code yX7_has1 cX7_has1 3 (some .boolean)] ++ wsX70)
def wsX7_fixedVariables : List Cond := .code yX7_fixedVariables cX7_fixedVariables 7 (some .int) :: ([.fieldLink RX7 7 "BooleanRingModel" "n" "I", .methodLink RX7 101 yX7_isSet, .static yX7_isSet, .initialized RX7, .code yX7_isSet cX7_isSet 1 (some .boolean), .methodLink RX7 30 yX7_in, .static yX7_in, .code yX7_in cX7_in 3 (some .boolean), .methodLink RX7 110 yX7_barred, .instanceMethod yX7_barred, .selects RX7 yX7_barred yX7_barred, .code yX7_barred cX7_barred 5 (some .long), .fieldLink RX7 13 "BooleanRingModel" "p" "[J", .methodLink RX7 73 yX7_values, .instanceMethod yX7_values, .selects RX7 yX7_values yX7_values, .code yX7_values cX7_values 7 (some .long), .methodLink RX7 44 yX7_has1, .static yX7_has1, .code yX7_has1 cX7_has1 3 (some .boolean), .methodLink RX7 40 yX7_many, .static yX7_many, .code yX7_many cX7_many 5 (some .int)] ++ wsX70)
def wsX7_type : List Cond := .code yX7_type cX7_type 2 (some .int) :: ([.fieldLink RX7 114 "BooleanRingModel" "typed" "I", .fieldLink RX7 20 "BooleanRingModel" "text" "[C", .methodLink RX7 30 yX7_in, .static yX7_in, .initialized RX7, .code yX7_in cX7_in 3 (some .boolean)] ++ wsX70)
def wsX7_clearText : List Cond := .code yX7_clearText cX7_clearText 2 (some .int) :: ([.fieldLink RX7 114 "BooleanRingModel" "typed" "I"] ++ wsX70)
def wsX7_behind : List Cond := .code yX7_behind cX7_behind 4 (some .int) :: ([.fieldLink RX7 7 "BooleanRingModel" "n" "I", .methodLink RX7 30 yX7_in, .static yX7_in, .initialized RX7, .code yX7_in cX7_in 3 (some .boolean)] ++ wsX70)
def wsX7_fault : List Cond := .code yX7_fault cX7_fault 3 (some .int) :: ([.fieldLink RX7 114 "BooleanRingModel" "typed" "I", .fieldLink RX7 20 "BooleanRingModel" "text" "[C", .methodLink RX7 117 yX7_behind, .instanceMethod yX7_behind, .selects RX7 yX7_behind yX7_behind, .initialized RX7, .code yX7_behind cX7_behind 4 (some .int), .fieldLink RX7 7 "BooleanRingModel" "n" "I", .methodLink RX7 30 yX7_in, .static yX7_in, .code yX7_in cX7_in 3 (some .boolean)] ++ wsX70)
def wsX7_read_r1 : List Cond := [Cond.fieldLink RX7 114 "BooleanRingModel" "typed" "I", Cond.fieldLink RX7 20 "BooleanRingModel" "text" "[C", Cond.methodLink RX7 48 yX7_isRegister, Cond.static yX7_isRegister, Cond.initialized RX7, Cond.code yX7_isRegister cX7_isRegister 1 (some .boolean), Cond.methodLink RX7 30 yX7_in, Cond.static yX7_in, Cond.code yX7_in cX7_in 3 (some .boolean), Cond.methodLink RX7 121 yX7_fault, Cond.instanceMethod yX7_fault, Cond.selects RX7 yX7_fault yX7_fault, Cond.code yX7_fault cX7_fault 3 (some .int), Cond.methodLink RX7 117 yX7_behind, Cond.instanceMethod yX7_behind, Cond.selects RX7 yX7_behind yX7_behind, Cond.code yX7_behind cX7_behind 4 (some .int), Cond.fieldLink RX7 7 "BooleanRingModel" "n" "I", Cond.methodLink RX7 55 yX7_gets, Cond.instanceMethod yX7_gets, Cond.selects RX7 yX7_gets yX7_gets, Cond.code yX7_gets cX7_gets 4 (some .int), Cond.fieldLink RX7 13 "BooleanRingModel" "p" "[J", Cond.methodLink RX7 37 yX7_records]
def wsX7_read_r2 : List Cond := [Cond.instanceMethod yX7_records, Cond.selects RX7 yX7_records yX7_records, Cond.code yX7_records cX7_records 2 none, Cond.fieldLink RX7 34 "BooleanRingModel" "states" "I", Cond.fieldLink RX7 17 "BooleanRingModel" "was" "[J", Cond.methodLink RX7 40 yX7_many, Cond.static yX7_many, Cond.code yX7_many cX7_many 5 (some .int)]
def wsX7_read : List Cond := .code yX7_read cX7_read 8 (some .int) :: ((wsX7_read_r1 ++ wsX7_read_r2) ++ wsX70)
def wsX7_longOf : List Cond := .code yX7_longOf cX7_longOf 1 (some .int) :: ([.methodLink RX7 40 yX7_many, .static yX7_many, .initialized RX7, .code yX7_many cX7_many 5 (some .int)])
def wsX7_textLength : List Cond := .code yX7_textLength cX7_textLength 4 (some .int) :: ([.fieldLink RX7 13 "BooleanRingModel" "p" "[J", .fieldLink RX7 7 "BooleanRingModel" "n" "I", .methodLink RX7 48 yX7_isRegister, .static yX7_isRegister, .initialized RX7, .code yX7_isRegister cX7_isRegister 1 (some .boolean), .methodLink RX7 30 yX7_in, .static yX7_in, .code yX7_in cX7_in 3 (some .boolean), .methodLink RX7 44 yX7_has1, .static yX7_has1, .code yX7_has1 cX7_has1 3 (some .boolean), .methodLink RX7 124 yX7_longOf, .static yX7_longOf, .code yX7_longOf cX7_longOf 1 (some .int), .methodLink RX7 40 yX7_many, .static yX7_many, .code yX7_many cX7_many 5 (some .int)] ++ wsX70)
def wsX7_letter : List Cond := .code yX7_letter cX7_letter 4 (some .int) :: ([])
def wsX7_textAt_r1 : List Cond := [Cond.fieldLink RX7 13 "BooleanRingModel" "p" "[J", Cond.methodLink RX7 48 yX7_isRegister, Cond.static yX7_isRegister, Cond.initialized RX7, Cond.code yX7_isRegister cX7_isRegister 1 (some .boolean), Cond.methodLink RX7 30 yX7_in, Cond.static yX7_in, Cond.code yX7_in cX7_in 3 (some .boolean), Cond.methodLink RX7 97 yX7_leads, Cond.instanceMethod yX7_leads, Cond.selects RX7 yX7_leads yX7_leads, Cond.code yX7_leads cX7_leads 6 (some .int), Cond.fieldLink RX7 7 "BooleanRingModel" "n" "I", Cond.methodLink RX7 44 yX7_has1, Cond.static yX7_has1, Cond.code yX7_has1 cX7_has1 3 (some .boolean), Cond.methodLink RX7 91 yX7_isGreater, Cond.instanceMethod yX7_isGreater, Cond.selects RX7 yX7_isGreater yX7_isGreater, Cond.code yX7_isGreater cX7_isGreater 7 (some .boolean), Cond.methodLink RX7 40 yX7_many, Cond.static yX7_many, Cond.code yX7_many cX7_many 5 (some .int), Cond.methodLink RX7 124 yX7_longOf]
def wsX7_textAt_r2 : List Cond := [Cond.static yX7_longOf, Cond.code yX7_longOf cX7_longOf 1 (some .int), Cond.methodLink RX7 128 yX7_letter, Cond.static yX7_letter, Cond.code yX7_letter cX7_letter 4 (some .int)]
def wsX7_textAt : List Cond := .code yX7_textAt cX7_textAt 7 (some .int) :: ((wsX7_textAt_r1 ++ wsX7_textAt_r2) ++ wsX70)
def wsJ9_max_7cf53 : List Cond := .code yJ9_max_7cf53 cJ9_max_7cf53 2 (some .int) :: ([])
def wsJ9_min_7cf53 : List Cond := .code yJ9_min_7cf53 cJ9_min_7cf53 2 (some .int) :: ([])
def wsL_law_r1 : List Cond := [Cond.classLink RL 7 RX6, Cond.instantiable RX6 6, Cond.initialized RX6, Cond.classLink RL 10 RX7, Cond.instantiable RX7 9, Cond.initialized RX7, Cond.methodLink RL 9 yX6_init, Cond.instanceMethod yX6_init, Cond.code yX6_init cX6_init 1 none, Cond.methodLink RX6 3 objectInit, Cond.instanceMethod objectInit, Cond.code objectInit ⟨#[0xb1]⟩ 1 none, Cond.arrayClass .long, Cond.fieldLink RX6 9 "BooleanRing" "registers" "[J", Cond.arrayClass .int, Cond.fieldLink RX6 13 "BooleanRing" "leading" "[I", Cond.classLink RX6 17 RX1, Cond.instantiable RX1 2, Cond.initialized RX1, Cond.fieldLink RX6 20 "BooleanRing" "history" "LBooleanRing$History;", Cond.classLink RX6 24 RX0, Cond.instantiable RX0 2, Cond.initialized RX0, Cond.fieldLink RX6 27 "BooleanRing" "diagrams" "LBooleanRing$Diagrams;"]
def wsL_law_r2 : List Cond := [Cond.classLink RX6 31 RX5, Cond.instantiable RX5 2, Cond.initialized RX5, Cond.fieldLink RX6 34 "BooleanRing" "typed" "LBooleanRing$Typed;", Cond.fieldLink RX6 38 "BooleanRing" "n" "I", Cond.instanceMethod yX1_init, Cond.code yX1_init cX1_init 1 none, Cond.methodLink RX1 3 objectInit, Cond.fieldLink RX1 11 "BooleanRing$History" "states" "[J", Cond.fieldLink RX1 15 "BooleanRing$History" "kept" "I", Cond.instanceMethod yX0_init, Cond.code yX0_init cX0_init 1 none, Cond.methodLink RX0 3 objectInit, Cond.fieldLink RX0 9 "BooleanRing$Diagrams" "found" "[J", Cond.fieldLink RX0 15 "BooleanRing$Diagrams" "count" "I", Cond.instanceMethod yX5_init, Cond.code yX5_init cX5_init 1 none, Cond.methodLink RX5 3 objectInit, Cond.arrayClass .char, Cond.fieldLink RX5 11 "BooleanRing$Typed" "text" "[C", Cond.fieldLink RX5 15 "BooleanRing$Typed" "length" "I", Cond.methodLink RL 12 yX7_init, Cond.instanceMethod yX7_init, Cond.code yX7_init cX7_init 1 none]
def wsL_law_r3 : List Cond := [Cond.methodLink RX7 1 objectInit, Cond.fieldLink RX7 7 "BooleanRingModel" "n" "I", Cond.fieldLink RX7 13 "BooleanRingModel" "p" "[J", Cond.fieldLink RX7 17 "BooleanRingModel" "was" "[J", Cond.fieldLink RX7 20 "BooleanRingModel" "text" "[C", Cond.fieldLink RX7 24 "BooleanRingModel" "found" "[J", Cond.fieldLink RX7 27 "BooleanRingModel" "by" "[J", Cond.methodLink RL 13 yX6_reset, Cond.instanceMethod yX6_reset, Cond.selects RX6 yX6_reset yX6_reset, Cond.code yX6_reset cX6_reset 3 (some .int), Cond.methodLink RX6 42 yJ7_fill_d0a16, Cond.static yJ7_fill_d0a16, Cond.initialized RJ7, Cond.code yJ7_fill_d0a16 cJ7_fill_d0a16 5 none, Cond.methodLink RX6 48 yX1_forget, Cond.instanceMethod yX1_forget, Cond.selects RX1 yX1_forget yX1_forget, Cond.code yX1_forget cX1_forget 1 none, Cond.methodLink RL 17 yX7_reset, Cond.instanceMethod yX7_reset, Cond.selects RX7 yX7_reset yX7_reset, Cond.code yX7_reset cX7_reset 4 (some .int), Cond.fieldLink RX7 34 "BooleanRingModel" "states" "I"]
def wsL_law_r4 : List Cond := [Cond.methodLink RX7 30 yX7_in, Cond.static yX7_in, Cond.code yX7_in cX7_in 3 (some .boolean), Cond.methodLink RL 18 yX6_variables, Cond.instanceMethod yX6_variables, Cond.selects RX6 yX6_variables yX6_variables, Cond.code yX6_variables cX6_variables 1 (some .int), Cond.methodLink RL 22 yX7_variables, Cond.instanceMethod yX7_variables, Cond.selects RX7 yX7_variables yX7_variables, Cond.code yX7_variables cX7_variables 1 (some .int), Cond.methodLink RL 23 yX6_toggle, Cond.instanceMethod yX6_toggle, Cond.selects RX6 yX6_toggle yX6_toggle, Cond.code yX6_toggle cX6_toggle 3 (some .int), Cond.methodLink RX6 51 yX6_isRegister, Cond.static yX6_isRegister, Cond.code yX6_isRegister cX6_isRegister 1 (some .boolean), Cond.methodLink RX6 55 yX6_isMask, Cond.instanceMethod yX6_isMask, Cond.selects RX6 yX6_isMask yX6_isMask, Cond.code yX6_isMask cX6_isMask 2 (some .boolean), Cond.methodLink RX6 58 yX3_ofMonomial, Cond.static yX3_ofMonomial]
def wsL_law_r5 : List Cond := [Cond.initialized RX3, Cond.code yX3_ofMonomial cX3_ofMonomial 1 (some .long), Cond.methodLink RX6 64 yX6_put, Cond.instanceMethod yX6_put, Cond.selects RX6 yX6_put yX6_put, Cond.code yX6_put cX6_put 4 (some .int), Cond.methodLink RX6 152 yX1_keep, Cond.instanceMethod yX1_keep, Cond.selects RX1 yX1_keep yX1_keep, Cond.code yX1_keep cX1_keep 2 none, Cond.methodLink RX1 19 arraycopyName, Cond.native arraycopyName, Cond.static arraycopyName, Cond.initialized "java/lang/System", Cond.methodLink RX6 110 yJ13_bitCount_95d88, Cond.static yJ13_bitCount_95d88, Cond.initialized RJ13, Cond.code yJ13_bitCount_95d88 cJ13_bitCount_95d88 2 (some .int), Cond.constantLong RJ13 314 (6148914691236517205), Cond.constantLong RJ13 316 (3689348814741910323), Cond.constantLong RJ13 318 (1085102592571150095), Cond.methodLink RL 27 yX7_toggle, Cond.instanceMethod yX7_toggle, Cond.selects RX7 yX7_toggle yX7_toggle]
def wsL_law_r6 : List Cond := [Cond.code yX7_toggle cX7_toggle 3 (some .int), Cond.methodLink RX7 48 yX7_isRegister, Cond.static yX7_isRegister, Cond.code yX7_isRegister cX7_isRegister 1 (some .boolean), Cond.methodLink RX7 52 yX7_isMask, Cond.instanceMethod yX7_isMask, Cond.selects RX7 yX7_isMask yX7_isMask, Cond.code yX7_isMask cX7_isMask 2 (some .boolean), Cond.methodLink RX7 55 yX7_gets, Cond.instanceMethod yX7_gets, Cond.selects RX7 yX7_gets yX7_gets, Cond.code yX7_gets cX7_gets 4 (some .int), Cond.methodLink RX7 37 yX7_records, Cond.instanceMethod yX7_records, Cond.selects RX7 yX7_records yX7_records, Cond.code yX7_records cX7_records 2 none, Cond.methodLink RX7 40 yX7_many, Cond.static yX7_many, Cond.code yX7_many cX7_many 5 (some .int), Cond.methodLink RL 28 yX6_copy, Cond.instanceMethod yX6_copy, Cond.selects RX6 yX6_copy yX6_copy, Cond.code yX6_copy cX6_copy 3 (some .int), Cond.methodLink RL 31 yX7_copy]
def wsL_law_r7 : List Cond := [Cond.instanceMethod yX7_copy, Cond.selects RX7 yX7_copy yX7_copy, Cond.code yX7_copy cX7_copy 3 (some .int), Cond.methodLink RL 32 yX6_sum, Cond.instanceMethod yX6_sum, Cond.selects RX6 yX6_sum yX6_sum, Cond.code yX6_sum cX6_sum 4 (some .int), Cond.methodLink RL 36 yX7_sum, Cond.instanceMethod yX7_sum, Cond.selects RX7 yX7_sum yX7_sum, Cond.code yX7_sum cX7_sum 4 (some .int), Cond.methodLink RL 37 yX6_product, Cond.instanceMethod yX6_product, Cond.selects RX6 yX6_product yX6_product, Cond.code yX6_product cX6_product 4 (some .int), Cond.methodLink RX6 68 yX3_multiplied, Cond.static yX3_multiplied, Cond.code yX3_multiplied cX3_multiplied 5 (some .long), Cond.methodLink RX3 23 yX3_transformed, Cond.static yX3_transformed, Cond.code yX3_transformed cX3_transformed 6 (some .long), Cond.methodLink RX3 19 yX3_raised, Cond.static yX3_raised, Cond.code yX3_raised cX3_raised 3 (some .long)]
def wsL_law_r8 : List Cond := [Cond.methodLink RX3 15 yX3_without, Cond.static yX3_without, Cond.code yX3_without cX3_without 1 (some .long), Cond.fieldLink RX3 9 "BooleanRing$Poly" "WITHOUT" "[J", Cond.methodLink RL 40 yX7_product, Cond.instanceMethod yX7_product, Cond.selects RX7 yX7_product yX7_product, Cond.code yX7_product cX7_product 4 (some .int), Cond.methodLink RX7 59 yX7_product1, Cond.instanceMethod yX7_product1, Cond.selects RX7 yX7_product1 yX7_product1, Cond.code yX7_product1 cX7_product1 9 (some .long), Cond.methodLink RX7 44 yX7_has1, Cond.static yX7_has1, Cond.code yX7_has1 cX7_has1 3 (some .boolean), Cond.methodLink RL 41 yX6_times, Cond.instanceMethod yX6_times, Cond.selects RX6 yX6_times yX6_times, Cond.code yX6_times cX6_times 4 (some .int), Cond.methodLink RL 44 yX7_times, Cond.instanceMethod yX7_times, Cond.selects RX7 yX7_times yX7_times, Cond.code yX7_times cX7_times 4 (some .int), Cond.methodLink RL 45 yX6_restrict]
def wsL_law_r9 : List Cond := [Cond.instanceMethod yX6_restrict, Cond.selects RX6 yX6_restrict yX6_restrict, Cond.code yX6_restrict cX6_restrict 7 (some .int), Cond.methodLink RX6 72 yX6_isVariable, Cond.instanceMethod yX6_isVariable, Cond.selects RX6 yX6_isVariable yX6_isVariable, Cond.code yX6_isVariable cX6_isVariable 2 (some .boolean), Cond.methodLink RX6 75 yX3_lowerHalf, Cond.static yX3_lowerHalf, Cond.code yX3_lowerHalf cX3_lowerHalf 3 (some .long), Cond.methodLink RX6 79 yX3_upperHalf, Cond.static yX3_upperHalf, Cond.code yX3_upperHalf cX3_upperHalf 3 (some .long), Cond.methodLink RL 49 yX7_restrict, Cond.instanceMethod yX7_restrict, Cond.selects RX7 yX7_restrict yX7_restrict, Cond.code yX7_restrict cX7_restrict 5 (some .int), Cond.methodLink RX7 63 yX7_isVariable, Cond.instanceMethod yX7_isVariable, Cond.selects RX7 yX7_isVariable yX7_isVariable, Cond.code yX7_isVariable cX7_isVariable 2 (some .boolean), Cond.methodLink RX7 66 yX7_lower, Cond.instanceMethod yX7_lower, Cond.selects RX7 yX7_lower yX7_lower]
def wsL_law_r10 : List Cond := [Cond.code yX7_lower cX7_lower 7 (some .long), Cond.methodLink RX7 70 yX7_upper, Cond.instanceMethod yX7_upper, Cond.selects RX7 yX7_upper yX7_upper, Cond.code yX7_upper cX7_upper 7 (some .long), Cond.methodLink RL 50 yX6_substitute, Cond.instanceMethod yX6_substitute, Cond.selects RX6 yX6_substitute yX6_substitute, Cond.code yX6_substitute cX6_substitute 9 (some .int), Cond.methodLink RL 53 yX7_substitute, Cond.instanceMethod yX7_substitute, Cond.selects RX7 yX7_substitute yX7_substitute, Cond.code yX7_substitute cX7_substitute 5 (some .int), Cond.methodLink RL 54 yX6_derivative, Cond.instanceMethod yX6_derivative, Cond.selects RX6 yX6_derivative yX6_derivative, Cond.code yX6_derivative cX6_derivative 4 (some .int), Cond.methodLink RL 57 yX7_derivative, Cond.instanceMethod yX7_derivative, Cond.selects RX7 yX7_derivative yX7_derivative, Cond.code yX7_derivative cX7_derivative 4 (some .int), Cond.methodLink RL 58 yX6_flip, Cond.instanceMethod yX6_flip, Cond.selects RX6 yX6_flip yX6_flip]
def wsL_law_r11 : List Cond := [Cond.code yX6_flip cX6_flip 5 (some .int), Cond.methodLink RX6 82 yX3_transformed, Cond.methodLink RL 61 yX7_flip, Cond.instanceMethod yX7_flip, Cond.selects RX7 yX7_flip yX7_flip, Cond.code yX7_flip cX7_flip 3 (some .int), Cond.methodLink RX7 73 yX7_values, Cond.instanceMethod yX7_values, Cond.selects RX7 yX7_values yX7_values, Cond.code yX7_values cX7_values 7 (some .long), Cond.methodLink RL 62 yX6_exchange, Cond.instanceMethod yX6_exchange, Cond.selects RX6 yX6_exchange yX6_exchange, Cond.code yX6_exchange cX6_exchange 4 (some .int), Cond.methodLink RX6 85 Lib.Math.min.name, Cond.static Lib.Math.min.name, Cond.initialized "java/lang/Math", Cond.code Lib.Math.min.name Lib.Math.min.code 2 (some .int), Cond.methodLink RX6 91 Lib.Math.max.name, Cond.static Lib.Math.max.name, Cond.code Lib.Math.max.name Lib.Math.max.code 2 (some .int), Cond.methodLink RX6 94 yX3_exchanged, Cond.static yX3_exchanged, Cond.code yX3_exchanged cX3_exchanged 11 (some .long)]
def wsL_law_r12 : List Cond := [Cond.constantLong RX3 26 (-1), Cond.methodLink RL 65 yX7_exchange, Cond.instanceMethod yX7_exchange, Cond.selects RX7 yX7_exchange yX7_exchange, Cond.code yX7_exchange cX7_exchange 8 (some .int), Cond.methodLink RL 66 yX6_undo, Cond.instanceMethod yX6_undo, Cond.selects RX6 yX6_undo yX6_undo, Cond.code yX6_undo cX6_undo 1 (some .int), Cond.methodLink RX6 98 yX1_isEmpty, Cond.instanceMethod yX1_isEmpty, Cond.selects RX1 yX1_isEmpty yX1_isEmpty, Cond.code yX1_isEmpty cX1_isEmpty 1 (some .boolean), Cond.methodLink RX6 102 yX1_restore, Cond.instanceMethod yX1_restore, Cond.selects RX1 yX1_restore yX1_restore, Cond.code yX1_restore cX1_restore 2 (some .int), Cond.methodLink RL 69 yX7_undo, Cond.instanceMethod yX7_undo, Cond.selects RX7 yX7_undo yX7_undo, Cond.code yX7_undo cX7_undo 2 (some .int), Cond.methodLink RL 70 yX6_has, Cond.instanceMethod yX6_has, Cond.selects RX6 yX6_has yX6_has]
def wsL_law_r13 : List Cond := [Cond.code yX6_has cX6_has 3 (some .int), Cond.methodLink RX6 106 yX3_bit, Cond.static yX3_bit, Cond.code yX3_bit cX3_bit 3 (some .int), Cond.methodLink RL 73 yX7_has, Cond.instanceMethod yX7_has, Cond.selects RX7 yX7_has yX7_has, Cond.code yX7_has cX7_has 3 (some .int), Cond.methodLink RL 74 yX6_terms, Cond.instanceMethod yX6_terms, Cond.selects RX6 yX6_terms yX6_terms, Cond.code yX6_terms cX6_terms 2 (some .int), Cond.methodLink RL 77 yX7_terms, Cond.instanceMethod yX7_terms, Cond.selects RX7 yX7_terms yX7_terms, Cond.code yX7_terms cX7_terms 2 (some .int), Cond.methodLink RL 78 yX6_degree, Cond.instanceMethod yX6_degree, Cond.selects RX6 yX6_degree yX6_degree, Cond.code yX6_degree cX6_degree 3 (some .int), Cond.methodLink RX6 118 yX2_termOf, Cond.static yX2_termOf, Cond.initialized RX2, Cond.code yX2_termOf cX2_termOf 7 (some .int)]
def wsL_law_r14 : List Cond := [Cond.methodLink RX2 25 yJ13_bitCount_95d88, Cond.methodLink RX2 31 yX2_monomialAt, Cond.static yX2_monomialAt, Cond.code yX2_monomialAt cX2_monomialAt 3 (some .int), Cond.methodLink RX2 21 yX2_tableOf, Cond.static yX2_tableOf, Cond.code yX2_tableOf cX2_tableOf 1 (some (.array .int)), Cond.fieldLink RX2 9 "BooleanRing$Orders" "BY_LEX" "[I", Cond.fieldLink RX2 15 "BooleanRing$Orders" "BY_GRADED" "[I", Cond.fieldLink RX2 18 "BooleanRing$Orders" "BY_REVERSE" "[I", Cond.methodLink RX2 35 yX3_bit, Cond.methodLink RX6 122 yJ6_bitCount_0f7a4, Cond.static yJ6_bitCount_0f7a4, Cond.initialized RJ6, Cond.code yJ6_bitCount_0f7a4 cJ6_bitCount_0f7a4 1 (some .int), Cond.constant RJ6 265 (1431655765), Cond.constant RJ6 266 (858993459), Cond.constant RJ6 267 (252645135), Cond.methodLink RL 81 yX7_degree, Cond.instanceMethod yX7_degree, Cond.selects RX7 yX7_degree yX7_degree, Cond.code yX7_degree cX7_degree 5 (some .int), Cond.methodLink RL 82 yX6_occurring, Cond.instanceMethod yX6_occurring]
def wsL_law_r15 : List Cond := [Cond.selects RX6 yX6_occurring yX6_occurring, Cond.code yX6_occurring cX6_occurring 4 (some .int), Cond.methodLink RL 85 yX7_occurring, Cond.instanceMethod yX7_occurring, Cond.selects RX7 yX7_occurring yX7_occurring, Cond.code yX7_occurring cX7_occurring 2 (some .int), Cond.methodLink RX7 77 yX7_occurs, Cond.instanceMethod yX7_occurs, Cond.selects RX7 yX7_occurs yX7_occurs, Cond.code yX7_occurs cX7_occurs 5 (some .int), Cond.methodLink RL 86 yX6_size, Cond.instanceMethod yX6_size, Cond.selects RX6 yX6_size yX6_size, Cond.code yX6_size cX6_size 2 (some .int), Cond.methodLink RX6 127 yX0_forget, Cond.instanceMethod yX0_forget, Cond.selects RX0 yX0_forget yX0_forget, Cond.code yX0_forget cX0_forget 1 none, Cond.methodLink RX6 128 yX0_enter, Cond.instanceMethod yX0_enter, Cond.selects RX0 yX0_enter yX0_enter, Cond.code yX0_enter cX0_enter 4 none, Cond.constantLong RX0 19 (-2), Cond.methodLink RX0 21 yX0_isKnown]
def wsL_law_r16 : List Cond := [Cond.instanceMethod yX0_isKnown, Cond.selects RX0 yX0_isKnown yX0_isKnown, Cond.code yX0_isKnown cX0_isKnown 4 (some .boolean), Cond.methodLink RX6 132 yX0_closedCount, Cond.instanceMethod yX0_closedCount, Cond.selects RX0 yX0_closedCount yX0_closedCount, Cond.code yX0_closedCount cX0_closedCount 3 (some .int), Cond.methodLink RX0 25 yX3_lowestVariable, Cond.static yX3_lowestVariable, Cond.code yX3_lowestVariable cX3_lowestVariable 3 (some .int), Cond.methodLink RX3 28 yX3_upperHalf, Cond.methodLink RX0 31 yX3_upperHalf, Cond.methodLink RX0 35 yX0_enter, Cond.methodLink RX0 39 yX3_lowerHalf, Cond.methodLink RL 89 yX7_size, Cond.instanceMethod yX7_size, Cond.selects RX7 yX7_size yX7_size, Cond.code yX7_size cX7_size 2 (some .int), Cond.fieldLink RX7 80 "BooleanRingModel" "founds" "I", Cond.methodLink RX7 83 yX7_notes, Cond.instanceMethod yX7_notes, Cond.selects RX7 yX7_notes yX7_notes, Cond.code yX7_notes cX7_notes 5 none, Cond.methodLink RX7 87 yX7_spreads]
def wsL_law_r17 : List Cond := [Cond.instanceMethod yX7_spreads, Cond.selects RX7 yX7_spreads yX7_spreads, Cond.code yX7_spreads cX7_spreads 3 (some .int), Cond.methodLink RL 90 yX6_sharedSize, Cond.instanceMethod yX6_sharedSize, Cond.selects RX6 yX6_sharedSize yX6_sharedSize, Cond.code yX6_sharedSize cX6_sharedSize 2 (some .int), Cond.methodLink RL 93 yX7_sharedSize, Cond.instanceMethod yX7_sharedSize, Cond.selects RX7 yX7_sharedSize yX7_sharedSize, Cond.code yX7_sharedSize cX7_sharedSize 2 (some .int), Cond.methodLink RL 94 yX6_termAt, Cond.instanceMethod yX6_termAt, Cond.selects RX6 yX6_termAt yX6_termAt, Cond.code yX6_termAt cX6_termAt 4 (some .int), Cond.methodLink RX6 136 yX6_isOrder, Cond.static yX6_isOrder, Cond.code yX6_isOrder cX6_isOrder 1 (some .boolean), Cond.methodLink RL 97 yX7_termAt, Cond.instanceMethod yX7_termAt, Cond.selects RX7 yX7_termAt yX7_termAt, Cond.code yX7_termAt cX7_termAt 7 (some .int), Cond.methodLink RX7 94 yX7_isOrder, Cond.static yX7_isOrder]
def wsL_law_r18 : List Cond := [Cond.code yX7_isOrder cX7_isOrder 1 (some .boolean), Cond.methodLink RX7 97 yX7_leads, Cond.instanceMethod yX7_leads, Cond.selects RX7 yX7_leads yX7_leads, Cond.code yX7_leads cX7_leads 6 (some .int), Cond.methodLink RX7 91 yX7_isGreater, Cond.instanceMethod yX7_isGreater, Cond.selects RX7 yX7_isGreater yX7_isGreater, Cond.code yX7_isGreater cX7_isGreater 7 (some .boolean), Cond.methodLink RL 98 yX6_value, Cond.instanceMethod yX6_value, Cond.selects RX6 yX6_value yX6_value, Cond.code yX6_value cX6_value 3 (some .int), Cond.methodLink RL 101 yX7_value, Cond.instanceMethod yX7_value, Cond.selects RX7 yX7_value yX7_value, Cond.code yX7_value cX7_value 3 (some .int), Cond.methodLink RL 102 yX6_isSame, Cond.instanceMethod yX6_isSame, Cond.selects RX6 yX6_isSame yX6_isSame, Cond.code yX6_isSame cX6_isSame 3 (some .int), Cond.methodLink RL 105 yX7_isSame, Cond.instanceMethod yX7_isSame, Cond.selects RX7 yX7_isSame yX7_isSame]
def wsL_law_r19 : List Cond := [Cond.code yX7_isSame cX7_isSame 3 (some .int), Cond.methodLink RL 106 yX6_reduce, Cond.instanceMethod yX6_reduce, Cond.selects RX6 yX6_reduce yX6_reduce, Cond.code yX6_reduce cX6_reduce 12 (some .int), Cond.methodLink RX6 139 yX6_isSet, Cond.static yX6_isSet, Cond.code yX6_isSet cX6_isSet 1 (some .boolean), Cond.methodLink RX6 142 yX6_findLeading, Cond.instanceMethod yX6_findLeading, Cond.selects RX6 yX6_findLeading yX6_findLeading, Cond.code yX6_findLeading cX6_findLeading 3 none, Cond.methodLink RX6 146 yX2_monomialAt, Cond.methodLink RX6 149 yX6_reducerOf, Cond.instanceMethod yX6_reducerOf, Cond.selects RX6 yX6_reducerOf yX6_reducerOf, Cond.code yX6_reducerOf cX6_reducerOf 4 (some .int), Cond.methodLink RX6 203 yX6_isIn, Cond.static yX6_isIn, Cond.code yX6_isIn cX6_isIn 2 (some .boolean), Cond.methodLink RL 109 yX7_reduce, Cond.instanceMethod yX7_reduce, Cond.selects RX7 yX7_reduce yX7_reduce, Cond.code yX7_reduce cX7_reduce 12 (some .int)]
def wsL_law_r20 : List Cond := [Cond.constantLong RX7 104 (-1), Cond.methodLink RX7 101 yX7_isSet, Cond.static yX7_isSet, Cond.code yX7_isSet cX7_isSet 1 (some .boolean), Cond.methodLink RX7 106 yX7_taker, Cond.instanceMethod yX7_taker, Cond.selects RX7 yX7_taker yX7_taker, Cond.code yX7_taker cX7_taker 6 (some .int), Cond.methodLink RL 110 yX6_echelon, Cond.instanceMethod yX6_echelon, Cond.selects RX6 yX6_echelon yX6_echelon, Cond.code yX6_echelon cX6_echelon 7 (some .int), Cond.methodLink RX6 156 yX6_nextOf, Cond.static yX6_nextOf, Cond.code yX6_nextOf cX6_nextOf 3 (some .int), Cond.methodLink RX6 159 yX6_bringUp, Cond.instanceMethod yX6_bringUp, Cond.selects RX6 yX6_bringUp yX6_bringUp, Cond.code yX6_bringUp cX6_bringUp 7 (some .boolean), Cond.methodLink RX6 163 yX6_clearElsewhere, Cond.instanceMethod yX6_clearElsewhere, Cond.selects RX6 yX6_clearElsewhere yX6_clearElsewhere, Cond.code yX6_clearElsewhere cX6_clearElsewhere 5 none, Cond.methodLink RL 113 yX7_echelon]
def wsL_law_r21 : List Cond := [Cond.instanceMethod yX7_echelon, Cond.selects RX7 yX7_echelon yX7_echelon, Cond.code yX7_echelon cX7_echelon 11 (some .int), Cond.methodLink RL 114 yX6_zeros, Cond.instanceMethod yX6_zeros, Cond.selects RX6 yX6_zeros yX6_zeros, Cond.code yX6_zeros cX6_zeros 2 (some .int), Cond.methodLink RX6 167 yX6_commonZeros, Cond.instanceMethod yX6_commonZeros, Cond.selects RX6 yX6_commonZeros yX6_commonZeros, Cond.code yX6_commonZeros cX6_commonZeros 2 (some .long), Cond.constantLong RX6 180 (-1), Cond.methodLink RX6 176 yX6_allPoints, Cond.instanceMethod yX6_allPoints, Cond.selects RX6 yX6_allPoints yX6_allPoints, Cond.code yX6_allPoints cX6_allPoints 1 (some .long), Cond.methodLink RX6 170 yX6_nonZeros, Cond.instanceMethod yX6_nonZeros, Cond.selects RX6 yX6_nonZeros yX6_nonZeros, Cond.code yX6_nonZeros cX6_nonZeros 5 (some .long), Cond.methodLink RL 117 yX7_zeros, Cond.instanceMethod yX7_zeros, Cond.selects RX7 yX7_zeros yX7_zeros, Cond.code yX7_zeros cX7_zeros 2 (some .int)]
def wsL_law_r22 : List Cond := [Cond.methodLink RX7 110 yX7_barred, Cond.instanceMethod yX7_barred, Cond.selects RX7 yX7_barred yX7_barred, Cond.code yX7_barred cX7_barred 5 (some .long), Cond.methodLink RL 118 yX6_zeroAt, Cond.instanceMethod yX6_zeroAt, Cond.selects RX6 yX6_zeroAt yX6_zeroAt, Cond.code yX6_zeroAt cX6_zeroAt 7 (some .int), Cond.methodLink RL 121 yX7_zeroAt, Cond.instanceMethod yX7_zeroAt, Cond.selects RX7 yX7_zeroAt yX7_zeroAt, Cond.code yX7_zeroAt cX7_zeroAt 7 (some .int), Cond.methodLink RL 122 yX6_combine, Cond.instanceMethod yX6_combine, Cond.selects RX6 yX6_combine yX6_combine, Cond.code yX6_combine cX6_combine 3 (some .int), Cond.methodLink RL 125 yX7_combine, Cond.instanceMethod yX7_combine, Cond.selects RX7 yX7_combine yX7_combine, Cond.code yX7_combine cX7_combine 3 (some .int), Cond.methodLink RL 126 yX6_eliminate, Cond.instanceMethod yX6_eliminate, Cond.selects RX6 yX6_eliminate yX6_eliminate, Cond.code yX6_eliminate cX6_eliminate 10 (some .int)]
def wsL_law_r23 : List Cond := [Cond.methodLink RX6 173 yX3_raised, Cond.methodLink RL 129 yX7_eliminate, Cond.instanceMethod yX7_eliminate, Cond.selects RX7 yX7_eliminate yX7_eliminate, Cond.code yX7_eliminate cX7_eliminate 9 (some .int), Cond.methodLink RL 130 yX6_fibres, Cond.instanceMethod yX6_fibres, Cond.selects RX6 yX6_fibres yX6_fibres, Cond.code yX6_fibres cX6_fibres 10 (some .int), Cond.methodLink RL 133 yX7_fibres, Cond.instanceMethod yX7_fibres, Cond.selects RX7 yX7_fibres yX7_fibres, Cond.code yX7_fibres cX7_fibres 9 (some .int), Cond.methodLink RL 134 yX6_isMember, Cond.instanceMethod yX6_isMember, Cond.selects RX6 yX6_isMember yX6_isMember, Cond.code yX6_isMember cX6_isMember 5 (some .int), Cond.methodLink RL 137 yX7_isMember, Cond.instanceMethod yX7_isMember, Cond.selects RX7 yX7_isMember yX7_isMember, Cond.code yX7_isMember cX7_isMember 3 (some .int), Cond.methodLink RL 138 yX6_isSameIdeal, Cond.instanceMethod yX6_isSameIdeal, Cond.selects RX6 yX6_isSameIdeal yX6_isSameIdeal]
def wsL_law_r24 : List Cond := [Cond.code yX6_isSameIdeal cX6_isSameIdeal 3 (some .int), Cond.methodLink RL 141 yX7_isSameIdeal, Cond.instanceMethod yX7_isSameIdeal, Cond.selects RX7 yX7_isSameIdeal yX7_isSameIdeal, Cond.code yX7_isSameIdeal cX7_isSameIdeal 3 (some .int), Cond.methodLink RL 142 yX6_fixedVariables, Cond.instanceMethod yX6_fixedVariables, Cond.selects RX6 yX6_fixedVariables yX6_fixedVariables, Cond.code yX6_fixedVariables cX6_fixedVariables 6 (some .int), Cond.methodLink RL 145 yX7_fixedVariables, Cond.instanceMethod yX7_fixedVariables, Cond.selects RX7 yX7_fixedVariables yX7_fixedVariables, Cond.code yX7_fixedVariables cX7_fixedVariables 7 (some .int), Cond.methodLink RL 146 yX6_type, Cond.instanceMethod yX6_type, Cond.selects RX6 yX6_type yX6_type, Cond.code yX6_type cX6_type 2 (some .int), Cond.methodLink RX6 182 yX5_append, Cond.instanceMethod yX5_append, Cond.selects RX5 yX5_append yX5_append, Cond.code yX5_append cX5_append 2 (some .int), Cond.methodLink RL 149 yX7_type, Cond.instanceMethod yX7_type, Cond.selects RX7 yX7_type yX7_type]
def wsL_law_r25 : List Cond := [Cond.code yX7_type cX7_type 2 (some .int), Cond.fieldLink RX7 114 "BooleanRingModel" "typed" "I", Cond.methodLink RL 150 yX6_clearText, Cond.instanceMethod yX6_clearText, Cond.selects RX6 yX6_clearText yX6_clearText, Cond.code yX6_clearText cX6_clearText 1 (some .int), Cond.methodLink RX6 186 yX5_empty, Cond.instanceMethod yX5_empty, Cond.selects RX5 yX5_empty yX5_empty, Cond.code yX5_empty cX5_empty 2 (some .int), Cond.methodLink RL 153 yX7_clearText, Cond.instanceMethod yX7_clearText, Cond.selects RX7 yX7_clearText yX7_clearText, Cond.code yX7_clearText cX7_clearText 2 (some .int), Cond.methodLink RL 154 yX6_fault, Cond.instanceMethod yX6_fault, Cond.selects RX6 yX6_fault yX6_fault, Cond.code yX6_fault cX6_fault 1 (some .int), Cond.methodLink RX6 189 yX5_firstFault, Cond.instanceMethod yX5_firstFault, Cond.selects RX5 yX5_firstFault yX5_firstFault, Cond.code yX5_firstFault cX5_firstFault 4 (some .int), Cond.methodLink RX5 19 yX5_seenAfter, Cond.static yX5_seenAfter]
def wsL_law_r26 : List Cond := [Cond.code yX5_seenAfter cX5_seenAfter 4 (some .int), Cond.methodLink RL 157 yX7_fault, Cond.instanceMethod yX7_fault, Cond.selects RX7 yX7_fault yX7_fault, Cond.code yX7_fault cX7_fault 3 (some .int), Cond.methodLink RX7 117 yX7_behind, Cond.instanceMethod yX7_behind, Cond.selects RX7 yX7_behind yX7_behind, Cond.code yX7_behind cX7_behind 4 (some .int), Cond.methodLink RL 158 yX6_read, Cond.instanceMethod yX6_read, Cond.selects RX6 yX6_read yX6_read, Cond.code yX6_read cX6_read 2 (some .int), Cond.methodLink RX6 192 yX5_polynomial, Cond.instanceMethod yX5_polynomial, Cond.selects RX5 yX5_polynomial yX5_polynomial, Cond.code yX5_polynomial cX5_polynomial 7 (some .long), Cond.methodLink RX5 23 yX3_ofMonomial, Cond.methodLink RL 161 yX7_read, Cond.instanceMethod yX7_read, Cond.selects RX7 yX7_read yX7_read, Cond.code yX7_read cX7_read 8 (some .int), Cond.methodLink RX7 121 yX7_fault, Cond.methodLink RL 162 yX6_textLength]
def wsL_law_r27 : List Cond := [Cond.instanceMethod yX6_textLength, Cond.selects RX6 yX6_textLength yX6_textLength, Cond.code yX6_textLength cX6_textLength 2 (some .int), Cond.methodLink RX6 195 yX4_lengthOf, Cond.static yX4_lengthOf, Cond.initialized RX4, Cond.code yX4_lengthOf cX4_lengthOf 4 (some .int), Cond.methodLink RX4 9 yX3_bit, Cond.methodLink RX4 15 yX4_widthOf, Cond.static yX4_widthOf, Cond.code yX4_widthOf cX4_widthOf 1 (some .int), Cond.methodLink RX4 39 yJ6_bitCount_0f7a4, Cond.methodLink RX4 21 yJ13_bitCount_95d88, Cond.methodLink RL 165 yX7_textLength, Cond.instanceMethod yX7_textLength, Cond.selects RX7 yX7_textLength yX7_textLength, Cond.code yX7_textLength cX7_textLength 4 (some .int), Cond.methodLink RX7 124 yX7_longOf, Cond.static yX7_longOf, Cond.code yX7_longOf cX7_longOf 1 (some .int), Cond.methodLink RL 166 yX6_textAt, Cond.instanceMethod yX6_textAt, Cond.selects RX6 yX6_textAt yX6_textAt, Cond.code yX6_textAt cX6_textAt 3 (some .int)]
def wsL_law_r28 : List Cond := [Cond.methodLink RX6 200 yX4_characterOf, Cond.static yX4_characterOf, Cond.code yX4_characterOf cX4_characterOf 7 (some .int), Cond.methodLink RX4 27 yX4_lengthOf, Cond.methodLink RX4 32 yX2_monomialAt, Cond.methodLink RX4 36 yX4_signOf, Cond.static yX4_signOf, Cond.code yX4_signOf cX4_signOf 4 (some .int), Cond.methodLink RL 169 yX7_textAt, Cond.instanceMethod yX7_textAt, Cond.selects RX7 yX7_textAt yX7_textAt, Cond.code yX7_textAt cX7_textAt 7 (some .int), Cond.methodLink RX7 128 yX7_letter, Cond.static yX7_letter, Cond.code yX7_letter cX7_letter 4 (some .int)]
def wsL_law : List Cond := (wsL_law_r1 ++ (wsL_law_r2 ++ (wsL_law_r3 ++ (wsL_law_r4 ++ (wsL_law_r5 ++ (wsL_law_r6 ++ (wsL_law_r7 ++ (wsL_law_r8 ++ (wsL_law_r9 ++ (wsL_law_r10 ++ (wsL_law_r11 ++ (wsL_law_r12 ++ (wsL_law_r13 ++ (wsL_law_r14 ++ (wsL_law_r15 ++ (wsL_law_r16 ++ (wsL_law_r17 ++ (wsL_law_r18 ++ (wsL_law_r19 ++ (wsL_law_r20 ++ (wsL_law_r21 ++ (wsL_law_r22 ++ (wsL_law_r23 ++ (wsL_law_r24 ++ (wsL_law_r25 ++ (wsL_law_r26 ++ (wsL_law_r27 ++ wsL_law_r28))))))))))))))))))))))))))) ++ wsX60 ++ wsX70 ++ wsX10 ++ wsX00 ++ wsX50 ++ ([] : List Cond)
set_option maxRecDepth 20000 in
theorem lin_wsL_law_r1 : ∀ w ∈ wsL_law_r1, w ∈ lw_tbl := fun w h => (goodIn_r wsL_law_r1 [41, 42, 28, 469, 470, 32, 43, 44, 45, 46, 47, 48, 62, 91, 63, 92, 49, 50, 29, 93, 64, 65, 30, 94] (by decide +kernel) (by decide +kernel) w h).1
set_option maxRecDepth 20000 in
theorem lin_wsL_law_r2 : ∀ w ∈ wsL_law_r2, w ∈ lw_tbl := fun w h => (goodIn_r wsL_law_r2 [77, 78, 31, 95, 96, 52, 53, 54, 55, 56, 67, 68, 69, 70, 71, 80, 81, 82, 90, 83, 84, 471, 472, 473] (by decide +kernel) (by decide +kernel) w h).1
set_option maxRecDepth 20000 in
theorem lin_wsL_law_r3 : ∀ w ∈ wsL_law_r3, w ∈ lw_tbl := fun w h => (goodIn_r wsL_law_r3 [474, 475, 476, 477, 479, 481, 483, 110, 111, 112, 113, 114, 115, 33, 116, 117, 118, 119, 120, 503, 504, 505, 506, 478] (by decide +kernel) (by decide +kernel) w h).1
set_option maxRecDepth 20000 in
theorem lin_wsL_law_r4 : ∀ w ∈ wsL_law_r4, w ∈ lw_tbl := fun w h => (goodIn_r wsL_law_r4 [507, 508, 509, 121, 122, 123, 124, 510, 511, 512, 513, 125, 126, 127, 128, 129, 130, 131, 132, 134, 0, 135, 136, 137] (by decide +kernel) (by decide +kernel) w h).1
set_option maxRecDepth 20000 in
theorem lin_wsL_law_r5 : ∀ w ∈ wsL_law_r5, w ∈ lw_tbl := fun w h => (goodIn_r wsL_law_r5 [34, 138, 139, 141, 1, 142, 143, 144, 145, 146, 147, 149, 148, 35, 150, 151, 36, 152, 153, 154, 155, 514, 515, 516] (by decide +kernel) (by decide +kernel) w h).1
set_option maxRecDepth 20000 in
theorem lin_wsL_law_r6 : ∀ w ∈ wsL_law_r6, w ∈ lw_tbl := fun w h => (goodIn_r wsL_law_r6 [517, 518, 519, 520, 521, 523, 11, 524, 525, 527, 12, 528, 529, 531, 13, 532, 533, 534, 535, 156, 157, 158, 159, 536] (by decide +kernel) (by decide +kernel) w h).1
set_option maxRecDepth 20000 in
theorem lin_wsL_law_r7 : ∀ w ∈ wsL_law_r7, w ∈ lw_tbl := fun w h => (goodIn_r wsL_law_r7 [537, 538, 539, 160, 161, 162, 163, 540, 541, 542, 543, 164, 165, 166, 167, 168, 169, 170, 171, 172, 173, 174, 175, 176] (by decide +kernel) (by decide +kernel) w h).1
set_option maxRecDepth 20000 in
theorem lin_wsL_law_r8 : ∀ w ∈ wsL_law_r8, w ∈ lw_tbl := fun w h => (goodIn_r wsL_law_r8 [177, 178, 179, 180, 544, 545, 546, 547, 548, 550, 14, 551, 552, 553, 554, 182, 183, 184, 185, 555, 556, 557, 558, 186] (by decide +kernel) (by decide +kernel) w h).1
set_option maxRecDepth 20000 in
theorem lin_wsL_law_r9 : ∀ w ∈ wsL_law_r9, w ∈ lw_tbl := fun w h => (goodIn_r wsL_law_r9 [187, 188, 189, 190, 192, 2, 193, 194, 195, 196, 197, 198, 199, 559, 560, 561, 562, 563, 565, 15, 566, 567, 569, 16] (by decide +kernel) (by decide +kernel) w h).1
set_option maxRecDepth 20000 in
theorem lin_wsL_law_r10 : ∀ w ∈ wsL_law_r10, w ∈ lw_tbl := fun w h => (goodIn_r wsL_law_r10 [570, 571, 573, 17, 574, 200, 201, 202, 203, 575, 576, 577, 578, 204, 205, 206, 207, 579, 580, 581, 582, 208, 209, 210] (by decide +kernel) (by decide +kernel) w h).1
set_option maxRecDepth 20000 in
theorem lin_wsL_law_r11 : ∀ w ∈ wsL_law_r11, w ∈ lw_tbl := fun w h => (goodIn_r wsL_law_r11 [211, 212, 583, 584, 585, 586, 587, 589, 18, 590, 213, 214, 215, 216, 217, 218, 37, 219, 220, 221, 222, 223, 224, 225] (by decide +kernel) (by decide +kernel) w h).1
set_option maxRecDepth 20000 in
theorem lin_wsL_law_r12 : ∀ w ∈ wsL_law_r12, w ∈ lw_tbl := fun w h => (goodIn_r wsL_law_r12 [226, 591, 592, 593, 594, 227, 228, 229, 230, 231, 232, 233, 234, 235, 236, 237, 238, 595, 596, 597, 598, 239, 240, 241] (by decide +kernel) (by decide +kernel) w h).1
set_option maxRecDepth 20000 in
theorem lin_wsL_law_r13 : ∀ w ∈ wsL_law_r13, w ∈ lw_tbl := fun w h => (goodIn_r wsL_law_r13 [242, 243, 244, 245, 599, 600, 601, 602, 246, 247, 248, 249, 603, 604, 605, 606, 250, 251, 252, 253, 254, 255, 38, 256] (by decide +kernel) (by decide +kernel) w h).1
set_option maxRecDepth 20000 in
theorem lin_wsL_law_r14 : ∀ w ∈ wsL_law_r14, w ∈ lw_tbl := fun w h => (goodIn_r wsL_law_r14 [257, 258, 259, 260, 261, 262, 263, 264, 266, 268, 270, 271, 272, 39, 273, 274, 275, 276, 607, 608, 609, 610, 277, 278] (by decide +kernel) (by decide +kernel) w h).1
set_option maxRecDepth 20000 in
theorem lin_wsL_law_r15 : ∀ w ∈ wsL_law_r15, w ∈ lw_tbl := fun w h => (goodIn_r wsL_law_r15 [279, 280, 611, 612, 613, 614, 615, 617, 19, 618, 281, 282, 283, 284, 285, 286, 287, 288, 289, 290, 291, 292, 293, 294] (by decide +kernel) (by decide +kernel) w h).1
set_option maxRecDepth 20000 in
theorem lin_wsL_law_r16 : ∀ w ∈ wsL_law_r16, w ∈ lw_tbl := fun w h => (goodIn_r wsL_law_r16 [296, 3, 297, 298, 299, 300, 301, 302, 303, 304, 305, 306, 307, 308, 619, 620, 621, 622, 482, 623, 625, 20, 626, 627] (by decide +kernel) (by decide +kernel) w h).1
set_option maxRecDepth 20000 in
theorem lin_wsL_law_r17 : ∀ w ∈ wsL_law_r17, w ∈ lw_tbl := fun w h => (goodIn_r wsL_law_r17 [629, 21, 630, 309, 310, 311, 312, 631, 632, 633, 634, 313, 314, 315, 316, 317, 318, 319, 635, 636, 637, 638, 639, 640] (by decide +kernel) (by decide +kernel) w h).1
set_option maxRecDepth 20000 in
theorem lin_wsL_law_r18 : ∀ w ∈ wsL_law_r18, w ∈ lw_tbl := fun w h => (goodIn_r wsL_law_r18 [641, 642, 644, 22, 645, 646, 648, 23, 649, 320, 321, 322, 323, 650, 651, 652, 653, 324, 325, 326, 327, 654, 655, 656] (by decide +kernel) (by decide +kernel) w h).1
set_option maxRecDepth 20000 in
theorem lin_wsL_law_r19 : ∀ w ∈ wsL_law_r19, w ∈ lw_tbl := fun w h => (goodIn_r wsL_law_r19 [657, 328, 329, 330, 331, 332, 333, 334, 335, 337, 4, 338, 339, 340, 342, 5, 343, 344, 345, 346, 658, 659, 660, 661] (by decide +kernel) (by decide +kernel) w h).1
set_option maxRecDepth 20000 in
theorem lin_wsL_law_r20 : ∀ w ∈ wsL_law_r20, w ∈ lw_tbl := fun w h => (goodIn_r wsL_law_r20 [665, 662, 663, 664, 666, 668, 24, 669, 347, 348, 349, 350, 351, 352, 353, 354, 356, 6, 357, 358, 360, 7, 361, 670] (by decide +kernel) (by decide +kernel) w h).1
set_option maxRecDepth 20000 in
theorem lin_wsL_law_r21 : ∀ w ∈ wsL_law_r21, w ∈ lw_tbl := fun w h => (goodIn_r wsL_law_r21 [671, 672, 673, 362, 363, 364, 365, 366, 368, 8, 369, 374, 370, 372, 9, 373, 375, 377, 10, 378, 674, 675, 676, 677] (by decide +kernel) (by decide +kernel) w h).1
set_option maxRecDepth 20000 in
theorem lin_wsL_law_r22 : ∀ w ∈ wsL_law_r22, w ∈ lw_tbl := fun w h => (goodIn_r wsL_law_r22 [678, 680, 25, 681, 379, 380, 381, 382, 682, 683, 684, 685, 383, 384, 385, 386, 686, 687, 688, 689, 387, 388, 389, 390] (by decide +kernel) (by decide +kernel) w h).1
set_option maxRecDepth 20000 in
theorem lin_wsL_law_r23 : ∀ w ∈ wsL_law_r23, w ∈ lw_tbl := fun w h => (goodIn_r wsL_law_r23 [391, 690, 691, 692, 693, 392, 393, 394, 395, 694, 695, 696, 697, 396, 397, 398, 399, 698, 699, 700, 701, 400, 401, 402] (by decide +kernel) (by decide +kernel) w h).1
set_option maxRecDepth 20000 in
theorem lin_wsL_law_r24 : ∀ w ∈ wsL_law_r24, w ∈ lw_tbl := fun w h => (goodIn_r wsL_law_r24 [403, 702, 703, 704, 705, 404, 405, 406, 407, 706, 707, 708, 709, 408, 409, 410, 411, 412, 413, 414, 415, 710, 711, 712] (by decide +kernel) (by decide +kernel) w h).1
set_option maxRecDepth 20000 in
theorem lin_wsL_law_r25 : ∀ w ∈ wsL_law_r25, w ∈ lw_tbl := fun w h => (goodIn_r wsL_law_r25 [713, 480, 416, 417, 418, 419, 420, 421, 422, 423, 714, 715, 716, 717, 424, 425, 426, 427, 428, 429, 430, 431, 432, 433] (by decide +kernel) (by decide +kernel) w h).1
set_option maxRecDepth 20000 in
theorem lin_wsL_law_r26 : ∀ w ∈ wsL_law_r26, w ∈ lw_tbl := fun w h => (goodIn_r wsL_law_r26 [434, 718, 719, 720, 721, 722, 724, 26, 725, 435, 436, 437, 438, 439, 440, 441, 442, 443, 726, 727, 728, 729, 730, 444] (by decide +kernel) (by decide +kernel) w h).1
set_option maxRecDepth 20000 in
theorem lin_wsL_law_r27 : ∀ w ∈ wsL_law_r27, w ∈ lw_tbl := fun w h => (goodIn_r wsL_law_r27 [445, 446, 447, 448, 449, 40, 450, 451, 452, 453, 454, 455, 456, 731, 732, 733, 734, 735, 736, 737, 457, 458, 459, 460] (by decide +kernel) (by decide +kernel) w h).1
set_option maxRecDepth 20000 in
theorem lin_wsL_law_r28 : ∀ w ∈ wsL_law_r28, w ∈ lw_tbl := fun w h => (goodIn_r wsL_law_r28 [461, 462, 463, 464, 465, 466, 467, 468, 738, 739, 740, 741, 742, 743, 744] (by decide +kernel) (by decide +kernel) w h).1
set_option maxRecDepth 20000 in
theorem lin_wsX60 : ∀ w ∈ wsX60, w ∈ lw_tbl := fun w h => (goodIn_r wsX60 [97, 99, 101, 103, 105, 107] (by decide +kernel) (by decide +kernel) w h).1
set_option maxRecDepth 20000 in
theorem lin_wsX70 : ∀ w ∈ wsX70, w ∈ lw_tbl := fun w h => (goodIn_r wsX70 [484, 486, 488, 490, 492, 494, 496, 498, 500] (by decide +kernel) (by decide +kernel) w h).1
set_option maxRecDepth 20000 in
theorem lin_wsX10 : ∀ w ∈ wsX10, w ∈ lw_tbl := fun w h => (goodIn_r wsX10 [57, 59] (by decide +kernel) (by decide +kernel) w h).1
set_option maxRecDepth 20000 in
theorem lin_wsX00 : ∀ w ∈ wsX00, w ∈ lw_tbl := fun w h => (goodIn_r wsX00 [72, 74] (by decide +kernel) (by decide +kernel) w h).1
set_option maxRecDepth 20000 in
theorem lin_wsX50 : ∀ w ∈ wsX50, w ∈ lw_tbl := fun w h => (goodIn_r wsX50 [85, 87] (by decide +kernel) (by decide +kernel) w h).1
theorem wsL_law_in : ∀ w ∈ wsL_law, w ∈ lw_tbl := (fun w h => (List.mem_append.mp h).elim ((fun w h => (List.mem_append.mp h).elim ((fun w h => (List.mem_append.mp h).elim ((fun w h => (List.mem_append.mp h).elim ((fun w h => (List.mem_append.mp h).elim ((fun w h => (List.mem_append.mp h).elim ((fun w h => (List.mem_append.mp h).elim (lin_wsL_law_r1 w) ((fun w h => (List.mem_append.mp h).elim (lin_wsL_law_r2 w) ((fun w h => (List.mem_append.mp h).elim (lin_wsL_law_r3 w) ((fun w h => (List.mem_append.mp h).elim (lin_wsL_law_r4 w) ((fun w h => (List.mem_append.mp h).elim (lin_wsL_law_r5 w) ((fun w h => (List.mem_append.mp h).elim (lin_wsL_law_r6 w) ((fun w h => (List.mem_append.mp h).elim (lin_wsL_law_r7 w) ((fun w h => (List.mem_append.mp h).elim (lin_wsL_law_r8 w) ((fun w h => (List.mem_append.mp h).elim (lin_wsL_law_r9 w) ((fun w h => (List.mem_append.mp h).elim (lin_wsL_law_r10 w) ((fun w h => (List.mem_append.mp h).elim (lin_wsL_law_r11 w) ((fun w h => (List.mem_append.mp h).elim (lin_wsL_law_r12 w) ((fun w h => (List.mem_append.mp h).elim (lin_wsL_law_r13 w) ((fun w h => (List.mem_append.mp h).elim (lin_wsL_law_r14 w) ((fun w h => (List.mem_append.mp h).elim (lin_wsL_law_r15 w) ((fun w h => (List.mem_append.mp h).elim (lin_wsL_law_r16 w) ((fun w h => (List.mem_append.mp h).elim (lin_wsL_law_r17 w) ((fun w h => (List.mem_append.mp h).elim (lin_wsL_law_r18 w) ((fun w h => (List.mem_append.mp h).elim (lin_wsL_law_r19 w) ((fun w h => (List.mem_append.mp h).elim (lin_wsL_law_r20 w) ((fun w h => (List.mem_append.mp h).elim (lin_wsL_law_r21 w) ((fun w h => (List.mem_append.mp h).elim (lin_wsL_law_r22 w) ((fun w h => (List.mem_append.mp h).elim (lin_wsL_law_r23 w) ((fun w h => (List.mem_append.mp h).elim (lin_wsL_law_r24 w) ((fun w h => (List.mem_append.mp h).elim (lin_wsL_law_r25 w) ((fun w h => (List.mem_append.mp h).elim (lin_wsL_law_r26 w) ((fun w h => (List.mem_append.mp h).elim (lin_wsL_law_r27 w) (lin_wsL_law_r28 w)) w)) w)) w)) w)) w)) w)) w)) w)) w)) w)) w)) w)) w)) w)) w)) w)) w)) w)) w)) w)) w)) w)) w)) w)) w)) w)) w) (lin_wsX60 w)) w) (lin_wsX70 w)) w) (lin_wsX10 w)) w) (lin_wsX00 w)) w) (lin_wsX50 w)) w) (fun h => absurd h List.not_mem_nil))
theorem inlX0 : ∀ w ∈ wsX00, w ∈ wsL_law := fun _ h => List.mem_append_left _ (List.mem_append_left _ (List.mem_append_right _ h))
theorem inX0 : ∀ w ∈ wsX00, w ∈ lw_tbl := fun w h => wsL_law_in w (inlX0 w h)
theorem inlX1 : ∀ w ∈ wsX10, w ∈ wsL_law := fun _ h => List.mem_append_left _ (List.mem_append_left _ (List.mem_append_left _ (List.mem_append_right _ h)))
theorem inX1 : ∀ w ∈ wsX10, w ∈ lw_tbl := fun w h => wsL_law_in w (inlX1 w h)
theorem inX2 : ∀ w ∈ wsX20, w ∈ lw_tbl := by decide +kernel
theorem inX3 : ∀ w ∈ wsX30, w ∈ lw_tbl := by decide +kernel
theorem inX4 : ∀ w ∈ wsX40, w ∈ lw_tbl := by decide +kernel
theorem inlX5 : ∀ w ∈ wsX50, w ∈ wsL_law := fun _ h => List.mem_append_left _ (List.mem_append_right _ h)
theorem inX5 : ∀ w ∈ wsX50, w ∈ lw_tbl := fun w h => wsL_law_in w (inlX5 w h)
theorem inlX6 : ∀ w ∈ wsX60, w ∈ wsL_law := fun _ h => List.mem_append_left _ (List.mem_append_left _ (List.mem_append_left _ (List.mem_append_left _ (List.mem_append_left _ (List.mem_append_right _ h)))))
theorem inX6 : ∀ w ∈ wsX60, w ∈ lw_tbl := fun w h => wsL_law_in w (inlX6 w h)
theorem inlX7 : ∀ w ∈ wsX70, w ∈ wsL_law := fun _ h => List.mem_append_left _ (List.mem_append_left _ (List.mem_append_left _ (List.mem_append_left _ (List.mem_append_right _ h))))
theorem inX7 : ∀ w ∈ wsX70, w ∈ lw_tbl := fun w h => wsL_law_in w (inlX7 w h)
theorem inJ6 : ∀ w ∈ wsJ60, w ∈ lw_tbl := by decide +kernel
theorem inJ13 : ∀ w ∈ wsJ130, w ∈ lw_tbl := by decide +kernel
theorem inJ9 : ∀ w ∈ wsJ90, w ∈ lw_tbl := by decide +kernel
theorem inJ10 : ∀ w ∈ wsJ100, w ∈ lw_tbl := by decide +kernel
theorem inJ7 : ∀ w ∈ wsJ70, w ∈ lw_tbl := by decide +kernel
abbrev vwCl : List vw_C := [(RX0, TX0, 2), (RX1, TX1, 2), (RX5, TX5, 2), (RX6, TX6, 6), (RX7, TX7, 9)]
end
section
/-! the library of this claim: the state of the class and of the reference, static tables, contracts' forms, calls -/
-- what the static arrays hold
def kW (j : Nat) : Int64 := match j with
  | 0 => 6148914691236517205
  | 1 => 3689348814741910323
  | 2 => 1085102592571150095
  | 3 => 71777214294589695
  | 4 => 281470681808895
  | _ => 4294967295
def kT0 : List Int32 := [63, 31, 47, 15, 55, 23, 39, 7, 59, 27, 43, 11, 51, 19, 35, 3, 61, 29, 45, 13, 53, 21, 37, 5, 57, 25, 41, 9, 49, 17, 33, 1, 62, 30, 46, 14, 54, 22, 38, 6, 58, 26, 42, 10, 50, 18, 34, 2, 60, 28, 44, 12, 52, 20, 36, 4, 56, 24, 40, 8, 48, 16, 32, 0]
def kT1 : List Int32 := [63, 31, 47, 55, 59, 61, 62, 15, 23, 39, 27, 43, 51, 29, 45, 53, 57, 30, 46, 54, 58, 60, 7, 11, 19, 35, 13, 21, 37, 25, 41, 49, 14, 22, 38, 26, 42, 50, 28, 44, 52, 56, 3, 5, 9, 17, 33, 6, 10, 18, 34, 12, 20, 36, 24, 40, 48, 1, 2, 4, 8, 16, 32, 0]
def kT2 : List Int32 := [63, 31, 47, 55, 59, 61, 62, 15, 23, 27, 29, 30, 39, 43, 45, 46, 51, 53, 54, 57, 58, 60, 7, 11, 13, 14, 19, 21, 22, 25, 26, 28, 35, 37, 38, 41, 42, 44, 49, 50, 52, 56, 3, 5, 6, 9, 10, 12, 17, 18, 20, 24, 33, 34, 36, 40, 48, 1, 2, 4, 8, 16, 32, 0]
def kT (k j : Nat) : Int32 := match k with
  | 0 => kT0.getD j 0
  | 1 => kT1.getD j 0
  | _ => kT2.getD j 0
/-- the static arrays, at addresses outside A -/
def tW (tw : Nat) (tt : Nat → Nat) (A : Nat → Prop) (U : State) (H : Heap) : Prop :=
  va_Z "BooleanRing$Poly" "WITHOUT" "[J" (.ref tw) A U H ∧ va_T .long tw 6 (fun j => .long (kW j)) A U H ∧ va_Z "BooleanRing$Orders" "BY_LEX" "[I" (.ref (tt 0)) A U H ∧ va_Z "BooleanRing$Orders" "BY_GRADED" "[I" (.ref (tt 1)) A U H ∧ va_Z "BooleanRing$Orders" "BY_REVERSE" "[I" (.ref (tt 2)) A U H ∧ ∀ k : Nat, va_T .int (tt k) 64 (fun j => .int (kT k j)) A U H
theorem tW.moved {tw : Nat} {tt : Nat → Nat} {A : Nat → Prop} {u U : State} {H : Heap} (hvm : u.vm.Alike U.vm) (h : tW tw tt A u H) : tW tw tt A U H :=
  ⟨h.1.moved hvm, h.2.1.moved hvm, h.2.2.1.moved hvm, h.2.2.2.1.moved hvm, h.2.2.2.2.1.moved hvm, fun k => (h.2.2.2.2.2 k).moved hvm⟩
theorem tW.kept {tw : Nat} {tt : Nat → Nat} {A : Nat → Prop} {U : State} {H H1 : Heap} (h : tW tw tt A U H) (hq : ∀ a : Nat, a < H.size → ¬ A a → H1[a]? = H[a]?) : tW tw tt A U H1 :=
  ⟨h.1.kept hq, h.2.1.kept hq, h.2.2.1.kept hq, h.2.2.2.1.kept hq, h.2.2.2.2.1.kept hq, fun k => (h.2.2.2.2.2 k).kept hq⟩
theorem tW.narrow {tw : Nat} {tt : Nat → Nat} {A B : Nat → Prop} {U : State} {H : Heap} (h : tW tw tt A U H) (hAB : ∀ q, B q → A q) : tW tw tt B U H :=
  ⟨h.1.narrow hAB, h.2.1.narrow hAB, h.2.2.1.narrow hAB, h.2.2.2.1.narrow hAB, h.2.2.2.2.1.narrow hAB, fun k => (h.2.2.2.2.2 k).narrow hAB⟩
-- the class's state: n, kept, count, length; registers, history, found; leading, text
abbrev XS : Type := Int32 × Int32 × Int32 × Int32 × (Nat → Int64) × (Nat → Int64) × (Nat → Int64) × (Nat → Int32) × (Nat → Int32)
abbrev x_n (v : XS) : Int32 := v.1
abbrev x_kept (v : XS) : Int32 := v.2.1
abbrev x_count (v : XS) : Int32 := v.2.2.1
abbrev x_len (v : XS) : Int32 := v.2.2.2.1
abbrev x_regs (v : XS) : Nat → Int64 := v.2.2.2.2.1
abbrev x_hist (v : XS) : Nat → Int64 := v.2.2.2.2.2.1
abbrev x_found (v : XS) : Nat → Int64 := v.2.2.2.2.2.2.1
abbrev x_lead (v : XS) : Nat → Int32 := v.2.2.2.2.2.2.2.1
abbrev x_text (v : XS) : Nat → Int32 := v.2.2.2.2.2.2.2.2
abbrev xs_n (v : XS) (x : Int32) : XS := (x, v.2)
abbrev xs_kept (v : XS) (x : Int32) : XS := (v.1, x, v.2.2)
abbrev xs_count (v : XS) (x : Int32) : XS := (v.1, v.2.1, x, v.2.2.2)
abbrev xs_len (v : XS) (x : Int32) : XS := (v.1, v.2.1, v.2.2.1, x, v.2.2.2.2)
abbrev xs_regs (v : XS) (x : Nat → Int64) : XS := (v.1, v.2.1, v.2.2.1, v.2.2.2.1, x, v.2.2.2.2.2)
abbrev xs_hist (v : XS) (x : Nat → Int64) : XS := (v.1, v.2.1, v.2.2.1, v.2.2.2.1, v.2.2.2.2.1, x, v.2.2.2.2.2.2)
abbrev xs_found (v : XS) (x : Nat → Int64) : XS := (v.1, v.2.1, v.2.2.1, v.2.2.2.1, v.2.2.2.2.1, v.2.2.2.2.2.1, x, v.2.2.2.2.2.2.2)
abbrev xs_lead (v : XS) (x : Nat → Int32) : XS := (v.1, v.2.1, v.2.2.1, v.2.2.2.1, v.2.2.2.2.1, v.2.2.2.2.2.1, v.2.2.2.2.2.2.1, x, v.2.2.2.2.2.2.2.2)
abbrev xs_text (v : XS) (x : Nat → Int32) : XS := (v.1, v.2.1, v.2.2.1, v.2.2.2.1, v.2.2.2.2.1, v.2.2.2.2.2.1, v.2.2.2.2.2.2.1, v.2.2.2.2.2.2.2.1, x)
-- the reference's state: n, states, typed, founds; p, was, found, by; text
abbrev YS : Type := Int32 × Int32 × Int32 × Int32 × (Nat → Int64) × (Nat → Int64) × (Nat → Int64) × (Nat → Int64) × (Nat → Int32)
abbrev y_n (v : YS) : Int32 := v.1
abbrev y_states (v : YS) : Int32 := v.2.1
abbrev y_typed (v : YS) : Int32 := v.2.2.1
abbrev y_founds (v : YS) : Int32 := v.2.2.2.1
abbrev y_p (v : YS) : Nat → Int64 := v.2.2.2.2.1
abbrev y_was (v : YS) : Nat → Int64 := v.2.2.2.2.2.1
abbrev y_found (v : YS) : Nat → Int64 := v.2.2.2.2.2.2.1
abbrev y_by (v : YS) : Nat → Int64 := v.2.2.2.2.2.2.2.1
abbrev y_text (v : YS) : Nat → Int32 := v.2.2.2.2.2.2.2.2
abbrev ys_n (v : YS) (x : Int32) : YS := (x, v.2)
abbrev ys_states (v : YS) (x : Int32) : YS := (v.1, x, v.2.2)
abbrev ys_typed (v : YS) (x : Int32) : YS := (v.1, v.2.1, x, v.2.2.2)
abbrev ys_founds (v : YS) (x : Int32) : YS := (v.1, v.2.1, v.2.2.1, x, v.2.2.2.2)
abbrev ys_p (v : YS) (x : Nat → Int64) : YS := (v.1, v.2.1, v.2.2.1, v.2.2.2.1, x, v.2.2.2.2.2)
abbrev ys_was (v : YS) (x : Nat → Int64) : YS := (v.1, v.2.1, v.2.2.1, v.2.2.2.1, v.2.2.2.2.1, x, v.2.2.2.2.2.2)
abbrev ys_found (v : YS) (x : Nat → Int64) : YS := (v.1, v.2.1, v.2.2.1, v.2.2.2.1, v.2.2.2.2.1, v.2.2.2.2.2.1, x, v.2.2.2.2.2.2.2)
abbrev ys_by (v : YS) (x : Nat → Int64) : YS := (v.1, v.2.1, v.2.2.1, v.2.2.2.1, v.2.2.2.2.1, v.2.2.2.2.2.1, v.2.2.2.2.2.2.1, x, v.2.2.2.2.2.2.2.2)
abbrev ys_text (v : YS) (x : Nat → Int32) : YS := (v.1, v.2.1, v.2.2.1, v.2.2.2.1, v.2.2.2.2.1, v.2.2.2.2.2.1, v.2.2.2.2.2.2.1, v.2.2.2.2.2.2.2.1, x)
-- their cells: X at the addresses a 0 .. a 8, Y at b 0 .. b 5; ca 0, 1, 2: the classes of long, int, char arrays
def XW (ca : Nat → ClassId) (a : Nat → Nat) (v : XS) : va_W :=
  [(a 0, .inr (3, [.ref (a 1), .ref (a 2), .ref (a 3), .ref (a 5), .ref (a 7), .int (x_n v)])), (a 1, .inl (ca 0, 8, .inr (.inl (x_regs v)))), (a 2, .inl (ca 1, 8, .inl (x_lead v))), (a 3, .inr (1, [.ref (a 4), .int (x_kept v)])), (a 4, .inl (ca 0, 48, .inr (.inl (x_hist v)))), (a 5, .inr (0, [.ref (a 6), .int (x_count v)])), (a 6, .inl (ca 0, 504, .inr (.inl (x_found v)))), (a 7, .inr (2, [.ref (a 8), .int (x_len v)])), (a 8, .inl (ca 2, 60, .inl (x_text v)))]
def YW (ca : Nat → ClassId) (b : Nat → Nat) (v : YS) : va_W :=
  [(b 0, .inr (4, [.int (y_n v), .ref (b 1), .ref (b 2), .int (y_states v), .ref (b 3), .int (y_typed v), .ref (b 4), .int (y_founds v), .ref (b 5)])), (b 1, .inl (ca 0, 8, .inr (.inl (y_p v)))), (b 2, .inl (ca 0, 48, .inr (.inl (y_was v)))), (b 3, .inl (ca 2, 60, .inl (y_text v))), (b 4, .inl (ca 0, 1024, .inr (.inl (y_found v)))), (b 5, .inl (ca 0, 8, .inr (.inl (y_by v))))]
def tys3 (ca : Nat → ClassId) : List (ClassId × FieldType) := [(ca 0, .long), (ca 1, .int), (ca 2, .char)]
def ap_ok (n : Nat) (a : Nat → Nat) : Prop := ∀ i j, i < n → j < n → a i = a j → i = j
def ad_of (n : Nat) (a : Nat → Nat) : Nat → Prop := fun q => ∃ i, i < n ∧ q = a i
theorem ap_D {n : Nat} {a : Nat → Nat} (h : ap_ok n a) {ws : va_W} (hn : ws.length = n) (hw : ∀ k q, ws[k]? = some q → q.1 = a k) : va_D (ad_of n a) ws := by
  have lt : ∀ (k : Nat) (q : Nat × va_E), ws[k]? = some q → k < n := fun k q hk => by
    rw [← hn]; exact (List.getElem?_eq_some_iff.mp hk).1
  refine ⟨fun i j p q hi hj e => h i j (lt i p hi) (lt j q hj) ?_, fun k q hk => ⟨k, lt k q hk, hw k q hk⟩⟩
  rw [← hw i p hi, ← hw j q hj, e]
theorem XW_D {ca : Nat → ClassId} {a : Nat → Nat} (h : ap_ok 9 a) (v : XS) : va_D (ad_of 9 a) (XW ca a v) := by
  refine ap_D h rfl (fun k q hk => ?_)
  match k, hk with
  | 0, hk => cases hk; rfl
  | 1, hk => cases hk; rfl
  | 2, hk => cases hk; rfl
  | 3, hk => cases hk; rfl
  | 4, hk => cases hk; rfl
  | 5, hk => cases hk; rfl
  | 6, hk => cases hk; rfl
  | 7, hk => cases hk; rfl
  | 8, hk => cases hk; rfl
  | k + 9, hk => simp [XW] at hk
theorem YW_D {ca : Nat → ClassId} {b : Nat → Nat} (h : ap_ok 6 b) (v : YS) : va_D (ad_of 6 b) (YW ca b v) := by
  refine ap_D h rfl (fun k q hk => ?_)
  match k, hk with
  | 0, hk => cases hk; rfl
  | 1, hk => cases hk; rfl
  | 2, hk => cases hk; rfl
  | 3, hk => cases hk; rfl
  | 4, hk => cases hk; rfl
  | 5, hk => cases hk; rfl
  | k + 6, hk => simp [YW] at hk
-- reads and writes of rows, in the pure functions
def rd {α : Type} (f : Nat → α) (n : Nat) (i : Int32) : Option α := if i < 0 ∨ n ≤ i.toNatClampNeg then none else some (f i.toNatClampNeg)
theorem rd_some {α : Type} {f : Nat → α} {n : Nat} {i : Int32} {x : α} (h : rd f n i = some x) : vp_in i n ∧ x = f i.toNatClampNeg := by
  unfold rd at h
  split at h
  · cases h
  · rename_i hc
    exact ⟨hc, (Option.some.inj h).symm⟩
def wrL (f : Nat → Int64) (n : Nat) (i : Int32) (x : Int64) : Option (Nat → Int64) := if i < 0 ∨ n ≤ i.toNatClampNeg then none else some (vp_updL f i.toNatClampNeg x)
theorem wrL_some {f g : Nat → Int64} {n : Nat} {i : Int32} {x : Int64} (h : wrL f n i x = some g) : vp_in i n ∧ g = vp_updL f i.toNatClampNeg x := by
  unfold wrL at h
  split at h
  · cases h
  · rename_i hc
    exact ⟨hc, (Option.some.inj h).symm⟩
def wrI (f : Nat → Int32) (n : Nat) (i : Int32) (x : Int32) : Option (Nat → Int32) := if i < 0 ∨ n ≤ i.toNatClampNeg then none else some (upd f i.toNatClampNeg x)
theorem wrI_some {f g : Nat → Int32} {n : Nat} {i x : Int32} (h : wrI f n i x = some g) : vp_in i n ∧ g = upd f i.toNatClampNeg x := by
  unfold wrI at h
  split at h
  · cases h
  · rename_i hc
    exact ⟨hc, (Option.some.inj h).symm⟩
/-- a copy between rows, where it is inside both -/
def cpL (f g : Nat → Int64) (n0 n1 : Nat) (sp dp n : Int32) : Option (Nat → Int64) := if sp < 0 ∨ dp < 0 ∨ n < 0 ∨ n0 < sp.toNatClampNeg + n.toNatClampNeg ∨ n1 < dp.toNatClampNeg + n.toNatClampNeg then none else some (va_cpy f g sp.toNatClampNeg dp.toNatClampNeg n.toNatClampNeg)
theorem cpL_some {f g k : Nat → Int64} {n0 n1 : Nat} {sp dp n : Int32} (h : cpL f g n0 n1 sp dp n = some k) : ¬ sp < 0 ∧ ¬ dp < 0 ∧ ¬ n < 0 ∧ sp.toNatClampNeg + n.toNatClampNeg ≤ n0 ∧ dp.toNatClampNeg + n.toNatClampNeg ≤ n1 ∧ k = va_cpy f g sp.toNatClampNeg dp.toNatClampNeg n.toNatClampNeg := by
  unfold cpL at h
  split at h
  · cases h
  · rename_i hc
    refine ⟨fun q => hc (Or.inl q), fun q => hc (Or.inr (Or.inl q)), fun q => hc (Or.inr (Or.inr (Or.inl q))), Nat.not_lt.mp fun q => hc (Or.inr (Or.inr (Or.inr (Or.inl q)))), Nat.not_lt.mp fun q => hc (Or.inr (Or.inr (Or.inr (Or.inr q)))), (Option.some.inj h).symm⟩
/-- a boolean's int -/
def zb (v : Int32) : Option Int32 := if v = 0 ∨ v = 1 then some v else none
theorem zb_some {v w : Int32} (h : zb v = some w) : w = v ∧ narrow .boolean (.int v) = .int v := by
  unfold zb at h
  split at h
  · rename_i hc
    refine ⟨(Option.some.inj h).symm, ?_⟩
    rcases hc with rfl | rfl <;> rfl
  · cases h
/-- the loops' fuel -/
def FU : Nat := 3000
-- a method's surroundings
def Cx (p : Program) (s : State) (m : MethodId) (args : Array Value) (meth : Method) (c : Code) (cc : ByteArray) (ret : Option FieldType) (nL : Nat) (ws : List Cond) (own : String) : Prop :=
  p.tables.exec = Jvm.exec ∧ c.code = cc ∧ meth.sig.returnType = ret ∧ c.maxLocals = nL ∧ s.vm.findClass own = some m.cls ∧ (∀ w ∈ ws, w.before args s = true) ∧ meth.locks = false
/-- a method that leaves the heap as it is -/
def Hp (l : Launch) (y : MethodName) (ws : List Cond) (rm : Room) (As : List Value) (B : State → Prop) (r : Option Value) : Prop :=
  Met l y ws rm (va_Pc As B) (fun _ st oc t => oc = .returned r ∧ t.heap = st.heap) 0 0 (fun _ => False)
/-- a method that changes cells of its world alone -/
def Mp (l : Launch) (y : MethodName) (ws : List Cond) (rm : Room) (As : List Value) (B : State → Prop) (r : Option Value) (P : Heap → Prop) (A : Nat → Prop) : Prop :=
  Met l y ws rm (va_Pc As B) (fun _ st oc t => oc = .returned r ∧ P t.heap ∧ va_F A st t) 0 0 A
def Mv (B : State → Prop) : Prop := ∀ u U : State, u.vm.Alike U.vm → U.heap = u.heap → B u → B U
abbrev HQ (r : Option Value) : Array Value → State → Outcome → State → Prop := fun _ st oc t => oc = .returned r ∧ t.heap = st.heap
abbrev PQ (r : Option Value) (P : Heap → Prop) (A : Nat → Prop) : Array Value → State → Outcome → State → Prop := fun _ st oc t => oc = .returned r ∧ P t.heap ∧ va_F A st t
theorem Hp.of {l : Launch} {y : MethodName} {ws ws' : List Cond} {rm : Room} {As : List Value} {B : State → Prop} {r : Option Value} {cc : ByteArray} {nL : Nat} {ret : Option FieldType} {own : String} (hy : plainName y.cls = true) (ho : y.cls = own) (hw : ws = Cond.code y cc nL ret :: ws') (hn : (lg_sl As).length ≤ nL)
    (body : ∀ (p : Program) (e : Env) (s : State) (m : MethodId) (below : List Frame) (meth : Method) (c : Code) (ls : Array Slot), Cx p s m As.toArray meth c cc ret nL ws own → B s → lv_has ls nL (lv_args 0 As) → W p l e rm s m As.toArray below meth c s.heap [] 0 0 (MQ below (HQ r) As.toArray s 0 0 (fun _ => False)) (F0 m 0 ls [])) : Hp l y ws rm As B r := by
  subst ho
  refine Met.ofW (cc := cc) (maxL := nL) (ret := ret) hy hw ?_
  intro p e s m args below meth c s₁ Bd hml hv
  obtain ⟨rfl, hB⟩ := hv
  have hl := lv_entry As hn
  rw [lg_entry_eq]
  exact body p e s m below meth c _ ⟨Bd.exec, Bd.bytes, Bd.returns, hml, findClass_of_methodNamed Bd.named, atoms_spec (ws := ws) Bd.pre, Bd.notSynchronized⟩ hB hl
theorem Mp.of {l : Launch} {y : MethodName} {ws ws' : List Cond} {rm : Room} {As : List Value} {B : State → Prop} {r : Option Value} {P : Heap → Prop} {A : Nat → Prop} {cc : ByteArray} {nL : Nat} {ret : Option FieldType} {own : String} (hy : plainName y.cls = true) (ho : y.cls = own) (hw : ws = Cond.code y cc nL ret :: ws') (hn : (lg_sl As).length ≤ nL)
    (body : ∀ (p : Program) (e : Env) (s : State) (m : MethodId) (below : List Frame) (meth : Method) (c : Code) (ls : Array Slot), Cx p s m As.toArray meth c cc ret nL ws own → B s → lv_has ls nL (lv_args 0 As) → W p l e rm s m As.toArray below meth c s.heap [] 0 0 (MQ below (PQ r P A) As.toArray s 0 0 A) (F0 m 0 ls [])) : Mp l y ws rm As B r P A := by
  subst ho
  refine Met.ofW (cc := cc) (maxL := nL) (ret := ret) hy hw ?_
  intro p e s m args below meth c s₁ Bd hml hv
  obtain ⟨rfl, hB⟩ := hv
  have hl := lv_entry As hn
  rw [lg_entry_eq]
  exact body p e s m below meth c _ ⟨Bd.exec, Bd.bytes, Bd.returns, hml, findClass_of_methodNamed Bd.named, atoms_spec (ws := ws) Bd.pre, Bd.notSynchronized⟩ hB hl
-- the worlds: GP the static tables alone, GW with cells
def GP (tw : Nat) (tt : Nat → Nat) (U : State) : Prop := tW tw tt (fun _ => False) U U.heap
def GW (D : va_G) (ca : Nat → ClassId) (tw : Nat) (tt : Nat → Nat) (A : Nat → Prop) (ws : va_W) (U : State) : Prop := va_P D vwCl ws U.heap ∧ va_K D vwCl (tys3 ca) U ∧ tW tw tt A U U.heap
theorem GP.mv {tw : Nat} {tt : Nat → Nat} : Mv (GP tw tt) := fun u U h e b => by
  unfold GP at b ⊢
  rw [e]
  exact b.moved h
theorem GW.mv {D : va_G} {ca : Nat → ClassId} {tw : Nat} {tt : Nat → Nat} {A : Nat → Prop} {ws : va_W} : Mv (GW D ca tw tt A ws) := fun u U h e b => by
  unfold GW at b ⊢
  rw [e]
  exact ⟨b.1, b.2.1.moved h, b.2.2.moved h⟩
theorem Mv.blind {B : State → Prop} (h : Mv B) {As : List Value} : FrameBlind (va_Pc As B) := fun a U g mk q => ⟨q.1, h U (U.calling g mk a) (Vm.Alike.refl U.vm) rfl q.2⟩
section CALLS
variable {p : Program} {l : Launch} {e : Env} {R : Room} {s : State} {m : MethodId} {args : Array Value} {below : List Frame} {meth : Method} {c : Code} {H : Heap} {locs : List Loc} {cells slots : Nat} {Q : State → Prop}
variable {y : MethodName} {bytes cc : ByteArray} {maxL nL n index : Nat} {ret : Option FieldType} {ws : List Cond} {rm : Room} {Ts : List Cond} {own C : String} {b : Addr} {As rest : List Value} {B : State → Prop} {r : Option Value} {P : Heap → Prop} {A : Nat → Prop} {pc : Nat} {ls : Array Slot} {st0 : List Value}
theorem hp_go (hr : va_Run p l e R s m args below meth c H locs cells slots 0 0 (F0 m pc ls st0) rest (fun st oc t => oc = .returned r ∧ t.heap = st.heap) (fun _ => False))
    (kk : W p l e R s m args below meth c H locs cells slots Q (F0 m (pc + 3) ls (r.toList ++ rest))) : W p l e R s m args below meth c H locs cells slots Q (F0 m pc ls st0) := by
  intro T hT X
  obtain ⟨v, st₀, t, T', L, h0, X', hL, e1, e2, ⟨hv, hh⟩, st⟩ := hr T hT X
  cases hv
  obtain ⟨t2, a1, b1⟩ := kk T' (by rw [e1, hh, h0]) (Stand.forget X' (fun q h => (hL q h).elim))
  exact ⟨t2, st t2 a1, b1⟩
theorem mp_go (hr : va_Run p l e R s m args below meth c H locs cells slots 0 0 (F0 m pc ls st0) rest (fun st oc t => oc = .returned r ∧ P t.heap ∧ va_F A st t) A) (hS : va_S A s.heap H locs)
    (kk : ∀ (H1 : Heap) (locs1 : List Loc), P H1 → va_S A s.heap H1 locs1 → W p l e R s m args below meth c H1 locs1 cells slots Q (F0 m (pc + 3) ls (r.toList ++ rest))) : W p l e R s m args below meth c H locs cells slots Q (F0 m pc ls st0) := by
  intro T hT X
  obtain ⟨v, st₀, t, T', L, h0, X', hL, e1, e2, ⟨hv, hp, hz, hk⟩, st⟩ := hr T hT X
  cases hv
  rw [h0] at hz hk
  obtain ⟨t2, a1, b1⟩ := kk T'.heap (locs ++ L) (by rw [e1]; exact hp) ⟨Nat.le_trans hS.1 (by rw [e1]; exact hz), fun q h1 h2 => by rw [e1, hk q (Nat.lt_of_lt_of_le h1 hS.1) h2]; exact hS.2.1 q h1 h2, fun q hq => by
      rcases List.mem_append.mp hq with h | h
      · exact hS.2.2 q h
      · exact hL q h⟩ T' rfl X'
  exact ⟨t2, st t2 a1, b1⟩
/-- static, the heap stays -/
theorem hp_S (S : CallFix p m c cc nL s args Ts own) (hM : Hp l y ws rm As B r) (cw : CallB R s args own index y bytes maxL ret ws rm 0 0 n ∧ (Cond.static y).before args s = true) (hmv : Mv B) (hB : ∀ U : State, U.heap = H → s.vm.Alike U.vm → B U)
    (hn : As.length = n) (hsize : ls.size = nL) (hstack : st0 = As.reverse ++ rest) (hW : (rest.map fun v => v.category).sum ≤ 8) (hdg : decode cc pc = .ok (.invokestatic index, 3)) (hf : cells ≤ R.cells ∧ slots ≤ R.slots)
    (kk : W p l e R s m args below meth c H locs cells slots Q (F0 m (pc + 3) ls (r.toList ++ rest))) : W p l e R s m args below meth c H locs cells slots Q (F0 m pc ls st0) :=
  hp_go (va_runS S hM cw ⟨hmv.blind, fun U hU hW => ⟨rfl, hB U hU hW.alike⟩⟩ rfl hn hsize hstack (lv_room hW) hdg hf) kk
theorem hp_V (S : CallFix p m c cc nL s args Ts own) (hM : Hp l y ws rm (.ref b :: As) B r) (cw : CallW R s args own C index y bytes maxL ret ws rm 0 0 n) (hrv : ∃ cellB : Cell, H[b]? = some cellB ∧ cellB.vm.isStatics = false ∧ s.vm.findClass C = some cellB.cls) (hmv : Mv B) (hB : ∀ U : State, U.heap = H → s.vm.Alike U.vm → B U)
    (hn : As.length = n) (hsize : ls.size = nL) (hstack : st0 = As.reverse ++ .ref b :: rest) (hW : (rest.map fun v => v.category).sum ≤ 8) (hdg : decode cc pc = .ok (.invokevirtual index, 3)) (hf : cells ≤ R.cells ∧ slots ≤ R.slots)
    (kk : W p l e R s m args below meth c H locs cells slots Q (F0 m (pc + 3) ls (r.toList ++ rest))) : W p l e R s m args below meth c H locs cells slots Q (F0 m pc ls st0) :=
  hp_go (va_runV S hM cw ⟨hmv.blind, hrv, fun U hU hW => ⟨rfl, hB U hU hW.alike⟩⟩ rfl hn hsize hstack (lv_room hW) hdg hf) kk
/-- the callee changes its world -/
theorem mp_S (S : CallFix p m c cc nL s args Ts own) (hM : Mp l y ws rm As B r P A) (cw : CallB R s args own index y bytes maxL ret ws rm 0 0 n ∧ (Cond.static y).before args s = true) (hmv : Mv B) (hB : ∀ U : State, U.heap = H → s.vm.Alike U.vm → B U) (hS : va_S A s.heap H locs)
    (hn : As.length = n) (hsize : ls.size = nL) (hstack : st0 = As.reverse ++ rest) (hW : (rest.map fun v => v.category).sum ≤ 8) (hdg : decode cc pc = .ok (.invokestatic index, 3)) (hf : cells ≤ R.cells ∧ slots ≤ R.slots)
    (kk : ∀ (H1 : Heap) (locs1 : List Loc), P H1 → va_S A s.heap H1 locs1 → W p l e R s m args below meth c H1 locs1 cells slots Q (F0 m (pc + 3) ls (r.toList ++ rest))) : W p l e R s m args below meth c H locs cells slots Q (F0 m pc ls st0) :=
  mp_go (va_runS S hM cw ⟨hmv.blind, fun U hU hW => ⟨rfl, hB U hU hW.alike⟩⟩ rfl hn hsize hstack (lv_room hW) hdg hf) hS kk
theorem mp_V (S : CallFix p m c cc nL s args Ts own) (hM : Mp l y ws rm (.ref b :: As) B r P A) (cw : CallW R s args own C index y bytes maxL ret ws rm 0 0 n) (hrv : ∃ cellB : Cell, H[b]? = some cellB ∧ cellB.vm.isStatics = false ∧ s.vm.findClass C = some cellB.cls) (hmv : Mv B) (hB : ∀ U : State, U.heap = H → s.vm.Alike U.vm → B U) (hS : va_S A s.heap H locs)
    (hn : As.length = n) (hsize : ls.size = nL) (hstack : st0 = As.reverse ++ .ref b :: rest) (hW : (rest.map fun v => v.category).sum ≤ 8) (hdg : decode cc pc = .ok (.invokevirtual index, 3)) (hf : cells ≤ R.cells ∧ slots ≤ R.slots)
    (kk : ∀ (H1 : Heap) (locs1 : List Loc), P H1 → va_S A s.heap H1 locs1 → W p l e R s m args below meth c H1 locs1 cells slots Q (F0 m (pc + 3) ls (r.toList ++ rest))) : W p l e R s m args below meth c H locs cells slots Q (F0 m pc ls st0) :=
  mp_go (va_runV S hM cw ⟨hmv.blind, hrv, fun U hU hW => ⟨rfl, hB U hU hW.alike⟩⟩ rfl hn hsize hstack (lv_room hW) hdg hf) hS kk
/-- two longs compared, and the branch behind it -/
theorem wl_eq (hx : p.tables.exec = Jvm.exec) (hb : c.code = cc) {x y : Int64} {off : Int} {tgt : Nat} (hd1 : decode cc pc = .ok (.lcmp, 1)) (hd2 : decode cc (pc + 1) = .ok (.ifCond .eq off, 3)) (ht : ((pc + 1 : Nat) : Int) + off = (tgt : Int))
    (kt : x = y → W p l e R s m args below meth c H locs cells slots Q (F0 m tgt ls rest)) (kf : ¬ x = y → W p l e R s m args below meth c H locs cells slots Q (F0 m (pc + 4) ls rest)) : W p l e R s m args below meth c H locs cells slots Q (F0 m pc ls (.long y :: .long x :: rest)) :=
  W.lcmp hx hb hd1 (lv_if_eq hx hb hd2 ht (fun h => kt ((lg_cmp_eq x y).mp h)) (fun h => kf (fun h2 => h ((lg_cmp_eq x y).mpr h2))))
theorem wl_ne (hx : p.tables.exec = Jvm.exec) (hb : c.code = cc) {x y : Int64} {off : Int} {tgt : Nat} (hd1 : decode cc pc = .ok (.lcmp, 1)) (hd2 : decode cc (pc + 1) = .ok (.ifCond .ne off, 3)) (ht : ((pc + 1 : Nat) : Int) + off = (tgt : Int))
    (kt : ¬ x = y → W p l e R s m args below meth c H locs cells slots Q (F0 m tgt ls rest)) (kf : x = y → W p l e R s m args below meth c H locs cells slots Q (F0 m (pc + 4) ls rest)) : W p l e R s m args below meth c H locs cells slots Q (F0 m pc ls (.long y :: .long x :: rest)) :=
  W.lcmp hx hb hd1 (lv_if_ne hx hb hd2 ht (fun h => kt (fun h2 => h ((lg_cmp_eq x y).mpr h2))) (fun h => kf ((lg_cmp_eq x y).mp h)))
end CALLS
section ENDS
variable {p : Program} {l : Launch} {e : Env} {R : Room} {s : State} {m : MethodId} {args : Array Value} {below : List Frame} {meth : Method} {c : Code} {H : Heap} {locs : List Loc} {cc : ByteArray} {P : Heap → Prop} {A : Nat → Prop} {pc : Nat} {ls : Array Slot}
theorem hp_iret (hx : p.tables.exec = Jvm.exec) (hb : c.code = cc) (hr : meth.sig.returnType = some .int) (hlocks : meth.locks = false) {v : Int32} (hd : decode cc pc = .ok (.ireturn, 1)) : W p l e R s m args below meth c s.heap [] 0 0 (MQ below (HQ (some (.int v))) args s 0 0 (fun _ => False)) (F0 m pc ls [.int v]) :=
  W.iret hx hb hr (fun t ht _ => ⟨rfl, ht⟩) (fun _ h => by cases h) hd hlocks
theorem hp_zret (hx : p.tables.exec = Jvm.exec) (hb : c.code = cc) (hr : meth.sig.returnType = some .boolean) (hlocks : meth.locks = false) {v : Int32} (hn : narrow .boolean (.int v) = .int v) (hd : decode cc pc = .ok (.ireturn, 1)) : W p l e R s m args below meth c s.heap [] 0 0 (MQ below (HQ (some (.int v))) args s 0 0 (fun _ => False)) (F0 m pc ls [.int v]) :=
  W.zret hx hb hr hn (fun t ht _ => ⟨rfl, ht⟩) (fun _ h => by cases h) hd hlocks
theorem hp_lret (hx : p.tables.exec = Jvm.exec) (hb : c.code = cc) (hr : meth.sig.returnType = some .long) (hlocks : meth.locks = false) {v : Int64} (hd : decode cc pc = .ok (.lreturn, 1)) : W p l e R s m args below meth c s.heap [] 0 0 (MQ below (HQ (some (.long v))) args s 0 0 (fun _ => False)) (F0 m pc ls [.long v]) :=
  W.lret hx hb hr (fun t ht _ => ⟨rfl, ht⟩) (fun _ h => by cases h) hd hlocks
theorem hp_aret (hx : p.tables.exec = Jvm.exec) (hb : c.code = cc) {ty : FieldType} (hr : meth.sig.returnType = some (.array ty)) (hlocks : meth.locks = false) {v : Nat} (hd : decode cc pc = .ok (.areturn, 1)) : W p l e R s m args below meth c s.heap [] 0 0 (MQ below (HQ (some (.ref v))) args s 0 0 (fun _ => False)) (F0 m pc ls [.ref v]) :=
  W.aret hx hb hr (Or.inr ⟨_, rfl⟩) (Or.inr ⟨_, rfl⟩) (fun t ht _ => ⟨rfl, ht⟩) (fun _ h => by cases h) hd hlocks
theorem mp_iret (hx : p.tables.exec = Jvm.exec) (hb : c.code = cc) (hr : meth.sig.returnType = some .int) (hlocks : meth.locks = false) {v : Int32} (hP : P H) (hS : va_S A s.heap H locs) (hd : decode cc pc = .ok (.ireturn, 1)) : W p l e R s m args below meth c H locs 0 0 (MQ below (PQ (some (.int v)) P A) args s 0 0 A) (F0 m pc ls [.int v]) :=
  W.iret hx hb hr (fun t ht _ => ⟨rfl, by rw [ht]; exact hP, hS.F ht⟩) hS.2.2 hd hlocks
theorem mp_zret (hx : p.tables.exec = Jvm.exec) (hb : c.code = cc) (hr : meth.sig.returnType = some .boolean) (hlocks : meth.locks = false) {v : Int32} (hn : narrow .boolean (.int v) = .int v) (hP : P H) (hS : va_S A s.heap H locs) (hd : decode cc pc = .ok (.ireturn, 1)) : W p l e R s m args below meth c H locs 0 0 (MQ below (PQ (some (.int v)) P A) args s 0 0 A) (F0 m pc ls [.int v]) :=
  W.zret hx hb hr hn (fun t ht _ => ⟨rfl, by rw [ht]; exact hP, hS.F ht⟩) hS.2.2 hd hlocks
theorem mp_vret (hx : p.tables.exec = Jvm.exec) (hb : c.code = cc) (hr : meth.sig.returnType = none) (hlocks : meth.locks = false) (hP : P H) (hS : va_S A s.heap H locs) (hd : decode cc pc = .ok (.return_, 1)) : W p l e R s m args below meth c H locs 0 0 (MQ below (PQ none P A) args s 0 0 A) (F0 m pc ls []) :=
  W.vret hx hb hr (fun t ht _ => ⟨rfl, by rw [ht]; exact hP, hS.F ht⟩) hS.2.2 hd hlocks
end ENDS
/-- the static tables for a callee that has no cells -/
theorem GP.from {tw : Nat} {tt : Nat → Nat} {A : Nat → Prop} {s : State} {H : Heap} {locs : List Loc} (hT : tW tw tt A s s.heap) (hS : va_S A s.heap H locs) : ∀ U : State, U.heap = H → s.vm.Alike U.vm → GP tw tt U := fun U hU hv => by
  unfold GP
  rw [hU]
  exact ((hT.kept hS.2.1).narrow (fun _ h => h.elim)).moved hv
theorem GW.from {D : va_G} {ca : Nat → ClassId} {tw : Nat} {tt : Nat → Nat} {A : Nat → Prop} {s : State} {H : Heap} {locs : List Loc} {ws : va_W} (hP : va_P D vwCl ws H) (hK : va_K D vwCl (tys3 ca) s) (hT : tW tw tt A s s.heap) (hS : va_S A s.heap H locs) : ∀ U : State, U.heap = H → s.vm.Alike U.vm → GW D ca tw tt A ws U := fun U hU hv => by
  unfold GW
  rw [hU]
  exact ⟨hP, hK.moved hv, (hT.kept hS.2.1).moved hv⟩
theorem ite_t {c : Prop} [Decidable c] {α : Type} {a b q : α} (h : (if c then a else b) = q) (hc : c) : a = q := by
  rw [if_pos hc] at h
  exact h
theorem ite_f {c : Prop} [Decidable c] {α : Type} {a b q : α} (h : (if c then a else b) = q) (hc : ¬ c) : b = q := by
  rw [if_neg hc] at h
  exact h
abbrev lsh (x : Int64) (y : Int32) : Int64 := x <<< (y.toInt64 &&& 63)
abbrev lsr (x : Int64) (y : Int32) : Int64 := x >>> (y.toInt64 &&& 63)
abbrev lus (x : Int64) (y : Int32) : Int64 := (x.toUInt64 >>> (y.toInt64.toUInt64 &&& Int64.toUInt64 63)).toInt64
abbrev ish (x y : Int32) : Int32 := x <<< (y &&& 31)
abbrev isr (x y : Int32) : Int32 := x >>> (y &&& 31)
abbrev ius (x y : Int32) : Int32 := (x.toUInt32 >>> (y.toUInt32 &&& Int32.toUInt32 31)).toInt32
abbrev tch (x : Int32) : Int32 := (x.toUInt32 % 65536).toInt32
section ROWS
variable {p : Program} {l : Launch} {e : Env} {R : Room} {s : State} {m : MethodId} {args : Array Value} {below : List Frame} {meth : Method} {c : Code} {H : Heap} {locs : List Loc} {cells slots : Nat} {Q : State → Prop}
variable {cc : ByteArray} {pc : Nat} {ls : Array Slot} {rest : List Value} {D : va_G} {cl : List vw_C} {A : Nat → Prop} {a : Nat} {tys : List (ClassId × FieldType)} {ws : va_W} {H0 : Heap}
theorem rd_lald (hx : p.tables.exec = Jvm.exec) (hb : c.code = cc) (hK : va_K D cl tys s) (hP : va_P D cl ws H) (q0 t0 : Nat) {cA : ClassId} {n : Nat} {f : Nat → Int64} {i : Int32} {q : Int64} (er : rd f n i = some q) (ha : ws[q0]? = some (a, .inl (cA, n, .inr (.inl f)))) (ht : tys[t0]? = some (cA, .long)) (hdg : decode cc pc = .ok (.laload, 1))
    (kk : W p l e R s m args below meth c H locs cells slots Q (F0 m (pc + 1) ls (.long q :: rest))) : W p l e R s m args below meth c H locs cells slots Q (F0 m pc ls (.int i :: .ref a :: rest)) := by
  obtain ⟨hin, rfl⟩ := rd_some er
  exact va_lald hx hb hK hP q0 t0 ha ht hin hdg kk
theorem rd_iald (hx : p.tables.exec = Jvm.exec) (hb : c.code = cc) (hK : va_K D cl tys s) (hP : va_P D cl ws H) (q0 t0 : Nat) {cA : ClassId} {n : Nat} {f : Nat → Int32} {i : Int32} {q : Int32} (er : rd f n i = some q) (ha : ws[q0]? = some (a, .inl (cA, n, .inl f))) (ht : tys[t0]? = some (cA, .int)) (hdg : decode cc pc = .ok (.iaload, 1))
    (kk : W p l e R s m args below meth c H locs cells slots Q (F0 m (pc + 1) ls (.int q :: rest))) : W p l e R s m args below meth c H locs cells slots Q (F0 m pc ls (.int i :: .ref a :: rest)) := by
  obtain ⟨hin, rfl⟩ := rd_some er
  exact va_iald hx hb hK hP q0 t0 ha ht hin hdg kk
theorem rd_cald (hx : p.tables.exec = Jvm.exec) (hb : c.code = cc) (hK : va_K D cl tys s) (hP : va_P D cl ws H) (q0 t0 : Nat) {cA : ClassId} {n : Nat} {f : Nat → Int32} {i : Int32} {q : Int32} (er : rd f n i = some q) (ha : ws[q0]? = some (a, .inl (cA, n, .inl f))) (ht : tys[t0]? = some (cA, .char)) (hdg : decode cc pc = .ok (.caload, 1))
    (kk : W p l e R s m args below meth c H locs cells slots Q (F0 m (pc + 1) ls (.int q :: rest))) : W p l e R s m args below meth c H locs cells slots Q (F0 m pc ls (.int i :: .ref a :: rest)) := by
  obtain ⟨hin, rfl⟩ := rd_some er
  exact va_cald hx hb hK hP q0 t0 ha ht hin hdg kk
theorem rd_tl (hx : p.tables.exec = Jvm.exec) (hb : c.code = cc) {t N : Nat} {f : Nat → Int64} {i : Int32} {q : Int64} (er : rd f N i = some q) (hT : va_T .long t N (fun j => .long (f j)) A s s.heap) (hS : va_S A s.heap H locs) (hdg : decode cc pc = .ok (.laload, 1))
    (kk : W p l e R s m args below meth c H locs cells slots Q (F0 m (pc + 1) ls (.long q :: rest))) : W p l e R s m args below meth c H locs cells slots Q (F0 m pc ls (.int i :: .ref t :: rest)) := by
  obtain ⟨hin, rfl⟩ := rd_some er
  exact va_tl hx hb hT hS hin rfl hdg kk
theorem rd_ti (hx : p.tables.exec = Jvm.exec) (hb : c.code = cc) {t N : Nat} {f : Nat → Int32} {i : Int32} {q : Int32} (er : rd f N i = some q) (hT : va_T .int t N (fun j => .int (f j)) A s s.heap) (hS : va_S A s.heap H locs) (hdg : decode cc pc = .ok (.iaload, 1))
    (kk : W p l e R s m args below meth c H locs cells slots Q (F0 m (pc + 1) ls (.int q :: rest))) : W p l e R s m args below meth c H locs cells slots Q (F0 m pc ls (.int i :: .ref t :: rest)) := by
  obtain ⟨hin, rfl⟩ := rd_some er
  exact va_ti hx hb hT hS hin rfl hdg kk
theorem wr_last (hx : p.tables.exec = Jvm.exec) (hb : c.code = cc) (hK : va_K D cl tys s) (hP : va_P D cl ws H) (hD : va_D A ws) (hS : va_S A H0 H locs) (q0 t0 : Nat) {cA : ClassId} {n : Nat} {f g : Nat → Int64} {i : Int32} {x : Int64} (er : wrL f n i x = some g) (ha : ws[q0]? = some (a, .inl (cA, n, .inr (.inl f)))) (ht : tys[t0]? = some (cA, .long)) (hdg : decode cc pc = .ok (.lastore, 1))
    (kk : ∀ (H1 : Heap) (locs1 : List Loc), va_P D cl (ws.set q0 (a, .inl (cA, n, .inr (.inl g)))) H1 → va_S A H0 H1 locs1 → W p l e R s m args below meth c H1 locs1 cells slots Q (F0 m (pc + 1) ls rest)) : W p l e R s m args below meth c H locs cells slots Q (F0 m pc ls (.long x :: .int i :: .ref a :: rest)) := by
  obtain ⟨hin, rfl⟩ := wrL_some er
  exact va_last hx hb hK hP hD hS q0 t0 ha ht hin hdg (fun H1 l1 h1 _ h3 => kk H1 l1 h1 h3)
theorem wr_iast (hx : p.tables.exec = Jvm.exec) (hb : c.code = cc) (hK : va_K D cl tys s) (hP : va_P D cl ws H) (hD : va_D A ws) (hS : va_S A H0 H locs) (q0 t0 : Nat) {cA : ClassId} {n : Nat} {f g : Nat → Int32} {i : Int32} {x : Int32} (er : wrI f n i x = some g) (ha : ws[q0]? = some (a, .inl (cA, n, .inl f))) (ht : tys[t0]? = some (cA, .int)) (hdg : decode cc pc = .ok (.iastore, 1))
    (kk : ∀ (H1 : Heap) (locs1 : List Loc), va_P D cl (ws.set q0 (a, .inl (cA, n, .inl g))) H1 → va_S A H0 H1 locs1 → W p l e R s m args below meth c H1 locs1 cells slots Q (F0 m (pc + 1) ls rest)) : W p l e R s m args below meth c H locs cells slots Q (F0 m pc ls (.int x :: .int i :: .ref a :: rest)) := by
  obtain ⟨hin, rfl⟩ := wrI_some er
  exact va_iast hx hb hK hP hD hS q0 t0 ha ht hin hdg (fun H1 l1 h1 _ h3 => kk H1 l1 h1 h3)
theorem wr_cast (hx : p.tables.exec = Jvm.exec) (hb : c.code = cc) (hK : va_K D cl tys s) (hP : va_P D cl ws H) (hD : va_D A ws) (hS : va_S A H0 H locs) (q0 t0 : Nat) {cA : ClassId} {n : Nat} {f g : Nat → Int32} {i : Int32} {x : Int32} (er : wrI f n i (vp_nar .char x) = some g) (ha : ws[q0]? = some (a, .inl (cA, n, .inl f))) (ht : tys[t0]? = some (cA, .char)) (hdg : decode cc pc = .ok (.castore, 1))
    (kk : ∀ (H1 : Heap) (locs1 : List Loc), va_P D cl (ws.set q0 (a, .inl (cA, n, .inl g))) H1 → va_S A H0 H1 locs1 → W p l e R s m args below meth c H1 locs1 cells slots Q (F0 m (pc + 1) ls rest)) : W p l e R s m args below meth c H locs cells slots Q (F0 m pc ls (.int x :: .int i :: .ref a :: rest)) := by
  obtain ⟨hin, rfl⟩ := wrI_some er
  exact va_cast hx hb hK hP hD hS q0 t0 ha ht hin hdg (fun H1 l1 h1 _ h3 => kk H1 l1 h1 h3)
theorem cp_long (hx : p.tables.exec = Jvm.exec) (hb : c.code = cc) (hml : c.maxLocals = ls.size) {own : String} {index : Nat} (hown : s.vm.findClass own = some m.cls) (hlink : (Cond.methodLink own index arraycopyName).before args s = true) (hnat : (Cond.native arraycopyName).before args s = true) (hstat : (Cond.static arraycopyName).before args s = true) (hini : (Cond.initialized "java/lang/System").before args s = true)
    (hK : va_K D cl tys s) (hP : va_P D cl ws H) (hD : va_D A ws) (hS : va_S A H0 H locs) (q0 q1 t0 : Nat) {a0 : Nat} {cA : ClassId} {n0 n1 : Nat} {f g k : Nat → Int64} {sp dp n : Int32} (er : cpL f g n0 n1 sp dp n = some k) (ha0 : ws[q0]? = some (a0, .inl (cA, n0, .inr (.inl f)))) (ha1 : ws[q1]? = some (a, .inl (cA, n1, .inr (.inl g)))) (ht0 : tys[t0]? = some (cA, .long))
    (hframes : 1 ≤ R.frames) (hlocals : (rest.map fun v => v.category).sum + 18 ≤ R.locals) (hdg : decode cc pc = .ok (.invokestatic index, 3))
    (kk : ∀ (H1 : Heap) (locs1 : List Loc), va_P D cl (ws.set q1 (a, .inl (cA, n1, .inr (.inl k)))) H1 → va_S A H0 H1 locs1 → W p l e R s m args below meth c H1 locs1 cells slots Q (F0 m (pc + 3) ls rest)) : W p l e R s m args below meth c H locs cells slots Q (F0 m pc ls (.int n :: .int dp :: .ref a :: .int sp :: .ref a0 :: rest)) := by
  obtain ⟨h1, h2, h3, h4, h5, rfl⟩ := cpL_some er
  exact va_copyl hx hb hml hown hlink hnat hstat hini hK hP hD hS q0 q1 t0 t0 ha0 ha1 ht0 ht0 rfl h1 h2 h3 h4 h5 (fun _ _ => rfl) hframes hlocals hdg (fun H1 l1 h1 _ h3 => kk H1 l1 h1 h3)
end ROWS
end
section
theorem dX0_init_0 : decode cX0_init 0 = .ok (.aload_n 0, 1) := by decide +kernel
theorem dX0_init_1 : decode cX0_init 1 = .ok (.invokespecial 3, 3) := by decide +kernel
theorem dX0_init_4 : decode cX0_init 4 = .ok (.aload_n 0, 1) := by decide +kernel
theorem dX0_init_5 : decode cX0_init 5 = .ok (.sipush 504, 3) := by decide +kernel
theorem dX0_init_8 : decode cX0_init 8 = .ok (.newarray .long, 2) := by decide +kernel
theorem dX0_init_10 : decode cX0_init 10 = .ok (.putfield 9, 3) := by decide +kernel
theorem dX0_init_13 : decode cX0_init 13 = .ok (.aload_n 0, 1) := by decide +kernel
theorem dX0_init_14 : decode cX0_init 14 = .ok (.iconst 0, 1) := by decide +kernel
theorem dX0_init_15 : decode cX0_init 15 = .ok (.putfield 15, 3) := by decide +kernel
theorem dX0_init_18 : decode cX0_init 18 = .ok (.return_, 1) := by decide +kernel
theorem dX0_forget_0 : decode cX0_forget 0 = .ok (.aload_n 0, 1) := by decide +kernel
theorem dX0_forget_1 : decode cX0_forget 1 = .ok (.iconst 0, 1) := by decide +kernel
theorem dX0_forget_2 : decode cX0_forget 2 = .ok (.putfield 15, 3) := by decide +kernel
theorem dX0_forget_5 : decode cX0_forget 5 = .ok (.return_, 1) := by decide +kernel
set_option maxRecDepth 20000 in
theorem ggX0_enter_X0_isKnown : GoodIn wsX0_enter wsX0_isKnown := goodIn_r _ [8, 2, 3, 9, 10] (by decide +kernel) (by decide +kernel)
set_option maxRecDepth 20000 in
theorem gX0_enter_X0_isKnown : GoodIn wsX0_enter (wsV RX0 21 RX0 yX0_isKnown wsX0_isKnown) := goodIn_app (goodIn_of _ (by decide +kernel)) ggX0_enter_X0_isKnown
theorem dX0_enter_0 : decode cX0_enter 0 = .ok (.lload_n 1, 1) := by decide +kernel
theorem dX0_enter_1 : decode cX0_enter 1 = .ok (.ldc2_w 19, 3) := by decide +kernel
theorem dX0_enter_4 : decode cX0_enter 4 = .ok (.land, 1) := by decide +kernel
theorem dX0_enter_5 : decode cX0_enter 5 = .ok (.lconst 0, 1) := by decide +kernel
theorem dX0_enter_6 : decode cX0_enter 6 = .ok (.lcmp, 1) := by decide +kernel
theorem dX0_enter_7 : decode cX0_enter 7 = .ok (.ifCond .ne 7, 3) := by decide +kernel
theorem dX0_enter_10 : decode cX0_enter 10 = .ok (.iconst 1, 1) := by decide +kernel
theorem dX0_enter_11 : decode cX0_enter 11 = .ok (.goto 4, 3) := by decide +kernel
theorem dX0_enter_14 : decode cX0_enter 14 = .ok (.iconst 0, 1) := by decide +kernel
theorem dX0_enter_15 : decode cX0_enter 15 = .ok (.istore_n 3, 1) := by decide +kernel
theorem dX0_enter_16 : decode cX0_enter 16 = .ok (.iload_n 3, 1) := by decide +kernel
theorem dX0_enter_17 : decode cX0_enter 17 = .ok (.ifCond .ne 43, 3) := by decide +kernel
theorem dX0_enter_20 : decode cX0_enter 20 = .ok (.aload_n 0, 1) := by decide +kernel
theorem dX0_enter_21 : decode cX0_enter 21 = .ok (.lload_n 1, 1) := by decide +kernel
theorem dX0_enter_22 : decode cX0_enter 22 = .ok (.invokevirtual 21, 3) := by decide +kernel
theorem dX0_enter_25 : decode cX0_enter 25 = .ok (.ifCond .ne 35, 3) := by decide +kernel
theorem dX0_enter_28 : decode cX0_enter 28 = .ok (.aload_n 0, 1) := by decide +kernel
theorem dX0_enter_29 : decode cX0_enter 29 = .ok (.getfield 15, 3) := by decide +kernel
theorem dX0_enter_32 : decode cX0_enter 32 = .ok (.aload_n 0, 1) := by decide +kernel
theorem dX0_enter_33 : decode cX0_enter 33 = .ok (.getfield 9, 3) := by decide +kernel
theorem dX0_enter_36 : decode cX0_enter 36 = .ok (.arraylength, 1) := by decide +kernel
theorem dX0_enter_37 : decode cX0_enter 37 = .ok (.if_icmp .ge 23, 3) := by decide +kernel
theorem dX0_enter_40 : decode cX0_enter 40 = .ok (.aload_n 0, 1) := by decide +kernel
theorem dX0_enter_41 : decode cX0_enter 41 = .ok (.getfield 9, 3) := by decide +kernel
theorem dX0_enter_44 : decode cX0_enter 44 = .ok (.aload_n 0, 1) := by decide +kernel
theorem dX0_enter_45 : decode cX0_enter 45 = .ok (.getfield 15, 3) := by decide +kernel
theorem dX0_enter_48 : decode cX0_enter 48 = .ok (.lload_n 1, 1) := by decide +kernel
theorem dX0_enter_49 : decode cX0_enter 49 = .ok (.lastore, 1) := by decide +kernel
theorem dX0_enter_50 : decode cX0_enter 50 = .ok (.aload_n 0, 1) := by decide +kernel
theorem dX0_enter_51 : decode cX0_enter 51 = .ok (.dup, 1) := by decide +kernel
theorem dX0_enter_52 : decode cX0_enter 52 = .ok (.getfield 15, 3) := by decide +kernel
theorem dX0_enter_55 : decode cX0_enter 55 = .ok (.iconst 1, 1) := by decide +kernel
theorem dX0_enter_56 : decode cX0_enter 56 = .ok (.iadd, 1) := by decide +kernel
theorem dX0_enter_57 : decode cX0_enter 57 = .ok (.putfield 15, 3) := by decide +kernel
theorem dX0_enter_60 : decode cX0_enter 60 = .ok (.return_, 1) := by decide +kernel
theorem dX0_isKnown_0 : decode cX0_isKnown 0 = .ok (.iconst 0, 1) := by decide +kernel
theorem dX0_isKnown_1 : decode cX0_isKnown 1 = .ok (.istore_n 3, 1) := by decide +kernel
theorem dX0_isKnown_2 : decode cX0_isKnown 2 = .ok (.iload_n 3, 1) := by decide +kernel
theorem dX0_isKnown_3 : decode cX0_isKnown 3 = .ok (.aload_n 0, 1) := by decide +kernel
theorem dX0_isKnown_4 : decode cX0_isKnown 4 = .ok (.getfield 15, 3) := by decide +kernel
theorem dX0_isKnown_7 : decode cX0_isKnown 7 = .ok (.if_icmp .ge 31, 3) := by decide +kernel
theorem dX0_isKnown_10 : decode cX0_isKnown 10 = .ok (.iload_n 3, 1) := by decide +kernel
theorem dX0_isKnown_11 : decode cX0_isKnown 11 = .ok (.aload_n 0, 1) := by decide +kernel
theorem dX0_isKnown_12 : decode cX0_isKnown 12 = .ok (.getfield 9, 3) := by decide +kernel
theorem dX0_isKnown_15 : decode cX0_isKnown 15 = .ok (.arraylength, 1) := by decide +kernel
theorem dX0_isKnown_16 : decode cX0_isKnown 16 = .ok (.if_icmp .ge 22, 3) := by decide +kernel
theorem dX0_isKnown_19 : decode cX0_isKnown 19 = .ok (.aload_n 0, 1) := by decide +kernel
theorem dX0_isKnown_20 : decode cX0_isKnown 20 = .ok (.getfield 9, 3) := by decide +kernel
theorem dX0_isKnown_23 : decode cX0_isKnown 23 = .ok (.iload_n 3, 1) := by decide +kernel
theorem dX0_isKnown_24 : decode cX0_isKnown 24 = .ok (.laload, 1) := by decide +kernel
theorem dX0_isKnown_25 : decode cX0_isKnown 25 = .ok (.lload_n 1, 1) := by decide +kernel
theorem dX0_isKnown_26 : decode cX0_isKnown 26 = .ok (.lcmp, 1) := by decide +kernel
theorem dX0_isKnown_27 : decode cX0_isKnown 27 = .ok (.ifCond .ne 5, 3) := by decide +kernel
theorem dX0_isKnown_30 : decode cX0_isKnown 30 = .ok (.iconst 1, 1) := by decide +kernel
theorem dX0_isKnown_31 : decode cX0_isKnown 31 = .ok (.ireturn, 1) := by decide +kernel
theorem dX0_isKnown_32 : decode cX0_isKnown 32 = .ok (.iinc 3 1, 3) := by decide +kernel
theorem dX0_isKnown_35 : decode cX0_isKnown 35 = .ok (.goto (-33), 3) := by decide +kernel
theorem dX0_isKnown_38 : decode cX0_isKnown 38 = .ok (.iconst 0, 1) := by decide +kernel
theorem dX0_isKnown_39 : decode cX0_isKnown 39 = .ok (.ireturn, 1) := by decide +kernel
set_option maxRecDepth 20000 in
theorem ggX0_closedCount_X3_lowestVariable : GoodIn wsX0_closedCount wsX3_lowestVariable := goodIn_r _ [6, 7, 8, 5, 9, 10, 11, 12, 13] (by decide +kernel) (by decide +kernel)
set_option maxRecDepth 20000 in
theorem gX0_closedCount_X3_lowestVariable : GoodIn wsX0_closedCount (va_wsS RX0 25 yX3_lowestVariable wsX3_lowestVariable) := goodIn_app (goodIn_of _ (by decide +kernel)) ggX0_closedCount_X3_lowestVariable
set_option maxRecDepth 20000 in
theorem ggX0_closedCount_X3_upperHalf : GoodIn wsX0_closedCount wsX3_upperHalf := goodIn_r _ [9, 10, 11, 5, 12, 13] (by decide +kernel) (by decide +kernel)
set_option maxRecDepth 20000 in
theorem gX0_closedCount_X3_upperHalf : GoodIn wsX0_closedCount (va_wsS RX0 31 yX3_upperHalf wsX3_upperHalf) := goodIn_app (goodIn_of _ (by decide +kernel)) ggX0_closedCount_X3_upperHalf
set_option maxRecDepth 20000 in
theorem ggX0_closedCount_X0_enter : GoodIn wsX0_closedCount wsX0_enter := goodIn_r _ [19, 20, 1, 2, 21, 22, 23, 18, 24, 28, 29] (by decide +kernel) (by decide +kernel)
set_option maxRecDepth 20000 in
theorem gX0_closedCount_X0_enter : GoodIn wsX0_closedCount (wsV RX0 35 RX0 yX0_enter wsX0_enter) := goodIn_app (goodIn_of _ (by decide +kernel)) ggX0_closedCount_X0_enter
set_option maxRecDepth 20000 in
theorem ggX0_closedCount_X3_lowerHalf : GoodIn wsX0_closedCount wsX3_lowerHalf := goodIn_r _ [27, 10, 11, 5, 12, 13] (by decide +kernel) (by decide +kernel)
set_option maxRecDepth 20000 in
theorem gX0_closedCount_X3_lowerHalf : GoodIn wsX0_closedCount (va_wsS RX0 39 yX3_lowerHalf wsX3_lowerHalf) := goodIn_app (goodIn_of _ (by decide +kernel)) ggX0_closedCount_X3_lowerHalf
theorem dX0_closedCount_0 : decode cX0_closedCount 0 = .ok (.iconst 0, 1) := by decide +kernel
theorem dX0_closedCount_1 : decode cX0_closedCount 1 = .ok (.istore_n 1, 1) := by decide +kernel
theorem dX0_closedCount_2 : decode cX0_closedCount 2 = .ok (.iload_n 1, 1) := by decide +kernel
theorem dX0_closedCount_3 : decode cX0_closedCount 3 = .ok (.aload_n 0, 1) := by decide +kernel
theorem dX0_closedCount_4 : decode cX0_closedCount 4 = .ok (.getfield 15, 3) := by decide +kernel
theorem dX0_closedCount_7 : decode cX0_closedCount 7 = .ok (.if_icmp .ge 56, 3) := by decide +kernel
theorem dX0_closedCount_10 : decode cX0_closedCount 10 = .ok (.iload_n 1, 1) := by decide +kernel
theorem dX0_closedCount_11 : decode cX0_closedCount 11 = .ok (.aload_n 0, 1) := by decide +kernel
theorem dX0_closedCount_12 : decode cX0_closedCount 12 = .ok (.getfield 9, 3) := by decide +kernel
theorem dX0_closedCount_15 : decode cX0_closedCount 15 = .ok (.arraylength, 1) := by decide +kernel
theorem dX0_closedCount_16 : decode cX0_closedCount 16 = .ok (.if_icmp .ge 47, 3) := by decide +kernel
theorem dX0_closedCount_19 : decode cX0_closedCount 19 = .ok (.aload_n 0, 1) := by decide +kernel
theorem dX0_closedCount_20 : decode cX0_closedCount 20 = .ok (.getfield 9, 3) := by decide +kernel
theorem dX0_closedCount_23 : decode cX0_closedCount 23 = .ok (.iload_n 1, 1) := by decide +kernel
theorem dX0_closedCount_24 : decode cX0_closedCount 24 = .ok (.laload, 1) := by decide +kernel
theorem dX0_closedCount_25 : decode cX0_closedCount 25 = .ok (.invokestatic 25, 3) := by decide +kernel
theorem dX0_closedCount_28 : decode cX0_closedCount 28 = .ok (.istore_n 2, 1) := by decide +kernel
theorem dX0_closedCount_29 : decode cX0_closedCount 29 = .ok (.aload_n 0, 1) := by decide +kernel
theorem dX0_closedCount_30 : decode cX0_closedCount 30 = .ok (.aload_n 0, 1) := by decide +kernel
theorem dX0_closedCount_31 : decode cX0_closedCount 31 = .ok (.getfield 9, 3) := by decide +kernel
theorem dX0_closedCount_34 : decode cX0_closedCount 34 = .ok (.iload_n 1, 1) := by decide +kernel
theorem dX0_closedCount_35 : decode cX0_closedCount 35 = .ok (.laload, 1) := by decide +kernel
theorem dX0_closedCount_36 : decode cX0_closedCount 36 = .ok (.iload_n 2, 1) := by decide +kernel
theorem dX0_closedCount_37 : decode cX0_closedCount 37 = .ok (.invokestatic 31, 3) := by decide +kernel
theorem dX0_closedCount_40 : decode cX0_closedCount 40 = .ok (.invokevirtual 35, 3) := by decide +kernel
theorem dX0_closedCount_43 : decode cX0_closedCount 43 = .ok (.aload_n 0, 1) := by decide +kernel
theorem dX0_closedCount_44 : decode cX0_closedCount 44 = .ok (.aload_n 0, 1) := by decide +kernel
theorem dX0_closedCount_45 : decode cX0_closedCount 45 = .ok (.getfield 9, 3) := by decide +kernel
theorem dX0_closedCount_48 : decode cX0_closedCount 48 = .ok (.iload_n 1, 1) := by decide +kernel
theorem dX0_closedCount_49 : decode cX0_closedCount 49 = .ok (.laload, 1) := by decide +kernel
theorem dX0_closedCount_50 : decode cX0_closedCount 50 = .ok (.iload_n 2, 1) := by decide +kernel
theorem dX0_closedCount_51 : decode cX0_closedCount 51 = .ok (.invokestatic 39, 3) := by decide +kernel
theorem dX0_closedCount_54 : decode cX0_closedCount 54 = .ok (.invokevirtual 35, 3) := by decide +kernel
theorem dX0_closedCount_57 : decode cX0_closedCount 57 = .ok (.iinc 1 1, 3) := by decide +kernel
theorem dX0_closedCount_60 : decode cX0_closedCount 60 = .ok (.goto (-58), 3) := by decide +kernel
theorem dX0_closedCount_63 : decode cX0_closedCount 63 = .ok (.aload_n 0, 1) := by decide +kernel
theorem dX0_closedCount_64 : decode cX0_closedCount 64 = .ok (.getfield 15, 3) := by decide +kernel
theorem dX0_closedCount_67 : decode cX0_closedCount 67 = .ok (.ireturn, 1) := by decide +kernel
theorem dX1_init_0 : decode cX1_init 0 = .ok (.aload_n 0, 1) := by decide +kernel
theorem dX1_init_1 : decode cX1_init 1 = .ok (.invokespecial 3, 3) := by decide +kernel
theorem dX1_init_4 : decode cX1_init 4 = .ok (.aload_n 0, 1) := by decide +kernel
theorem dX1_init_5 : decode cX1_init 5 = .ok (.bipush 48, 2) := by decide +kernel
theorem dX1_init_7 : decode cX1_init 7 = .ok (.newarray .long, 2) := by decide +kernel
theorem dX1_init_9 : decode cX1_init 9 = .ok (.putfield 11, 3) := by decide +kernel
theorem dX1_init_12 : decode cX1_init 12 = .ok (.aload_n 0, 1) := by decide +kernel
theorem dX1_init_13 : decode cX1_init 13 = .ok (.iconst 0, 1) := by decide +kernel
theorem dX1_init_14 : decode cX1_init 14 = .ok (.putfield 15, 3) := by decide +kernel
theorem dX1_init_17 : decode cX1_init 17 = .ok (.return_, 1) := by decide +kernel
theorem dX1_forget_0 : decode cX1_forget 0 = .ok (.aload_n 0, 1) := by decide +kernel
theorem dX1_forget_1 : decode cX1_forget 1 = .ok (.iconst 0, 1) := by decide +kernel
theorem dX1_forget_2 : decode cX1_forget 2 = .ok (.putfield 15, 3) := by decide +kernel
theorem dX1_forget_5 : decode cX1_forget 5 = .ok (.return_, 1) := by decide +kernel
theorem dX1_isEmpty_0 : decode cX1_isEmpty 0 = .ok (.aload_n 0, 1) := by decide +kernel
theorem dX1_isEmpty_1 : decode cX1_isEmpty 1 = .ok (.getfield 15, 3) := by decide +kernel
theorem dX1_isEmpty_4 : decode cX1_isEmpty 4 = .ok (.ifCond .gt 7, 3) := by decide +kernel
theorem dX1_isEmpty_7 : decode cX1_isEmpty 7 = .ok (.iconst 1, 1) := by decide +kernel
theorem dX1_isEmpty_8 : decode cX1_isEmpty 8 = .ok (.goto 4, 3) := by decide +kernel
theorem dX1_isEmpty_11 : decode cX1_isEmpty 11 = .ok (.iconst 0, 1) := by decide +kernel
theorem dX1_isEmpty_12 : decode cX1_isEmpty 12 = .ok (.ireturn, 1) := by decide +kernel
theorem dX1_keep_0 : decode cX1_keep 0 = .ok (.aload_n 1, 1) := by decide +kernel
theorem dX1_keep_1 : decode cX1_keep 1 = .ok (.arraylength, 1) := by decide +kernel
theorem dX1_keep_2 : decode cX1_keep 2 = .ok (.bipush 8, 2) := by decide +kernel
theorem dX1_keep_4 : decode cX1_keep 4 = .ok (.if_icmp .eq 4, 3) := by decide +kernel
theorem dX1_keep_7 : decode cX1_keep 7 = .ok (.return_, 1) := by decide +kernel
theorem dX1_keep_8 : decode cX1_keep 8 = .ok (.aload_n 0, 1) := by decide +kernel
theorem dX1_keep_9 : decode cX1_keep 9 = .ok (.getfield 15, 3) := by decide +kernel
theorem dX1_keep_12 : decode cX1_keep 12 = .ok (.bipush 6, 2) := by decide +kernel
theorem dX1_keep_14 : decode cX1_keep 14 = .ok (.if_icmp .lt 24, 3) := by decide +kernel
theorem dX1_keep_17 : decode cX1_keep 17 = .ok (.aload_n 0, 1) := by decide +kernel
theorem dX1_keep_18 : decode cX1_keep 18 = .ok (.getfield 11, 3) := by decide +kernel
theorem dX1_keep_21 : decode cX1_keep 21 = .ok (.bipush 8, 2) := by decide +kernel
theorem dX1_keep_23 : decode cX1_keep 23 = .ok (.aload_n 0, 1) := by decide +kernel
theorem dX1_keep_24 : decode cX1_keep 24 = .ok (.getfield 11, 3) := by decide +kernel
theorem dX1_keep_27 : decode cX1_keep 27 = .ok (.iconst 0, 1) := by decide +kernel
theorem dX1_keep_28 : decode cX1_keep 28 = .ok (.bipush 40, 2) := by decide +kernel
theorem dX1_keep_30 : decode cX1_keep 30 = .ok (.invokestatic 19, 3) := by decide +kernel
theorem dX1_keep_33 : decode cX1_keep 33 = .ok (.aload_n 0, 1) := by decide +kernel
theorem dX1_keep_34 : decode cX1_keep 34 = .ok (.iconst 5, 1) := by decide +kernel
theorem dX1_keep_35 : decode cX1_keep 35 = .ok (.putfield 15, 3) := by decide +kernel
theorem dX1_keep_38 : decode cX1_keep 38 = .ok (.aload_n 1, 1) := by decide +kernel
theorem dX1_keep_39 : decode cX1_keep 39 = .ok (.iconst 0, 1) := by decide +kernel
theorem dX1_keep_40 : decode cX1_keep 40 = .ok (.aload_n 0, 1) := by decide +kernel
theorem dX1_keep_41 : decode cX1_keep 41 = .ok (.getfield 11, 3) := by decide +kernel
theorem dX1_keep_44 : decode cX1_keep 44 = .ok (.aload_n 0, 1) := by decide +kernel
theorem dX1_keep_45 : decode cX1_keep 45 = .ok (.getfield 15, 3) := by decide +kernel
theorem dX1_keep_48 : decode cX1_keep 48 = .ok (.bipush 8, 2) := by decide +kernel
theorem dX1_keep_50 : decode cX1_keep 50 = .ok (.imul, 1) := by decide +kernel
theorem dX1_keep_51 : decode cX1_keep 51 = .ok (.bipush 8, 2) := by decide +kernel
theorem dX1_keep_53 : decode cX1_keep 53 = .ok (.invokestatic 19, 3) := by decide +kernel
theorem dX1_keep_56 : decode cX1_keep 56 = .ok (.aload_n 0, 1) := by decide +kernel
theorem dX1_keep_57 : decode cX1_keep 57 = .ok (.dup, 1) := by decide +kernel
theorem dX1_keep_58 : decode cX1_keep 58 = .ok (.getfield 15, 3) := by decide +kernel
theorem dX1_keep_61 : decode cX1_keep 61 = .ok (.iconst 1, 1) := by decide +kernel
theorem dX1_keep_62 : decode cX1_keep 62 = .ok (.iadd, 1) := by decide +kernel
theorem dX1_keep_63 : decode cX1_keep 63 = .ok (.putfield 15, 3) := by decide +kernel
theorem dX1_keep_66 : decode cX1_keep 66 = .ok (.return_, 1) := by decide +kernel
theorem dX1_restore_0 : decode cX1_restore 0 = .ok (.aload_n 0, 1) := by decide +kernel
theorem dX1_restore_1 : decode cX1_restore 1 = .ok (.getfield 15, 3) := by decide +kernel
theorem dX1_restore_4 : decode cX1_restore 4 = .ok (.ifCond .le 47, 3) := by decide +kernel
theorem dX1_restore_7 : decode cX1_restore 7 = .ok (.aload_n 0, 1) := by decide +kernel
theorem dX1_restore_8 : decode cX1_restore 8 = .ok (.getfield 15, 3) := by decide +kernel
theorem dX1_restore_11 : decode cX1_restore 11 = .ok (.bipush 6, 2) := by decide +kernel
theorem dX1_restore_13 : decode cX1_restore 13 = .ok (.if_icmp .gt 38, 3) := by decide +kernel
theorem dX1_restore_16 : decode cX1_restore 16 = .ok (.aload_n 1, 1) := by decide +kernel
theorem dX1_restore_17 : decode cX1_restore 17 = .ok (.arraylength, 1) := by decide +kernel
theorem dX1_restore_18 : decode cX1_restore 18 = .ok (.bipush 8, 2) := by decide +kernel
theorem dX1_restore_20 : decode cX1_restore 20 = .ok (.if_icmp .ne 31, 3) := by decide +kernel
theorem dX1_restore_23 : decode cX1_restore 23 = .ok (.aload_n 0, 1) := by decide +kernel
theorem dX1_restore_24 : decode cX1_restore 24 = .ok (.dup, 1) := by decide +kernel
theorem dX1_restore_25 : decode cX1_restore 25 = .ok (.getfield 15, 3) := by decide +kernel
theorem dX1_restore_28 : decode cX1_restore 28 = .ok (.iconst 1, 1) := by decide +kernel
theorem dX1_restore_29 : decode cX1_restore 29 = .ok (.isub, 1) := by decide +kernel
theorem dX1_restore_30 : decode cX1_restore 30 = .ok (.putfield 15, 3) := by decide +kernel
theorem dX1_restore_33 : decode cX1_restore 33 = .ok (.aload_n 0, 1) := by decide +kernel
theorem dX1_restore_34 : decode cX1_restore 34 = .ok (.getfield 11, 3) := by decide +kernel
theorem dX1_restore_37 : decode cX1_restore 37 = .ok (.aload_n 0, 1) := by decide +kernel
theorem dX1_restore_38 : decode cX1_restore 38 = .ok (.getfield 15, 3) := by decide +kernel
theorem dX1_restore_41 : decode cX1_restore 41 = .ok (.bipush 8, 2) := by decide +kernel
theorem dX1_restore_43 : decode cX1_restore 43 = .ok (.imul, 1) := by decide +kernel
theorem dX1_restore_44 : decode cX1_restore 44 = .ok (.aload_n 1, 1) := by decide +kernel
theorem dX1_restore_45 : decode cX1_restore 45 = .ok (.iconst 0, 1) := by decide +kernel
theorem dX1_restore_46 : decode cX1_restore 46 = .ok (.bipush 8, 2) := by decide +kernel
theorem dX1_restore_48 : decode cX1_restore 48 = .ok (.invokestatic 19, 3) := by decide +kernel
theorem dX1_restore_51 : decode cX1_restore 51 = .ok (.aload_n 0, 1) := by decide +kernel
theorem dX1_restore_52 : decode cX1_restore 52 = .ok (.getfield 15, 3) := by decide +kernel
theorem dX1_restore_55 : decode cX1_restore 55 = .ok (.ireturn, 1) := by decide +kernel
theorem dX2_tableOf_0 : decode cX2_tableOf 0 = .ok (.iload_n 0, 1) := by decide +kernel
theorem dX2_tableOf_1 : decode cX2_tableOf 1 = .ok (.ifCond .ne 7, 3) := by decide +kernel
theorem dX2_tableOf_4 : decode cX2_tableOf 4 = .ok (.getstatic 9, 3) := by decide +kernel
theorem dX2_tableOf_7 : decode cX2_tableOf 7 = .ok (.areturn, 1) := by decide +kernel
theorem dX2_tableOf_8 : decode cX2_tableOf 8 = .ok (.iload_n 0, 1) := by decide +kernel
theorem dX2_tableOf_9 : decode cX2_tableOf 9 = .ok (.iconst 1, 1) := by decide +kernel
theorem dX2_tableOf_10 : decode cX2_tableOf 10 = .ok (.if_icmp .ne 9, 3) := by decide +kernel
theorem dX2_tableOf_13 : decode cX2_tableOf 13 = .ok (.getstatic 15, 3) := by decide +kernel
theorem dX2_tableOf_16 : decode cX2_tableOf 16 = .ok (.goto 6, 3) := by decide +kernel
theorem dX2_tableOf_19 : decode cX2_tableOf 19 = .ok (.getstatic 18, 3) := by decide +kernel
theorem dX2_tableOf_22 : decode cX2_tableOf 22 = .ok (.areturn, 1) := by decide +kernel
set_option maxRecDepth 20000 in
theorem ggX2_monomialAt_X2_tableOf : GoodIn wsX2_monomialAt wsX2_tableOf := goodIn_r _ [4, 5, 6, 7] (by decide +kernel) (by decide +kernel)
set_option maxRecDepth 20000 in
theorem gX2_monomialAt_X2_tableOf : GoodIn wsX2_monomialAt (va_wsS RX2 21 yX2_tableOf wsX2_tableOf) := goodIn_app (goodIn_of _ (by decide +kernel)) ggX2_monomialAt_X2_tableOf
theorem dX2_monomialAt_0 : decode cX2_monomialAt 0 = .ok (.iload_n 0, 1) := by decide +kernel
theorem dX2_monomialAt_1 : decode cX2_monomialAt 1 = .ok (.invokestatic 21, 3) := by decide +kernel
theorem dX2_monomialAt_4 : decode cX2_monomialAt 4 = .ok (.astore_n 2, 1) := by decide +kernel
theorem dX2_monomialAt_5 : decode cX2_monomialAt 5 = .ok (.iload_n 1, 1) := by decide +kernel
theorem dX2_monomialAt_6 : decode cX2_monomialAt 6 = .ok (.ifCond .lt 15, 3) := by decide +kernel
theorem dX2_monomialAt_9 : decode cX2_monomialAt 9 = .ok (.iload_n 1, 1) := by decide +kernel
theorem dX2_monomialAt_10 : decode cX2_monomialAt 10 = .ok (.aload_n 2, 1) := by decide +kernel
theorem dX2_monomialAt_11 : decode cX2_monomialAt 11 = .ok (.arraylength, 1) := by decide +kernel
theorem dX2_monomialAt_12 : decode cX2_monomialAt 12 = .ok (.if_icmp .ge 9, 3) := by decide +kernel
theorem dX2_monomialAt_15 : decode cX2_monomialAt 15 = .ok (.aload_n 2, 1) := by decide +kernel
theorem dX2_monomialAt_16 : decode cX2_monomialAt 16 = .ok (.iload_n 1, 1) := by decide +kernel
theorem dX2_monomialAt_17 : decode cX2_monomialAt 17 = .ok (.iaload, 1) := by decide +kernel
theorem dX2_monomialAt_18 : decode cX2_monomialAt 18 = .ok (.goto 4, 3) := by decide +kernel
theorem dX2_monomialAt_21 : decode cX2_monomialAt 21 = .ok (.iconst 0, 1) := by decide +kernel
theorem dX2_monomialAt_22 : decode cX2_monomialAt 22 = .ok (.ireturn, 1) := by decide +kernel
set_option maxRecDepth 20000 in
theorem ggX2_termOf_J13_bitCount_95d88 : GoodIn wsX2_termOf wsJ13_bitCount_95d88 := goodIn_r _ [4, 5, 6, 7] (by decide +kernel) (by decide +kernel)
set_option maxRecDepth 20000 in
theorem gX2_termOf_J13_bitCount_95d88 : GoodIn wsX2_termOf (va_wsS RX2 25 yJ13_bitCount_95d88 wsJ13_bitCount_95d88) := goodIn_app (goodIn_of _ (by decide +kernel)) ggX2_termOf_J13_bitCount_95d88
set_option maxRecDepth 20000 in
theorem ggX2_termOf_X2_monomialAt : GoodIn wsX2_termOf wsX2_monomialAt := goodIn_r _ [11, 12, 13, 10, 14, 15, 16, 17] (by decide +kernel) (by decide +kernel)
set_option maxRecDepth 20000 in
theorem gX2_termOf_X2_monomialAt : GoodIn wsX2_termOf (va_wsS RX2 31 yX2_monomialAt wsX2_monomialAt) := goodIn_app (goodIn_of _ (by decide +kernel)) ggX2_termOf_X2_monomialAt
set_option maxRecDepth 20000 in
theorem ggX2_termOf_X3_bit : GoodIn wsX2_termOf wsX3_bit := goodIn_r _ [21] (by decide +kernel) (by decide +kernel)
set_option maxRecDepth 20000 in
theorem gX2_termOf_X3_bit : GoodIn wsX2_termOf (va_wsS RX2 35 yX3_bit wsX3_bit) := goodIn_app (goodIn_of _ (by decide +kernel)) ggX2_termOf_X3_bit
theorem dX2_termOf_0 : decode cX2_termOf 0 = .ok (.iload_n 3, 1) := by decide +kernel
theorem dX2_termOf_1 : decode cX2_termOf 1 = .ok (.lload_n 0, 1) := by decide +kernel
theorem dX2_termOf_2 : decode cX2_termOf 2 = .ok (.invokestatic 25, 3) := by decide +kernel
theorem dX2_termOf_5 : decode cX2_termOf 5 = .ok (.if_icmp .lt 6, 3) := by decide +kernel
theorem dX2_termOf_8 : decode cX2_termOf 8 = .ok (.bipush (-4), 2) := by decide +kernel
theorem dX2_termOf_10 : decode cX2_termOf 10 = .ok (.ireturn, 1) := by decide +kernel
theorem dX2_termOf_11 : decode cX2_termOf 11 = .ok (.iload_n 3, 1) := by decide +kernel
theorem dX2_termOf_12 : decode cX2_termOf 12 = .ok (.istore 4, 2) := by decide +kernel
theorem dX2_termOf_14 : decode cX2_termOf 14 = .ok (.iconst 0, 1) := by decide +kernel
theorem dX2_termOf_15 : decode cX2_termOf 15 = .ok (.istore 5, 2) := by decide +kernel
theorem dX2_termOf_17 : decode cX2_termOf 17 = .ok (.iload 5, 2) := by decide +kernel
theorem dX2_termOf_19 : decode cX2_termOf 19 = .ok (.bipush 64, 2) := by decide +kernel
theorem dX2_termOf_21 : decode cX2_termOf 21 = .ok (.if_icmp .ge 38, 3) := by decide +kernel
theorem dX2_termOf_24 : decode cX2_termOf 24 = .ok (.iload_n 2, 1) := by decide +kernel
theorem dX2_termOf_25 : decode cX2_termOf 25 = .ok (.iload 5, 2) := by decide +kernel
theorem dX2_termOf_27 : decode cX2_termOf 27 = .ok (.invokestatic 31, 3) := by decide +kernel
theorem dX2_termOf_30 : decode cX2_termOf 30 = .ok (.istore 6, 2) := by decide +kernel
theorem dX2_termOf_32 : decode cX2_termOf 32 = .ok (.lload_n 0, 1) := by decide +kernel
theorem dX2_termOf_33 : decode cX2_termOf 33 = .ok (.iload 6, 2) := by decide +kernel
theorem dX2_termOf_35 : decode cX2_termOf 35 = .ok (.invokestatic 35, 3) := by decide +kernel
theorem dX2_termOf_38 : decode cX2_termOf 38 = .ok (.iconst 1, 1) := by decide +kernel
theorem dX2_termOf_39 : decode cX2_termOf 39 = .ok (.if_icmp .ne 14, 3) := by decide +kernel
theorem dX2_termOf_42 : decode cX2_termOf 42 = .ok (.iload 4, 2) := by decide +kernel
theorem dX2_termOf_44 : decode cX2_termOf 44 = .ok (.ifCond .ne 6, 3) := by decide +kernel
theorem dX2_termOf_47 : decode cX2_termOf 47 = .ok (.iload 6, 2) := by decide +kernel
theorem dX2_termOf_49 : decode cX2_termOf 49 = .ok (.ireturn, 1) := by decide +kernel
theorem dX2_termOf_50 : decode cX2_termOf 50 = .ok (.iinc 4 (-1), 3) := by decide +kernel
theorem dX2_termOf_53 : decode cX2_termOf 53 = .ok (.iinc 5 1, 3) := by decide +kernel
theorem dX2_termOf_56 : decode cX2_termOf 56 = .ok (.goto (-39), 3) := by decide +kernel
theorem dX2_termOf_59 : decode cX2_termOf 59 = .ok (.bipush (-4), 2) := by decide +kernel
theorem dX2_termOf_61 : decode cX2_termOf 61 = .ok (.ireturn, 1) := by decide +kernel
theorem dX3_without_0 : decode cX3_without 0 = .ok (.iload_n 0, 1) := by decide +kernel
theorem dX3_without_1 : decode cX3_without 1 = .ok (.ifCond .lt 19, 3) := by decide +kernel
theorem dX3_without_4 : decode cX3_without 4 = .ok (.iload_n 0, 1) := by decide +kernel
theorem dX3_without_5 : decode cX3_without 5 = .ok (.getstatic 9, 3) := by decide +kernel
theorem dX3_without_8 : decode cX3_without 8 = .ok (.arraylength, 1) := by decide +kernel
theorem dX3_without_9 : decode cX3_without 9 = .ok (.if_icmp .ge 11, 3) := by decide +kernel
theorem dX3_without_12 : decode cX3_without 12 = .ok (.getstatic 9, 3) := by decide +kernel
theorem dX3_without_15 : decode cX3_without 15 = .ok (.iload_n 0, 1) := by decide +kernel
theorem dX3_without_16 : decode cX3_without 16 = .ok (.laload, 1) := by decide +kernel
theorem dX3_without_17 : decode cX3_without 17 = .ok (.goto 4, 3) := by decide +kernel
theorem dX3_without_20 : decode cX3_without 20 = .ok (.lconst 0, 1) := by decide +kernel
theorem dX3_without_21 : decode cX3_without 21 = .ok (.lreturn, 1) := by decide +kernel
theorem dX3_ofMonomial_0 : decode cX3_ofMonomial 0 = .ok (.lconst 1, 1) := by decide +kernel
theorem dX3_ofMonomial_1 : decode cX3_ofMonomial 1 = .ok (.iload_n 0, 1) := by decide +kernel
theorem dX3_ofMonomial_2 : decode cX3_ofMonomial 2 = .ok (.lshl, 1) := by decide +kernel
theorem dX3_ofMonomial_3 : decode cX3_ofMonomial 3 = .ok (.lreturn, 1) := by decide +kernel
theorem dX3_bit_0 : decode cX3_bit 0 = .ok (.lload_n 0, 1) := by decide +kernel
theorem dX3_bit_1 : decode cX3_bit 1 = .ok (.iload_n 2, 1) := by decide +kernel
theorem dX3_bit_2 : decode cX3_bit 2 = .ok (.lushr, 1) := by decide +kernel
theorem dX3_bit_3 : decode cX3_bit 3 = .ok (.lconst 1, 1) := by decide +kernel
theorem dX3_bit_4 : decode cX3_bit 4 = .ok (.land, 1) := by decide +kernel
theorem dX3_bit_5 : decode cX3_bit 5 = .ok (.l2i, 1) := by decide +kernel
theorem dX3_bit_6 : decode cX3_bit 6 = .ok (.ireturn, 1) := by decide +kernel
set_option maxRecDepth 20000 in
theorem ggX3_upperHalf_X3_without : GoodIn wsX3_upperHalf wsX3_without := goodIn_r _ [4, 5] (by decide +kernel) (by decide +kernel)
set_option maxRecDepth 20000 in
theorem gX3_upperHalf_X3_without : GoodIn wsX3_upperHalf (va_wsS RX3 15 yX3_without wsX3_without) := goodIn_app (goodIn_of _ (by decide +kernel)) ggX3_upperHalf_X3_without
theorem dX3_upperHalf_0 : decode cX3_upperHalf 0 = .ok (.lload_n 0, 1) := by decide +kernel
theorem dX3_upperHalf_1 : decode cX3_upperHalf 1 = .ok (.iconst 1, 1) := by decide +kernel
theorem dX3_upperHalf_2 : decode cX3_upperHalf 2 = .ok (.iload_n 2, 1) := by decide +kernel
theorem dX3_upperHalf_3 : decode cX3_upperHalf 3 = .ok (.ishl, 1) := by decide +kernel
theorem dX3_upperHalf_4 : decode cX3_upperHalf 4 = .ok (.lushr, 1) := by decide +kernel
theorem dX3_upperHalf_5 : decode cX3_upperHalf 5 = .ok (.iload_n 2, 1) := by decide +kernel
theorem dX3_upperHalf_6 : decode cX3_upperHalf 6 = .ok (.invokestatic 15, 3) := by decide +kernel
theorem dX3_upperHalf_9 : decode cX3_upperHalf 9 = .ok (.land, 1) := by decide +kernel
theorem dX3_upperHalf_10 : decode cX3_upperHalf 10 = .ok (.lreturn, 1) := by decide +kernel
set_option maxRecDepth 20000 in
theorem ggX3_lowerHalf_X3_without : GoodIn wsX3_lowerHalf wsX3_without := goodIn_r _ [4, 5] (by decide +kernel) (by decide +kernel)
set_option maxRecDepth 20000 in
theorem gX3_lowerHalf_X3_without : GoodIn wsX3_lowerHalf (va_wsS RX3 15 yX3_without wsX3_without) := goodIn_app (goodIn_of _ (by decide +kernel)) ggX3_lowerHalf_X3_without
theorem dX3_lowerHalf_0 : decode cX3_lowerHalf 0 = .ok (.lload_n 0, 1) := by decide +kernel
theorem dX3_lowerHalf_1 : decode cX3_lowerHalf 1 = .ok (.iload_n 2, 1) := by decide +kernel
theorem dX3_lowerHalf_2 : decode cX3_lowerHalf 2 = .ok (.invokestatic 15, 3) := by decide +kernel
theorem dX3_lowerHalf_5 : decode cX3_lowerHalf 5 = .ok (.land, 1) := by decide +kernel
theorem dX3_lowerHalf_6 : decode cX3_lowerHalf 6 = .ok (.lreturn, 1) := by decide +kernel
set_option maxRecDepth 20000 in
theorem ggX3_raised_X3_without : GoodIn wsX3_raised wsX3_without := goodIn_r _ [4, 5] (by decide +kernel) (by decide +kernel)
set_option maxRecDepth 20000 in
theorem gX3_raised_X3_without : GoodIn wsX3_raised (va_wsS RX3 15 yX3_without wsX3_without) := goodIn_app (goodIn_of _ (by decide +kernel)) ggX3_raised_X3_without
theorem dX3_raised_0 : decode cX3_raised 0 = .ok (.lload_n 0, 1) := by decide +kernel
theorem dX3_raised_1 : decode cX3_raised 1 = .ok (.iload_n 2, 1) := by decide +kernel
theorem dX3_raised_2 : decode cX3_raised 2 = .ok (.invokestatic 15, 3) := by decide +kernel
theorem dX3_raised_5 : decode cX3_raised 5 = .ok (.land, 1) := by decide +kernel
theorem dX3_raised_6 : decode cX3_raised 6 = .ok (.iconst 1, 1) := by decide +kernel
theorem dX3_raised_7 : decode cX3_raised 7 = .ok (.iload_n 2, 1) := by decide +kernel
theorem dX3_raised_8 : decode cX3_raised 8 = .ok (.ishl, 1) := by decide +kernel
theorem dX3_raised_9 : decode cX3_raised 9 = .ok (.lshl, 1) := by decide +kernel
theorem dX3_raised_10 : decode cX3_raised 10 = .ok (.lreturn, 1) := by decide +kernel
set_option maxRecDepth 20000 in
theorem ggX3_transformed_X3_raised : GoodIn wsX3_transformed wsX3_raised := goodIn_r _ [4, 5, 6, 3, 7, 8] (by decide +kernel) (by decide +kernel)
set_option maxRecDepth 20000 in
theorem gX3_transformed_X3_raised : GoodIn wsX3_transformed (va_wsS RX3 19 yX3_raised wsX3_raised) := goodIn_app (goodIn_of _ (by decide +kernel)) ggX3_transformed_X3_raised
theorem dX3_transformed_0 : decode cX3_transformed 0 = .ok (.lload_n 0, 1) := by decide +kernel
theorem dX3_transformed_1 : decode cX3_transformed 1 = .ok (.lstore_n 3, 1) := by decide +kernel
theorem dX3_transformed_2 : decode cX3_transformed 2 = .ok (.iconst 0, 1) := by decide +kernel
theorem dX3_transformed_3 : decode cX3_transformed 3 = .ok (.istore 5, 2) := by decide +kernel
theorem dX3_transformed_5 : decode cX3_transformed 5 = .ok (.iload 5, 2) := by decide +kernel
theorem dX3_transformed_7 : decode cX3_transformed 7 = .ok (.iload_n 2, 1) := by decide +kernel
theorem dX3_transformed_8 : decode cX3_transformed 8 = .ok (.if_icmp .ge 18, 3) := by decide +kernel
theorem dX3_transformed_11 : decode cX3_transformed 11 = .ok (.lload_n 3, 1) := by decide +kernel
theorem dX3_transformed_12 : decode cX3_transformed 12 = .ok (.lload_n 3, 1) := by decide +kernel
theorem dX3_transformed_13 : decode cX3_transformed 13 = .ok (.iload 5, 2) := by decide +kernel
theorem dX3_transformed_15 : decode cX3_transformed 15 = .ok (.invokestatic 19, 3) := by decide +kernel
theorem dX3_transformed_18 : decode cX3_transformed 18 = .ok (.lxor, 1) := by decide +kernel
theorem dX3_transformed_19 : decode cX3_transformed 19 = .ok (.lstore_n 3, 1) := by decide +kernel
theorem dX3_transformed_20 : decode cX3_transformed 20 = .ok (.iinc 5 1, 3) := by decide +kernel
theorem dX3_transformed_23 : decode cX3_transformed 23 = .ok (.goto (-18), 3) := by decide +kernel
theorem dX3_transformed_26 : decode cX3_transformed 26 = .ok (.lload_n 3, 1) := by decide +kernel
theorem dX3_transformed_27 : decode cX3_transformed 27 = .ok (.lreturn, 1) := by decide +kernel
set_option maxRecDepth 20000 in
theorem ggX3_multiplied_X3_transformed : GoodIn wsX3_multiplied wsX3_transformed := goodIn_r _ [4, 5, 6, 3, 7, 8, 9, 10, 11] (by decide +kernel) (by decide +kernel)
set_option maxRecDepth 20000 in
theorem gX3_multiplied_X3_transformed : GoodIn wsX3_multiplied (va_wsS RX3 23 yX3_transformed wsX3_transformed) := goodIn_app (goodIn_of _ (by decide +kernel)) ggX3_multiplied_X3_transformed
theorem dX3_multiplied_0 : decode cX3_multiplied 0 = .ok (.lload_n 0, 1) := by decide +kernel
theorem dX3_multiplied_1 : decode cX3_multiplied 1 = .ok (.iload 4, 2) := by decide +kernel
theorem dX3_multiplied_3 : decode cX3_multiplied 3 = .ok (.invokestatic 23, 3) := by decide +kernel
theorem dX3_multiplied_6 : decode cX3_multiplied 6 = .ok (.lload_n 2, 1) := by decide +kernel
theorem dX3_multiplied_7 : decode cX3_multiplied 7 = .ok (.iload 4, 2) := by decide +kernel
theorem dX3_multiplied_9 : decode cX3_multiplied 9 = .ok (.invokestatic 23, 3) := by decide +kernel
theorem dX3_multiplied_12 : decode cX3_multiplied 12 = .ok (.land, 1) := by decide +kernel
theorem dX3_multiplied_13 : decode cX3_multiplied 13 = .ok (.iload 4, 2) := by decide +kernel
theorem dX3_multiplied_15 : decode cX3_multiplied 15 = .ok (.invokestatic 23, 3) := by decide +kernel
theorem dX3_multiplied_18 : decode cX3_multiplied 18 = .ok (.lreturn, 1) := by decide +kernel
set_option maxRecDepth 20000 in
theorem ggX3_exchanged_X3_without : GoodIn wsX3_exchanged wsX3_without := goodIn_r _ [5, 6] (by decide +kernel) (by decide +kernel)
set_option maxRecDepth 20000 in
theorem gX3_exchanged_X3_without : GoodIn wsX3_exchanged (va_wsS RX3 15 yX3_without wsX3_without) := goodIn_app (goodIn_of _ (by decide +kernel)) ggX3_exchanged_X3_without
theorem dX3_exchanged_0 : decode cX3_exchanged 0 = .ok (.lload_n 0, 1) := by decide +kernel
theorem dX3_exchanged_1 : decode cX3_exchanged 1 = .ok (.iload_n 2, 1) := by decide +kernel
theorem dX3_exchanged_2 : decode cX3_exchanged 2 = .ok (.invokestatic 15, 3) := by decide +kernel
theorem dX3_exchanged_5 : decode cX3_exchanged 5 = .ok (.ldc2_w 26, 3) := by decide +kernel
theorem dX3_exchanged_8 : decode cX3_exchanged 8 = .ok (.lxor, 1) := by decide +kernel
theorem dX3_exchanged_9 : decode cX3_exchanged 9 = .ok (.land, 1) := by decide +kernel
theorem dX3_exchanged_10 : decode cX3_exchanged 10 = .ok (.iload_n 3, 1) := by decide +kernel
theorem dX3_exchanged_11 : decode cX3_exchanged 11 = .ok (.invokestatic 15, 3) := by decide +kernel
theorem dX3_exchanged_14 : decode cX3_exchanged 14 = .ok (.land, 1) := by decide +kernel
theorem dX3_exchanged_15 : decode cX3_exchanged 15 = .ok (.lstore 4, 2) := by decide +kernel
theorem dX3_exchanged_17 : decode cX3_exchanged 17 = .ok (.lload_n 0, 1) := by decide +kernel
theorem dX3_exchanged_18 : decode cX3_exchanged 18 = .ok (.iload_n 2, 1) := by decide +kernel
theorem dX3_exchanged_19 : decode cX3_exchanged 19 = .ok (.invokestatic 15, 3) := by decide +kernel
theorem dX3_exchanged_22 : decode cX3_exchanged 22 = .ok (.land, 1) := by decide +kernel
theorem dX3_exchanged_23 : decode cX3_exchanged 23 = .ok (.iload_n 3, 1) := by decide +kernel
theorem dX3_exchanged_24 : decode cX3_exchanged 24 = .ok (.invokestatic 15, 3) := by decide +kernel
theorem dX3_exchanged_27 : decode cX3_exchanged 27 = .ok (.ldc2_w 26, 3) := by decide +kernel
theorem dX3_exchanged_30 : decode cX3_exchanged 30 = .ok (.lxor, 1) := by decide +kernel
theorem dX3_exchanged_31 : decode cX3_exchanged 31 = .ok (.land, 1) := by decide +kernel
theorem dX3_exchanged_32 : decode cX3_exchanged 32 = .ok (.lstore 6, 2) := by decide +kernel
theorem dX3_exchanged_34 : decode cX3_exchanged 34 = .ok (.iconst 1, 1) := by decide +kernel
theorem dX3_exchanged_35 : decode cX3_exchanged 35 = .ok (.iload_n 3, 1) := by decide +kernel
theorem dX3_exchanged_36 : decode cX3_exchanged 36 = .ok (.ishl, 1) := by decide +kernel
theorem dX3_exchanged_37 : decode cX3_exchanged 37 = .ok (.iconst 1, 1) := by decide +kernel
theorem dX3_exchanged_38 : decode cX3_exchanged 38 = .ok (.iload_n 2, 1) := by decide +kernel
theorem dX3_exchanged_39 : decode cX3_exchanged 39 = .ok (.ishl, 1) := by decide +kernel
theorem dX3_exchanged_40 : decode cX3_exchanged 40 = .ok (.isub, 1) := by decide +kernel
theorem dX3_exchanged_41 : decode cX3_exchanged 41 = .ok (.istore 8, 2) := by decide +kernel
theorem dX3_exchanged_43 : decode cX3_exchanged 43 = .ok (.lload_n 0, 1) := by decide +kernel
theorem dX3_exchanged_44 : decode cX3_exchanged 44 = .ok (.lload 4, 2) := by decide +kernel
theorem dX3_exchanged_46 : decode cX3_exchanged 46 = .ok (.lxor, 1) := by decide +kernel
theorem dX3_exchanged_47 : decode cX3_exchanged 47 = .ok (.lload 6, 2) := by decide +kernel
theorem dX3_exchanged_49 : decode cX3_exchanged 49 = .ok (.lxor, 1) := by decide +kernel
theorem dX3_exchanged_50 : decode cX3_exchanged 50 = .ok (.lstore 9, 2) := by decide +kernel
theorem dX3_exchanged_52 : decode cX3_exchanged 52 = .ok (.lload 9, 2) := by decide +kernel
theorem dX3_exchanged_54 : decode cX3_exchanged 54 = .ok (.lload 4, 2) := by decide +kernel
theorem dX3_exchanged_56 : decode cX3_exchanged 56 = .ok (.iload 8, 2) := by decide +kernel
theorem dX3_exchanged_58 : decode cX3_exchanged 58 = .ok (.lshl, 1) := by decide +kernel
theorem dX3_exchanged_59 : decode cX3_exchanged 59 = .ok (.lor, 1) := by decide +kernel
theorem dX3_exchanged_60 : decode cX3_exchanged 60 = .ok (.lload 6, 2) := by decide +kernel
theorem dX3_exchanged_62 : decode cX3_exchanged 62 = .ok (.iload 8, 2) := by decide +kernel
theorem dX3_exchanged_64 : decode cX3_exchanged 64 = .ok (.lushr, 1) := by decide +kernel
theorem dX3_exchanged_65 : decode cX3_exchanged 65 = .ok (.lor, 1) := by decide +kernel
theorem dX3_exchanged_66 : decode cX3_exchanged 66 = .ok (.lreturn, 1) := by decide +kernel
set_option maxRecDepth 20000 in
theorem ggX3_lowestVariable_X3_upperHalf : GoodIn wsX3_lowestVariable wsX3_upperHalf := goodIn_r _ [4, 5, 6, 3, 7, 8] (by decide +kernel) (by decide +kernel)
set_option maxRecDepth 20000 in
theorem gX3_lowestVariable_X3_upperHalf : GoodIn wsX3_lowestVariable (va_wsS RX3 28 yX3_upperHalf wsX3_upperHalf) := goodIn_app (goodIn_of _ (by decide +kernel)) ggX3_lowestVariable_X3_upperHalf
theorem dX3_lowestVariable_0 : decode cX3_lowestVariable 0 = .ok (.iconst 0, 1) := by decide +kernel
theorem dX3_lowestVariable_1 : decode cX3_lowestVariable 1 = .ok (.istore_n 2, 1) := by decide +kernel
theorem dX3_lowestVariable_2 : decode cX3_lowestVariable 2 = .ok (.iload_n 2, 1) := by decide +kernel
theorem dX3_lowestVariable_3 : decode cX3_lowestVariable 3 = .ok (.bipush 6, 2) := by decide +kernel
theorem dX3_lowestVariable_5 : decode cX3_lowestVariable 5 = .ok (.if_icmp .ge 19, 3) := by decide +kernel
theorem dX3_lowestVariable_8 : decode cX3_lowestVariable 8 = .ok (.lload_n 0, 1) := by decide +kernel
theorem dX3_lowestVariable_9 : decode cX3_lowestVariable 9 = .ok (.iload_n 2, 1) := by decide +kernel
theorem dX3_lowestVariable_10 : decode cX3_lowestVariable 10 = .ok (.invokestatic 28, 3) := by decide +kernel
theorem dX3_lowestVariable_13 : decode cX3_lowestVariable 13 = .ok (.lconst 0, 1) := by decide +kernel
theorem dX3_lowestVariable_14 : decode cX3_lowestVariable 14 = .ok (.lcmp, 1) := by decide +kernel
theorem dX3_lowestVariable_15 : decode cX3_lowestVariable 15 = .ok (.ifCond .ne 9, 3) := by decide +kernel
theorem dX3_lowestVariable_18 : decode cX3_lowestVariable 18 = .ok (.iinc 2 1, 3) := by decide +kernel
theorem dX3_lowestVariable_21 : decode cX3_lowestVariable 21 = .ok (.goto (-19), 3) := by decide +kernel
theorem dX3_lowestVariable_24 : decode cX3_lowestVariable 24 = .ok (.iload_n 2, 1) := by decide +kernel
theorem dX3_lowestVariable_25 : decode cX3_lowestVariable 25 = .ok (.ireturn, 1) := by decide +kernel
set_option maxRecDepth 20000 in
theorem ggX4_lengthOf_X3_bit : GoodIn wsX4_lengthOf wsX3_bit := goodIn_r _ [4] (by decide +kernel) (by decide +kernel)
set_option maxRecDepth 20000 in
theorem gX4_lengthOf_X3_bit : GoodIn wsX4_lengthOf (va_wsS RX4 9 yX3_bit wsX3_bit) := goodIn_app (goodIn_of _ (by decide +kernel)) ggX4_lengthOf_X3_bit
set_option maxRecDepth 20000 in
theorem ggX4_lengthOf_X4_widthOf : GoodIn wsX4_lengthOf wsX4_widthOf := goodIn_r _ [8, 9, 10, 11, 12, 13, 14, 15] (by decide +kernel) (by decide +kernel)
set_option maxRecDepth 20000 in
theorem gX4_lengthOf_X4_widthOf : GoodIn wsX4_lengthOf (va_wsS RX4 15 yX4_widthOf wsX4_widthOf) := goodIn_app (goodIn_of _ (by decide +kernel)) ggX4_lengthOf_X4_widthOf
set_option maxRecDepth 20000 in
theorem ggX4_lengthOf_J13_bitCount_95d88 : GoodIn wsX4_lengthOf wsJ13_bitCount_95d88 := goodIn_r _ [19, 20, 21, 22] (by decide +kernel) (by decide +kernel)
set_option maxRecDepth 20000 in
theorem gX4_lengthOf_J13_bitCount_95d88 : GoodIn wsX4_lengthOf (va_wsS RX4 21 yJ13_bitCount_95d88 wsJ13_bitCount_95d88) := goodIn_app (goodIn_of _ (by decide +kernel)) ggX4_lengthOf_J13_bitCount_95d88
theorem dX4_lengthOf_0 : decode cX4_lengthOf 0 = .ok (.lload_n 0, 1) := by decide +kernel
theorem dX4_lengthOf_1 : decode cX4_lengthOf 1 = .ok (.lconst 0, 1) := by decide +kernel
theorem dX4_lengthOf_2 : decode cX4_lengthOf 2 = .ok (.lcmp, 1) := by decide +kernel
theorem dX4_lengthOf_3 : decode cX4_lengthOf 3 = .ok (.ifCond .ne 5, 3) := by decide +kernel
theorem dX4_lengthOf_6 : decode cX4_lengthOf 6 = .ok (.iconst 1, 1) := by decide +kernel
theorem dX4_lengthOf_7 : decode cX4_lengthOf 7 = .ok (.ireturn, 1) := by decide +kernel
theorem dX4_lengthOf_8 : decode cX4_lengthOf 8 = .ok (.iconst 0, 1) := by decide +kernel
theorem dX4_lengthOf_9 : decode cX4_lengthOf 9 = .ok (.istore_n 2, 1) := by decide +kernel
theorem dX4_lengthOf_10 : decode cX4_lengthOf 10 = .ok (.iconst 0, 1) := by decide +kernel
theorem dX4_lengthOf_11 : decode cX4_lengthOf 11 = .ok (.istore_n 3, 1) := by decide +kernel
theorem dX4_lengthOf_12 : decode cX4_lengthOf 12 = .ok (.iload_n 3, 1) := by decide +kernel
theorem dX4_lengthOf_13 : decode cX4_lengthOf 13 = .ok (.bipush 64, 2) := by decide +kernel
theorem dX4_lengthOf_15 : decode cX4_lengthOf 15 = .ok (.if_icmp .ge 25, 3) := by decide +kernel
theorem dX4_lengthOf_18 : decode cX4_lengthOf 18 = .ok (.lload_n 0, 1) := by decide +kernel
theorem dX4_lengthOf_19 : decode cX4_lengthOf 19 = .ok (.iload_n 3, 1) := by decide +kernel
theorem dX4_lengthOf_20 : decode cX4_lengthOf 20 = .ok (.invokestatic 9, 3) := by decide +kernel
theorem dX4_lengthOf_23 : decode cX4_lengthOf 23 = .ok (.iconst 1, 1) := by decide +kernel
theorem dX4_lengthOf_24 : decode cX4_lengthOf 24 = .ok (.if_icmp .ne 10, 3) := by decide +kernel
theorem dX4_lengthOf_27 : decode cX4_lengthOf 27 = .ok (.iload_n 2, 1) := by decide +kernel
theorem dX4_lengthOf_28 : decode cX4_lengthOf 28 = .ok (.iload_n 3, 1) := by decide +kernel
theorem dX4_lengthOf_29 : decode cX4_lengthOf 29 = .ok (.invokestatic 15, 3) := by decide +kernel
theorem dX4_lengthOf_32 : decode cX4_lengthOf 32 = .ok (.iadd, 1) := by decide +kernel
theorem dX4_lengthOf_33 : decode cX4_lengthOf 33 = .ok (.istore_n 2, 1) := by decide +kernel
theorem dX4_lengthOf_34 : decode cX4_lengthOf 34 = .ok (.iinc 3 1, 3) := by decide +kernel
theorem dX4_lengthOf_37 : decode cX4_lengthOf 37 = .ok (.goto (-25), 3) := by decide +kernel
theorem dX4_lengthOf_40 : decode cX4_lengthOf 40 = .ok (.iload_n 2, 1) := by decide +kernel
theorem dX4_lengthOf_41 : decode cX4_lengthOf 41 = .ok (.lload_n 0, 1) := by decide +kernel
theorem dX4_lengthOf_42 : decode cX4_lengthOf 42 = .ok (.invokestatic 21, 3) := by decide +kernel
theorem dX4_lengthOf_45 : decode cX4_lengthOf 45 = .ok (.iadd, 1) := by decide +kernel
theorem dX4_lengthOf_46 : decode cX4_lengthOf 46 = .ok (.iconst 1, 1) := by decide +kernel
theorem dX4_lengthOf_47 : decode cX4_lengthOf 47 = .ok (.isub, 1) := by decide +kernel
theorem dX4_lengthOf_48 : decode cX4_lengthOf 48 = .ok (.ireturn, 1) := by decide +kernel
set_option maxRecDepth 20000 in
theorem ggX4_characterOf_X4_lengthOf : GoodIn wsX4_characterOf wsX4_lengthOf := goodIn_r _ [4, 5, 6, 7, 8, 9, 10, 3, 11, 12, 13, 14, 15, 16, 17, 18, 19, 20, 21, 22, 23, 24, 25] (by decide +kernel) (by decide +kernel)
set_option maxRecDepth 20000 in
theorem gX4_characterOf_X4_lengthOf : GoodIn wsX4_characterOf (va_wsS RX4 27 yX4_lengthOf wsX4_lengthOf) := goodIn_app (goodIn_of _ (by decide +kernel)) ggX4_characterOf_X4_lengthOf
set_option maxRecDepth 20000 in
theorem ggX4_characterOf_X2_monomialAt : GoodIn wsX4_characterOf wsX2_monomialAt := goodIn_r _ [29, 30, 31, 28, 32, 33, 34, 35] (by decide +kernel) (by decide +kernel)
set_option maxRecDepth 20000 in
theorem gX4_characterOf_X2_monomialAt : GoodIn wsX4_characterOf (va_wsS RX4 32 yX2_monomialAt wsX2_monomialAt) := goodIn_app (goodIn_of _ (by decide +kernel)) ggX4_characterOf_X2_monomialAt
set_option maxRecDepth 20000 in
theorem ggX4_characterOf_X3_bit : GoodIn wsX4_characterOf wsX3_bit := goodIn_r _ [8] (by decide +kernel) (by decide +kernel)
set_option maxRecDepth 20000 in
theorem gX4_characterOf_X3_bit : GoodIn wsX4_characterOf (va_wsS RX4 9 yX3_bit wsX3_bit) := goodIn_app (goodIn_of _ (by decide +kernel)) ggX4_characterOf_X3_bit
set_option maxRecDepth 20000 in
theorem ggX4_characterOf_X4_widthOf : GoodIn wsX4_characterOf wsX4_widthOf := goodIn_r _ [11, 12, 13, 14, 15, 16, 17, 18] (by decide +kernel) (by decide +kernel)
set_option maxRecDepth 20000 in
theorem gX4_characterOf_X4_widthOf : GoodIn wsX4_characterOf (va_wsS RX4 15 yX4_widthOf wsX4_widthOf) := goodIn_app (goodIn_of _ (by decide +kernel)) ggX4_characterOf_X4_widthOf
set_option maxRecDepth 20000 in
theorem ggX4_characterOf_X4_signOf : GoodIn wsX4_characterOf wsX4_signOf := goodIn_r _ [38] (by decide +kernel) (by decide +kernel)
set_option maxRecDepth 20000 in
theorem gX4_characterOf_X4_signOf : GoodIn wsX4_characterOf (va_wsS RX4 36 yX4_signOf wsX4_signOf) := goodIn_app (goodIn_of _ (by decide +kernel)) ggX4_characterOf_X4_signOf
theorem dX4_characterOf_0 : decode cX4_characterOf 0 = .ok (.iload_n 2, 1) := by decide +kernel
theorem dX4_characterOf_1 : decode cX4_characterOf 1 = .ok (.lload_n 0, 1) := by decide +kernel
theorem dX4_characterOf_2 : decode cX4_characterOf 2 = .ok (.invokestatic 27, 3) := by decide +kernel
theorem dX4_characterOf_5 : decode cX4_characterOf 5 = .ok (.if_icmp .lt 6, 3) := by decide +kernel
theorem dX4_characterOf_8 : decode cX4_characterOf 8 = .ok (.bipush (-4), 2) := by decide +kernel
theorem dX4_characterOf_10 : decode cX4_characterOf 10 = .ok (.ireturn, 1) := by decide +kernel
theorem dX4_characterOf_11 : decode cX4_characterOf 11 = .ok (.lload_n 0, 1) := by decide +kernel
theorem dX4_characterOf_12 : decode cX4_characterOf 12 = .ok (.lconst 0, 1) := by decide +kernel
theorem dX4_characterOf_13 : decode cX4_characterOf 13 = .ok (.lcmp, 1) := by decide +kernel
theorem dX4_characterOf_14 : decode cX4_characterOf 14 = .ok (.ifCond .ne 6, 3) := by decide +kernel
theorem dX4_characterOf_17 : decode cX4_characterOf 17 = .ok (.bipush 48, 2) := by decide +kernel
theorem dX4_characterOf_19 : decode cX4_characterOf 19 = .ok (.ireturn, 1) := by decide +kernel
theorem dX4_characterOf_20 : decode cX4_characterOf 20 = .ok (.iload_n 2, 1) := by decide +kernel
theorem dX4_characterOf_21 : decode cX4_characterOf 21 = .ok (.istore_n 3, 1) := by decide +kernel
theorem dX4_characterOf_22 : decode cX4_characterOf 22 = .ok (.iconst 0, 1) := by decide +kernel
theorem dX4_characterOf_23 : decode cX4_characterOf 23 = .ok (.istore 4, 2) := by decide +kernel
theorem dX4_characterOf_25 : decode cX4_characterOf 25 = .ok (.iload 4, 2) := by decide +kernel
theorem dX4_characterOf_27 : decode cX4_characterOf 27 = .ok (.bipush 64, 2) := by decide +kernel
theorem dX4_characterOf_29 : decode cX4_characterOf 29 = .ok (.if_icmp .ge 65, 3) := by decide +kernel
theorem dX4_characterOf_32 : decode cX4_characterOf 32 = .ok (.iconst 0, 1) := by decide +kernel
theorem dX4_characterOf_33 : decode cX4_characterOf 33 = .ok (.iload 4, 2) := by decide +kernel
theorem dX4_characterOf_35 : decode cX4_characterOf 35 = .ok (.invokestatic 32, 3) := by decide +kernel
theorem dX4_characterOf_38 : decode cX4_characterOf 38 = .ok (.istore 5, 2) := by decide +kernel
theorem dX4_characterOf_40 : decode cX4_characterOf 40 = .ok (.lload_n 0, 1) := by decide +kernel
theorem dX4_characterOf_41 : decode cX4_characterOf 41 = .ok (.iload 5, 2) := by decide +kernel
theorem dX4_characterOf_43 : decode cX4_characterOf 43 = .ok (.invokestatic 9, 3) := by decide +kernel
theorem dX4_characterOf_46 : decode cX4_characterOf 46 = .ok (.iconst 1, 1) := by decide +kernel
theorem dX4_characterOf_47 : decode cX4_characterOf 47 = .ok (.if_icmp .ne 41, 3) := by decide +kernel
theorem dX4_characterOf_50 : decode cX4_characterOf 50 = .ok (.iload 5, 2) := by decide +kernel
theorem dX4_characterOf_52 : decode cX4_characterOf 52 = .ok (.invokestatic 15, 3) := by decide +kernel
theorem dX4_characterOf_55 : decode cX4_characterOf 55 = .ok (.istore 6, 2) := by decide +kernel
theorem dX4_characterOf_57 : decode cX4_characterOf 57 = .ok (.iload_n 3, 1) := by decide +kernel
theorem dX4_characterOf_58 : decode cX4_characterOf 58 = .ok (.iload 6, 2) := by decide +kernel
theorem dX4_characterOf_60 : decode cX4_characterOf 60 = .ok (.if_icmp .gt 21, 3) := by decide +kernel
theorem dX4_characterOf_63 : decode cX4_characterOf 63 = .ok (.iload_n 3, 1) := by decide +kernel
theorem dX4_characterOf_64 : decode cX4_characterOf 64 = .ok (.iload 6, 2) := by decide +kernel
theorem dX4_characterOf_66 : decode cX4_characterOf 66 = .ok (.if_icmp .ne 8, 3) := by decide +kernel
theorem dX4_characterOf_69 : decode cX4_characterOf 69 = .ok (.bipush 43, 2) := by decide +kernel
theorem dX4_characterOf_71 : decode cX4_characterOf 71 = .ok (.goto 9, 3) := by decide +kernel
theorem dX4_characterOf_74 : decode cX4_characterOf 74 = .ok (.iload 5, 2) := by decide +kernel
theorem dX4_characterOf_76 : decode cX4_characterOf 76 = .ok (.iload_n 3, 1) := by decide +kernel
theorem dX4_characterOf_77 : decode cX4_characterOf 77 = .ok (.invokestatic 36, 3) := by decide +kernel
theorem dX4_characterOf_80 : decode cX4_characterOf 80 = .ok (.ireturn, 1) := by decide +kernel
theorem dX4_characterOf_81 : decode cX4_characterOf 81 = .ok (.iload_n 3, 1) := by decide +kernel
theorem dX4_characterOf_82 : decode cX4_characterOf 82 = .ok (.iload 6, 2) := by decide +kernel
theorem dX4_characterOf_84 : decode cX4_characterOf 84 = .ok (.iconst 1, 1) := by decide +kernel
theorem dX4_characterOf_85 : decode cX4_characterOf 85 = .ok (.iadd, 1) := by decide +kernel
theorem dX4_characterOf_86 : decode cX4_characterOf 86 = .ok (.isub, 1) := by decide +kernel
theorem dX4_characterOf_87 : decode cX4_characterOf 87 = .ok (.istore_n 3, 1) := by decide +kernel
theorem dX4_characterOf_88 : decode cX4_characterOf 88 = .ok (.iinc 4 1, 3) := by decide +kernel
theorem dX4_characterOf_91 : decode cX4_characterOf 91 = .ok (.goto (-66), 3) := by decide +kernel
theorem dX4_characterOf_94 : decode cX4_characterOf 94 = .ok (.bipush (-4), 2) := by decide +kernel
theorem dX4_characterOf_96 : decode cX4_characterOf 96 = .ok (.ireturn, 1) := by decide +kernel
set_option maxRecDepth 20000 in
theorem ggX4_widthOf_J6_bitCount_0f7a4 : GoodIn wsX4_widthOf wsJ6_bitCount_0f7a4 := goodIn_r _ [4, 5, 6, 7] (by decide +kernel) (by decide +kernel)
set_option maxRecDepth 20000 in
theorem gX4_widthOf_J6_bitCount_0f7a4 : GoodIn wsX4_widthOf (va_wsS RX4 39 yJ6_bitCount_0f7a4 wsJ6_bitCount_0f7a4) := goodIn_app (goodIn_of _ (by decide +kernel)) ggX4_widthOf_J6_bitCount_0f7a4
theorem dX4_widthOf_0 : decode cX4_widthOf 0 = .ok (.iload_n 0, 1) := by decide +kernel
theorem dX4_widthOf_1 : decode cX4_widthOf 1 = .ok (.ifCond .ne 7, 3) := by decide +kernel
theorem dX4_widthOf_4 : decode cX4_widthOf 4 = .ok (.iconst 1, 1) := by decide +kernel
theorem dX4_widthOf_5 : decode cX4_widthOf 5 = .ok (.goto 7, 3) := by decide +kernel
theorem dX4_widthOf_8 : decode cX4_widthOf 8 = .ok (.iload_n 0, 1) := by decide +kernel
theorem dX4_widthOf_9 : decode cX4_widthOf 9 = .ok (.invokestatic 39, 3) := by decide +kernel
theorem dX4_widthOf_12 : decode cX4_widthOf 12 = .ok (.ireturn, 1) := by decide +kernel
theorem dX4_signOf_0 : decode cX4_signOf 0 = .ok (.iload_n 1, 1) := by decide +kernel
theorem dX4_signOf_1 : decode cX4_signOf 1 = .ok (.istore_n 2, 1) := by decide +kernel
theorem dX4_signOf_2 : decode cX4_signOf 2 = .ok (.iconst 0, 1) := by decide +kernel
theorem dX4_signOf_3 : decode cX4_signOf 3 = .ok (.istore_n 3, 1) := by decide +kernel
theorem dX4_signOf_4 : decode cX4_signOf 4 = .ok (.iload_n 3, 1) := by decide +kernel
theorem dX4_signOf_5 : decode cX4_signOf 5 = .ok (.bipush 6, 2) := by decide +kernel
theorem dX4_signOf_7 : decode cX4_signOf 7 = .ok (.if_icmp .ge 30, 3) := by decide +kernel
theorem dX4_signOf_10 : decode cX4_signOf 10 = .ok (.iload_n 0, 1) := by decide +kernel
theorem dX4_signOf_11 : decode cX4_signOf 11 = .ok (.iload_n 3, 1) := by decide +kernel
theorem dX4_signOf_12 : decode cX4_signOf 12 = .ok (.ishr, 1) := by decide +kernel
theorem dX4_signOf_13 : decode cX4_signOf 13 = .ok (.iconst 1, 1) := by decide +kernel
theorem dX4_signOf_14 : decode cX4_signOf 14 = .ok (.iand, 1) := by decide +kernel
theorem dX4_signOf_15 : decode cX4_signOf 15 = .ok (.iconst 1, 1) := by decide +kernel
theorem dX4_signOf_16 : decode cX4_signOf 16 = .ok (.if_icmp .ne 15, 3) := by decide +kernel
theorem dX4_signOf_19 : decode cX4_signOf 19 = .ok (.iload_n 2, 1) := by decide +kernel
theorem dX4_signOf_20 : decode cX4_signOf 20 = .ok (.ifCond .ne 8, 3) := by decide +kernel
theorem dX4_signOf_23 : decode cX4_signOf 23 = .ok (.bipush 97, 2) := by decide +kernel
theorem dX4_signOf_25 : decode cX4_signOf 25 = .ok (.iload_n 3, 1) := by decide +kernel
theorem dX4_signOf_26 : decode cX4_signOf 26 = .ok (.iadd, 1) := by decide +kernel
theorem dX4_signOf_27 : decode cX4_signOf 27 = .ok (.ireturn, 1) := by decide +kernel
theorem dX4_signOf_28 : decode cX4_signOf 28 = .ok (.iinc 2 (-1), 3) := by decide +kernel
theorem dX4_signOf_31 : decode cX4_signOf 31 = .ok (.iinc 3 1, 3) := by decide +kernel
theorem dX4_signOf_34 : decode cX4_signOf 34 = .ok (.goto (-30), 3) := by decide +kernel
theorem dX4_signOf_37 : decode cX4_signOf 37 = .ok (.bipush 49, 2) := by decide +kernel
theorem dX4_signOf_39 : decode cX4_signOf 39 = .ok (.ireturn, 1) := by decide +kernel
theorem dX5_init_0 : decode cX5_init 0 = .ok (.aload_n 0, 1) := by decide +kernel
theorem dX5_init_1 : decode cX5_init 1 = .ok (.invokespecial 3, 3) := by decide +kernel
theorem dX5_init_4 : decode cX5_init 4 = .ok (.aload_n 0, 1) := by decide +kernel
theorem dX5_init_5 : decode cX5_init 5 = .ok (.bipush 60, 2) := by decide +kernel
theorem dX5_init_7 : decode cX5_init 7 = .ok (.newarray .char, 2) := by decide +kernel
theorem dX5_init_9 : decode cX5_init 9 = .ok (.putfield 11, 3) := by decide +kernel
theorem dX5_init_12 : decode cX5_init 12 = .ok (.aload_n 0, 1) := by decide +kernel
theorem dX5_init_13 : decode cX5_init 13 = .ok (.iconst 0, 1) := by decide +kernel
theorem dX5_init_14 : decode cX5_init 14 = .ok (.putfield 15, 3) := by decide +kernel
theorem dX5_init_17 : decode cX5_init 17 = .ok (.return_, 1) := by decide +kernel
theorem dX5_append_0 : decode cX5_append 0 = .ok (.aload_n 0, 1) := by decide +kernel
theorem dX5_append_1 : decode cX5_append 1 = .ok (.getfield 15, 3) := by decide +kernel
theorem dX5_append_4 : decode cX5_append 4 = .ok (.ifCond .lt 12, 3) := by decide +kernel
theorem dX5_append_7 : decode cX5_append 7 = .ok (.aload_n 0, 1) := by decide +kernel
theorem dX5_append_8 : decode cX5_append 8 = .ok (.getfield 15, 3) := by decide +kernel
theorem dX5_append_11 : decode cX5_append 11 = .ok (.bipush 60, 2) := by decide +kernel
theorem dX5_append_13 : decode cX5_append 13 = .ok (.if_icmp .lt 6, 3) := by decide +kernel
theorem dX5_append_16 : decode cX5_append 16 = .ok (.bipush (-3), 2) := by decide +kernel
theorem dX5_append_18 : decode cX5_append 18 = .ok (.ireturn, 1) := by decide +kernel
theorem dX5_append_19 : decode cX5_append 19 = .ok (.aload_n 0, 1) := by decide +kernel
theorem dX5_append_20 : decode cX5_append 20 = .ok (.getfield 11, 3) := by decide +kernel
theorem dX5_append_23 : decode cX5_append 23 = .ok (.aload_n 0, 1) := by decide +kernel
theorem dX5_append_24 : decode cX5_append 24 = .ok (.getfield 15, 3) := by decide +kernel
theorem dX5_append_27 : decode cX5_append 27 = .ok (.iload_n 1, 1) := by decide +kernel
theorem dX5_append_28 : decode cX5_append 28 = .ok (.castore, 1) := by decide +kernel
theorem dX5_append_29 : decode cX5_append 29 = .ok (.aload_n 0, 1) := by decide +kernel
theorem dX5_append_30 : decode cX5_append 30 = .ok (.dup, 1) := by decide +kernel
theorem dX5_append_31 : decode cX5_append 31 = .ok (.getfield 15, 3) := by decide +kernel
theorem dX5_append_34 : decode cX5_append 34 = .ok (.iconst 1, 1) := by decide +kernel
theorem dX5_append_35 : decode cX5_append 35 = .ok (.iadd, 1) := by decide +kernel
theorem dX5_append_36 : decode cX5_append 36 = .ok (.putfield 15, 3) := by decide +kernel
theorem dX5_append_39 : decode cX5_append 39 = .ok (.aload_n 0, 1) := by decide +kernel
theorem dX5_append_40 : decode cX5_append 40 = .ok (.getfield 15, 3) := by decide +kernel
theorem dX5_append_43 : decode cX5_append 43 = .ok (.ireturn, 1) := by decide +kernel
theorem dX5_empty_0 : decode cX5_empty 0 = .ok (.aload_n 0, 1) := by decide +kernel
theorem dX5_empty_1 : decode cX5_empty 1 = .ok (.getfield 15, 3) := by decide +kernel
theorem dX5_empty_4 : decode cX5_empty 4 = .ok (.istore_n 1, 1) := by decide +kernel
theorem dX5_empty_5 : decode cX5_empty 5 = .ok (.aload_n 0, 1) := by decide +kernel
theorem dX5_empty_6 : decode cX5_empty 6 = .ok (.iconst 0, 1) := by decide +kernel
theorem dX5_empty_7 : decode cX5_empty 7 = .ok (.putfield 15, 3) := by decide +kernel
theorem dX5_empty_10 : decode cX5_empty 10 = .ok (.iload_n 1, 1) := by decide +kernel
theorem dX5_empty_11 : decode cX5_empty 11 = .ok (.ireturn, 1) := by decide +kernel
set_option maxRecDepth 20000 in
theorem ggX5_firstFault_X5_seenAfter : GoodIn wsX5_firstFault wsX5_seenAfter := goodIn_r _ [6] (by decide +kernel) (by decide +kernel)
set_option maxRecDepth 20000 in
theorem gX5_firstFault_X5_seenAfter : GoodIn wsX5_firstFault (va_wsS RX5 19 yX5_seenAfter wsX5_seenAfter) := goodIn_app (goodIn_of _ (by decide +kernel)) ggX5_firstFault_X5_seenAfter
theorem dX5_firstFault_0 : decode cX5_firstFault 0 = .ok (.iconst (-1), 1) := by decide +kernel
theorem dX5_firstFault_1 : decode cX5_firstFault 1 = .ok (.istore_n 2, 1) := by decide +kernel
theorem dX5_firstFault_2 : decode cX5_firstFault 2 = .ok (.iconst 0, 1) := by decide +kernel
theorem dX5_firstFault_3 : decode cX5_firstFault 3 = .ok (.istore_n 3, 1) := by decide +kernel
theorem dX5_firstFault_4 : decode cX5_firstFault 4 = .ok (.iload_n 3, 1) := by decide +kernel
theorem dX5_firstFault_5 : decode cX5_firstFault 5 = .ok (.aload_n 0, 1) := by decide +kernel
theorem dX5_firstFault_6 : decode cX5_firstFault 6 = .ok (.getfield 15, 3) := by decide +kernel
theorem dX5_firstFault_9 : decode cX5_firstFault 9 = .ok (.if_icmp .ge 35, 3) := by decide +kernel
theorem dX5_firstFault_12 : decode cX5_firstFault 12 = .ok (.iload_n 3, 1) := by decide +kernel
theorem dX5_firstFault_13 : decode cX5_firstFault 13 = .ok (.bipush 60, 2) := by decide +kernel
theorem dX5_firstFault_15 : decode cX5_firstFault 15 = .ok (.if_icmp .ge 29, 3) := by decide +kernel
theorem dX5_firstFault_18 : decode cX5_firstFault 18 = .ok (.iload_n 2, 1) := by decide +kernel
theorem dX5_firstFault_19 : decode cX5_firstFault 19 = .ok (.aload_n 0, 1) := by decide +kernel
theorem dX5_firstFault_20 : decode cX5_firstFault 20 = .ok (.getfield 11, 3) := by decide +kernel
theorem dX5_firstFault_23 : decode cX5_firstFault 23 = .ok (.iload_n 3, 1) := by decide +kernel
theorem dX5_firstFault_24 : decode cX5_firstFault 24 = .ok (.caload, 1) := by decide +kernel
theorem dX5_firstFault_25 : decode cX5_firstFault 25 = .ok (.iload_n 1, 1) := by decide +kernel
theorem dX5_firstFault_26 : decode cX5_firstFault 26 = .ok (.invokestatic 19, 3) := by decide +kernel
theorem dX5_firstFault_29 : decode cX5_firstFault 29 = .ok (.istore_n 2, 1) := by decide +kernel
theorem dX5_firstFault_30 : decode cX5_firstFault 30 = .ok (.iload_n 2, 1) := by decide +kernel
theorem dX5_firstFault_31 : decode cX5_firstFault 31 = .ok (.bipush 7, 2) := by decide +kernel
theorem dX5_firstFault_33 : decode cX5_firstFault 33 = .ok (.if_icmp .ne 5, 3) := by decide +kernel
theorem dX5_firstFault_36 : decode cX5_firstFault 36 = .ok (.iload_n 3, 1) := by decide +kernel
theorem dX5_firstFault_37 : decode cX5_firstFault 37 = .ok (.ireturn, 1) := by decide +kernel
theorem dX5_firstFault_38 : decode cX5_firstFault 38 = .ok (.iinc 3 1, 3) := by decide +kernel
theorem dX5_firstFault_41 : decode cX5_firstFault 41 = .ok (.goto (-37), 3) := by decide +kernel
theorem dX5_firstFault_44 : decode cX5_firstFault 44 = .ok (.iload_n 2, 1) := by decide +kernel
theorem dX5_firstFault_45 : decode cX5_firstFault 45 = .ok (.iconst (-1), 1) := by decide +kernel
theorem dX5_firstFault_46 : decode cX5_firstFault 46 = .ok (.if_icmp .ne 10, 3) := by decide +kernel
theorem dX5_firstFault_49 : decode cX5_firstFault 49 = .ok (.aload_n 0, 1) := by decide +kernel
theorem dX5_firstFault_50 : decode cX5_firstFault 50 = .ok (.getfield 15, 3) := by decide +kernel
theorem dX5_firstFault_53 : decode cX5_firstFault 53 = .ok (.goto 5, 3) := by decide +kernel
theorem dX5_firstFault_56 : decode cX5_firstFault 56 = .ok (.bipush (-4), 2) := by decide +kernel
theorem dX5_firstFault_58 : decode cX5_firstFault 58 = .ok (.ireturn, 1) := by decide +kernel
theorem dX5_seenAfter_0 : decode cX5_seenAfter 0 = .ok (.iload_n 1, 1) := by decide +kernel
theorem dX5_seenAfter_1 : decode cX5_seenAfter 1 = .ok (.bipush 43, 2) := by decide +kernel
theorem dX5_seenAfter_3 : decode cX5_seenAfter 3 = .ok (.if_icmp .ne 15, 3) := by decide +kernel
theorem dX5_seenAfter_6 : decode cX5_seenAfter 6 = .ok (.iload_n 0, 1) := by decide +kernel
theorem dX5_seenAfter_7 : decode cX5_seenAfter 7 = .ok (.iconst (-1), 1) := by decide +kernel
theorem dX5_seenAfter_8 : decode cX5_seenAfter 8 = .ok (.if_icmp .ne 8, 3) := by decide +kernel
theorem dX5_seenAfter_11 : decode cX5_seenAfter 11 = .ok (.bipush 7, 2) := by decide +kernel
theorem dX5_seenAfter_13 : decode cX5_seenAfter 13 = .ok (.goto 4, 3) := by decide +kernel
theorem dX5_seenAfter_16 : decode cX5_seenAfter 16 = .ok (.iconst (-1), 1) := by decide +kernel
theorem dX5_seenAfter_17 : decode cX5_seenAfter 17 = .ok (.ireturn, 1) := by decide +kernel
theorem dX5_seenAfter_18 : decode cX5_seenAfter 18 = .ok (.iload_n 1, 1) := by decide +kernel
theorem dX5_seenAfter_19 : decode cX5_seenAfter 19 = .ok (.bipush 48, 2) := by decide +kernel
theorem dX5_seenAfter_21 : decode cX5_seenAfter 21 = .ok (.if_icmp .eq 9, 3) := by decide +kernel
theorem dX5_seenAfter_24 : decode cX5_seenAfter 24 = .ok (.iload_n 1, 1) := by decide +kernel
theorem dX5_seenAfter_25 : decode cX5_seenAfter 25 = .ok (.bipush 49, 2) := by decide +kernel
theorem dX5_seenAfter_27 : decode cX5_seenAfter 27 = .ok (.if_icmp .ne 16, 3) := by decide +kernel
theorem dX5_seenAfter_30 : decode cX5_seenAfter 30 = .ok (.iload_n 0, 1) := by decide +kernel
theorem dX5_seenAfter_31 : decode cX5_seenAfter 31 = .ok (.iconst (-1), 1) := by decide +kernel
theorem dX5_seenAfter_32 : decode cX5_seenAfter 32 = .ok (.if_icmp .ne 8, 3) := by decide +kernel
theorem dX5_seenAfter_35 : decode cX5_seenAfter 35 = .ok (.bipush 6, 2) := by decide +kernel
theorem dX5_seenAfter_37 : decode cX5_seenAfter 37 = .ok (.goto 5, 3) := by decide +kernel
theorem dX5_seenAfter_40 : decode cX5_seenAfter 40 = .ok (.bipush 7, 2) := by decide +kernel
theorem dX5_seenAfter_42 : decode cX5_seenAfter 42 = .ok (.ireturn, 1) := by decide +kernel
theorem dX5_seenAfter_43 : decode cX5_seenAfter 43 = .ok (.iload_n 1, 1) := by decide +kernel
theorem dX5_seenAfter_44 : decode cX5_seenAfter 44 = .ok (.bipush 97, 2) := by decide +kernel
theorem dX5_seenAfter_46 : decode cX5_seenAfter 46 = .ok (.isub, 1) := by decide +kernel
theorem dX5_seenAfter_47 : decode cX5_seenAfter 47 = .ok (.istore_n 3, 1) := by decide +kernel
theorem dX5_seenAfter_48 : decode cX5_seenAfter 48 = .ok (.iload_n 3, 1) := by decide +kernel
theorem dX5_seenAfter_49 : decode cX5_seenAfter 49 = .ok (.iload_n 0, 1) := by decide +kernel
theorem dX5_seenAfter_50 : decode cX5_seenAfter 50 = .ok (.if_icmp .le 12, 3) := by decide +kernel
theorem dX5_seenAfter_53 : decode cX5_seenAfter 53 = .ok (.iload_n 3, 1) := by decide +kernel
theorem dX5_seenAfter_54 : decode cX5_seenAfter 54 = .ok (.iload_n 2, 1) := by decide +kernel
theorem dX5_seenAfter_55 : decode cX5_seenAfter 55 = .ok (.if_icmp .ge 7, 3) := by decide +kernel
theorem dX5_seenAfter_58 : decode cX5_seenAfter 58 = .ok (.iload_n 3, 1) := by decide +kernel
theorem dX5_seenAfter_59 : decode cX5_seenAfter 59 = .ok (.goto 5, 3) := by decide +kernel
theorem dX5_seenAfter_62 : decode cX5_seenAfter 62 = .ok (.bipush 7, 2) := by decide +kernel
theorem dX5_seenAfter_64 : decode cX5_seenAfter 64 = .ok (.ireturn, 1) := by decide +kernel
set_option maxRecDepth 20000 in
theorem ggX5_polynomial_X3_ofMonomial : GoodIn wsX5_polynomial wsX3_ofMonomial := goodIn_r _ [6] (by decide +kernel) (by decide +kernel)
set_option maxRecDepth 20000 in
theorem gX5_polynomial_X3_ofMonomial : GoodIn wsX5_polynomial (va_wsS RX5 23 yX3_ofMonomial wsX3_ofMonomial) := goodIn_app (goodIn_of _ (by decide +kernel)) ggX5_polynomial_X3_ofMonomial
theorem dX5_polynomial_0 : decode cX5_polynomial 0 = .ok (.lconst 0, 1) := by decide +kernel
theorem dX5_polynomial_1 : decode cX5_polynomial 1 = .ok (.lstore_n 1, 1) := by decide +kernel
theorem dX5_polynomial_2 : decode cX5_polynomial 2 = .ok (.iconst 0, 1) := by decide +kernel
theorem dX5_polynomial_3 : decode cX5_polynomial 3 = .ok (.istore_n 3, 1) := by decide +kernel
theorem dX5_polynomial_4 : decode cX5_polynomial 4 = .ok (.iconst 0, 1) := by decide +kernel
theorem dX5_polynomial_5 : decode cX5_polynomial 5 = .ok (.istore 4, 2) := by decide +kernel
theorem dX5_polynomial_7 : decode cX5_polynomial 7 = .ok (.iconst 0, 1) := by decide +kernel
theorem dX5_polynomial_8 : decode cX5_polynomial 8 = .ok (.istore 5, 2) := by decide +kernel
theorem dX5_polynomial_10 : decode cX5_polynomial 10 = .ok (.iload 5, 2) := by decide +kernel
theorem dX5_polynomial_12 : decode cX5_polynomial 12 = .ok (.aload_n 0, 1) := by decide +kernel
theorem dX5_polynomial_13 : decode cX5_polynomial 13 = .ok (.getfield 15, 3) := by decide +kernel
theorem dX5_polynomial_16 : decode cX5_polynomial 16 = .ok (.if_icmp .ge 86, 3) := by decide +kernel
theorem dX5_polynomial_19 : decode cX5_polynomial 19 = .ok (.iload 5, 2) := by decide +kernel
theorem dX5_polynomial_21 : decode cX5_polynomial 21 = .ok (.bipush 60, 2) := by decide +kernel
theorem dX5_polynomial_23 : decode cX5_polynomial 23 = .ok (.if_icmp .ge 79, 3) := by decide +kernel
theorem dX5_polynomial_26 : decode cX5_polynomial 26 = .ok (.aload_n 0, 1) := by decide +kernel
theorem dX5_polynomial_27 : decode cX5_polynomial 27 = .ok (.getfield 11, 3) := by decide +kernel
theorem dX5_polynomial_30 : decode cX5_polynomial 30 = .ok (.iload 5, 2) := by decide +kernel
theorem dX5_polynomial_32 : decode cX5_polynomial 32 = .ok (.caload, 1) := by decide +kernel
theorem dX5_polynomial_33 : decode cX5_polynomial 33 = .ok (.istore 6, 2) := by decide +kernel
theorem dX5_polynomial_35 : decode cX5_polynomial 35 = .ok (.iload 6, 2) := by decide +kernel
theorem dX5_polynomial_37 : decode cX5_polynomial 37 = .ok (.bipush 43, 2) := by decide +kernel
theorem dX5_polynomial_39 : decode cX5_polynomial 39 = .ok (.if_icmp .ne 27, 3) := by decide +kernel
theorem dX5_polynomial_42 : decode cX5_polynomial 42 = .ok (.lload_n 1, 1) := by decide +kernel
theorem dX5_polynomial_43 : decode cX5_polynomial 43 = .ok (.iload 4, 2) := by decide +kernel
theorem dX5_polynomial_45 : decode cX5_polynomial 45 = .ok (.ifCond .eq 7, 3) := by decide +kernel
theorem dX5_polynomial_48 : decode cX5_polynomial 48 = .ok (.lconst 0, 1) := by decide +kernel
theorem dX5_polynomial_49 : decode cX5_polynomial 49 = .ok (.goto 7, 3) := by decide +kernel
theorem dX5_polynomial_52 : decode cX5_polynomial 52 = .ok (.iload_n 3, 1) := by decide +kernel
theorem dX5_polynomial_53 : decode cX5_polynomial 53 = .ok (.invokestatic 23, 3) := by decide +kernel
theorem dX5_polynomial_56 : decode cX5_polynomial 56 = .ok (.lxor, 1) := by decide +kernel
theorem dX5_polynomial_57 : decode cX5_polynomial 57 = .ok (.lstore_n 1, 1) := by decide +kernel
theorem dX5_polynomial_58 : decode cX5_polynomial 58 = .ok (.iconst 0, 1) := by decide +kernel
theorem dX5_polynomial_59 : decode cX5_polynomial 59 = .ok (.istore_n 3, 1) := by decide +kernel
theorem dX5_polynomial_60 : decode cX5_polynomial 60 = .ok (.iconst 0, 1) := by decide +kernel
theorem dX5_polynomial_61 : decode cX5_polynomial 61 = .ok (.istore 4, 2) := by decide +kernel
theorem dX5_polynomial_63 : decode cX5_polynomial 63 = .ok (.goto 33, 3) := by decide +kernel
theorem dX5_polynomial_66 : decode cX5_polynomial 66 = .ok (.iload 6, 2) := by decide +kernel
theorem dX5_polynomial_68 : decode cX5_polynomial 68 = .ok (.bipush 48, 2) := by decide +kernel
theorem dX5_polynomial_70 : decode cX5_polynomial 70 = .ok (.if_icmp .ne 9, 3) := by decide +kernel
theorem dX5_polynomial_73 : decode cX5_polynomial 73 = .ok (.iconst 1, 1) := by decide +kernel
theorem dX5_polynomial_74 : decode cX5_polynomial 74 = .ok (.istore 4, 2) := by decide +kernel
theorem dX5_polynomial_76 : decode cX5_polynomial 76 = .ok (.goto 20, 3) := by decide +kernel
theorem dX5_polynomial_79 : decode cX5_polynomial 79 = .ok (.iload 6, 2) := by decide +kernel
theorem dX5_polynomial_81 : decode cX5_polynomial 81 = .ok (.bipush 49, 2) := by decide +kernel
theorem dX5_polynomial_83 : decode cX5_polynomial 83 = .ok (.if_icmp .eq 13, 3) := by decide +kernel
theorem dX5_polynomial_86 : decode cX5_polynomial 86 = .ok (.iload_n 3, 1) := by decide +kernel
theorem dX5_polynomial_87 : decode cX5_polynomial 87 = .ok (.iconst 1, 1) := by decide +kernel
theorem dX5_polynomial_88 : decode cX5_polynomial 88 = .ok (.iload 6, 2) := by decide +kernel
theorem dX5_polynomial_90 : decode cX5_polynomial 90 = .ok (.bipush 97, 2) := by decide +kernel
theorem dX5_polynomial_92 : decode cX5_polynomial 92 = .ok (.isub, 1) := by decide +kernel
theorem dX5_polynomial_93 : decode cX5_polynomial 93 = .ok (.ishl, 1) := by decide +kernel
theorem dX5_polynomial_94 : decode cX5_polynomial 94 = .ok (.ior, 1) := by decide +kernel
theorem dX5_polynomial_95 : decode cX5_polynomial 95 = .ok (.istore_n 3, 1) := by decide +kernel
theorem dX5_polynomial_96 : decode cX5_polynomial 96 = .ok (.iinc 5 1, 3) := by decide +kernel
theorem dX5_polynomial_99 : decode cX5_polynomial 99 = .ok (.goto (-89), 3) := by decide +kernel
theorem dX5_polynomial_102 : decode cX5_polynomial 102 = .ok (.lload_n 1, 1) := by decide +kernel
theorem dX5_polynomial_103 : decode cX5_polynomial 103 = .ok (.iload 4, 2) := by decide +kernel
theorem dX5_polynomial_105 : decode cX5_polynomial 105 = .ok (.ifCond .eq 7, 3) := by decide +kernel
theorem dX5_polynomial_108 : decode cX5_polynomial 108 = .ok (.lconst 0, 1) := by decide +kernel
theorem dX5_polynomial_109 : decode cX5_polynomial 109 = .ok (.goto 7, 3) := by decide +kernel
theorem dX5_polynomial_112 : decode cX5_polynomial 112 = .ok (.iload_n 3, 1) := by decide +kernel
theorem dX5_polynomial_113 : decode cX5_polynomial 113 = .ok (.invokestatic 23, 3) := by decide +kernel
theorem dX5_polynomial_116 : decode cX5_polynomial 116 = .ok (.lxor, 1) := by decide +kernel
theorem dX5_polynomial_117 : decode cX5_polynomial 117 = .ok (.lreturn, 1) := by decide +kernel
set_option maxRecDepth 20000 in
theorem ggX6_init_X1_init : GoodIn wsX6_init wsX1_init := goodIn_r _ [22, 23, 2, 3, 4, 24, 25, 43, 44] (by decide +kernel) (by decide +kernel)
set_option maxRecDepth 20000 in
theorem gX6_init_X1_init_n19 : GoodIn wsX6_init (wsX1_init) := ggX6_init_X1_init
set_option maxRecDepth 20000 in
theorem ggX6_init_X0_init : GoodIn wsX6_init wsX0_init := goodIn_r _ [27, 28, 2, 3, 4, 29, 30, 45, 46] (by decide +kernel) (by decide +kernel)
set_option maxRecDepth 20000 in
theorem gX6_init_X0_init_n26 : GoodIn wsX6_init (wsX0_init) := ggX6_init_X0_init
set_option maxRecDepth 20000 in
theorem ggX6_init_X5_init : GoodIn wsX6_init wsX5_init := goodIn_r _ [32, 33, 2, 3, 34, 35, 36, 47, 48] (by decide +kernel) (by decide +kernel)
set_option maxRecDepth 20000 in
theorem gX6_init_X5_init_n33 : GoodIn wsX6_init (wsX5_init) := ggX6_init_X5_init
theorem dX6_init_0 : decode cX6_init 0 = .ok (.aload_n 0, 1) := by decide +kernel
theorem dX6_init_1 : decode cX6_init 1 = .ok (.invokespecial 3, 3) := by decide +kernel
theorem dX6_init_4 : decode cX6_init 4 = .ok (.aload_n 0, 1) := by decide +kernel
theorem dX6_init_5 : decode cX6_init 5 = .ok (.bipush 8, 2) := by decide +kernel
theorem dX6_init_7 : decode cX6_init 7 = .ok (.newarray .long, 2) := by decide +kernel
theorem dX6_init_9 : decode cX6_init 9 = .ok (.putfield 9, 3) := by decide +kernel
theorem dX6_init_12 : decode cX6_init 12 = .ok (.aload_n 0, 1) := by decide +kernel
theorem dX6_init_13 : decode cX6_init 13 = .ok (.bipush 8, 2) := by decide +kernel
theorem dX6_init_15 : decode cX6_init 15 = .ok (.newarray .int, 2) := by decide +kernel
theorem dX6_init_17 : decode cX6_init 17 = .ok (.putfield 13, 3) := by decide +kernel
theorem dX6_init_20 : decode cX6_init 20 = .ok (.aload_n 0, 1) := by decide +kernel
theorem dX6_init_21 : decode cX6_init 21 = .ok (.new 17, 3) := by decide +kernel
theorem dX6_init_24 : decode cX6_init 24 = .ok (.dup, 1) := by decide +kernel
theorem dX6_init_25 : decode cX6_init 25 = .ok (.invokespecial 19, 3) := by decide +kernel
theorem dX6_init_28 : decode cX6_init 28 = .ok (.putfield 20, 3) := by decide +kernel
theorem dX6_init_31 : decode cX6_init 31 = .ok (.aload_n 0, 1) := by decide +kernel
theorem dX6_init_32 : decode cX6_init 32 = .ok (.new 24, 3) := by decide +kernel
theorem dX6_init_35 : decode cX6_init 35 = .ok (.dup, 1) := by decide +kernel
theorem dX6_init_36 : decode cX6_init 36 = .ok (.invokespecial 26, 3) := by decide +kernel
theorem dX6_init_39 : decode cX6_init 39 = .ok (.putfield 27, 3) := by decide +kernel
theorem dX6_init_42 : decode cX6_init 42 = .ok (.aload_n 0, 1) := by decide +kernel
theorem dX6_init_43 : decode cX6_init 43 = .ok (.new 31, 3) := by decide +kernel
theorem dX6_init_46 : decode cX6_init 46 = .ok (.dup, 1) := by decide +kernel
theorem dX6_init_47 : decode cX6_init 47 = .ok (.invokespecial 33, 3) := by decide +kernel
theorem dX6_init_50 : decode cX6_init 50 = .ok (.putfield 34, 3) := by decide +kernel
theorem dX6_init_53 : decode cX6_init 53 = .ok (.aload_n 0, 1) := by decide +kernel
theorem dX6_init_54 : decode cX6_init 54 = .ok (.iconst 4, 1) := by decide +kernel
theorem dX6_init_55 : decode cX6_init 55 = .ok (.putfield 38, 3) := by decide +kernel
theorem dX6_init_58 : decode cX6_init 58 = .ok (.return_, 1) := by decide +kernel
set_option maxRecDepth 20000 in
theorem ggX6_reset_J7_fill_d0a16 : GoodIn wsX6_reset wsJ7_fill_d0a16 := goodIn_r _ [7] (by decide +kernel) (by decide +kernel)
set_option maxRecDepth 20000 in
theorem gX6_reset_J7_fill_d0a16 : GoodIn wsX6_reset (va_wsS RX6 42 yJ7_fill_d0a16 wsJ7_fill_d0a16) := goodIn_app (goodIn_of _ (by decide +kernel)) ggX6_reset_J7_fill_d0a16
set_option maxRecDepth 20000 in
theorem ggX6_reset_X1_forget : GoodIn wsX6_reset wsX1_forget := goodIn_r _ [12, 13, 20, 21] (by decide +kernel) (by decide +kernel)
set_option maxRecDepth 20000 in
theorem gX6_reset_X1_forget : GoodIn wsX6_reset (wsV RX6 48 RX1 yX1_forget wsX1_forget) := goodIn_app (goodIn_of _ (by decide +kernel)) ggX6_reset_X1_forget
theorem dX6_reset_0 : decode cX6_reset 0 = .ok (.iload_n 1, 1) := by decide +kernel
theorem dX6_reset_1 : decode cX6_reset 1 = .ok (.iconst 1, 1) := by decide +kernel
theorem dX6_reset_2 : decode cX6_reset 2 = .ok (.if_icmp .lt 9, 3) := by decide +kernel
theorem dX6_reset_5 : decode cX6_reset 5 = .ok (.iload_n 1, 1) := by decide +kernel
theorem dX6_reset_6 : decode cX6_reset 6 = .ok (.bipush 6, 2) := by decide +kernel
theorem dX6_reset_8 : decode cX6_reset 8 = .ok (.if_icmp .le 5, 3) := by decide +kernel
theorem dX6_reset_11 : decode cX6_reset 11 = .ok (.iconst (-1), 1) := by decide +kernel
theorem dX6_reset_12 : decode cX6_reset 12 = .ok (.ireturn, 1) := by decide +kernel
theorem dX6_reset_13 : decode cX6_reset 13 = .ok (.aload_n 0, 1) := by decide +kernel
theorem dX6_reset_14 : decode cX6_reset 14 = .ok (.getfield 38, 3) := by decide +kernel
theorem dX6_reset_17 : decode cX6_reset 17 = .ok (.istore_n 2, 1) := by decide +kernel
theorem dX6_reset_18 : decode cX6_reset 18 = .ok (.aload_n 0, 1) := by decide +kernel
theorem dX6_reset_19 : decode cX6_reset 19 = .ok (.iload_n 1, 1) := by decide +kernel
theorem dX6_reset_20 : decode cX6_reset 20 = .ok (.putfield 38, 3) := by decide +kernel
theorem dX6_reset_23 : decode cX6_reset 23 = .ok (.aload_n 0, 1) := by decide +kernel
theorem dX6_reset_24 : decode cX6_reset 24 = .ok (.getfield 9, 3) := by decide +kernel
theorem dX6_reset_27 : decode cX6_reset 27 = .ok (.lconst 0, 1) := by decide +kernel
theorem dX6_reset_28 : decode cX6_reset 28 = .ok (.invokestatic 42, 3) := by decide +kernel
theorem dX6_reset_31 : decode cX6_reset 31 = .ok (.aload_n 0, 1) := by decide +kernel
theorem dX6_reset_32 : decode cX6_reset 32 = .ok (.getfield 20, 3) := by decide +kernel
theorem dX6_reset_35 : decode cX6_reset 35 = .ok (.invokevirtual 48, 3) := by decide +kernel
theorem dX6_reset_38 : decode cX6_reset 38 = .ok (.iload_n 2, 1) := by decide +kernel
theorem dX6_reset_39 : decode cX6_reset 39 = .ok (.ireturn, 1) := by decide +kernel
theorem dX6_variables_0 : decode cX6_variables 0 = .ok (.aload_n 0, 1) := by decide +kernel
theorem dX6_variables_1 : decode cX6_variables 1 = .ok (.getfield 38, 3) := by decide +kernel
theorem dX6_variables_4 : decode cX6_variables 4 = .ok (.ireturn, 1) := by decide +kernel
set_option maxRecDepth 20000 in
theorem ggX6_toggle_X6_isRegister : GoodIn wsX6_toggle wsX6_isRegister := goodIn_r _ [5] (by decide +kernel) (by decide +kernel)
set_option maxRecDepth 20000 in
theorem gX6_toggle_X6_isRegister : GoodIn wsX6_toggle (va_wsS RX6 51 yX6_isRegister wsX6_isRegister) := goodIn_app (goodIn_of _ (by decide +kernel)) ggX6_toggle_X6_isRegister
set_option maxRecDepth 20000 in
theorem ggX6_toggle_X6_isMask : GoodIn wsX6_toggle wsX6_isMask := goodIn_r _ [9, 10, 38, 39, 40, 41, 42, 43] (by decide +kernel) (by decide +kernel)
set_option maxRecDepth 20000 in
theorem gX6_toggle_X6_isMask : GoodIn wsX6_toggle (wsV RX6 55 RX6 yX6_isMask wsX6_isMask) := goodIn_app (goodIn_of _ (by decide +kernel)) ggX6_toggle_X6_isMask
set_option maxRecDepth 20000 in
theorem ggX6_toggle_X3_ofMonomial : GoodIn wsX6_toggle wsX3_ofMonomial := goodIn_r _ [14] (by decide +kernel) (by decide +kernel)
set_option maxRecDepth 20000 in
theorem gX6_toggle_X3_ofMonomial : GoodIn wsX6_toggle (va_wsS RX6 58 yX3_ofMonomial wsX3_ofMonomial) := goodIn_app (goodIn_of _ (by decide +kernel)) ggX6_toggle_X3_ofMonomial
set_option maxRecDepth 20000 in
theorem ggX6_toggle_X6_put : GoodIn wsX6_toggle wsX6_put := goodIn_r _ [18, 19, 1, 20, 21, 22, 23, 24, 25, 26, 27, 28, 29, 30, 2, 3, 4, 5, 31, 32, 33, 34, 35, 36, 37, 38, 39, 40, 41, 42, 43, 44, 45] (by decide +kernel) (by decide +kernel)
set_option maxRecDepth 20000 in
theorem gX6_toggle_X6_put : GoodIn wsX6_toggle (wsV RX6 64 RX6 yX6_put wsX6_put) := goodIn_app (goodIn_of _ (by decide +kernel)) ggX6_toggle_X6_put
theorem dX6_toggle_0 : decode cX6_toggle 0 = .ok (.iload_n 1, 1) := by decide +kernel
theorem dX6_toggle_1 : decode cX6_toggle 1 = .ok (.invokestatic 51, 3) := by decide +kernel
theorem dX6_toggle_4 : decode cX6_toggle 4 = .ok (.ifCond .eq 11, 3) := by decide +kernel
theorem dX6_toggle_7 : decode cX6_toggle 7 = .ok (.aload_n 0, 1) := by decide +kernel
theorem dX6_toggle_8 : decode cX6_toggle 8 = .ok (.iload_n 2, 1) := by decide +kernel
theorem dX6_toggle_9 : decode cX6_toggle 9 = .ok (.invokevirtual 55, 3) := by decide +kernel
theorem dX6_toggle_12 : decode cX6_toggle 12 = .ok (.ifCond .ne 5, 3) := by decide +kernel
theorem dX6_toggle_15 : decode cX6_toggle 15 = .ok (.iconst (-1), 1) := by decide +kernel
theorem dX6_toggle_16 : decode cX6_toggle 16 = .ok (.ireturn, 1) := by decide +kernel
theorem dX6_toggle_17 : decode cX6_toggle 17 = .ok (.aload_n 0, 1) := by decide +kernel
theorem dX6_toggle_18 : decode cX6_toggle 18 = .ok (.iload_n 1, 1) := by decide +kernel
theorem dX6_toggle_19 : decode cX6_toggle 19 = .ok (.aload_n 0, 1) := by decide +kernel
theorem dX6_toggle_20 : decode cX6_toggle 20 = .ok (.getfield 9, 3) := by decide +kernel
theorem dX6_toggle_23 : decode cX6_toggle 23 = .ok (.iload_n 1, 1) := by decide +kernel
theorem dX6_toggle_24 : decode cX6_toggle 24 = .ok (.laload, 1) := by decide +kernel
theorem dX6_toggle_25 : decode cX6_toggle 25 = .ok (.iload_n 2, 1) := by decide +kernel
theorem dX6_toggle_26 : decode cX6_toggle 26 = .ok (.invokestatic 58, 3) := by decide +kernel
theorem dX6_toggle_29 : decode cX6_toggle 29 = .ok (.lxor, 1) := by decide +kernel
theorem dX6_toggle_30 : decode cX6_toggle 30 = .ok (.invokevirtual 64, 3) := by decide +kernel
theorem dX6_toggle_33 : decode cX6_toggle 33 = .ok (.ireturn, 1) := by decide +kernel
set_option maxRecDepth 20000 in
theorem ggX6_copy_X6_isRegister : GoodIn wsX6_copy wsX6_isRegister := goodIn_r _ [5] (by decide +kernel) (by decide +kernel)
set_option maxRecDepth 20000 in
theorem gX6_copy_X6_isRegister : GoodIn wsX6_copy (va_wsS RX6 51 yX6_isRegister wsX6_isRegister) := goodIn_app (goodIn_of _ (by decide +kernel)) ggX6_copy_X6_isRegister
set_option maxRecDepth 20000 in
theorem ggX6_copy_X6_put : GoodIn wsX6_copy wsX6_put := goodIn_r _ [9, 10, 1, 11, 12, 13, 14, 15, 16, 17, 18, 19, 20, 21, 2, 3, 4, 5, 22, 23, 24, 25, 26, 27, 28, 29, 30, 31, 32, 33, 34, 35, 36] (by decide +kernel) (by decide +kernel)
set_option maxRecDepth 20000 in
theorem gX6_copy_X6_put : GoodIn wsX6_copy (wsV RX6 64 RX6 yX6_put wsX6_put) := goodIn_app (goodIn_of _ (by decide +kernel)) ggX6_copy_X6_put
theorem dX6_copy_0 : decode cX6_copy 0 = .ok (.iload_n 1, 1) := by decide +kernel
theorem dX6_copy_1 : decode cX6_copy 1 = .ok (.invokestatic 51, 3) := by decide +kernel
theorem dX6_copy_4 : decode cX6_copy 4 = .ok (.ifCond .eq 10, 3) := by decide +kernel
theorem dX6_copy_7 : decode cX6_copy 7 = .ok (.iload_n 2, 1) := by decide +kernel
theorem dX6_copy_8 : decode cX6_copy 8 = .ok (.invokestatic 51, 3) := by decide +kernel
theorem dX6_copy_11 : decode cX6_copy 11 = .ok (.ifCond .ne 5, 3) := by decide +kernel
theorem dX6_copy_14 : decode cX6_copy 14 = .ok (.iconst (-1), 1) := by decide +kernel
theorem dX6_copy_15 : decode cX6_copy 15 = .ok (.ireturn, 1) := by decide +kernel
theorem dX6_copy_16 : decode cX6_copy 16 = .ok (.aload_n 0, 1) := by decide +kernel
theorem dX6_copy_17 : decode cX6_copy 17 = .ok (.iload_n 2, 1) := by decide +kernel
theorem dX6_copy_18 : decode cX6_copy 18 = .ok (.aload_n 0, 1) := by decide +kernel
theorem dX6_copy_19 : decode cX6_copy 19 = .ok (.getfield 9, 3) := by decide +kernel
theorem dX6_copy_22 : decode cX6_copy 22 = .ok (.iload_n 1, 1) := by decide +kernel
theorem dX6_copy_23 : decode cX6_copy 23 = .ok (.laload, 1) := by decide +kernel
theorem dX6_copy_24 : decode cX6_copy 24 = .ok (.invokevirtual 64, 3) := by decide +kernel
theorem dX6_copy_27 : decode cX6_copy 27 = .ok (.ireturn, 1) := by decide +kernel
set_option maxRecDepth 20000 in
theorem ggX6_sum_X6_isRegister : GoodIn wsX6_sum wsX6_isRegister := goodIn_r _ [5] (by decide +kernel) (by decide +kernel)
set_option maxRecDepth 20000 in
theorem gX6_sum_X6_isRegister : GoodIn wsX6_sum (va_wsS RX6 51 yX6_isRegister wsX6_isRegister) := goodIn_app (goodIn_of _ (by decide +kernel)) ggX6_sum_X6_isRegister
set_option maxRecDepth 20000 in
theorem ggX6_sum_X6_put : GoodIn wsX6_sum wsX6_put := goodIn_r _ [9, 10, 1, 11, 12, 13, 14, 15, 16, 17, 18, 19, 20, 21, 2, 3, 4, 5, 22, 23, 24, 25, 26, 27, 28, 29, 30, 31, 32, 33, 34, 35, 36] (by decide +kernel) (by decide +kernel)
set_option maxRecDepth 20000 in
theorem gX6_sum_X6_put : GoodIn wsX6_sum (wsV RX6 64 RX6 yX6_put wsX6_put) := goodIn_app (goodIn_of _ (by decide +kernel)) ggX6_sum_X6_put
theorem dX6_sum_0 : decode cX6_sum 0 = .ok (.iload_n 1, 1) := by decide +kernel
theorem dX6_sum_1 : decode cX6_sum 1 = .ok (.invokestatic 51, 3) := by decide +kernel
theorem dX6_sum_4 : decode cX6_sum 4 = .ok (.ifCond .eq 17, 3) := by decide +kernel
theorem dX6_sum_7 : decode cX6_sum 7 = .ok (.iload_n 2, 1) := by decide +kernel
theorem dX6_sum_8 : decode cX6_sum 8 = .ok (.invokestatic 51, 3) := by decide +kernel
theorem dX6_sum_11 : decode cX6_sum 11 = .ok (.ifCond .eq 10, 3) := by decide +kernel
theorem dX6_sum_14 : decode cX6_sum 14 = .ok (.iload_n 3, 1) := by decide +kernel
theorem dX6_sum_15 : decode cX6_sum 15 = .ok (.invokestatic 51, 3) := by decide +kernel
theorem dX6_sum_18 : decode cX6_sum 18 = .ok (.ifCond .ne 5, 3) := by decide +kernel
theorem dX6_sum_21 : decode cX6_sum 21 = .ok (.iconst (-1), 1) := by decide +kernel
theorem dX6_sum_22 : decode cX6_sum 22 = .ok (.ireturn, 1) := by decide +kernel
theorem dX6_sum_23 : decode cX6_sum 23 = .ok (.aload_n 0, 1) := by decide +kernel
theorem dX6_sum_24 : decode cX6_sum 24 = .ok (.iload_n 3, 1) := by decide +kernel
theorem dX6_sum_25 : decode cX6_sum 25 = .ok (.aload_n 0, 1) := by decide +kernel
theorem dX6_sum_26 : decode cX6_sum 26 = .ok (.getfield 9, 3) := by decide +kernel
theorem dX6_sum_29 : decode cX6_sum 29 = .ok (.iload_n 1, 1) := by decide +kernel
theorem dX6_sum_30 : decode cX6_sum 30 = .ok (.laload, 1) := by decide +kernel
theorem dX6_sum_31 : decode cX6_sum 31 = .ok (.aload_n 0, 1) := by decide +kernel
theorem dX6_sum_32 : decode cX6_sum 32 = .ok (.getfield 9, 3) := by decide +kernel
theorem dX6_sum_35 : decode cX6_sum 35 = .ok (.iload_n 2, 1) := by decide +kernel
theorem dX6_sum_36 : decode cX6_sum 36 = .ok (.laload, 1) := by decide +kernel
theorem dX6_sum_37 : decode cX6_sum 37 = .ok (.lxor, 1) := by decide +kernel
theorem dX6_sum_38 : decode cX6_sum 38 = .ok (.invokevirtual 64, 3) := by decide +kernel
theorem dX6_sum_41 : decode cX6_sum 41 = .ok (.ireturn, 1) := by decide +kernel
set_option maxRecDepth 20000 in
theorem ggX6_product_X6_isRegister : GoodIn wsX6_product wsX6_isRegister := goodIn_r _ [6] (by decide +kernel) (by decide +kernel)
set_option maxRecDepth 20000 in
theorem gX6_product_X6_isRegister : GoodIn wsX6_product (va_wsS RX6 51 yX6_isRegister wsX6_isRegister) := goodIn_app (goodIn_of _ (by decide +kernel)) ggX6_product_X6_isRegister
set_option maxRecDepth 20000 in
theorem ggX6_product_X3_multiplied : GoodIn wsX6_product wsX3_multiplied := goodIn_r _ [10, 11, 12, 9, 13, 14, 15, 16, 17, 18, 19, 20] (by decide +kernel) (by decide +kernel)
set_option maxRecDepth 20000 in
theorem gX6_product_X3_multiplied : GoodIn wsX6_product (va_wsS RX6 68 yX3_multiplied wsX3_multiplied) := goodIn_app (goodIn_of _ (by decide +kernel)) ggX6_product_X3_multiplied
set_option maxRecDepth 20000 in
theorem ggX6_product_X6_put : GoodIn wsX6_product wsX6_put := goodIn_r _ [24, 25, 1, 26, 27, 28, 29, 30, 31, 32, 33, 34, 35, 36, 3, 4, 5, 6, 37, 38, 39, 40, 41, 42, 43, 44, 45, 46, 47, 48, 49, 50, 51] (by decide +kernel) (by decide +kernel)
set_option maxRecDepth 20000 in
theorem gX6_product_X6_put : GoodIn wsX6_product (wsV RX6 64 RX6 yX6_put wsX6_put) := goodIn_app (goodIn_of _ (by decide +kernel)) ggX6_product_X6_put
theorem dX6_product_0 : decode cX6_product 0 = .ok (.iload_n 1, 1) := by decide +kernel
theorem dX6_product_1 : decode cX6_product 1 = .ok (.invokestatic 51, 3) := by decide +kernel
theorem dX6_product_4 : decode cX6_product 4 = .ok (.ifCond .eq 17, 3) := by decide +kernel
theorem dX6_product_7 : decode cX6_product 7 = .ok (.iload_n 2, 1) := by decide +kernel
theorem dX6_product_8 : decode cX6_product 8 = .ok (.invokestatic 51, 3) := by decide +kernel
theorem dX6_product_11 : decode cX6_product 11 = .ok (.ifCond .eq 10, 3) := by decide +kernel
theorem dX6_product_14 : decode cX6_product 14 = .ok (.iload_n 3, 1) := by decide +kernel
theorem dX6_product_15 : decode cX6_product 15 = .ok (.invokestatic 51, 3) := by decide +kernel
theorem dX6_product_18 : decode cX6_product 18 = .ok (.ifCond .ne 5, 3) := by decide +kernel
theorem dX6_product_21 : decode cX6_product 21 = .ok (.iconst (-1), 1) := by decide +kernel
theorem dX6_product_22 : decode cX6_product 22 = .ok (.ireturn, 1) := by decide +kernel
theorem dX6_product_23 : decode cX6_product 23 = .ok (.aload_n 0, 1) := by decide +kernel
theorem dX6_product_24 : decode cX6_product 24 = .ok (.iload_n 3, 1) := by decide +kernel
theorem dX6_product_25 : decode cX6_product 25 = .ok (.aload_n 0, 1) := by decide +kernel
theorem dX6_product_26 : decode cX6_product 26 = .ok (.getfield 9, 3) := by decide +kernel
theorem dX6_product_29 : decode cX6_product 29 = .ok (.iload_n 1, 1) := by decide +kernel
theorem dX6_product_30 : decode cX6_product 30 = .ok (.laload, 1) := by decide +kernel
theorem dX6_product_31 : decode cX6_product 31 = .ok (.aload_n 0, 1) := by decide +kernel
theorem dX6_product_32 : decode cX6_product 32 = .ok (.getfield 9, 3) := by decide +kernel
theorem dX6_product_35 : decode cX6_product 35 = .ok (.iload_n 2, 1) := by decide +kernel
theorem dX6_product_36 : decode cX6_product 36 = .ok (.laload, 1) := by decide +kernel
theorem dX6_product_37 : decode cX6_product 37 = .ok (.aload_n 0, 1) := by decide +kernel
theorem dX6_product_38 : decode cX6_product 38 = .ok (.getfield 38, 3) := by decide +kernel
theorem dX6_product_41 : decode cX6_product 41 = .ok (.invokestatic 68, 3) := by decide +kernel
theorem dX6_product_44 : decode cX6_product 44 = .ok (.invokevirtual 64, 3) := by decide +kernel
theorem dX6_product_47 : decode cX6_product 47 = .ok (.ireturn, 1) := by decide +kernel
set_option maxRecDepth 20000 in
theorem ggX6_times_X6_isRegister : GoodIn wsX6_times wsX6_isRegister := goodIn_r _ [6] (by decide +kernel) (by decide +kernel)
set_option maxRecDepth 20000 in
theorem gX6_times_X6_isRegister : GoodIn wsX6_times (va_wsS RX6 51 yX6_isRegister wsX6_isRegister) := goodIn_app (goodIn_of _ (by decide +kernel)) ggX6_times_X6_isRegister
set_option maxRecDepth 20000 in
theorem ggX6_times_X6_isMask : GoodIn wsX6_times wsX6_isMask := goodIn_r _ [10, 2, 51, 52, 53, 54, 55, 56] (by decide +kernel) (by decide +kernel)
set_option maxRecDepth 20000 in
theorem gX6_times_X6_isMask : GoodIn wsX6_times (wsV RX6 55 RX6 yX6_isMask wsX6_isMask) := goodIn_app (goodIn_of _ (by decide +kernel)) ggX6_times_X6_isMask
set_option maxRecDepth 20000 in
theorem ggX6_times_X3_ofMonomial : GoodIn wsX6_times wsX3_ofMonomial := goodIn_r _ [14] (by decide +kernel) (by decide +kernel)
set_option maxRecDepth 20000 in
theorem gX6_times_X3_ofMonomial : GoodIn wsX6_times (va_wsS RX6 58 yX3_ofMonomial wsX3_ofMonomial) := goodIn_app (goodIn_of _ (by decide +kernel)) ggX6_times_X3_ofMonomial
set_option maxRecDepth 20000 in
theorem ggX6_times_X3_multiplied : GoodIn wsX6_times wsX3_multiplied := goodIn_r _ [17, 18, 19, 13, 20, 21, 22, 23, 24, 25, 26, 27] (by decide +kernel) (by decide +kernel)
set_option maxRecDepth 20000 in
theorem gX6_times_X3_multiplied : GoodIn wsX6_times (va_wsS RX6 68 yX3_multiplied wsX3_multiplied) := goodIn_app (goodIn_of _ (by decide +kernel)) ggX6_times_X3_multiplied
set_option maxRecDepth 20000 in
theorem ggX6_times_X6_put : GoodIn wsX6_times wsX6_put := goodIn_r _ [31, 32, 1, 33, 34, 35, 36, 37, 38, 39, 40, 41, 42, 43, 3, 4, 5, 6, 44, 45, 46, 47, 48, 49, 50, 51, 52, 53, 54, 55, 56, 57, 58] (by decide +kernel) (by decide +kernel)
set_option maxRecDepth 20000 in
theorem gX6_times_X6_put : GoodIn wsX6_times (wsV RX6 64 RX6 yX6_put wsX6_put) := goodIn_app (goodIn_of _ (by decide +kernel)) ggX6_times_X6_put
theorem dX6_times_0 : decode cX6_times 0 = .ok (.iload_n 1, 1) := by decide +kernel
theorem dX6_times_1 : decode cX6_times 1 = .ok (.invokestatic 51, 3) := by decide +kernel
theorem dX6_times_4 : decode cX6_times 4 = .ok (.ifCond .eq 18, 3) := by decide +kernel
theorem dX6_times_7 : decode cX6_times 7 = .ok (.aload_n 0, 1) := by decide +kernel
theorem dX6_times_8 : decode cX6_times 8 = .ok (.iload_n 2, 1) := by decide +kernel
theorem dX6_times_9 : decode cX6_times 9 = .ok (.invokevirtual 55, 3) := by decide +kernel
theorem dX6_times_12 : decode cX6_times 12 = .ok (.ifCond .eq 10, 3) := by decide +kernel
theorem dX6_times_15 : decode cX6_times 15 = .ok (.iload_n 3, 1) := by decide +kernel
theorem dX6_times_16 : decode cX6_times 16 = .ok (.invokestatic 51, 3) := by decide +kernel
theorem dX6_times_19 : decode cX6_times 19 = .ok (.ifCond .ne 5, 3) := by decide +kernel
theorem dX6_times_22 : decode cX6_times 22 = .ok (.iconst (-1), 1) := by decide +kernel
theorem dX6_times_23 : decode cX6_times 23 = .ok (.ireturn, 1) := by decide +kernel
theorem dX6_times_24 : decode cX6_times 24 = .ok (.aload_n 0, 1) := by decide +kernel
theorem dX6_times_25 : decode cX6_times 25 = .ok (.iload_n 3, 1) := by decide +kernel
theorem dX6_times_26 : decode cX6_times 26 = .ok (.aload_n 0, 1) := by decide +kernel
theorem dX6_times_27 : decode cX6_times 27 = .ok (.getfield 9, 3) := by decide +kernel
theorem dX6_times_30 : decode cX6_times 30 = .ok (.iload_n 1, 1) := by decide +kernel
theorem dX6_times_31 : decode cX6_times 31 = .ok (.laload, 1) := by decide +kernel
theorem dX6_times_32 : decode cX6_times 32 = .ok (.iload_n 2, 1) := by decide +kernel
theorem dX6_times_33 : decode cX6_times 33 = .ok (.invokestatic 58, 3) := by decide +kernel
theorem dX6_times_36 : decode cX6_times 36 = .ok (.aload_n 0, 1) := by decide +kernel
theorem dX6_times_37 : decode cX6_times 37 = .ok (.getfield 38, 3) := by decide +kernel
theorem dX6_times_40 : decode cX6_times 40 = .ok (.invokestatic 68, 3) := by decide +kernel
theorem dX6_times_43 : decode cX6_times 43 = .ok (.invokevirtual 64, 3) := by decide +kernel
theorem dX6_times_46 : decode cX6_times 46 = .ok (.ireturn, 1) := by decide +kernel
set_option maxRecDepth 20000 in
theorem ggX6_restrict_X6_isRegister : GoodIn wsX6_restrict wsX6_isRegister := goodIn_r _ [5] (by decide +kernel) (by decide +kernel)
set_option maxRecDepth 20000 in
theorem gX6_restrict_X6_isRegister : GoodIn wsX6_restrict (va_wsS RX6 51 yX6_isRegister wsX6_isRegister) := goodIn_app (goodIn_of _ (by decide +kernel)) ggX6_restrict_X6_isRegister
set_option maxRecDepth 20000 in
theorem ggX6_restrict_X6_isVariable : GoodIn wsX6_restrict wsX6_isVariable := goodIn_r _ [9, 10, 45, 46, 47, 48, 49, 50] (by decide +kernel) (by decide +kernel)
set_option maxRecDepth 20000 in
theorem gX6_restrict_X6_isVariable : GoodIn wsX6_restrict (wsV RX6 72 RX6 yX6_isVariable wsX6_isVariable) := goodIn_app (goodIn_of _ (by decide +kernel)) ggX6_restrict_X6_isVariable
set_option maxRecDepth 20000 in
theorem ggX6_restrict_X3_lowerHalf : GoodIn wsX6_restrict wsX3_lowerHalf := goodIn_r _ [14, 15, 16, 13, 17, 18] (by decide +kernel) (by decide +kernel)
set_option maxRecDepth 20000 in
theorem gX6_restrict_X3_lowerHalf : GoodIn wsX6_restrict (va_wsS RX6 75 yX3_lowerHalf wsX3_lowerHalf) := goodIn_app (goodIn_of _ (by decide +kernel)) ggX6_restrict_X3_lowerHalf
set_option maxRecDepth 20000 in
theorem ggX6_restrict_X3_upperHalf : GoodIn wsX6_restrict wsX3_upperHalf := goodIn_r _ [21, 15, 16, 13, 17, 18] (by decide +kernel) (by decide +kernel)
set_option maxRecDepth 20000 in
theorem gX6_restrict_X3_upperHalf : GoodIn wsX6_restrict (va_wsS RX6 79 yX3_upperHalf wsX3_upperHalf) := goodIn_app (goodIn_of _ (by decide +kernel)) ggX6_restrict_X3_upperHalf
set_option maxRecDepth 20000 in
theorem ggX6_restrict_X6_put : GoodIn wsX6_restrict wsX6_put := goodIn_r _ [25, 26, 1, 27, 28, 29, 30, 31, 32, 33, 34, 35, 36, 37, 2, 3, 4, 5, 38, 39, 40, 41, 42, 43, 44, 45, 46, 47, 48, 49, 50, 51, 52] (by decide +kernel) (by decide +kernel)
set_option maxRecDepth 20000 in
theorem gX6_restrict_X6_put : GoodIn wsX6_restrict (wsV RX6 64 RX6 yX6_put wsX6_put) := goodIn_app (goodIn_of _ (by decide +kernel)) ggX6_restrict_X6_put
theorem dX6_restrict_0 : decode cX6_restrict 0 = .ok (.iload_n 1, 1) := by decide +kernel
theorem dX6_restrict_1 : decode cX6_restrict 1 = .ok (.invokestatic 51, 3) := by decide +kernel
theorem dX6_restrict_4 : decode cX6_restrict 4 = .ok (.ifCond .eq 19, 3) := by decide +kernel
theorem dX6_restrict_7 : decode cX6_restrict 7 = .ok (.aload_n 0, 1) := by decide +kernel
theorem dX6_restrict_8 : decode cX6_restrict 8 = .ok (.iload_n 2, 1) := by decide +kernel
theorem dX6_restrict_9 : decode cX6_restrict 9 = .ok (.invokevirtual 72, 3) := by decide +kernel
theorem dX6_restrict_12 : decode cX6_restrict 12 = .ok (.ifCond .eq 11, 3) := by decide +kernel
theorem dX6_restrict_15 : decode cX6_restrict 15 = .ok (.iload 4, 2) := by decide +kernel
theorem dX6_restrict_17 : decode cX6_restrict 17 = .ok (.invokestatic 51, 3) := by decide +kernel
theorem dX6_restrict_20 : decode cX6_restrict 20 = .ok (.ifCond .ne 5, 3) := by decide +kernel
theorem dX6_restrict_23 : decode cX6_restrict 23 = .ok (.iconst (-1), 1) := by decide +kernel
theorem dX6_restrict_24 : decode cX6_restrict 24 = .ok (.ireturn, 1) := by decide +kernel
theorem dX6_restrict_25 : decode cX6_restrict 25 = .ok (.iload_n 3, 1) := by decide +kernel
theorem dX6_restrict_26 : decode cX6_restrict 26 = .ok (.ifCond .eq 10, 3) := by decide +kernel
theorem dX6_restrict_29 : decode cX6_restrict 29 = .ok (.iload_n 3, 1) := by decide +kernel
theorem dX6_restrict_30 : decode cX6_restrict 30 = .ok (.iconst 1, 1) := by decide +kernel
theorem dX6_restrict_31 : decode cX6_restrict 31 = .ok (.if_icmp .eq 5, 3) := by decide +kernel
theorem dX6_restrict_34 : decode cX6_restrict 34 = .ok (.iconst (-1), 1) := by decide +kernel
theorem dX6_restrict_35 : decode cX6_restrict 35 = .ok (.ireturn, 1) := by decide +kernel
theorem dX6_restrict_36 : decode cX6_restrict 36 = .ok (.aload_n 0, 1) := by decide +kernel
theorem dX6_restrict_37 : decode cX6_restrict 37 = .ok (.getfield 9, 3) := by decide +kernel
theorem dX6_restrict_40 : decode cX6_restrict 40 = .ok (.iload_n 1, 1) := by decide +kernel
theorem dX6_restrict_41 : decode cX6_restrict 41 = .ok (.laload, 1) := by decide +kernel
theorem dX6_restrict_42 : decode cX6_restrict 42 = .ok (.iload_n 2, 1) := by decide +kernel
theorem dX6_restrict_43 : decode cX6_restrict 43 = .ok (.invokestatic 75, 3) := by decide +kernel
theorem dX6_restrict_46 : decode cX6_restrict 46 = .ok (.lstore 5, 2) := by decide +kernel
theorem dX6_restrict_48 : decode cX6_restrict 48 = .ok (.iload_n 3, 1) := by decide +kernel
theorem dX6_restrict_49 : decode cX6_restrict 49 = .ok (.iconst 1, 1) := by decide +kernel
theorem dX6_restrict_50 : decode cX6_restrict 50 = .ok (.if_icmp .ne 18, 3) := by decide +kernel
theorem dX6_restrict_53 : decode cX6_restrict 53 = .ok (.lload 5, 2) := by decide +kernel
theorem dX6_restrict_55 : decode cX6_restrict 55 = .ok (.aload_n 0, 1) := by decide +kernel
theorem dX6_restrict_56 : decode cX6_restrict 56 = .ok (.getfield 9, 3) := by decide +kernel
theorem dX6_restrict_59 : decode cX6_restrict 59 = .ok (.iload_n 1, 1) := by decide +kernel
theorem dX6_restrict_60 : decode cX6_restrict 60 = .ok (.laload, 1) := by decide +kernel
theorem dX6_restrict_61 : decode cX6_restrict 61 = .ok (.iload_n 2, 1) := by decide +kernel
theorem dX6_restrict_62 : decode cX6_restrict 62 = .ok (.invokestatic 79, 3) := by decide +kernel
theorem dX6_restrict_65 : decode cX6_restrict 65 = .ok (.lxor, 1) := by decide +kernel
theorem dX6_restrict_66 : decode cX6_restrict 66 = .ok (.lstore 5, 2) := by decide +kernel
theorem dX6_restrict_68 : decode cX6_restrict 68 = .ok (.aload_n 0, 1) := by decide +kernel
theorem dX6_restrict_69 : decode cX6_restrict 69 = .ok (.iload 4, 2) := by decide +kernel
theorem dX6_restrict_71 : decode cX6_restrict 71 = .ok (.lload 5, 2) := by decide +kernel
theorem dX6_restrict_73 : decode cX6_restrict 73 = .ok (.invokevirtual 64, 3) := by decide +kernel
theorem dX6_restrict_76 : decode cX6_restrict 76 = .ok (.ireturn, 1) := by decide +kernel
set_option maxRecDepth 20000 in
theorem ggX6_substitute_X6_isRegister : GoodIn wsX6_substitute wsX6_isRegister := goodIn_r _ [6] (by decide +kernel) (by decide +kernel)
set_option maxRecDepth 20000 in
theorem gX6_substitute_X6_isRegister : GoodIn wsX6_substitute (va_wsS RX6 51 yX6_isRegister wsX6_isRegister) := goodIn_app (goodIn_of _ (by decide +kernel)) ggX6_substitute_X6_isRegister
set_option maxRecDepth 20000 in
theorem ggX6_substitute_X6_isVariable : GoodIn wsX6_substitute wsX6_isVariable := goodIn_r _ [10, 2, 54, 55, 56, 57, 58, 59] (by decide +kernel) (by decide +kernel)
set_option maxRecDepth 20000 in
theorem gX6_substitute_X6_isVariable : GoodIn wsX6_substitute (wsV RX6 72 RX6 yX6_isVariable wsX6_isVariable) := goodIn_app (goodIn_of _ (by decide +kernel)) ggX6_substitute_X6_isVariable
set_option maxRecDepth 20000 in
theorem ggX6_substitute_X3_upperHalf : GoodIn wsX6_substitute wsX3_upperHalf := goodIn_r _ [14, 15, 16, 13, 17, 18] (by decide +kernel) (by decide +kernel)
set_option maxRecDepth 20000 in
theorem gX6_substitute_X3_upperHalf : GoodIn wsX6_substitute (va_wsS RX6 79 yX3_upperHalf wsX3_upperHalf) := goodIn_app (goodIn_of _ (by decide +kernel)) ggX6_substitute_X3_upperHalf
set_option maxRecDepth 20000 in
theorem ggX6_substitute_X3_lowerHalf : GoodIn wsX6_substitute wsX3_lowerHalf := goodIn_r _ [21, 15, 16, 13, 17, 18] (by decide +kernel) (by decide +kernel)
set_option maxRecDepth 20000 in
theorem gX6_substitute_X3_lowerHalf : GoodIn wsX6_substitute (va_wsS RX6 75 yX3_lowerHalf wsX3_lowerHalf) := goodIn_app (goodIn_of _ (by decide +kernel)) ggX6_substitute_X3_lowerHalf
set_option maxRecDepth 20000 in
theorem ggX6_substitute_X3_multiplied : GoodIn wsX6_substitute wsX3_multiplied := goodIn_r _ [24, 25, 26, 13, 27, 28, 29, 30, 15, 16, 17, 18] (by decide +kernel) (by decide +kernel)
set_option maxRecDepth 20000 in
theorem gX6_substitute_X3_multiplied : GoodIn wsX6_substitute (va_wsS RX6 68 yX3_multiplied wsX3_multiplied) := goodIn_app (goodIn_of _ (by decide +kernel)) ggX6_substitute_X3_multiplied
set_option maxRecDepth 20000 in
theorem ggX6_substitute_X6_put : GoodIn wsX6_substitute wsX6_put := goodIn_r _ [34, 35, 1, 36, 37, 38, 39, 40, 41, 42, 43, 44, 45, 46, 3, 4, 5, 6, 47, 48, 49, 50, 51, 52, 53, 54, 55, 56, 57, 58, 59, 60, 61] (by decide +kernel) (by decide +kernel)
set_option maxRecDepth 20000 in
theorem gX6_substitute_X6_put : GoodIn wsX6_substitute (wsV RX6 64 RX6 yX6_put wsX6_put) := goodIn_app (goodIn_of _ (by decide +kernel)) ggX6_substitute_X6_put
theorem dX6_substitute_0 : decode cX6_substitute 0 = .ok (.iload_n 1, 1) := by decide +kernel
theorem dX6_substitute_1 : decode cX6_substitute 1 = .ok (.invokestatic 51, 3) := by decide +kernel
theorem dX6_substitute_4 : decode cX6_substitute 4 = .ok (.ifCond .eq 26, 3) := by decide +kernel
theorem dX6_substitute_7 : decode cX6_substitute 7 = .ok (.aload_n 0, 1) := by decide +kernel
theorem dX6_substitute_8 : decode cX6_substitute 8 = .ok (.iload_n 2, 1) := by decide +kernel
theorem dX6_substitute_9 : decode cX6_substitute 9 = .ok (.invokevirtual 72, 3) := by decide +kernel
theorem dX6_substitute_12 : decode cX6_substitute 12 = .ok (.ifCond .eq 18, 3) := by decide +kernel
theorem dX6_substitute_15 : decode cX6_substitute 15 = .ok (.iload_n 3, 1) := by decide +kernel
theorem dX6_substitute_16 : decode cX6_substitute 16 = .ok (.invokestatic 51, 3) := by decide +kernel
theorem dX6_substitute_19 : decode cX6_substitute 19 = .ok (.ifCond .eq 11, 3) := by decide +kernel
theorem dX6_substitute_22 : decode cX6_substitute 22 = .ok (.iload 4, 2) := by decide +kernel
theorem dX6_substitute_24 : decode cX6_substitute 24 = .ok (.invokestatic 51, 3) := by decide +kernel
theorem dX6_substitute_27 : decode cX6_substitute 27 = .ok (.ifCond .ne 5, 3) := by decide +kernel
theorem dX6_substitute_30 : decode cX6_substitute 30 = .ok (.iconst (-1), 1) := by decide +kernel
theorem dX6_substitute_31 : decode cX6_substitute 31 = .ok (.ireturn, 1) := by decide +kernel
theorem dX6_substitute_32 : decode cX6_substitute 32 = .ok (.aload_n 0, 1) := by decide +kernel
theorem dX6_substitute_33 : decode cX6_substitute 33 = .ok (.getfield 9, 3) := by decide +kernel
theorem dX6_substitute_36 : decode cX6_substitute 36 = .ok (.iload_n 1, 1) := by decide +kernel
theorem dX6_substitute_37 : decode cX6_substitute 37 = .ok (.laload, 1) := by decide +kernel
theorem dX6_substitute_38 : decode cX6_substitute 38 = .ok (.iload_n 2, 1) := by decide +kernel
theorem dX6_substitute_39 : decode cX6_substitute 39 = .ok (.invokestatic 79, 3) := by decide +kernel
theorem dX6_substitute_42 : decode cX6_substitute 42 = .ok (.lstore 5, 2) := by decide +kernel
theorem dX6_substitute_44 : decode cX6_substitute 44 = .ok (.aload_n 0, 1) := by decide +kernel
theorem dX6_substitute_45 : decode cX6_substitute 45 = .ok (.getfield 9, 3) := by decide +kernel
theorem dX6_substitute_48 : decode cX6_substitute 48 = .ok (.iload_n 1, 1) := by decide +kernel
theorem dX6_substitute_49 : decode cX6_substitute 49 = .ok (.laload, 1) := by decide +kernel
theorem dX6_substitute_50 : decode cX6_substitute 50 = .ok (.iload_n 2, 1) := by decide +kernel
theorem dX6_substitute_51 : decode cX6_substitute 51 = .ok (.invokestatic 75, 3) := by decide +kernel
theorem dX6_substitute_54 : decode cX6_substitute 54 = .ok (.lstore 7, 2) := by decide +kernel
theorem dX6_substitute_56 : decode cX6_substitute 56 = .ok (.aload_n 0, 1) := by decide +kernel
theorem dX6_substitute_57 : decode cX6_substitute 57 = .ok (.iload 4, 2) := by decide +kernel
theorem dX6_substitute_59 : decode cX6_substitute 59 = .ok (.lload 7, 2) := by decide +kernel
theorem dX6_substitute_61 : decode cX6_substitute 61 = .ok (.lload 5, 2) := by decide +kernel
theorem dX6_substitute_63 : decode cX6_substitute 63 = .ok (.aload_n 0, 1) := by decide +kernel
theorem dX6_substitute_64 : decode cX6_substitute 64 = .ok (.getfield 9, 3) := by decide +kernel
theorem dX6_substitute_67 : decode cX6_substitute 67 = .ok (.iload_n 3, 1) := by decide +kernel
theorem dX6_substitute_68 : decode cX6_substitute 68 = .ok (.laload, 1) := by decide +kernel
theorem dX6_substitute_69 : decode cX6_substitute 69 = .ok (.aload_n 0, 1) := by decide +kernel
theorem dX6_substitute_70 : decode cX6_substitute 70 = .ok (.getfield 38, 3) := by decide +kernel
theorem dX6_substitute_73 : decode cX6_substitute 73 = .ok (.invokestatic 68, 3) := by decide +kernel
theorem dX6_substitute_76 : decode cX6_substitute 76 = .ok (.lxor, 1) := by decide +kernel
theorem dX6_substitute_77 : decode cX6_substitute 77 = .ok (.invokevirtual 64, 3) := by decide +kernel
theorem dX6_substitute_80 : decode cX6_substitute 80 = .ok (.ireturn, 1) := by decide +kernel
set_option maxRecDepth 20000 in
theorem ggX6_derivative_X6_isRegister : GoodIn wsX6_derivative wsX6_isRegister := goodIn_r _ [5] (by decide +kernel) (by decide +kernel)
set_option maxRecDepth 20000 in
theorem gX6_derivative_X6_isRegister : GoodIn wsX6_derivative (va_wsS RX6 51 yX6_isRegister wsX6_isRegister) := goodIn_app (goodIn_of _ (by decide +kernel)) ggX6_derivative_X6_isRegister
set_option maxRecDepth 20000 in
theorem ggX6_derivative_X6_isVariable : GoodIn wsX6_derivative wsX6_isVariable := goodIn_r _ [9, 10, 42, 43, 44, 45, 46, 47] (by decide +kernel) (by decide +kernel)
set_option maxRecDepth 20000 in
theorem gX6_derivative_X6_isVariable : GoodIn wsX6_derivative (wsV RX6 72 RX6 yX6_isVariable wsX6_isVariable) := goodIn_app (goodIn_of _ (by decide +kernel)) ggX6_derivative_X6_isVariable
set_option maxRecDepth 20000 in
theorem ggX6_derivative_X3_upperHalf : GoodIn wsX6_derivative wsX3_upperHalf := goodIn_r _ [14, 15, 16, 13, 17, 18] (by decide +kernel) (by decide +kernel)
set_option maxRecDepth 20000 in
theorem gX6_derivative_X3_upperHalf : GoodIn wsX6_derivative (va_wsS RX6 79 yX3_upperHalf wsX3_upperHalf) := goodIn_app (goodIn_of _ (by decide +kernel)) ggX6_derivative_X3_upperHalf
set_option maxRecDepth 20000 in
theorem ggX6_derivative_X6_put : GoodIn wsX6_derivative wsX6_put := goodIn_r _ [22, 23, 1, 24, 25, 26, 27, 28, 29, 30, 31, 32, 33, 34, 2, 3, 4, 5, 35, 36, 37, 38, 39, 40, 41, 42, 43, 44, 45, 46, 47, 48, 49] (by decide +kernel) (by decide +kernel)
set_option maxRecDepth 20000 in
theorem gX6_derivative_X6_put : GoodIn wsX6_derivative (wsV RX6 64 RX6 yX6_put wsX6_put) := goodIn_app (goodIn_of _ (by decide +kernel)) ggX6_derivative_X6_put
theorem dX6_derivative_0 : decode cX6_derivative 0 = .ok (.iload_n 1, 1) := by decide +kernel
theorem dX6_derivative_1 : decode cX6_derivative 1 = .ok (.invokestatic 51, 3) := by decide +kernel
theorem dX6_derivative_4 : decode cX6_derivative 4 = .ok (.ifCond .eq 18, 3) := by decide +kernel
theorem dX6_derivative_7 : decode cX6_derivative 7 = .ok (.aload_n 0, 1) := by decide +kernel
theorem dX6_derivative_8 : decode cX6_derivative 8 = .ok (.iload_n 2, 1) := by decide +kernel
theorem dX6_derivative_9 : decode cX6_derivative 9 = .ok (.invokevirtual 72, 3) := by decide +kernel
theorem dX6_derivative_12 : decode cX6_derivative 12 = .ok (.ifCond .eq 10, 3) := by decide +kernel
theorem dX6_derivative_15 : decode cX6_derivative 15 = .ok (.iload_n 3, 1) := by decide +kernel
theorem dX6_derivative_16 : decode cX6_derivative 16 = .ok (.invokestatic 51, 3) := by decide +kernel
theorem dX6_derivative_19 : decode cX6_derivative 19 = .ok (.ifCond .ne 5, 3) := by decide +kernel
theorem dX6_derivative_22 : decode cX6_derivative 22 = .ok (.iconst (-1), 1) := by decide +kernel
theorem dX6_derivative_23 : decode cX6_derivative 23 = .ok (.ireturn, 1) := by decide +kernel
theorem dX6_derivative_24 : decode cX6_derivative 24 = .ok (.aload_n 0, 1) := by decide +kernel
theorem dX6_derivative_25 : decode cX6_derivative 25 = .ok (.iload_n 3, 1) := by decide +kernel
theorem dX6_derivative_26 : decode cX6_derivative 26 = .ok (.aload_n 0, 1) := by decide +kernel
theorem dX6_derivative_27 : decode cX6_derivative 27 = .ok (.getfield 9, 3) := by decide +kernel
theorem dX6_derivative_30 : decode cX6_derivative 30 = .ok (.iload_n 1, 1) := by decide +kernel
theorem dX6_derivative_31 : decode cX6_derivative 31 = .ok (.laload, 1) := by decide +kernel
theorem dX6_derivative_32 : decode cX6_derivative 32 = .ok (.iload_n 2, 1) := by decide +kernel
theorem dX6_derivative_33 : decode cX6_derivative 33 = .ok (.invokestatic 79, 3) := by decide +kernel
theorem dX6_derivative_36 : decode cX6_derivative 36 = .ok (.invokevirtual 64, 3) := by decide +kernel
theorem dX6_derivative_39 : decode cX6_derivative 39 = .ok (.ireturn, 1) := by decide +kernel
set_option maxRecDepth 20000 in
theorem ggX6_flip_X6_isRegister : GoodIn wsX6_flip wsX6_isRegister := goodIn_r _ [6] (by decide +kernel) (by decide +kernel)
set_option maxRecDepth 20000 in
theorem gX6_flip_X6_isRegister : GoodIn wsX6_flip (va_wsS RX6 51 yX6_isRegister wsX6_isRegister) := goodIn_app (goodIn_of _ (by decide +kernel)) ggX6_flip_X6_isRegister
set_option maxRecDepth 20000 in
theorem ggX6_flip_X6_isMask : GoodIn wsX6_flip wsX6_isMask := goodIn_r _ [10, 1, 45, 46, 47, 48, 49, 50] (by decide +kernel) (by decide +kernel)
set_option maxRecDepth 20000 in
theorem gX6_flip_X6_isMask : GoodIn wsX6_flip (wsV RX6 55 RX6 yX6_isMask wsX6_isMask) := goodIn_app (goodIn_of _ (by decide +kernel)) ggX6_flip_X6_isMask
set_option maxRecDepth 20000 in
theorem ggX6_flip_X3_transformed : GoodIn wsX6_flip wsX3_transformed := goodIn_r _ [14, 15, 16, 13, 17, 18, 19, 20, 21] (by decide +kernel) (by decide +kernel)
set_option maxRecDepth 20000 in
theorem gX6_flip_X3_transformed : GoodIn wsX6_flip (va_wsS RX6 82 yX3_transformed wsX3_transformed) := goodIn_app (goodIn_of _ (by decide +kernel)) ggX6_flip_X3_transformed
set_option maxRecDepth 20000 in
theorem ggX6_flip_X6_put : GoodIn wsX6_flip wsX6_put := goodIn_r _ [25, 26, 2, 27, 28, 29, 30, 31, 32, 33, 34, 35, 36, 37, 3, 4, 5, 6, 38, 39, 40, 41, 42, 43, 44, 45, 46, 47, 48, 49, 50, 51, 52] (by decide +kernel) (by decide +kernel)
set_option maxRecDepth 20000 in
theorem gX6_flip_X6_put : GoodIn wsX6_flip (wsV RX6 64 RX6 yX6_put wsX6_put) := goodIn_app (goodIn_of _ (by decide +kernel)) ggX6_flip_X6_put
theorem dX6_flip_0 : decode cX6_flip 0 = .ok (.iload_n 1, 1) := by decide +kernel
theorem dX6_flip_1 : decode cX6_flip 1 = .ok (.invokestatic 51, 3) := by decide +kernel
theorem dX6_flip_4 : decode cX6_flip 4 = .ok (.ifCond .eq 11, 3) := by decide +kernel
theorem dX6_flip_7 : decode cX6_flip 7 = .ok (.aload_n 0, 1) := by decide +kernel
theorem dX6_flip_8 : decode cX6_flip 8 = .ok (.iload_n 2, 1) := by decide +kernel
theorem dX6_flip_9 : decode cX6_flip 9 = .ok (.invokevirtual 55, 3) := by decide +kernel
theorem dX6_flip_12 : decode cX6_flip 12 = .ok (.ifCond .ne 5, 3) := by decide +kernel
theorem dX6_flip_15 : decode cX6_flip 15 = .ok (.iconst (-1), 1) := by decide +kernel
theorem dX6_flip_16 : decode cX6_flip 16 = .ok (.ireturn, 1) := by decide +kernel
theorem dX6_flip_17 : decode cX6_flip 17 = .ok (.lconst 1, 1) := by decide +kernel
theorem dX6_flip_18 : decode cX6_flip 18 = .ok (.iload_n 2, 1) := by decide +kernel
theorem dX6_flip_19 : decode cX6_flip 19 = .ok (.lshl, 1) := by decide +kernel
theorem dX6_flip_20 : decode cX6_flip 20 = .ok (.aload_n 0, 1) := by decide +kernel
theorem dX6_flip_21 : decode cX6_flip 21 = .ok (.getfield 38, 3) := by decide +kernel
theorem dX6_flip_24 : decode cX6_flip 24 = .ok (.invokestatic 82, 3) := by decide +kernel
theorem dX6_flip_27 : decode cX6_flip 27 = .ok (.lstore_n 3, 1) := by decide +kernel
theorem dX6_flip_28 : decode cX6_flip 28 = .ok (.aload_n 0, 1) := by decide +kernel
theorem dX6_flip_29 : decode cX6_flip 29 = .ok (.iload_n 1, 1) := by decide +kernel
theorem dX6_flip_30 : decode cX6_flip 30 = .ok (.aload_n 0, 1) := by decide +kernel
theorem dX6_flip_31 : decode cX6_flip 31 = .ok (.getfield 9, 3) := by decide +kernel
theorem dX6_flip_34 : decode cX6_flip 34 = .ok (.iload_n 1, 1) := by decide +kernel
theorem dX6_flip_35 : decode cX6_flip 35 = .ok (.laload, 1) := by decide +kernel
theorem dX6_flip_36 : decode cX6_flip 36 = .ok (.lload_n 3, 1) := by decide +kernel
theorem dX6_flip_37 : decode cX6_flip 37 = .ok (.lxor, 1) := by decide +kernel
theorem dX6_flip_38 : decode cX6_flip 38 = .ok (.invokevirtual 64, 3) := by decide +kernel
theorem dX6_flip_41 : decode cX6_flip 41 = .ok (.ireturn, 1) := by decide +kernel
set_option maxRecDepth 20000 in
theorem ggX6_exchange_X6_isRegister : GoodIn wsX6_exchange wsX6_isRegister := goodIn_r _ [12] (by decide +kernel) (by decide +kernel)
set_option maxRecDepth 20000 in
theorem gX6_exchange_X6_isRegister : GoodIn wsX6_exchange (va_wsS RX6 51 yX6_isRegister wsX6_isRegister) := goodIn_app (goodIn_of _ (by decide +kernel)) ggX6_exchange_X6_isRegister
set_option maxRecDepth 20000 in
theorem ggX6_exchange_X6_isVariable : GoodIn wsX6_exchange wsX6_isVariable := goodIn_r _ [16, 17, 50, 51, 52, 53, 54, 55] (by decide +kernel) (by decide +kernel)
set_option maxRecDepth 20000 in
theorem gX6_exchange_X6_isVariable : GoodIn wsX6_exchange (wsV RX6 72 RX6 yX6_isVariable wsX6_isVariable) := goodIn_app (goodIn_of _ (by decide +kernel)) ggX6_exchange_X6_isVariable
set_option maxRecDepth 20000 in
theorem ggX6_exchange_X3_exchanged : GoodIn wsX6_exchange wsX3_exchanged := goodIn_r _ [21, 22, 23, 24, 20, 25, 26] (by decide +kernel) (by decide +kernel)
set_option maxRecDepth 20000 in
theorem gX6_exchange_X3_exchanged : GoodIn wsX6_exchange (va_wsS RX6 94 yX3_exchanged wsX3_exchanged) := goodIn_app (goodIn_of _ (by decide +kernel)) ggX6_exchange_X3_exchanged
set_option maxRecDepth 20000 in
theorem ggX6_exchange_X6_put : GoodIn wsX6_exchange wsX6_put := goodIn_r _ [30, 31, 1, 32, 33, 34, 35, 36, 37, 38, 39, 40, 41, 42, 9, 10, 11, 12, 43, 44, 45, 46, 47, 48, 49, 50, 51, 52, 53, 54, 55, 56, 57] (by decide +kernel) (by decide +kernel)
set_option maxRecDepth 20000 in
theorem gX6_exchange_X6_put : GoodIn wsX6_exchange (wsV RX6 64 RX6 yX6_put wsX6_put) := goodIn_app (goodIn_of _ (by decide +kernel)) ggX6_exchange_X6_put
theorem dX6_exchange_0 : decode cX6_exchange 0 = .ok (.iload_n 1, 1) := by decide +kernel
theorem dX6_exchange_1 : decode cX6_exchange 1 = .ok (.invokestatic 51, 3) := by decide +kernel
theorem dX6_exchange_4 : decode cX6_exchange 4 = .ok (.ifCond .eq 19, 3) := by decide +kernel
theorem dX6_exchange_7 : decode cX6_exchange 7 = .ok (.aload_n 0, 1) := by decide +kernel
theorem dX6_exchange_8 : decode cX6_exchange 8 = .ok (.iload_n 2, 1) := by decide +kernel
theorem dX6_exchange_9 : decode cX6_exchange 9 = .ok (.invokevirtual 72, 3) := by decide +kernel
theorem dX6_exchange_12 : decode cX6_exchange 12 = .ok (.ifCond .eq 11, 3) := by decide +kernel
theorem dX6_exchange_15 : decode cX6_exchange 15 = .ok (.aload_n 0, 1) := by decide +kernel
theorem dX6_exchange_16 : decode cX6_exchange 16 = .ok (.iload_n 3, 1) := by decide +kernel
theorem dX6_exchange_17 : decode cX6_exchange 17 = .ok (.invokevirtual 72, 3) := by decide +kernel
theorem dX6_exchange_20 : decode cX6_exchange 20 = .ok (.ifCond .ne 5, 3) := by decide +kernel
theorem dX6_exchange_23 : decode cX6_exchange 23 = .ok (.iconst (-1), 1) := by decide +kernel
theorem dX6_exchange_24 : decode cX6_exchange 24 = .ok (.ireturn, 1) := by decide +kernel
theorem dX6_exchange_25 : decode cX6_exchange 25 = .ok (.aload_n 0, 1) := by decide +kernel
theorem dX6_exchange_26 : decode cX6_exchange 26 = .ok (.iload_n 1, 1) := by decide +kernel
theorem dX6_exchange_27 : decode cX6_exchange 27 = .ok (.aload_n 0, 1) := by decide +kernel
theorem dX6_exchange_28 : decode cX6_exchange 28 = .ok (.getfield 9, 3) := by decide +kernel
theorem dX6_exchange_31 : decode cX6_exchange 31 = .ok (.iload_n 1, 1) := by decide +kernel
theorem dX6_exchange_32 : decode cX6_exchange 32 = .ok (.laload, 1) := by decide +kernel
theorem dX6_exchange_33 : decode cX6_exchange 33 = .ok (.iload_n 2, 1) := by decide +kernel
theorem dX6_exchange_34 : decode cX6_exchange 34 = .ok (.iload_n 3, 1) := by decide +kernel
theorem dX6_exchange_35 : decode cX6_exchange 35 = .ok (.invokestatic 85, 3) := by decide +kernel
theorem dX6_exchange_38 : decode cX6_exchange 38 = .ok (.iload_n 2, 1) := by decide +kernel
theorem dX6_exchange_39 : decode cX6_exchange 39 = .ok (.iload_n 3, 1) := by decide +kernel
theorem dX6_exchange_40 : decode cX6_exchange 40 = .ok (.invokestatic 91, 3) := by decide +kernel
theorem dX6_exchange_43 : decode cX6_exchange 43 = .ok (.invokestatic 94, 3) := by decide +kernel
theorem dX6_exchange_46 : decode cX6_exchange 46 = .ok (.invokevirtual 64, 3) := by decide +kernel
theorem dX6_exchange_49 : decode cX6_exchange 49 = .ok (.ireturn, 1) := by decide +kernel
set_option maxRecDepth 20000 in
theorem ggX6_undo_X1_isEmpty : GoodIn wsX6_undo wsX1_isEmpty := goodIn_r _ [7, 8, 24, 25] (by decide +kernel) (by decide +kernel)
set_option maxRecDepth 20000 in
theorem gX6_undo_X1_isEmpty : GoodIn wsX6_undo (wsV RX6 98 RX1 yX1_isEmpty wsX1_isEmpty) := goodIn_app (goodIn_of _ (by decide +kernel)) ggX6_undo_X1_isEmpty
set_option maxRecDepth 20000 in
theorem ggX6_undo_X1_restore : GoodIn wsX6_undo wsX1_restore := goodIn_r _ [12, 8, 13, 14, 15, 16, 17, 24, 25] (by decide +kernel) (by decide +kernel)
set_option maxRecDepth 20000 in
theorem gX6_undo_X1_restore : GoodIn wsX6_undo (wsV RX6 102 RX1 yX1_restore wsX1_restore) := goodIn_app (goodIn_of _ (by decide +kernel)) ggX6_undo_X1_restore
theorem dX6_undo_0 : decode cX6_undo 0 = .ok (.aload_n 0, 1) := by decide +kernel
theorem dX6_undo_1 : decode cX6_undo 1 = .ok (.getfield 20, 3) := by decide +kernel
theorem dX6_undo_4 : decode cX6_undo 4 = .ok (.invokevirtual 98, 3) := by decide +kernel
theorem dX6_undo_7 : decode cX6_undo 7 = .ok (.ifCond .eq 6, 3) := by decide +kernel
theorem dX6_undo_10 : decode cX6_undo 10 = .ok (.bipush (-2), 2) := by decide +kernel
theorem dX6_undo_12 : decode cX6_undo 12 = .ok (.ireturn, 1) := by decide +kernel
theorem dX6_undo_13 : decode cX6_undo 13 = .ok (.aload_n 0, 1) := by decide +kernel
theorem dX6_undo_14 : decode cX6_undo 14 = .ok (.getfield 20, 3) := by decide +kernel
theorem dX6_undo_17 : decode cX6_undo 17 = .ok (.aload_n 0, 1) := by decide +kernel
theorem dX6_undo_18 : decode cX6_undo 18 = .ok (.getfield 9, 3) := by decide +kernel
theorem dX6_undo_21 : decode cX6_undo 21 = .ok (.invokevirtual 102, 3) := by decide +kernel
theorem dX6_undo_24 : decode cX6_undo 24 = .ok (.ireturn, 1) := by decide +kernel
set_option maxRecDepth 20000 in
theorem ggX6_has_X6_isRegister : GoodIn wsX6_has wsX6_isRegister := goodIn_r _ [5] (by decide +kernel) (by decide +kernel)
set_option maxRecDepth 20000 in
theorem gX6_has_X6_isRegister : GoodIn wsX6_has (va_wsS RX6 51 yX6_isRegister wsX6_isRegister) := goodIn_app (goodIn_of _ (by decide +kernel)) ggX6_has_X6_isRegister
set_option maxRecDepth 20000 in
theorem ggX6_has_X6_isMask : GoodIn wsX6_has wsX6_isMask := goodIn_r _ [9, 10, 15, 16, 17, 18, 19, 20] (by decide +kernel) (by decide +kernel)
set_option maxRecDepth 20000 in
theorem gX6_has_X6_isMask : GoodIn wsX6_has (wsV RX6 55 RX6 yX6_isMask wsX6_isMask) := goodIn_app (goodIn_of _ (by decide +kernel)) ggX6_has_X6_isMask
set_option maxRecDepth 20000 in
theorem ggX6_has_X3_bit : GoodIn wsX6_has wsX3_bit := goodIn_r _ [14] (by decide +kernel) (by decide +kernel)
set_option maxRecDepth 20000 in
theorem gX6_has_X3_bit : GoodIn wsX6_has (va_wsS RX6 106 yX3_bit wsX3_bit) := goodIn_app (goodIn_of _ (by decide +kernel)) ggX6_has_X3_bit
theorem dX6_has_0 : decode cX6_has 0 = .ok (.iload_n 1, 1) := by decide +kernel
theorem dX6_has_1 : decode cX6_has 1 = .ok (.invokestatic 51, 3) := by decide +kernel
theorem dX6_has_4 : decode cX6_has 4 = .ok (.ifCond .eq 11, 3) := by decide +kernel
theorem dX6_has_7 : decode cX6_has 7 = .ok (.aload_n 0, 1) := by decide +kernel
theorem dX6_has_8 : decode cX6_has 8 = .ok (.iload_n 2, 1) := by decide +kernel
theorem dX6_has_9 : decode cX6_has 9 = .ok (.invokevirtual 55, 3) := by decide +kernel
theorem dX6_has_12 : decode cX6_has 12 = .ok (.ifCond .ne 5, 3) := by decide +kernel
theorem dX6_has_15 : decode cX6_has 15 = .ok (.iconst (-1), 1) := by decide +kernel
theorem dX6_has_16 : decode cX6_has 16 = .ok (.ireturn, 1) := by decide +kernel
theorem dX6_has_17 : decode cX6_has 17 = .ok (.aload_n 0, 1) := by decide +kernel
theorem dX6_has_18 : decode cX6_has 18 = .ok (.getfield 9, 3) := by decide +kernel
theorem dX6_has_21 : decode cX6_has 21 = .ok (.iload_n 1, 1) := by decide +kernel
theorem dX6_has_22 : decode cX6_has 22 = .ok (.laload, 1) := by decide +kernel
theorem dX6_has_23 : decode cX6_has 23 = .ok (.iload_n 2, 1) := by decide +kernel
theorem dX6_has_24 : decode cX6_has 24 = .ok (.invokestatic 106, 3) := by decide +kernel
theorem dX6_has_27 : decode cX6_has 27 = .ok (.ireturn, 1) := by decide +kernel
set_option maxRecDepth 20000 in
theorem ggX6_terms_X6_isRegister : GoodIn wsX6_terms wsX6_isRegister := goodIn_r _ [5] (by decide +kernel) (by decide +kernel)
set_option maxRecDepth 20000 in
theorem gX6_terms_X6_isRegister : GoodIn wsX6_terms (va_wsS RX6 51 yX6_isRegister wsX6_isRegister) := goodIn_app (goodIn_of _ (by decide +kernel)) ggX6_terms_X6_isRegister
set_option maxRecDepth 20000 in
theorem ggX6_terms_J13_bitCount_95d88 : GoodIn wsX6_terms wsJ13_bitCount_95d88 := goodIn_r _ [9, 10, 11, 12] (by decide +kernel) (by decide +kernel)
set_option maxRecDepth 20000 in
theorem gX6_terms_J13_bitCount_95d88 : GoodIn wsX6_terms (va_wsS RX6 110 yJ13_bitCount_95d88 wsJ13_bitCount_95d88) := goodIn_app (goodIn_of _ (by decide +kernel)) ggX6_terms_J13_bitCount_95d88
theorem dX6_terms_0 : decode cX6_terms 0 = .ok (.iload_n 1, 1) := by decide +kernel
theorem dX6_terms_1 : decode cX6_terms 1 = .ok (.invokestatic 51, 3) := by decide +kernel
theorem dX6_terms_4 : decode cX6_terms 4 = .ok (.ifCond .ne 5, 3) := by decide +kernel
theorem dX6_terms_7 : decode cX6_terms 7 = .ok (.iconst (-1), 1) := by decide +kernel
theorem dX6_terms_8 : decode cX6_terms 8 = .ok (.ireturn, 1) := by decide +kernel
theorem dX6_terms_9 : decode cX6_terms 9 = .ok (.aload_n 0, 1) := by decide +kernel
theorem dX6_terms_10 : decode cX6_terms 10 = .ok (.getfield 9, 3) := by decide +kernel
theorem dX6_terms_13 : decode cX6_terms 13 = .ok (.iload_n 1, 1) := by decide +kernel
theorem dX6_terms_14 : decode cX6_terms 14 = .ok (.laload, 1) := by decide +kernel
theorem dX6_terms_15 : decode cX6_terms 15 = .ok (.invokestatic 110, 3) := by decide +kernel
theorem dX6_terms_18 : decode cX6_terms 18 = .ok (.ireturn, 1) := by decide +kernel
set_option maxRecDepth 20000 in
theorem ggX6_degree_X6_isRegister : GoodIn wsX6_degree wsX6_isRegister := goodIn_r _ [5] (by decide +kernel) (by decide +kernel)
set_option maxRecDepth 20000 in
theorem gX6_degree_X6_isRegister : GoodIn wsX6_degree (va_wsS RX6 51 yX6_isRegister wsX6_isRegister) := goodIn_app (goodIn_of _ (by decide +kernel)) ggX6_degree_X6_isRegister
set_option maxRecDepth 20000 in
theorem ggX6_degree_X2_termOf : GoodIn wsX6_degree wsX2_termOf := goodIn_r _ [9, 10, 11, 12, 13, 14, 15, 16, 17, 18, 8, 19, 20, 21, 22, 23, 24, 25, 26, 27, 28, 29] (by decide +kernel) (by decide +kernel)
set_option maxRecDepth 20000 in
theorem gX6_degree_X2_termOf : GoodIn wsX6_degree (va_wsS RX6 118 yX2_termOf wsX2_termOf) := goodIn_app (goodIn_of _ (by decide +kernel)) ggX6_degree_X2_termOf
set_option maxRecDepth 20000 in
theorem ggX6_degree_J6_bitCount_0f7a4 : GoodIn wsX6_degree wsJ6_bitCount_0f7a4 := goodIn_r _ [33, 34, 35, 36] (by decide +kernel) (by decide +kernel)
set_option maxRecDepth 20000 in
theorem gX6_degree_J6_bitCount_0f7a4 : GoodIn wsX6_degree (va_wsS RX6 122 yJ6_bitCount_0f7a4 wsJ6_bitCount_0f7a4) := goodIn_app (goodIn_of _ (by decide +kernel)) ggX6_degree_J6_bitCount_0f7a4
theorem dX6_degree_0 : decode cX6_degree 0 = .ok (.iload_n 1, 1) := by decide +kernel
theorem dX6_degree_1 : decode cX6_degree 1 = .ok (.invokestatic 51, 3) := by decide +kernel
theorem dX6_degree_4 : decode cX6_degree 4 = .ok (.ifCond .ne 5, 3) := by decide +kernel
theorem dX6_degree_7 : decode cX6_degree 7 = .ok (.iconst (-1), 1) := by decide +kernel
theorem dX6_degree_8 : decode cX6_degree 8 = .ok (.ireturn, 1) := by decide +kernel
theorem dX6_degree_9 : decode cX6_degree 9 = .ok (.aload_n 0, 1) := by decide +kernel
theorem dX6_degree_10 : decode cX6_degree 10 = .ok (.getfield 9, 3) := by decide +kernel
theorem dX6_degree_13 : decode cX6_degree 13 = .ok (.iload_n 1, 1) := by decide +kernel
theorem dX6_degree_14 : decode cX6_degree 14 = .ok (.laload, 1) := by decide +kernel
theorem dX6_degree_15 : decode cX6_degree 15 = .ok (.iconst 1, 1) := by decide +kernel
theorem dX6_degree_16 : decode cX6_degree 16 = .ok (.iconst 0, 1) := by decide +kernel
theorem dX6_degree_17 : decode cX6_degree 17 = .ok (.invokestatic 118, 3) := by decide +kernel
theorem dX6_degree_20 : decode cX6_degree 20 = .ok (.istore_n 2, 1) := by decide +kernel
theorem dX6_degree_21 : decode cX6_degree 21 = .ok (.iload_n 2, 1) := by decide +kernel
theorem dX6_degree_22 : decode cX6_degree 22 = .ok (.ifCond .ge 8, 3) := by decide +kernel
theorem dX6_degree_25 : decode cX6_degree 25 = .ok (.bipush (-4), 2) := by decide +kernel
theorem dX6_degree_27 : decode cX6_degree 27 = .ok (.goto 7, 3) := by decide +kernel
theorem dX6_degree_30 : decode cX6_degree 30 = .ok (.iload_n 2, 1) := by decide +kernel
theorem dX6_degree_31 : decode cX6_degree 31 = .ok (.invokestatic 122, 3) := by decide +kernel
theorem dX6_degree_34 : decode cX6_degree 34 = .ok (.ireturn, 1) := by decide +kernel
set_option maxRecDepth 20000 in
theorem ggX6_occurring_X6_isRegister : GoodIn wsX6_occurring wsX6_isRegister := goodIn_r _ [6] (by decide +kernel) (by decide +kernel)
set_option maxRecDepth 20000 in
theorem gX6_occurring_X6_isRegister : GoodIn wsX6_occurring (va_wsS RX6 51 yX6_isRegister wsX6_isRegister) := goodIn_app (goodIn_of _ (by decide +kernel)) ggX6_occurring_X6_isRegister
set_option maxRecDepth 20000 in
theorem ggX6_occurring_X3_upperHalf : GoodIn wsX6_occurring wsX3_upperHalf := goodIn_r _ [10, 11, 12, 9, 13, 14] (by decide +kernel) (by decide +kernel)
set_option maxRecDepth 20000 in
theorem gX6_occurring_X3_upperHalf : GoodIn wsX6_occurring (va_wsS RX6 79 yX3_upperHalf wsX3_upperHalf) := goodIn_app (goodIn_of _ (by decide +kernel)) ggX6_occurring_X3_upperHalf
theorem dX6_occurring_0 : decode cX6_occurring 0 = .ok (.iload_n 1, 1) := by decide +kernel
theorem dX6_occurring_1 : decode cX6_occurring 1 = .ok (.invokestatic 51, 3) := by decide +kernel
theorem dX6_occurring_4 : decode cX6_occurring 4 = .ok (.ifCond .ne 5, 3) := by decide +kernel
theorem dX6_occurring_7 : decode cX6_occurring 7 = .ok (.iconst (-1), 1) := by decide +kernel
theorem dX6_occurring_8 : decode cX6_occurring 8 = .ok (.ireturn, 1) := by decide +kernel
theorem dX6_occurring_9 : decode cX6_occurring 9 = .ok (.iconst 0, 1) := by decide +kernel
theorem dX6_occurring_10 : decode cX6_occurring 10 = .ok (.istore_n 2, 1) := by decide +kernel
theorem dX6_occurring_11 : decode cX6_occurring 11 = .ok (.iconst 0, 1) := by decide +kernel
theorem dX6_occurring_12 : decode cX6_occurring 12 = .ok (.istore_n 3, 1) := by decide +kernel
theorem dX6_occurring_13 : decode cX6_occurring 13 = .ok (.iload_n 3, 1) := by decide +kernel
theorem dX6_occurring_14 : decode cX6_occurring 14 = .ok (.aload_n 0, 1) := by decide +kernel
theorem dX6_occurring_15 : decode cX6_occurring 15 = .ok (.getfield 38, 3) := by decide +kernel
theorem dX6_occurring_18 : decode cX6_occurring 18 = .ok (.if_icmp .ge 30, 3) := by decide +kernel
theorem dX6_occurring_21 : decode cX6_occurring 21 = .ok (.aload_n 0, 1) := by decide +kernel
theorem dX6_occurring_22 : decode cX6_occurring 22 = .ok (.getfield 9, 3) := by decide +kernel
theorem dX6_occurring_25 : decode cX6_occurring 25 = .ok (.iload_n 1, 1) := by decide +kernel
theorem dX6_occurring_26 : decode cX6_occurring 26 = .ok (.laload, 1) := by decide +kernel
theorem dX6_occurring_27 : decode cX6_occurring 27 = .ok (.iload_n 3, 1) := by decide +kernel
theorem dX6_occurring_28 : decode cX6_occurring 28 = .ok (.invokestatic 79, 3) := by decide +kernel
theorem dX6_occurring_31 : decode cX6_occurring 31 = .ok (.lconst 0, 1) := by decide +kernel
theorem dX6_occurring_32 : decode cX6_occurring 32 = .ok (.lcmp, 1) := by decide +kernel
theorem dX6_occurring_33 : decode cX6_occurring 33 = .ok (.ifCond .eq 9, 3) := by decide +kernel
theorem dX6_occurring_36 : decode cX6_occurring 36 = .ok (.iload_n 2, 1) := by decide +kernel
theorem dX6_occurring_37 : decode cX6_occurring 37 = .ok (.iconst 1, 1) := by decide +kernel
theorem dX6_occurring_38 : decode cX6_occurring 38 = .ok (.iload_n 3, 1) := by decide +kernel
theorem dX6_occurring_39 : decode cX6_occurring 39 = .ok (.ishl, 1) := by decide +kernel
theorem dX6_occurring_40 : decode cX6_occurring 40 = .ok (.ior, 1) := by decide +kernel
theorem dX6_occurring_41 : decode cX6_occurring 41 = .ok (.istore_n 2, 1) := by decide +kernel
theorem dX6_occurring_42 : decode cX6_occurring 42 = .ok (.iinc 3 1, 3) := by decide +kernel
theorem dX6_occurring_45 : decode cX6_occurring 45 = .ok (.goto (-32), 3) := by decide +kernel
theorem dX6_occurring_48 : decode cX6_occurring 48 = .ok (.iload_n 2, 1) := by decide +kernel
theorem dX6_occurring_49 : decode cX6_occurring 49 = .ok (.ireturn, 1) := by decide +kernel
set_option maxRecDepth 20000 in
theorem ggX6_size_X6_isRegister : GoodIn wsX6_size wsX6_isRegister := goodIn_r _ [6] (by decide +kernel) (by decide +kernel)
set_option maxRecDepth 20000 in
theorem gX6_size_X6_isRegister : GoodIn wsX6_size (va_wsS RX6 51 yX6_isRegister wsX6_isRegister) := goodIn_app (goodIn_of _ (by decide +kernel)) ggX6_size_X6_isRegister
set_option maxRecDepth 20000 in
theorem ggX6_size_X0_forget : GoodIn wsX6_size wsX0_forget := goodIn_r _ [11, 12, 49, 50] (by decide +kernel) (by decide +kernel)
set_option maxRecDepth 20000 in
theorem gX6_size_X0_forget : GoodIn wsX6_size (wsV RX6 127 RX0 yX0_forget wsX0_forget) := goodIn_app (goodIn_of _ (by decide +kernel)) ggX6_size_X0_forget
set_option maxRecDepth 20000 in
theorem ggX6_size_X0_enter : GoodIn wsX6_size wsX0_enter := goodIn_r _ [16, 17, 12, 18, 19, 20, 21, 10, 22, 49, 50] (by decide +kernel) (by decide +kernel)
set_option maxRecDepth 20000 in
theorem gX6_size_X0_enter : GoodIn wsX6_size (wsV RX6 128 RX0 yX0_enter wsX0_enter) := goodIn_app (goodIn_of _ (by decide +kernel)) ggX6_size_X0_enter
set_option maxRecDepth 20000 in
theorem ggX6_size_X0_closedCount : GoodIn wsX6_size wsX0_closedCount := goodIn_r _ [26, 12, 18, 27, 28, 29, 30, 31, 32, 33, 34, 35, 36, 37, 38, 39, 14, 15, 10, 16, 17, 19, 20, 21, 22, 40, 41, 42, 49, 50] (by decide +kernel) (by decide +kernel)
set_option maxRecDepth 20000 in
theorem gX6_size_X0_closedCount : GoodIn wsX6_size (wsV RX6 132 RX0 yX0_closedCount wsX0_closedCount) := goodIn_app (goodIn_of _ (by decide +kernel)) ggX6_size_X0_closedCount
theorem dX6_size_0 : decode cX6_size 0 = .ok (.iload_n 1, 1) := by decide +kernel
theorem dX6_size_1 : decode cX6_size 1 = .ok (.invokestatic 51, 3) := by decide +kernel
theorem dX6_size_4 : decode cX6_size 4 = .ok (.ifCond .ne 5, 3) := by decide +kernel
theorem dX6_size_7 : decode cX6_size 7 = .ok (.iconst (-1), 1) := by decide +kernel
theorem dX6_size_8 : decode cX6_size 8 = .ok (.ireturn, 1) := by decide +kernel
theorem dX6_size_9 : decode cX6_size 9 = .ok (.aload_n 0, 1) := by decide +kernel
theorem dX6_size_10 : decode cX6_size 10 = .ok (.getfield 27, 3) := by decide +kernel
theorem dX6_size_13 : decode cX6_size 13 = .ok (.invokevirtual 127, 3) := by decide +kernel
theorem dX6_size_16 : decode cX6_size 16 = .ok (.aload_n 0, 1) := by decide +kernel
theorem dX6_size_17 : decode cX6_size 17 = .ok (.getfield 27, 3) := by decide +kernel
theorem dX6_size_20 : decode cX6_size 20 = .ok (.aload_n 0, 1) := by decide +kernel
theorem dX6_size_21 : decode cX6_size 21 = .ok (.getfield 9, 3) := by decide +kernel
theorem dX6_size_24 : decode cX6_size 24 = .ok (.iload_n 1, 1) := by decide +kernel
theorem dX6_size_25 : decode cX6_size 25 = .ok (.laload, 1) := by decide +kernel
theorem dX6_size_26 : decode cX6_size 26 = .ok (.invokevirtual 128, 3) := by decide +kernel
theorem dX6_size_29 : decode cX6_size 29 = .ok (.aload_n 0, 1) := by decide +kernel
theorem dX6_size_30 : decode cX6_size 30 = .ok (.getfield 27, 3) := by decide +kernel
theorem dX6_size_33 : decode cX6_size 33 = .ok (.invokevirtual 132, 3) := by decide +kernel
theorem dX6_size_36 : decode cX6_size 36 = .ok (.ireturn, 1) := by decide +kernel
set_option maxRecDepth 20000 in
theorem ggX6_sharedSize_X0_forget : GoodIn wsX6_sharedSize wsX0_forget := goodIn_r _ [7, 8, 45, 46] (by decide +kernel) (by decide +kernel)
set_option maxRecDepth 20000 in
theorem gX6_sharedSize_X0_forget : GoodIn wsX6_sharedSize (wsV RX6 127 RX0 yX0_forget wsX0_forget) := goodIn_app (goodIn_of _ (by decide +kernel)) ggX6_sharedSize_X0_forget
set_option maxRecDepth 20000 in
theorem ggX6_sharedSize_X0_enter : GoodIn wsX6_sharedSize wsX0_enter := goodIn_r _ [12, 13, 8, 14, 15, 16, 17, 6, 18, 45, 46] (by decide +kernel) (by decide +kernel)
set_option maxRecDepth 20000 in
theorem gX6_sharedSize_X0_enter : GoodIn wsX6_sharedSize (wsV RX6 128 RX0 yX0_enter wsX0_enter) := goodIn_app (goodIn_of _ (by decide +kernel)) ggX6_sharedSize_X0_enter
set_option maxRecDepth 20000 in
theorem ggX6_sharedSize_X0_closedCount : GoodIn wsX6_sharedSize wsX0_closedCount := goodIn_r _ [22, 8, 14, 23, 24, 25, 26, 27, 28, 29, 30, 31, 32, 33, 34, 35, 10, 11, 6, 12, 13, 15, 16, 17, 18, 36, 37, 38, 45, 46] (by decide +kernel) (by decide +kernel)
set_option maxRecDepth 20000 in
theorem gX6_sharedSize_X0_closedCount : GoodIn wsX6_sharedSize (wsV RX6 132 RX0 yX0_closedCount wsX0_closedCount) := goodIn_app (goodIn_of _ (by decide +kernel)) ggX6_sharedSize_X0_closedCount
theorem dX6_sharedSize_0 : decode cX6_sharedSize 0 = .ok (.aload_n 0, 1) := by decide +kernel
theorem dX6_sharedSize_1 : decode cX6_sharedSize 1 = .ok (.getfield 27, 3) := by decide +kernel
theorem dX6_sharedSize_4 : decode cX6_sharedSize 4 = .ok (.invokevirtual 127, 3) := by decide +kernel
theorem dX6_sharedSize_7 : decode cX6_sharedSize 7 = .ok (.iconst 0, 1) := by decide +kernel
theorem dX6_sharedSize_8 : decode cX6_sharedSize 8 = .ok (.istore_n 1, 1) := by decide +kernel
theorem dX6_sharedSize_9 : decode cX6_sharedSize 9 = .ok (.iload_n 1, 1) := by decide +kernel
theorem dX6_sharedSize_10 : decode cX6_sharedSize 10 = .ok (.bipush 8, 2) := by decide +kernel
theorem dX6_sharedSize_12 : decode cX6_sharedSize 12 = .ok (.if_icmp .ge 22, 3) := by decide +kernel
theorem dX6_sharedSize_15 : decode cX6_sharedSize 15 = .ok (.aload_n 0, 1) := by decide +kernel
theorem dX6_sharedSize_16 : decode cX6_sharedSize 16 = .ok (.getfield 27, 3) := by decide +kernel
theorem dX6_sharedSize_19 : decode cX6_sharedSize 19 = .ok (.aload_n 0, 1) := by decide +kernel
theorem dX6_sharedSize_20 : decode cX6_sharedSize 20 = .ok (.getfield 9, 3) := by decide +kernel
theorem dX6_sharedSize_23 : decode cX6_sharedSize 23 = .ok (.iload_n 1, 1) := by decide +kernel
theorem dX6_sharedSize_24 : decode cX6_sharedSize 24 = .ok (.laload, 1) := by decide +kernel
theorem dX6_sharedSize_25 : decode cX6_sharedSize 25 = .ok (.invokevirtual 128, 3) := by decide +kernel
theorem dX6_sharedSize_28 : decode cX6_sharedSize 28 = .ok (.iinc 1 1, 3) := by decide +kernel
theorem dX6_sharedSize_31 : decode cX6_sharedSize 31 = .ok (.goto (-22), 3) := by decide +kernel
theorem dX6_sharedSize_34 : decode cX6_sharedSize 34 = .ok (.aload_n 0, 1) := by decide +kernel
theorem dX6_sharedSize_35 : decode cX6_sharedSize 35 = .ok (.getfield 27, 3) := by decide +kernel
theorem dX6_sharedSize_38 : decode cX6_sharedSize 38 = .ok (.invokevirtual 132, 3) := by decide +kernel
theorem dX6_sharedSize_41 : decode cX6_sharedSize 41 = .ok (.ireturn, 1) := by decide +kernel
set_option maxRecDepth 20000 in
theorem ggX6_termAt_X6_isRegister : GoodIn wsX6_termAt wsX6_isRegister := goodIn_r _ [5] (by decide +kernel) (by decide +kernel)
set_option maxRecDepth 20000 in
theorem gX6_termAt_X6_isRegister : GoodIn wsX6_termAt (va_wsS RX6 51 yX6_isRegister wsX6_isRegister) := goodIn_app (goodIn_of _ (by decide +kernel)) ggX6_termAt_X6_isRegister
set_option maxRecDepth 20000 in
theorem ggX6_termAt_X6_isOrder : GoodIn wsX6_termAt wsX6_isOrder := goodIn_r _ [8] (by decide +kernel) (by decide +kernel)
set_option maxRecDepth 20000 in
theorem gX6_termAt_X6_isOrder : GoodIn wsX6_termAt (va_wsS RX6 136 yX6_isOrder wsX6_isOrder) := goodIn_app (goodIn_of _ (by decide +kernel)) ggX6_termAt_X6_isOrder
set_option maxRecDepth 20000 in
theorem ggX6_termAt_X2_termOf : GoodIn wsX6_termAt wsX2_termOf := goodIn_r _ [12, 13, 14, 15, 16, 17, 18, 19, 20, 21, 11, 22, 23, 24, 25, 26, 27, 28, 29, 30, 31, 32] (by decide +kernel) (by decide +kernel)
set_option maxRecDepth 20000 in
theorem gX6_termAt_X2_termOf : GoodIn wsX6_termAt (va_wsS RX6 118 yX2_termOf wsX2_termOf) := goodIn_app (goodIn_of _ (by decide +kernel)) ggX6_termAt_X2_termOf
theorem dX6_termAt_0 : decode cX6_termAt 0 = .ok (.iload_n 1, 1) := by decide +kernel
theorem dX6_termAt_1 : decode cX6_termAt 1 = .ok (.invokestatic 51, 3) := by decide +kernel
theorem dX6_termAt_4 : decode cX6_termAt 4 = .ok (.ifCond .eq 14, 3) := by decide +kernel
theorem dX6_termAt_7 : decode cX6_termAt 7 = .ok (.iload_n 2, 1) := by decide +kernel
theorem dX6_termAt_8 : decode cX6_termAt 8 = .ok (.invokestatic 136, 3) := by decide +kernel
theorem dX6_termAt_11 : decode cX6_termAt 11 = .ok (.ifCond .eq 7, 3) := by decide +kernel
theorem dX6_termAt_14 : decode cX6_termAt 14 = .ok (.iload_n 3, 1) := by decide +kernel
theorem dX6_termAt_15 : decode cX6_termAt 15 = .ok (.ifCond .ge 5, 3) := by decide +kernel
theorem dX6_termAt_18 : decode cX6_termAt 18 = .ok (.iconst (-1), 1) := by decide +kernel
theorem dX6_termAt_19 : decode cX6_termAt 19 = .ok (.ireturn, 1) := by decide +kernel
theorem dX6_termAt_20 : decode cX6_termAt 20 = .ok (.aload_n 0, 1) := by decide +kernel
theorem dX6_termAt_21 : decode cX6_termAt 21 = .ok (.getfield 9, 3) := by decide +kernel
theorem dX6_termAt_24 : decode cX6_termAt 24 = .ok (.iload_n 1, 1) := by decide +kernel
theorem dX6_termAt_25 : decode cX6_termAt 25 = .ok (.laload, 1) := by decide +kernel
theorem dX6_termAt_26 : decode cX6_termAt 26 = .ok (.iload_n 2, 1) := by decide +kernel
theorem dX6_termAt_27 : decode cX6_termAt 27 = .ok (.iload_n 3, 1) := by decide +kernel
theorem dX6_termAt_28 : decode cX6_termAt 28 = .ok (.invokestatic 118, 3) := by decide +kernel
theorem dX6_termAt_31 : decode cX6_termAt 31 = .ok (.ireturn, 1) := by decide +kernel
set_option maxRecDepth 20000 in
theorem ggX6_value_X6_isRegister : GoodIn wsX6_value wsX6_isRegister := goodIn_r _ [6] (by decide +kernel) (by decide +kernel)
set_option maxRecDepth 20000 in
theorem gX6_value_X6_isRegister : GoodIn wsX6_value (va_wsS RX6 51 yX6_isRegister wsX6_isRegister) := goodIn_app (goodIn_of _ (by decide +kernel)) ggX6_value_X6_isRegister
set_option maxRecDepth 20000 in
theorem ggX6_value_X6_isMask : GoodIn wsX6_value wsX6_isMask := goodIn_r _ [10, 2, 25, 26, 27, 28, 29, 30] (by decide +kernel) (by decide +kernel)
set_option maxRecDepth 20000 in
theorem gX6_value_X6_isMask : GoodIn wsX6_value (wsV RX6 55 RX6 yX6_isMask wsX6_isMask) := goodIn_app (goodIn_of _ (by decide +kernel)) ggX6_value_X6_isMask
set_option maxRecDepth 20000 in
theorem ggX6_value_X3_transformed : GoodIn wsX6_value wsX3_transformed := goodIn_r _ [14, 15, 16, 13, 17, 18, 19, 20, 21] (by decide +kernel) (by decide +kernel)
set_option maxRecDepth 20000 in
theorem gX6_value_X3_transformed : GoodIn wsX6_value (va_wsS RX6 82 yX3_transformed wsX3_transformed) := goodIn_app (goodIn_of _ (by decide +kernel)) ggX6_value_X3_transformed
set_option maxRecDepth 20000 in
theorem ggX6_value_X3_bit : GoodIn wsX6_value wsX3_bit := goodIn_r _ [24] (by decide +kernel) (by decide +kernel)
set_option maxRecDepth 20000 in
theorem gX6_value_X3_bit : GoodIn wsX6_value (va_wsS RX6 106 yX3_bit wsX3_bit) := goodIn_app (goodIn_of _ (by decide +kernel)) ggX6_value_X3_bit
theorem dX6_value_0 : decode cX6_value 0 = .ok (.iload_n 1, 1) := by decide +kernel
theorem dX6_value_1 : decode cX6_value 1 = .ok (.invokestatic 51, 3) := by decide +kernel
theorem dX6_value_4 : decode cX6_value 4 = .ok (.ifCond .eq 11, 3) := by decide +kernel
theorem dX6_value_7 : decode cX6_value 7 = .ok (.aload_n 0, 1) := by decide +kernel
theorem dX6_value_8 : decode cX6_value 8 = .ok (.iload_n 2, 1) := by decide +kernel
theorem dX6_value_9 : decode cX6_value 9 = .ok (.invokevirtual 55, 3) := by decide +kernel
theorem dX6_value_12 : decode cX6_value 12 = .ok (.ifCond .ne 5, 3) := by decide +kernel
theorem dX6_value_15 : decode cX6_value 15 = .ok (.iconst (-1), 1) := by decide +kernel
theorem dX6_value_16 : decode cX6_value 16 = .ok (.ireturn, 1) := by decide +kernel
theorem dX6_value_17 : decode cX6_value 17 = .ok (.aload_n 0, 1) := by decide +kernel
theorem dX6_value_18 : decode cX6_value 18 = .ok (.getfield 9, 3) := by decide +kernel
theorem dX6_value_21 : decode cX6_value 21 = .ok (.iload_n 1, 1) := by decide +kernel
theorem dX6_value_22 : decode cX6_value 22 = .ok (.laload, 1) := by decide +kernel
theorem dX6_value_23 : decode cX6_value 23 = .ok (.aload_n 0, 1) := by decide +kernel
theorem dX6_value_24 : decode cX6_value 24 = .ok (.getfield 38, 3) := by decide +kernel
theorem dX6_value_27 : decode cX6_value 27 = .ok (.invokestatic 82, 3) := by decide +kernel
theorem dX6_value_30 : decode cX6_value 30 = .ok (.iload_n 2, 1) := by decide +kernel
theorem dX6_value_31 : decode cX6_value 31 = .ok (.invokestatic 106, 3) := by decide +kernel
theorem dX6_value_34 : decode cX6_value 34 = .ok (.ireturn, 1) := by decide +kernel
set_option maxRecDepth 20000 in
theorem ggX6_isSame_X6_isRegister : GoodIn wsX6_isSame wsX6_isRegister := goodIn_r _ [5] (by decide +kernel) (by decide +kernel)
set_option maxRecDepth 20000 in
theorem gX6_isSame_X6_isRegister : GoodIn wsX6_isSame (va_wsS RX6 51 yX6_isRegister wsX6_isRegister) := goodIn_app (goodIn_of _ (by decide +kernel)) ggX6_isSame_X6_isRegister
theorem dX6_isSame_0 : decode cX6_isSame 0 = .ok (.iload_n 1, 1) := by decide +kernel
theorem dX6_isSame_1 : decode cX6_isSame 1 = .ok (.invokestatic 51, 3) := by decide +kernel
theorem dX6_isSame_4 : decode cX6_isSame 4 = .ok (.ifCond .eq 10, 3) := by decide +kernel
theorem dX6_isSame_7 : decode cX6_isSame 7 = .ok (.iload_n 2, 1) := by decide +kernel
theorem dX6_isSame_8 : decode cX6_isSame 8 = .ok (.invokestatic 51, 3) := by decide +kernel
theorem dX6_isSame_11 : decode cX6_isSame 11 = .ok (.ifCond .ne 5, 3) := by decide +kernel
theorem dX6_isSame_14 : decode cX6_isSame 14 = .ok (.iconst (-1), 1) := by decide +kernel
theorem dX6_isSame_15 : decode cX6_isSame 15 = .ok (.ireturn, 1) := by decide +kernel
theorem dX6_isSame_16 : decode cX6_isSame 16 = .ok (.aload_n 0, 1) := by decide +kernel
theorem dX6_isSame_17 : decode cX6_isSame 17 = .ok (.getfield 9, 3) := by decide +kernel
theorem dX6_isSame_20 : decode cX6_isSame 20 = .ok (.iload_n 1, 1) := by decide +kernel
theorem dX6_isSame_21 : decode cX6_isSame 21 = .ok (.laload, 1) := by decide +kernel
theorem dX6_isSame_22 : decode cX6_isSame 22 = .ok (.aload_n 0, 1) := by decide +kernel
theorem dX6_isSame_23 : decode cX6_isSame 23 = .ok (.getfield 9, 3) := by decide +kernel
theorem dX6_isSame_26 : decode cX6_isSame 26 = .ok (.iload_n 2, 1) := by decide +kernel
theorem dX6_isSame_27 : decode cX6_isSame 27 = .ok (.laload, 1) := by decide +kernel
theorem dX6_isSame_28 : decode cX6_isSame 28 = .ok (.lcmp, 1) := by decide +kernel
theorem dX6_isSame_29 : decode cX6_isSame 29 = .ok (.ifCond .ne 7, 3) := by decide +kernel
theorem dX6_isSame_32 : decode cX6_isSame 32 = .ok (.iconst 1, 1) := by decide +kernel
theorem dX6_isSame_33 : decode cX6_isSame 33 = .ok (.goto 4, 3) := by decide +kernel
theorem dX6_isSame_36 : decode cX6_isSame 36 = .ok (.iconst 0, 1) := by decide +kernel
theorem dX6_isSame_37 : decode cX6_isSame 37 = .ok (.ireturn, 1) := by decide +kernel
set_option maxRecDepth 20000 in
theorem ggX6_reduce_X6_isRegister : GoodIn wsX6_reduce wsX6_isRegister := goodIn_r _ [7] (by decide +kernel) (by decide +kernel)
set_option maxRecDepth 20000 in
theorem gX6_reduce_X6_isRegister : GoodIn wsX6_reduce (va_wsS RX6 51 yX6_isRegister wsX6_isRegister) := goodIn_app (goodIn_of _ (by decide +kernel)) ggX6_reduce_X6_isRegister
set_option maxRecDepth 20000 in
theorem ggX6_reduce_X6_isSet : GoodIn wsX6_reduce wsX6_isSet := goodIn_r _ [10] (by decide +kernel) (by decide +kernel)
set_option maxRecDepth 20000 in
theorem gX6_reduce_X6_isSet : GoodIn wsX6_reduce (va_wsS RX6 139 yX6_isSet wsX6_isSet) := goodIn_app (goodIn_of _ (by decide +kernel)) ggX6_reduce_X6_isSet
set_option maxRecDepth 20000 in
theorem ggX6_reduce_X6_isOrder : GoodIn wsX6_reduce wsX6_isOrder := goodIn_r _ [13] (by decide +kernel) (by decide +kernel)
set_option maxRecDepth 20000 in
theorem gX6_reduce_X6_isOrder : GoodIn wsX6_reduce (va_wsS RX6 136 yX6_isOrder wsX6_isOrder) := goodIn_app (goodIn_of _ (by decide +kernel)) ggX6_reduce_X6_isOrder
set_option maxRecDepth 20000 in
theorem ggX6_reduce_X6_findLeading : GoodIn wsX6_reduce wsX6_findLeading := goodIn_r _ [17, 2, 1, 18, 19, 20, 21, 22, 23, 24, 25, 26, 27, 28, 29, 30, 31, 32, 33, 34, 35, 36, 37, 38, 39, 40, 41, 84, 85, 86, 87, 88, 89] (by decide +kernel) (by decide +kernel)
set_option maxRecDepth 20000 in
theorem gX6_reduce_X6_findLeading : GoodIn wsX6_reduce (wsV RX6 142 RX6 yX6_findLeading wsX6_findLeading) := goodIn_app (goodIn_of _ (by decide +kernel)) ggX6_reduce_X6_findLeading
set_option maxRecDepth 20000 in
theorem ggX6_reduce_X2_monomialAt : GoodIn wsX6_reduce wsX2_monomialAt := goodIn_r _ [31, 32, 33, 20, 34, 35, 36, 37] (by decide +kernel) (by decide +kernel)
set_option maxRecDepth 20000 in
theorem gX6_reduce_X2_monomialAt : GoodIn wsX6_reduce (va_wsS RX6 146 yX2_monomialAt wsX2_monomialAt) := goodIn_app (goodIn_of _ (by decide +kernel)) ggX6_reduce_X2_monomialAt
set_option maxRecDepth 20000 in
theorem ggX6_reduce_X3_bit : GoodIn wsX6_reduce wsX3_bit := goodIn_r _ [41] (by decide +kernel) (by decide +kernel)
set_option maxRecDepth 20000 in
theorem gX6_reduce_X3_bit : GoodIn wsX6_reduce (va_wsS RX6 106 yX3_bit wsX3_bit) := goodIn_app (goodIn_of _ (by decide +kernel)) ggX6_reduce_X3_bit
set_option maxRecDepth 20000 in
theorem ggX6_reduce_X6_reducerOf : GoodIn wsX6_reduce wsX6_reducerOf := goodIn_r _ [47, 2, 48, 49, 6, 50, 84, 85, 86, 87, 88, 89] (by decide +kernel) (by decide +kernel)
set_option maxRecDepth 20000 in
theorem gX6_reduce_X6_reducerOf : GoodIn wsX6_reduce (wsV RX6 149 RX6 yX6_reducerOf wsX6_reducerOf) := goodIn_app (goodIn_of _ (by decide +kernel)) ggX6_reduce_X6_reducerOf
set_option maxRecDepth 20000 in
theorem ggX6_reduce_X3_ofMonomial : GoodIn wsX6_reduce wsX3_ofMonomial := goodIn_r _ [53] (by decide +kernel) (by decide +kernel)
set_option maxRecDepth 20000 in
theorem gX6_reduce_X3_ofMonomial : GoodIn wsX6_reduce (va_wsS RX6 58 yX3_ofMonomial wsX3_ofMonomial) := goodIn_app (goodIn_of _ (by decide +kernel)) ggX6_reduce_X3_ofMonomial
set_option maxRecDepth 20000 in
theorem ggX6_reduce_X3_multiplied : GoodIn wsX6_reduce wsX3_multiplied := goodIn_r _ [56, 57, 58, 40, 59, 60, 61, 62, 63, 64, 65, 66] (by decide +kernel) (by decide +kernel)
set_option maxRecDepth 20000 in
theorem gX6_reduce_X3_multiplied : GoodIn wsX6_reduce (va_wsS RX6 68 yX3_multiplied wsX3_multiplied) := goodIn_app (goodIn_of _ (by decide +kernel)) ggX6_reduce_X3_multiplied
set_option maxRecDepth 20000 in
theorem ggX6_reduce_X6_put : GoodIn wsX6_reduce wsX6_put := goodIn_r _ [70, 71, 1, 72, 73, 74, 75, 76, 77, 78, 79, 80, 81, 82, 4, 5, 6, 7, 83, 23, 24, 25, 26, 27, 28, 84, 85, 86, 87, 88, 89, 90, 91] (by decide +kernel) (by decide +kernel)
set_option maxRecDepth 20000 in
theorem gX6_reduce_X6_put : GoodIn wsX6_reduce (wsV RX6 64 RX6 yX6_put wsX6_put) := goodIn_app (goodIn_of _ (by decide +kernel)) ggX6_reduce_X6_put
theorem dX6_reduce_0 : decode cX6_reduce 0 = .ok (.iload_n 1, 1) := by decide +kernel
theorem dX6_reduce_1 : decode cX6_reduce 1 = .ok (.invokestatic 51, 3) := by decide +kernel
theorem dX6_reduce_4 : decode cX6_reduce 4 = .ok (.ifCond .eq 25, 3) := by decide +kernel
theorem dX6_reduce_7 : decode cX6_reduce 7 = .ok (.iload_n 2, 1) := by decide +kernel
theorem dX6_reduce_8 : decode cX6_reduce 8 = .ok (.invokestatic 139, 3) := by decide +kernel
theorem dX6_reduce_11 : decode cX6_reduce 11 = .ok (.ifCond .eq 18, 3) := by decide +kernel
theorem dX6_reduce_14 : decode cX6_reduce 14 = .ok (.iload_n 3, 1) := by decide +kernel
theorem dX6_reduce_15 : decode cX6_reduce 15 = .ok (.invokestatic 136, 3) := by decide +kernel
theorem dX6_reduce_18 : decode cX6_reduce 18 = .ok (.ifCond .eq 11, 3) := by decide +kernel
theorem dX6_reduce_21 : decode cX6_reduce 21 = .ok (.iload 4, 2) := by decide +kernel
theorem dX6_reduce_23 : decode cX6_reduce 23 = .ok (.invokestatic 51, 3) := by decide +kernel
theorem dX6_reduce_26 : decode cX6_reduce 26 = .ok (.ifCond .ne 5, 3) := by decide +kernel
theorem dX6_reduce_29 : decode cX6_reduce 29 = .ok (.iconst (-1), 1) := by decide +kernel
theorem dX6_reduce_30 : decode cX6_reduce 30 = .ok (.ireturn, 1) := by decide +kernel
theorem dX6_reduce_31 : decode cX6_reduce 31 = .ok (.aload_n 0, 1) := by decide +kernel
theorem dX6_reduce_32 : decode cX6_reduce 32 = .ok (.iload_n 3, 1) := by decide +kernel
theorem dX6_reduce_33 : decode cX6_reduce 33 = .ok (.invokevirtual 142, 3) := by decide +kernel
theorem dX6_reduce_36 : decode cX6_reduce 36 = .ok (.aload_n 0, 1) := by decide +kernel
theorem dX6_reduce_37 : decode cX6_reduce 37 = .ok (.getfield 9, 3) := by decide +kernel
theorem dX6_reduce_40 : decode cX6_reduce 40 = .ok (.iload_n 1, 1) := by decide +kernel
theorem dX6_reduce_41 : decode cX6_reduce 41 = .ok (.laload, 1) := by decide +kernel
theorem dX6_reduce_42 : decode cX6_reduce 42 = .ok (.lstore 5, 2) := by decide +kernel
theorem dX6_reduce_44 : decode cX6_reduce 44 = .ok (.iconst 0, 1) := by decide +kernel
theorem dX6_reduce_45 : decode cX6_reduce 45 = .ok (.istore 7, 2) := by decide +kernel
theorem dX6_reduce_47 : decode cX6_reduce 47 = .ok (.iconst 0, 1) := by decide +kernel
theorem dX6_reduce_48 : decode cX6_reduce 48 = .ok (.istore 8, 2) := by decide +kernel
theorem dX6_reduce_50 : decode cX6_reduce 50 = .ok (.iload 8, 2) := by decide +kernel
theorem dX6_reduce_52 : decode cX6_reduce 52 = .ok (.bipush 64, 2) := by decide +kernel
theorem dX6_reduce_54 : decode cX6_reduce 54 = .ok (.if_icmp .ge 91, 3) := by decide +kernel
theorem dX6_reduce_57 : decode cX6_reduce 57 = .ok (.iload_n 3, 1) := by decide +kernel
theorem dX6_reduce_58 : decode cX6_reduce 58 = .ok (.iload 8, 2) := by decide +kernel
theorem dX6_reduce_60 : decode cX6_reduce 60 = .ok (.invokestatic 146, 3) := by decide +kernel
theorem dX6_reduce_63 : decode cX6_reduce 63 = .ok (.istore 9, 2) := by decide +kernel
theorem dX6_reduce_65 : decode cX6_reduce 65 = .ok (.lload 5, 2) := by decide +kernel
theorem dX6_reduce_67 : decode cX6_reduce 67 = .ok (.iload 9, 2) := by decide +kernel
theorem dX6_reduce_69 : decode cX6_reduce 69 = .ok (.invokestatic 106, 3) := by decide +kernel
theorem dX6_reduce_72 : decode cX6_reduce 72 = .ok (.iconst 1, 1) := by decide +kernel
theorem dX6_reduce_73 : decode cX6_reduce 73 = .ok (.if_icmp .ne 13, 3) := by decide +kernel
theorem dX6_reduce_76 : decode cX6_reduce 76 = .ok (.aload_n 0, 1) := by decide +kernel
theorem dX6_reduce_77 : decode cX6_reduce 77 = .ok (.iload 9, 2) := by decide +kernel
theorem dX6_reduce_79 : decode cX6_reduce 79 = .ok (.iload_n 2, 1) := by decide +kernel
theorem dX6_reduce_80 : decode cX6_reduce 80 = .ok (.invokevirtual 149, 3) := by decide +kernel
theorem dX6_reduce_83 : decode cX6_reduce 83 = .ok (.goto 5, 3) := by decide +kernel
theorem dX6_reduce_86 : decode cX6_reduce 86 = .ok (.bipush (-4), 2) := by decide +kernel
theorem dX6_reduce_88 : decode cX6_reduce 88 = .ok (.istore 10, 2) := by decide +kernel
theorem dX6_reduce_90 : decode cX6_reduce 90 = .ok (.iload 10, 2) := by decide +kernel
theorem dX6_reduce_92 : decode cX6_reduce 92 = .ok (.invokestatic 51, 3) := by decide +kernel
theorem dX6_reduce_95 : decode cX6_reduce 95 = .ok (.ifCond .eq 44, 3) := by decide +kernel
theorem dX6_reduce_98 : decode cX6_reduce 98 = .ok (.iload 9, 2) := by decide +kernel
theorem dX6_reduce_100 : decode cX6_reduce 100 = .ok (.aload_n 0, 1) := by decide +kernel
theorem dX6_reduce_101 : decode cX6_reduce 101 = .ok (.getfield 13, 3) := by decide +kernel
theorem dX6_reduce_104 : decode cX6_reduce 104 = .ok (.iload 10, 2) := by decide +kernel
theorem dX6_reduce_106 : decode cX6_reduce 106 = .ok (.iaload, 1) := by decide +kernel
theorem dX6_reduce_107 : decode cX6_reduce 107 = .ok (.iconst (-1), 1) := by decide +kernel
theorem dX6_reduce_108 : decode cX6_reduce 108 = .ok (.ixor, 1) := by decide +kernel
theorem dX6_reduce_109 : decode cX6_reduce 109 = .ok (.iand, 1) := by decide +kernel
theorem dX6_reduce_110 : decode cX6_reduce 110 = .ok (.istore 11, 2) := by decide +kernel
theorem dX6_reduce_112 : decode cX6_reduce 112 = .ok (.lload 5, 2) := by decide +kernel
theorem dX6_reduce_114 : decode cX6_reduce 114 = .ok (.aload_n 0, 1) := by decide +kernel
theorem dX6_reduce_115 : decode cX6_reduce 115 = .ok (.getfield 9, 3) := by decide +kernel
theorem dX6_reduce_118 : decode cX6_reduce 118 = .ok (.iload 10, 2) := by decide +kernel
theorem dX6_reduce_120 : decode cX6_reduce 120 = .ok (.laload, 1) := by decide +kernel
theorem dX6_reduce_121 : decode cX6_reduce 121 = .ok (.iload 11, 2) := by decide +kernel
theorem dX6_reduce_123 : decode cX6_reduce 123 = .ok (.invokestatic 58, 3) := by decide +kernel
theorem dX6_reduce_126 : decode cX6_reduce 126 = .ok (.aload_n 0, 1) := by decide +kernel
theorem dX6_reduce_127 : decode cX6_reduce 127 = .ok (.getfield 38, 3) := by decide +kernel
theorem dX6_reduce_130 : decode cX6_reduce 130 = .ok (.invokestatic 68, 3) := by decide +kernel
theorem dX6_reduce_133 : decode cX6_reduce 133 = .ok (.lxor, 1) := by decide +kernel
theorem dX6_reduce_134 : decode cX6_reduce 134 = .ok (.lstore 5, 2) := by decide +kernel
theorem dX6_reduce_136 : decode cX6_reduce 136 = .ok (.iinc 7 1, 3) := by decide +kernel
theorem dX6_reduce_139 : decode cX6_reduce 139 = .ok (.iinc 8 1, 3) := by decide +kernel
theorem dX6_reduce_142 : decode cX6_reduce 142 = .ok (.goto (-92), 3) := by decide +kernel
theorem dX6_reduce_145 : decode cX6_reduce 145 = .ok (.aload_n 0, 1) := by decide +kernel
theorem dX6_reduce_146 : decode cX6_reduce 146 = .ok (.iload 4, 2) := by decide +kernel
theorem dX6_reduce_148 : decode cX6_reduce 148 = .ok (.lload 5, 2) := by decide +kernel
theorem dX6_reduce_150 : decode cX6_reduce 150 = .ok (.invokevirtual 64, 3) := by decide +kernel
theorem dX6_reduce_153 : decode cX6_reduce 153 = .ok (.pop, 1) := by decide +kernel
theorem dX6_reduce_154 : decode cX6_reduce 154 = .ok (.iload 7, 2) := by decide +kernel
theorem dX6_reduce_156 : decode cX6_reduce 156 = .ok (.ireturn, 1) := by decide +kernel
set_option maxRecDepth 20000 in
theorem ggX6_echelon_X6_isSet : GoodIn wsX6_echelon wsX6_isSet := goodIn_r _ [6] (by decide +kernel) (by decide +kernel)
set_option maxRecDepth 20000 in
theorem gX6_echelon_X6_isSet : GoodIn wsX6_echelon (va_wsS RX6 139 yX6_isSet wsX6_isSet) := goodIn_app (goodIn_of _ (by decide +kernel)) ggX6_echelon_X6_isSet
set_option maxRecDepth 20000 in
theorem ggX6_echelon_X6_isOrder : GoodIn wsX6_echelon wsX6_isOrder := goodIn_r _ [9] (by decide +kernel) (by decide +kernel)
set_option maxRecDepth 20000 in
theorem gX6_echelon_X6_isOrder : GoodIn wsX6_echelon (va_wsS RX6 136 yX6_isOrder wsX6_isOrder) := goodIn_app (goodIn_of _ (by decide +kernel)) ggX6_echelon_X6_isOrder
set_option maxRecDepth 20000 in
theorem ggX6_echelon_X1_keep : GoodIn wsX6_echelon wsX1_keep := goodIn_r _ [14, 15, 16, 17, 18, 19, 20, 58, 59] (by decide +kernel) (by decide +kernel)
set_option maxRecDepth 20000 in
theorem gX6_echelon_X1_keep : GoodIn wsX6_echelon (wsV RX6 152 RX1 yX1_keep wsX1_keep) := goodIn_app (goodIn_of _ (by decide +kernel)) ggX6_echelon_X1_keep
set_option maxRecDepth 20000 in
theorem ggX6_echelon_X6_nextOf : GoodIn wsX6_echelon wsX6_nextOf := goodIn_r _ [23, 24, 25, 5, 26] (by decide +kernel) (by decide +kernel)
set_option maxRecDepth 20000 in
theorem gX6_echelon_X6_nextOf : GoodIn wsX6_echelon (va_wsS RX6 156 yX6_nextOf wsX6_nextOf) := goodIn_app (goodIn_of _ (by decide +kernel)) ggX6_echelon_X6_nextOf
set_option maxRecDepth 20000 in
theorem ggX6_echelon_X2_monomialAt : GoodIn wsX6_echelon wsX2_monomialAt := goodIn_r _ [30, 31, 32, 29, 33, 34, 35, 36] (by decide +kernel) (by decide +kernel)
set_option maxRecDepth 20000 in
theorem gX6_echelon_X2_monomialAt : GoodIn wsX6_echelon (va_wsS RX6 146 yX2_monomialAt wsX2_monomialAt) := goodIn_app (goodIn_of _ (by decide +kernel)) ggX6_echelon_X2_monomialAt
set_option maxRecDepth 20000 in
theorem ggX6_echelon_X6_bringUp : GoodIn wsX6_echelon wsX6_bringUp := goodIn_r _ [40, 2, 41, 42, 5, 43, 24, 25, 26, 44, 45, 46, 47, 52, 53, 54, 55, 56, 57] (by decide +kernel) (by decide +kernel)
set_option maxRecDepth 20000 in
theorem gX6_echelon_X6_bringUp : GoodIn wsX6_echelon (wsV RX6 159 RX6 yX6_bringUp wsX6_bringUp) := goodIn_app (goodIn_of _ (by decide +kernel)) ggX6_echelon_X6_bringUp
set_option maxRecDepth 20000 in
theorem ggX6_echelon_X6_clearElsewhere : GoodIn wsX6_echelon wsX6_clearElsewhere := goodIn_r _ [51, 2, 41, 42, 5, 43, 24, 25, 26, 44, 45, 46, 47, 52, 53, 54, 55, 56, 57] (by decide +kernel) (by decide +kernel)
set_option maxRecDepth 20000 in
theorem gX6_echelon_X6_clearElsewhere : GoodIn wsX6_echelon (wsV RX6 163 RX6 yX6_clearElsewhere wsX6_clearElsewhere) := goodIn_app (goodIn_of _ (by decide +kernel)) ggX6_echelon_X6_clearElsewhere
theorem dX6_echelon_0 : decode cX6_echelon 0 = .ok (.iload_n 1, 1) := by decide +kernel
theorem dX6_echelon_1 : decode cX6_echelon 1 = .ok (.invokestatic 139, 3) := by decide +kernel
theorem dX6_echelon_4 : decode cX6_echelon 4 = .ok (.ifCond .eq 10, 3) := by decide +kernel
theorem dX6_echelon_7 : decode cX6_echelon 7 = .ok (.iload_n 2, 1) := by decide +kernel
theorem dX6_echelon_8 : decode cX6_echelon 8 = .ok (.invokestatic 136, 3) := by decide +kernel
theorem dX6_echelon_11 : decode cX6_echelon 11 = .ok (.ifCond .ne 5, 3) := by decide +kernel
theorem dX6_echelon_14 : decode cX6_echelon 14 = .ok (.iconst (-1), 1) := by decide +kernel
theorem dX6_echelon_15 : decode cX6_echelon 15 = .ok (.ireturn, 1) := by decide +kernel
theorem dX6_echelon_16 : decode cX6_echelon 16 = .ok (.aload_n 0, 1) := by decide +kernel
theorem dX6_echelon_17 : decode cX6_echelon 17 = .ok (.getfield 20, 3) := by decide +kernel
theorem dX6_echelon_20 : decode cX6_echelon 20 = .ok (.aload_n 0, 1) := by decide +kernel
theorem dX6_echelon_21 : decode cX6_echelon 21 = .ok (.getfield 9, 3) := by decide +kernel
theorem dX6_echelon_24 : decode cX6_echelon 24 = .ok (.invokevirtual 152, 3) := by decide +kernel
theorem dX6_echelon_27 : decode cX6_echelon 27 = .ok (.iload_n 1, 1) := by decide +kernel
theorem dX6_echelon_28 : decode cX6_echelon 28 = .ok (.iconst 0, 1) := by decide +kernel
theorem dX6_echelon_29 : decode cX6_echelon 29 = .ok (.invokestatic 156, 3) := by decide +kernel
theorem dX6_echelon_32 : decode cX6_echelon 32 = .ok (.istore_n 3, 1) := by decide +kernel
theorem dX6_echelon_33 : decode cX6_echelon 33 = .ok (.iconst 0, 1) := by decide +kernel
theorem dX6_echelon_34 : decode cX6_echelon 34 = .ok (.istore 4, 2) := by decide +kernel
theorem dX6_echelon_36 : decode cX6_echelon 36 = .ok (.iconst 0, 1) := by decide +kernel
theorem dX6_echelon_37 : decode cX6_echelon 37 = .ok (.istore 5, 2) := by decide +kernel
theorem dX6_echelon_39 : decode cX6_echelon 39 = .ok (.iload 5, 2) := by decide +kernel
theorem dX6_echelon_41 : decode cX6_echelon 41 = .ok (.bipush 64, 2) := by decide +kernel
theorem dX6_echelon_43 : decode cX6_echelon 43 = .ok (.if_icmp .ge 53, 3) := by decide +kernel
theorem dX6_echelon_46 : decode cX6_echelon 46 = .ok (.iload_n 3, 1) := by decide +kernel
theorem dX6_echelon_47 : decode cX6_echelon 47 = .ok (.bipush 8, 2) := by decide +kernel
theorem dX6_echelon_49 : decode cX6_echelon 49 = .ok (.if_icmp .ge 47, 3) := by decide +kernel
theorem dX6_echelon_52 : decode cX6_echelon 52 = .ok (.iload_n 2, 1) := by decide +kernel
theorem dX6_echelon_53 : decode cX6_echelon 53 = .ok (.iload 5, 2) := by decide +kernel
theorem dX6_echelon_55 : decode cX6_echelon 55 = .ok (.invokestatic 146, 3) := by decide +kernel
theorem dX6_echelon_58 : decode cX6_echelon 58 = .ok (.istore 6, 2) := by decide +kernel
theorem dX6_echelon_60 : decode cX6_echelon 60 = .ok (.aload_n 0, 1) := by decide +kernel
theorem dX6_echelon_61 : decode cX6_echelon 61 = .ok (.iload_n 1, 1) := by decide +kernel
theorem dX6_echelon_62 : decode cX6_echelon 62 = .ok (.iload_n 3, 1) := by decide +kernel
theorem dX6_echelon_63 : decode cX6_echelon 63 = .ok (.iload 6, 2) := by decide +kernel
theorem dX6_echelon_65 : decode cX6_echelon 65 = .ok (.invokevirtual 159, 3) := by decide +kernel
theorem dX6_echelon_68 : decode cX6_echelon 68 = .ok (.ifCond .eq 22, 3) := by decide +kernel
theorem dX6_echelon_71 : decode cX6_echelon 71 = .ok (.aload_n 0, 1) := by decide +kernel
theorem dX6_echelon_72 : decode cX6_echelon 72 = .ok (.iload_n 1, 1) := by decide +kernel
theorem dX6_echelon_73 : decode cX6_echelon 73 = .ok (.iload_n 3, 1) := by decide +kernel
theorem dX6_echelon_74 : decode cX6_echelon 74 = .ok (.iload 6, 2) := by decide +kernel
theorem dX6_echelon_76 : decode cX6_echelon 76 = .ok (.invokevirtual 163, 3) := by decide +kernel
theorem dX6_echelon_79 : decode cX6_echelon 79 = .ok (.iload_n 1, 1) := by decide +kernel
theorem dX6_echelon_80 : decode cX6_echelon 80 = .ok (.iload_n 3, 1) := by decide +kernel
theorem dX6_echelon_81 : decode cX6_echelon 81 = .ok (.iconst 1, 1) := by decide +kernel
theorem dX6_echelon_82 : decode cX6_echelon 82 = .ok (.iadd, 1) := by decide +kernel
theorem dX6_echelon_83 : decode cX6_echelon 83 = .ok (.invokestatic 156, 3) := by decide +kernel
theorem dX6_echelon_86 : decode cX6_echelon 86 = .ok (.istore_n 3, 1) := by decide +kernel
theorem dX6_echelon_87 : decode cX6_echelon 87 = .ok (.iinc 4 1, 3) := by decide +kernel
theorem dX6_echelon_90 : decode cX6_echelon 90 = .ok (.iinc 5 1, 3) := by decide +kernel
theorem dX6_echelon_93 : decode cX6_echelon 93 = .ok (.goto (-54), 3) := by decide +kernel
theorem dX6_echelon_96 : decode cX6_echelon 96 = .ok (.iload 4, 2) := by decide +kernel
theorem dX6_echelon_98 : decode cX6_echelon 98 = .ok (.ireturn, 1) := by decide +kernel
set_option maxRecDepth 20000 in
theorem ggX6_zeros_X6_isSet : GoodIn wsX6_zeros wsX6_isSet := goodIn_r _ [4] (by decide +kernel) (by decide +kernel)
set_option maxRecDepth 20000 in
theorem gX6_zeros_X6_isSet : GoodIn wsX6_zeros (va_wsS RX6 139 yX6_isSet wsX6_isSet) := goodIn_app (goodIn_of _ (by decide +kernel)) ggX6_zeros_X6_isSet
set_option maxRecDepth 20000 in
theorem ggX6_zeros_X6_commonZeros : GoodIn wsX6_zeros wsX6_commonZeros := goodIn_r _ [8, 9, 10, 11, 12, 3, 13, 14, 15, 16, 17, 18, 19, 20, 21, 22, 23, 24, 25, 26, 27, 28, 29, 30, 31, 32, 33, 41, 42, 43, 44, 45, 46] (by decide +kernel) (by decide +kernel)
set_option maxRecDepth 20000 in
theorem gX6_zeros_X6_commonZeros : GoodIn wsX6_zeros (wsV RX6 167 RX6 yX6_commonZeros wsX6_commonZeros) := goodIn_app (goodIn_of _ (by decide +kernel)) ggX6_zeros_X6_commonZeros
set_option maxRecDepth 20000 in
theorem ggX6_zeros_J13_bitCount_95d88 : GoodIn wsX6_zeros wsJ13_bitCount_95d88 := goodIn_r _ [37, 38, 39, 40] (by decide +kernel) (by decide +kernel)
set_option maxRecDepth 20000 in
theorem gX6_zeros_J13_bitCount_95d88 : GoodIn wsX6_zeros (va_wsS RX6 110 yJ13_bitCount_95d88 wsJ13_bitCount_95d88) := goodIn_app (goodIn_of _ (by decide +kernel)) ggX6_zeros_J13_bitCount_95d88
theorem dX6_zeros_0 : decode cX6_zeros 0 = .ok (.iload_n 1, 1) := by decide +kernel
theorem dX6_zeros_1 : decode cX6_zeros 1 = .ok (.invokestatic 139, 3) := by decide +kernel
theorem dX6_zeros_4 : decode cX6_zeros 4 = .ok (.ifCond .ne 5, 3) := by decide +kernel
theorem dX6_zeros_7 : decode cX6_zeros 7 = .ok (.iconst (-1), 1) := by decide +kernel
theorem dX6_zeros_8 : decode cX6_zeros 8 = .ok (.ireturn, 1) := by decide +kernel
theorem dX6_zeros_9 : decode cX6_zeros 9 = .ok (.aload_n 0, 1) := by decide +kernel
theorem dX6_zeros_10 : decode cX6_zeros 10 = .ok (.iload_n 1, 1) := by decide +kernel
theorem dX6_zeros_11 : decode cX6_zeros 11 = .ok (.invokevirtual 167, 3) := by decide +kernel
theorem dX6_zeros_14 : decode cX6_zeros 14 = .ok (.invokestatic 110, 3) := by decide +kernel
theorem dX6_zeros_17 : decode cX6_zeros 17 = .ok (.ireturn, 1) := by decide +kernel
set_option maxRecDepth 20000 in
theorem ggX6_zeroAt_X6_isSet : GoodIn wsX6_zeroAt wsX6_isSet := goodIn_r _ [4] (by decide +kernel) (by decide +kernel)
set_option maxRecDepth 20000 in
theorem gX6_zeroAt_X6_isSet : GoodIn wsX6_zeroAt (va_wsS RX6 139 yX6_isSet wsX6_isSet) := goodIn_app (goodIn_of _ (by decide +kernel)) ggX6_zeroAt_X6_isSet
set_option maxRecDepth 20000 in
theorem ggX6_zeroAt_X6_commonZeros : GoodIn wsX6_zeroAt wsX6_commonZeros := goodIn_r _ [8, 9, 10, 11, 12, 3, 13, 14, 15, 16, 17, 18, 19, 20, 21, 22, 23, 24, 25, 26, 27, 28, 29, 30, 31, 32, 33, 37, 38, 39, 40, 41, 42] (by decide +kernel) (by decide +kernel)
set_option maxRecDepth 20000 in
theorem gX6_zeroAt_X6_commonZeros : GoodIn wsX6_zeroAt (wsV RX6 167 RX6 yX6_commonZeros wsX6_commonZeros) := goodIn_app (goodIn_of _ (by decide +kernel)) ggX6_zeroAt_X6_commonZeros
set_option maxRecDepth 20000 in
theorem ggX6_zeroAt_X3_bit : GoodIn wsX6_zeroAt wsX3_bit := goodIn_r _ [36] (by decide +kernel) (by decide +kernel)
set_option maxRecDepth 20000 in
theorem gX6_zeroAt_X3_bit : GoodIn wsX6_zeroAt (va_wsS RX6 106 yX3_bit wsX3_bit) := goodIn_app (goodIn_of _ (by decide +kernel)) ggX6_zeroAt_X3_bit
theorem dX6_zeroAt_0 : decode cX6_zeroAt 0 = .ok (.iload_n 1, 1) := by decide +kernel
theorem dX6_zeroAt_1 : decode cX6_zeroAt 1 = .ok (.invokestatic 139, 3) := by decide +kernel
theorem dX6_zeroAt_4 : decode cX6_zeroAt 4 = .ok (.ifCond .eq 7, 3) := by decide +kernel
theorem dX6_zeroAt_7 : decode cX6_zeroAt 7 = .ok (.iload_n 2, 1) := by decide +kernel
theorem dX6_zeroAt_8 : decode cX6_zeroAt 8 = .ok (.ifCond .ge 5, 3) := by decide +kernel
theorem dX6_zeroAt_11 : decode cX6_zeroAt 11 = .ok (.iconst (-1), 1) := by decide +kernel
theorem dX6_zeroAt_12 : decode cX6_zeroAt 12 = .ok (.ireturn, 1) := by decide +kernel
theorem dX6_zeroAt_13 : decode cX6_zeroAt 13 = .ok (.aload_n 0, 1) := by decide +kernel
theorem dX6_zeroAt_14 : decode cX6_zeroAt 14 = .ok (.iload_n 1, 1) := by decide +kernel
theorem dX6_zeroAt_15 : decode cX6_zeroAt 15 = .ok (.invokevirtual 167, 3) := by decide +kernel
theorem dX6_zeroAt_18 : decode cX6_zeroAt 18 = .ok (.lstore_n 3, 1) := by decide +kernel
theorem dX6_zeroAt_19 : decode cX6_zeroAt 19 = .ok (.iload_n 2, 1) := by decide +kernel
theorem dX6_zeroAt_20 : decode cX6_zeroAt 20 = .ok (.istore 5, 2) := by decide +kernel
theorem dX6_zeroAt_22 : decode cX6_zeroAt 22 = .ok (.iconst 0, 1) := by decide +kernel
theorem dX6_zeroAt_23 : decode cX6_zeroAt 23 = .ok (.istore 6, 2) := by decide +kernel
theorem dX6_zeroAt_25 : decode cX6_zeroAt 25 = .ok (.iload 6, 2) := by decide +kernel
theorem dX6_zeroAt_27 : decode cX6_zeroAt 27 = .ok (.bipush 64, 2) := by decide +kernel
theorem dX6_zeroAt_29 : decode cX6_zeroAt 29 = .ok (.if_icmp .ge 30, 3) := by decide +kernel
theorem dX6_zeroAt_32 : decode cX6_zeroAt 32 = .ok (.lload_n 3, 1) := by decide +kernel
theorem dX6_zeroAt_33 : decode cX6_zeroAt 33 = .ok (.iload 6, 2) := by decide +kernel
theorem dX6_zeroAt_35 : decode cX6_zeroAt 35 = .ok (.invokestatic 106, 3) := by decide +kernel
theorem dX6_zeroAt_38 : decode cX6_zeroAt 38 = .ok (.iconst 1, 1) := by decide +kernel
theorem dX6_zeroAt_39 : decode cX6_zeroAt 39 = .ok (.if_icmp .ne 14, 3) := by decide +kernel
theorem dX6_zeroAt_42 : decode cX6_zeroAt 42 = .ok (.iload 5, 2) := by decide +kernel
theorem dX6_zeroAt_44 : decode cX6_zeroAt 44 = .ok (.ifCond .ne 6, 3) := by decide +kernel
theorem dX6_zeroAt_47 : decode cX6_zeroAt 47 = .ok (.iload 6, 2) := by decide +kernel
theorem dX6_zeroAt_49 : decode cX6_zeroAt 49 = .ok (.ireturn, 1) := by decide +kernel
theorem dX6_zeroAt_50 : decode cX6_zeroAt 50 = .ok (.iinc 5 (-1), 3) := by decide +kernel
theorem dX6_zeroAt_53 : decode cX6_zeroAt 53 = .ok (.iinc 6 1, 3) := by decide +kernel
theorem dX6_zeroAt_56 : decode cX6_zeroAt 56 = .ok (.goto (-31), 3) := by decide +kernel
theorem dX6_zeroAt_59 : decode cX6_zeroAt 59 = .ok (.bipush (-4), 2) := by decide +kernel
theorem dX6_zeroAt_61 : decode cX6_zeroAt 61 = .ok (.ireturn, 1) := by decide +kernel
set_option maxRecDepth 20000 in
theorem ggX6_combine_X6_isSet : GoodIn wsX6_combine wsX6_isSet := goodIn_r _ [5] (by decide +kernel) (by decide +kernel)
set_option maxRecDepth 20000 in
theorem gX6_combine_X6_isSet : GoodIn wsX6_combine (va_wsS RX6 139 yX6_isSet wsX6_isSet) := goodIn_app (goodIn_of _ (by decide +kernel)) ggX6_combine_X6_isSet
set_option maxRecDepth 20000 in
theorem ggX6_combine_X6_isRegister : GoodIn wsX6_combine wsX6_isRegister := goodIn_r _ [8] (by decide +kernel) (by decide +kernel)
set_option maxRecDepth 20000 in
theorem gX6_combine_X6_isRegister : GoodIn wsX6_combine (va_wsS RX6 51 yX6_isRegister wsX6_isRegister) := goodIn_app (goodIn_of _ (by decide +kernel)) ggX6_combine_X6_isRegister
set_option maxRecDepth 20000 in
theorem ggX6_combine_X6_nonZeros : GoodIn wsX6_combine wsX6_nonZeros := goodIn_r _ [12, 13, 1, 14, 15, 4, 16, 17, 18, 19, 20, 21, 22, 23, 24, 25, 26, 27, 51, 52, 53, 54, 55, 56] (by decide +kernel) (by decide +kernel)
set_option maxRecDepth 20000 in
theorem gX6_combine_X6_nonZeros : GoodIn wsX6_combine (wsV RX6 170 RX6 yX6_nonZeros wsX6_nonZeros) := goodIn_app (goodIn_of _ (by decide +kernel)) ggX6_combine_X6_nonZeros
set_option maxRecDepth 20000 in
theorem ggX6_combine_X3_transformed : GoodIn wsX6_combine wsX3_transformed := goodIn_r _ [20, 21, 22, 19, 23, 24, 25, 26, 27] (by decide +kernel) (by decide +kernel)
set_option maxRecDepth 20000 in
theorem gX6_combine_X3_transformed : GoodIn wsX6_combine (va_wsS RX6 82 yX3_transformed wsX3_transformed) := goodIn_app (goodIn_of _ (by decide +kernel)) ggX6_combine_X3_transformed
set_option maxRecDepth 20000 in
theorem ggX6_combine_X6_put : GoodIn wsX6_combine wsX6_put := goodIn_r _ [31, 32, 13, 33, 34, 35, 36, 37, 38, 39, 40, 41, 42, 43, 6, 7, 4, 8, 44, 45, 46, 47, 48, 49, 50, 51, 52, 53, 54, 55, 56, 57, 58] (by decide +kernel) (by decide +kernel)
set_option maxRecDepth 20000 in
theorem gX6_combine_X6_put : GoodIn wsX6_combine (wsV RX6 64 RX6 yX6_put wsX6_put) := goodIn_app (goodIn_of _ (by decide +kernel)) ggX6_combine_X6_put
theorem dX6_combine_0 : decode cX6_combine 0 = .ok (.iload_n 1, 1) := by decide +kernel
theorem dX6_combine_1 : decode cX6_combine 1 = .ok (.invokestatic 139, 3) := by decide +kernel
theorem dX6_combine_4 : decode cX6_combine 4 = .ok (.ifCond .eq 10, 3) := by decide +kernel
theorem dX6_combine_7 : decode cX6_combine 7 = .ok (.iload_n 2, 1) := by decide +kernel
theorem dX6_combine_8 : decode cX6_combine 8 = .ok (.invokestatic 51, 3) := by decide +kernel
theorem dX6_combine_11 : decode cX6_combine 11 = .ok (.ifCond .ne 5, 3) := by decide +kernel
theorem dX6_combine_14 : decode cX6_combine 14 = .ok (.iconst (-1), 1) := by decide +kernel
theorem dX6_combine_15 : decode cX6_combine 15 = .ok (.ireturn, 1) := by decide +kernel
theorem dX6_combine_16 : decode cX6_combine 16 = .ok (.aload_n 0, 1) := by decide +kernel
theorem dX6_combine_17 : decode cX6_combine 17 = .ok (.iload_n 2, 1) := by decide +kernel
theorem dX6_combine_18 : decode cX6_combine 18 = .ok (.aload_n 0, 1) := by decide +kernel
theorem dX6_combine_19 : decode cX6_combine 19 = .ok (.iload_n 1, 1) := by decide +kernel
theorem dX6_combine_20 : decode cX6_combine 20 = .ok (.invokevirtual 170, 3) := by decide +kernel
theorem dX6_combine_23 : decode cX6_combine 23 = .ok (.aload_n 0, 1) := by decide +kernel
theorem dX6_combine_24 : decode cX6_combine 24 = .ok (.getfield 38, 3) := by decide +kernel
theorem dX6_combine_27 : decode cX6_combine 27 = .ok (.invokestatic 82, 3) := by decide +kernel
theorem dX6_combine_30 : decode cX6_combine 30 = .ok (.invokevirtual 64, 3) := by decide +kernel
theorem dX6_combine_33 : decode cX6_combine 33 = .ok (.ireturn, 1) := by decide +kernel
set_option maxRecDepth 20000 in
theorem ggX6_eliminate_X6_isSet : GoodIn wsX6_eliminate wsX6_isSet := goodIn_r _ [5] (by decide +kernel) (by decide +kernel)
set_option maxRecDepth 20000 in
theorem gX6_eliminate_X6_isSet : GoodIn wsX6_eliminate (va_wsS RX6 139 yX6_isSet wsX6_isSet) := goodIn_app (goodIn_of _ (by decide +kernel)) ggX6_eliminate_X6_isSet
set_option maxRecDepth 20000 in
theorem ggX6_eliminate_X6_isVariable : GoodIn wsX6_eliminate wsX6_isVariable := goodIn_r _ [9, 1, 62, 63, 64, 65, 66, 67] (by decide +kernel) (by decide +kernel)
set_option maxRecDepth 20000 in
theorem gX6_eliminate_X6_isVariable : GoodIn wsX6_eliminate (wsV RX6 72 RX6 yX6_isVariable wsX6_isVariable) := goodIn_app (goodIn_of _ (by decide +kernel)) ggX6_eliminate_X6_isVariable
set_option maxRecDepth 20000 in
theorem ggX6_eliminate_X6_isRegister : GoodIn wsX6_eliminate wsX6_isRegister := goodIn_r _ [12] (by decide +kernel) (by decide +kernel)
set_option maxRecDepth 20000 in
theorem gX6_eliminate_X6_isRegister : GoodIn wsX6_eliminate (va_wsS RX6 51 yX6_isRegister wsX6_isRegister) := goodIn_app (goodIn_of _ (by decide +kernel)) ggX6_eliminate_X6_isRegister
set_option maxRecDepth 20000 in
theorem ggX6_eliminate_X6_nonZeros : GoodIn wsX6_eliminate wsX6_nonZeros := goodIn_r _ [16, 17, 1, 18, 19, 4, 20, 21, 22, 23, 24, 25, 26, 27, 28, 29, 30, 31, 62, 63, 64, 65, 66, 67] (by decide +kernel) (by decide +kernel)
set_option maxRecDepth 20000 in
theorem gX6_eliminate_X6_nonZeros : GoodIn wsX6_eliminate (wsV RX6 170 RX6 yX6_nonZeros wsX6_nonZeros) := goodIn_app (goodIn_of _ (by decide +kernel)) ggX6_eliminate_X6_nonZeros
set_option maxRecDepth 20000 in
theorem ggX6_eliminate_X3_lowerHalf : GoodIn wsX6_eliminate wsX3_lowerHalf := goodIn_r _ [34, 28, 29, 23, 30, 31] (by decide +kernel) (by decide +kernel)
set_option maxRecDepth 20000 in
theorem gX6_eliminate_X3_lowerHalf : GoodIn wsX6_eliminate (va_wsS RX6 75 yX3_lowerHalf wsX3_lowerHalf) := goodIn_app (goodIn_of _ (by decide +kernel)) ggX6_eliminate_X3_lowerHalf
set_option maxRecDepth 20000 in
theorem ggX6_eliminate_X3_upperHalf : GoodIn wsX6_eliminate wsX3_upperHalf := goodIn_r _ [37, 28, 29, 23, 30, 31] (by decide +kernel) (by decide +kernel)
set_option maxRecDepth 20000 in
theorem gX6_eliminate_X3_upperHalf : GoodIn wsX6_eliminate (va_wsS RX6 79 yX3_upperHalf wsX3_upperHalf) := goodIn_app (goodIn_of _ (by decide +kernel)) ggX6_eliminate_X3_upperHalf
set_option maxRecDepth 20000 in
theorem ggX6_eliminate_X3_raised : GoodIn wsX6_eliminate wsX3_raised := goodIn_r _ [27, 28, 29, 23, 30, 31] (by decide +kernel) (by decide +kernel)
set_option maxRecDepth 20000 in
theorem gX6_eliminate_X3_raised : GoodIn wsX6_eliminate (va_wsS RX6 173 yX3_raised wsX3_raised) := goodIn_app (goodIn_of _ (by decide +kernel)) ggX6_eliminate_X3_raised
set_option maxRecDepth 20000 in
theorem ggX6_eliminate_X3_transformed : GoodIn wsX6_eliminate wsX3_transformed := goodIn_r _ [24, 25, 26, 23, 27, 28, 29, 30, 31] (by decide +kernel) (by decide +kernel)
set_option maxRecDepth 20000 in
theorem gX6_eliminate_X3_transformed : GoodIn wsX6_eliminate (va_wsS RX6 82 yX3_transformed wsX3_transformed) := goodIn_app (goodIn_of _ (by decide +kernel)) ggX6_eliminate_X3_transformed
set_option maxRecDepth 20000 in
theorem ggX6_eliminate_X6_put : GoodIn wsX6_eliminate wsX6_put := goodIn_r _ [42, 43, 17, 44, 45, 46, 47, 48, 49, 50, 51, 52, 53, 54, 10, 11, 4, 12, 55, 56, 57, 58, 59, 60, 61, 62, 63, 64, 65, 66, 67, 68, 69] (by decide +kernel) (by decide +kernel)
set_option maxRecDepth 20000 in
theorem gX6_eliminate_X6_put : GoodIn wsX6_eliminate (wsV RX6 64 RX6 yX6_put wsX6_put) := goodIn_app (goodIn_of _ (by decide +kernel)) ggX6_eliminate_X6_put
end
section
theorem dX6_eliminate_0 : decode cX6_eliminate 0 = .ok (.iload_n 1, 1) := by decide +kernel
theorem dX6_eliminate_1 : decode cX6_eliminate 1 = .ok (.invokestatic 139, 3) := by decide +kernel
theorem dX6_eliminate_4 : decode cX6_eliminate 4 = .ok (.ifCond .eq 18, 3) := by decide +kernel
theorem dX6_eliminate_7 : decode cX6_eliminate 7 = .ok (.aload_n 0, 1) := by decide +kernel
theorem dX6_eliminate_8 : decode cX6_eliminate 8 = .ok (.iload_n 2, 1) := by decide +kernel
theorem dX6_eliminate_9 : decode cX6_eliminate 9 = .ok (.invokevirtual 72, 3) := by decide +kernel
theorem dX6_eliminate_12 : decode cX6_eliminate 12 = .ok (.ifCond .eq 10, 3) := by decide +kernel
theorem dX6_eliminate_15 : decode cX6_eliminate 15 = .ok (.iload_n 3, 1) := by decide +kernel
theorem dX6_eliminate_16 : decode cX6_eliminate 16 = .ok (.invokestatic 51, 3) := by decide +kernel
theorem dX6_eliminate_19 : decode cX6_eliminate 19 = .ok (.ifCond .ne 5, 3) := by decide +kernel
theorem dX6_eliminate_22 : decode cX6_eliminate 22 = .ok (.iconst (-1), 1) := by decide +kernel
theorem dX6_eliminate_23 : decode cX6_eliminate 23 = .ok (.ireturn, 1) := by decide +kernel
theorem dX6_eliminate_24 : decode cX6_eliminate 24 = .ok (.aload_n 0, 1) := by decide +kernel
theorem dX6_eliminate_25 : decode cX6_eliminate 25 = .ok (.iload_n 1, 1) := by decide +kernel
theorem dX6_eliminate_26 : decode cX6_eliminate 26 = .ok (.invokevirtual 170, 3) := by decide +kernel
theorem dX6_eliminate_29 : decode cX6_eliminate 29 = .ok (.lstore 4, 2) := by decide +kernel
theorem dX6_eliminate_31 : decode cX6_eliminate 31 = .ok (.lload 4, 2) := by decide +kernel
theorem dX6_eliminate_33 : decode cX6_eliminate 33 = .ok (.iload_n 2, 1) := by decide +kernel
theorem dX6_eliminate_34 : decode cX6_eliminate 34 = .ok (.invokestatic 75, 3) := by decide +kernel
theorem dX6_eliminate_37 : decode cX6_eliminate 37 = .ok (.lload 4, 2) := by decide +kernel
theorem dX6_eliminate_39 : decode cX6_eliminate 39 = .ok (.iload_n 2, 1) := by decide +kernel
theorem dX6_eliminate_40 : decode cX6_eliminate 40 = .ok (.invokestatic 79, 3) := by decide +kernel
theorem dX6_eliminate_43 : decode cX6_eliminate 43 = .ok (.land, 1) := by decide +kernel
theorem dX6_eliminate_44 : decode cX6_eliminate 44 = .ok (.lstore 6, 2) := by decide +kernel
theorem dX6_eliminate_46 : decode cX6_eliminate 46 = .ok (.lload 6, 2) := by decide +kernel
theorem dX6_eliminate_48 : decode cX6_eliminate 48 = .ok (.lload 6, 2) := by decide +kernel
theorem dX6_eliminate_50 : decode cX6_eliminate 50 = .ok (.iload_n 2, 1) := by decide +kernel
theorem dX6_eliminate_51 : decode cX6_eliminate 51 = .ok (.invokestatic 173, 3) := by decide +kernel
theorem dX6_eliminate_54 : decode cX6_eliminate 54 = .ok (.lor, 1) := by decide +kernel
theorem dX6_eliminate_55 : decode cX6_eliminate 55 = .ok (.lstore 8, 2) := by decide +kernel
theorem dX6_eliminate_57 : decode cX6_eliminate 57 = .ok (.aload_n 0, 1) := by decide +kernel
theorem dX6_eliminate_58 : decode cX6_eliminate 58 = .ok (.iload_n 3, 1) := by decide +kernel
theorem dX6_eliminate_59 : decode cX6_eliminate 59 = .ok (.lload 8, 2) := by decide +kernel
theorem dX6_eliminate_61 : decode cX6_eliminate 61 = .ok (.aload_n 0, 1) := by decide +kernel
theorem dX6_eliminate_62 : decode cX6_eliminate 62 = .ok (.getfield 38, 3) := by decide +kernel
theorem dX6_eliminate_65 : decode cX6_eliminate 65 = .ok (.invokestatic 82, 3) := by decide +kernel
theorem dX6_eliminate_68 : decode cX6_eliminate 68 = .ok (.invokevirtual 64, 3) := by decide +kernel
theorem dX6_eliminate_71 : decode cX6_eliminate 71 = .ok (.ireturn, 1) := by decide +kernel
set_option maxRecDepth 20000 in
theorem ggX6_fibres_X6_isSet : GoodIn wsX6_fibres wsX6_isSet := goodIn_r _ [5] (by decide +kernel) (by decide +kernel)
set_option maxRecDepth 20000 in
theorem gX6_fibres_X6_isSet : GoodIn wsX6_fibres (va_wsS RX6 139 yX6_isSet wsX6_isSet) := goodIn_app (goodIn_of _ (by decide +kernel)) ggX6_fibres_X6_isSet
set_option maxRecDepth 20000 in
theorem ggX6_fibres_X6_isVariable : GoodIn wsX6_fibres wsX6_isVariable := goodIn_r _ [9, 10, 51, 52, 53, 54, 55, 56] (by decide +kernel) (by decide +kernel)
set_option maxRecDepth 20000 in
theorem gX6_fibres_X6_isVariable : GoodIn wsX6_fibres (wsV RX6 72 RX6 yX6_isVariable wsX6_isVariable) := goodIn_app (goodIn_of _ (by decide +kernel)) ggX6_fibres_X6_isVariable
set_option maxRecDepth 20000 in
theorem ggX6_fibres_X6_commonZeros : GoodIn wsX6_fibres wsX6_commonZeros := goodIn_r _ [14, 1, 15, 16, 17, 4, 18, 10, 19, 20, 21, 22, 23, 24, 25, 26, 27, 28, 29, 30, 31, 32, 33, 34, 35, 36, 37, 51, 52, 53, 54, 55, 56] (by decide +kernel) (by decide +kernel)
set_option maxRecDepth 20000 in
theorem gX6_fibres_X6_commonZeros : GoodIn wsX6_fibres (wsV RX6 167 RX6 yX6_commonZeros wsX6_commonZeros) := goodIn_app (goodIn_of _ (by decide +kernel)) ggX6_fibres_X6_commonZeros
set_option maxRecDepth 20000 in
theorem ggX6_fibres_X3_lowerHalf : GoodIn wsX6_fibres wsX3_lowerHalf := goodIn_r _ [40, 34, 35, 29, 36, 37] (by decide +kernel) (by decide +kernel)
set_option maxRecDepth 20000 in
theorem gX6_fibres_X3_lowerHalf : GoodIn wsX6_fibres (va_wsS RX6 75 yX3_lowerHalf wsX3_lowerHalf) := goodIn_app (goodIn_of _ (by decide +kernel)) ggX6_fibres_X3_lowerHalf
set_option maxRecDepth 20000 in
theorem ggX6_fibres_X3_upperHalf : GoodIn wsX6_fibres wsX3_upperHalf := goodIn_r _ [43, 34, 35, 29, 36, 37] (by decide +kernel) (by decide +kernel)
set_option maxRecDepth 20000 in
theorem gX6_fibres_X3_upperHalf : GoodIn wsX6_fibres (va_wsS RX6 79 yX3_upperHalf wsX3_upperHalf) := goodIn_app (goodIn_of _ (by decide +kernel)) ggX6_fibres_X3_upperHalf
set_option maxRecDepth 20000 in
theorem ggX6_fibres_J13_bitCount_95d88 : GoodIn wsX6_fibres wsJ13_bitCount_95d88 := goodIn_r _ [47, 48, 49, 50] (by decide +kernel) (by decide +kernel)
set_option maxRecDepth 20000 in
theorem gX6_fibres_J13_bitCount_95d88 : GoodIn wsX6_fibres (va_wsS RX6 110 yJ13_bitCount_95d88 wsJ13_bitCount_95d88) := goodIn_app (goodIn_of _ (by decide +kernel)) ggX6_fibres_J13_bitCount_95d88
set_option maxRecDepth 20000 in
theorem ggX6_fibres_X6_allPoints : GoodIn wsX6_fibres wsX6_allPoints := goodIn_r _ [18, 10, 1, 51, 52, 53, 54, 55, 56] (by decide +kernel) (by decide +kernel)
set_option maxRecDepth 20000 in
theorem gX6_fibres_X6_allPoints : GoodIn wsX6_fibres (wsV RX6 176 RX6 yX6_allPoints wsX6_allPoints) := goodIn_app (goodIn_of _ (by decide +kernel)) ggX6_fibres_X6_allPoints
theorem dX6_fibres_0 : decode cX6_fibres 0 = .ok (.iload_n 1, 1) := by decide +kernel
theorem dX6_fibres_1 : decode cX6_fibres 1 = .ok (.invokestatic 139, 3) := by decide +kernel
theorem dX6_fibres_4 : decode cX6_fibres 4 = .ok (.ifCond .eq 20, 3) := by decide +kernel
theorem dX6_fibres_7 : decode cX6_fibres 7 = .ok (.aload_n 0, 1) := by decide +kernel
theorem dX6_fibres_8 : decode cX6_fibres 8 = .ok (.iload_n 2, 1) := by decide +kernel
theorem dX6_fibres_9 : decode cX6_fibres 9 = .ok (.invokevirtual 72, 3) := by decide +kernel
theorem dX6_fibres_12 : decode cX6_fibres 12 = .ok (.ifCond .eq 12, 3) := by decide +kernel
theorem dX6_fibres_15 : decode cX6_fibres 15 = .ok (.iload_n 3, 1) := by decide +kernel
theorem dX6_fibres_16 : decode cX6_fibres 16 = .ok (.ifCond .lt 8, 3) := by decide +kernel
theorem dX6_fibres_19 : decode cX6_fibres 19 = .ok (.iload_n 3, 1) := by decide +kernel
theorem dX6_fibres_20 : decode cX6_fibres 20 = .ok (.iconst 2, 1) := by decide +kernel
theorem dX6_fibres_21 : decode cX6_fibres 21 = .ok (.if_icmp .le 5, 3) := by decide +kernel
theorem dX6_fibres_24 : decode cX6_fibres 24 = .ok (.iconst (-1), 1) := by decide +kernel
theorem dX6_fibres_25 : decode cX6_fibres 25 = .ok (.ireturn, 1) := by decide +kernel
theorem dX6_fibres_26 : decode cX6_fibres 26 = .ok (.aload_n 0, 1) := by decide +kernel
theorem dX6_fibres_27 : decode cX6_fibres 27 = .ok (.iload_n 1, 1) := by decide +kernel
theorem dX6_fibres_28 : decode cX6_fibres 28 = .ok (.invokevirtual 167, 3) := by decide +kernel
theorem dX6_fibres_31 : decode cX6_fibres 31 = .ok (.lstore 4, 2) := by decide +kernel
theorem dX6_fibres_33 : decode cX6_fibres 33 = .ok (.lload 4, 2) := by decide +kernel
theorem dX6_fibres_35 : decode cX6_fibres 35 = .ok (.iload_n 2, 1) := by decide +kernel
theorem dX6_fibres_36 : decode cX6_fibres 36 = .ok (.invokestatic 75, 3) := by decide +kernel
theorem dX6_fibres_39 : decode cX6_fibres 39 = .ok (.lstore 6, 2) := by decide +kernel
theorem dX6_fibres_41 : decode cX6_fibres 41 = .ok (.lload 4, 2) := by decide +kernel
theorem dX6_fibres_43 : decode cX6_fibres 43 = .ok (.iload_n 2, 1) := by decide +kernel
theorem dX6_fibres_44 : decode cX6_fibres 44 = .ok (.invokestatic 79, 3) := by decide +kernel
theorem dX6_fibres_47 : decode cX6_fibres 47 = .ok (.lstore 8, 2) := by decide +kernel
theorem dX6_fibres_49 : decode cX6_fibres 49 = .ok (.iload_n 3, 1) := by decide +kernel
theorem dX6_fibres_50 : decode cX6_fibres 50 = .ok (.iconst 2, 1) := by decide +kernel
theorem dX6_fibres_51 : decode cX6_fibres 51 = .ok (.if_icmp .ne 12, 3) := by decide +kernel
theorem dX6_fibres_54 : decode cX6_fibres 54 = .ok (.lload 6, 2) := by decide +kernel
theorem dX6_fibres_56 : decode cX6_fibres 56 = .ok (.lload 8, 2) := by decide +kernel
theorem dX6_fibres_58 : decode cX6_fibres 58 = .ok (.land, 1) := by decide +kernel
theorem dX6_fibres_59 : decode cX6_fibres 59 = .ok (.invokestatic 110, 3) := by decide +kernel
theorem dX6_fibres_62 : decode cX6_fibres 62 = .ok (.ireturn, 1) := by decide +kernel
theorem dX6_fibres_63 : decode cX6_fibres 63 = .ok (.iload_n 3, 1) := by decide +kernel
theorem dX6_fibres_64 : decode cX6_fibres 64 = .ok (.iconst 1, 1) := by decide +kernel
theorem dX6_fibres_65 : decode cX6_fibres 65 = .ok (.if_icmp .ne 12, 3) := by decide +kernel
theorem dX6_fibres_68 : decode cX6_fibres 68 = .ok (.lload 6, 2) := by decide +kernel
theorem dX6_fibres_70 : decode cX6_fibres 70 = .ok (.lload 8, 2) := by decide +kernel
theorem dX6_fibres_72 : decode cX6_fibres 72 = .ok (.lxor, 1) := by decide +kernel
theorem dX6_fibres_73 : decode cX6_fibres 73 = .ok (.invokestatic 110, 3) := by decide +kernel
theorem dX6_fibres_76 : decode cX6_fibres 76 = .ok (.ireturn, 1) := by decide +kernel
theorem dX6_fibres_77 : decode cX6_fibres 77 = .ok (.aload_n 0, 1) := by decide +kernel
theorem dX6_fibres_78 : decode cX6_fibres 78 = .ok (.invokevirtual 176, 3) := by decide +kernel
theorem dX6_fibres_81 : decode cX6_fibres 81 = .ok (.iload_n 2, 1) := by decide +kernel
theorem dX6_fibres_82 : decode cX6_fibres 82 = .ok (.invokestatic 75, 3) := by decide +kernel
theorem dX6_fibres_85 : decode cX6_fibres 85 = .ok (.lload 6, 2) := by decide +kernel
theorem dX6_fibres_87 : decode cX6_fibres 87 = .ok (.lload 8, 2) := by decide +kernel
theorem dX6_fibres_89 : decode cX6_fibres 89 = .ok (.lor, 1) := by decide +kernel
theorem dX6_fibres_90 : decode cX6_fibres 90 = .ok (.ldc2_w 180, 3) := by decide +kernel
theorem dX6_fibres_93 : decode cX6_fibres 93 = .ok (.lxor, 1) := by decide +kernel
theorem dX6_fibres_94 : decode cX6_fibres 94 = .ok (.land, 1) := by decide +kernel
theorem dX6_fibres_95 : decode cX6_fibres 95 = .ok (.invokestatic 110, 3) := by decide +kernel
theorem dX6_fibres_98 : decode cX6_fibres 98 = .ok (.ireturn, 1) := by decide +kernel
set_option maxRecDepth 20000 in
theorem ggX6_isMember_X6_isRegister : GoodIn wsX6_isMember wsX6_isRegister := goodIn_r _ [6] (by decide +kernel) (by decide +kernel)
set_option maxRecDepth 20000 in
theorem gX6_isMember_X6_isRegister : GoodIn wsX6_isMember (va_wsS RX6 51 yX6_isRegister wsX6_isRegister) := goodIn_app (goodIn_of _ (by decide +kernel)) ggX6_isMember_X6_isRegister
set_option maxRecDepth 20000 in
theorem ggX6_isMember_X6_isSet : GoodIn wsX6_isMember wsX6_isSet := goodIn_r _ [9] (by decide +kernel) (by decide +kernel)
set_option maxRecDepth 20000 in
theorem gX6_isMember_X6_isSet : GoodIn wsX6_isMember (va_wsS RX6 139 yX6_isSet wsX6_isSet) := goodIn_app (goodIn_of _ (by decide +kernel)) ggX6_isMember_X6_isSet
set_option maxRecDepth 20000 in
theorem ggX6_isMember_X3_transformed : GoodIn wsX6_isMember wsX3_transformed := goodIn_r _ [13, 14, 15, 12, 16, 17, 18, 19, 20] (by decide +kernel) (by decide +kernel)
set_option maxRecDepth 20000 in
theorem gX6_isMember_X3_transformed : GoodIn wsX6_isMember (va_wsS RX6 82 yX3_transformed wsX3_transformed) := goodIn_app (goodIn_of _ (by decide +kernel)) ggX6_isMember_X3_transformed
set_option maxRecDepth 20000 in
theorem ggX6_isMember_X6_commonZeros : GoodIn wsX6_isMember wsX6_commonZeros := goodIn_r _ [24, 25, 26, 27, 28, 5, 29, 2, 30, 31, 32, 33, 1, 34, 35, 36, 10, 11, 12, 13, 14, 15, 16, 17, 18, 19, 20, 37, 38, 39, 40, 41, 42] (by decide +kernel) (by decide +kernel)
set_option maxRecDepth 20000 in
theorem gX6_isMember_X6_commonZeros : GoodIn wsX6_isMember (wsV RX6 167 RX6 yX6_commonZeros wsX6_commonZeros) := goodIn_app (goodIn_of _ (by decide +kernel)) ggX6_isMember_X6_commonZeros
theorem dX6_isMember_0 : decode cX6_isMember 0 = .ok (.iload_n 1, 1) := by decide +kernel
theorem dX6_isMember_1 : decode cX6_isMember 1 = .ok (.invokestatic 51, 3) := by decide +kernel
theorem dX6_isMember_4 : decode cX6_isMember 4 = .ok (.ifCond .eq 10, 3) := by decide +kernel
theorem dX6_isMember_7 : decode cX6_isMember 7 = .ok (.iload_n 2, 1) := by decide +kernel
theorem dX6_isMember_8 : decode cX6_isMember 8 = .ok (.invokestatic 139, 3) := by decide +kernel
theorem dX6_isMember_11 : decode cX6_isMember 11 = .ok (.ifCond .ne 5, 3) := by decide +kernel
theorem dX6_isMember_14 : decode cX6_isMember 14 = .ok (.iconst (-1), 1) := by decide +kernel
theorem dX6_isMember_15 : decode cX6_isMember 15 = .ok (.ireturn, 1) := by decide +kernel
theorem dX6_isMember_16 : decode cX6_isMember 16 = .ok (.aload_n 0, 1) := by decide +kernel
theorem dX6_isMember_17 : decode cX6_isMember 17 = .ok (.getfield 9, 3) := by decide +kernel
theorem dX6_isMember_20 : decode cX6_isMember 20 = .ok (.iload_n 1, 1) := by decide +kernel
theorem dX6_isMember_21 : decode cX6_isMember 21 = .ok (.laload, 1) := by decide +kernel
theorem dX6_isMember_22 : decode cX6_isMember 22 = .ok (.aload_n 0, 1) := by decide +kernel
theorem dX6_isMember_23 : decode cX6_isMember 23 = .ok (.getfield 38, 3) := by decide +kernel
theorem dX6_isMember_26 : decode cX6_isMember 26 = .ok (.invokestatic 82, 3) := by decide +kernel
theorem dX6_isMember_29 : decode cX6_isMember 29 = .ok (.lstore_n 3, 1) := by decide +kernel
theorem dX6_isMember_30 : decode cX6_isMember 30 = .ok (.lload_n 3, 1) := by decide +kernel
theorem dX6_isMember_31 : decode cX6_isMember 31 = .ok (.aload_n 0, 1) := by decide +kernel
theorem dX6_isMember_32 : decode cX6_isMember 32 = .ok (.iload_n 2, 1) := by decide +kernel
theorem dX6_isMember_33 : decode cX6_isMember 33 = .ok (.invokevirtual 167, 3) := by decide +kernel
theorem dX6_isMember_36 : decode cX6_isMember 36 = .ok (.land, 1) := by decide +kernel
theorem dX6_isMember_37 : decode cX6_isMember 37 = .ok (.lconst 0, 1) := by decide +kernel
theorem dX6_isMember_38 : decode cX6_isMember 38 = .ok (.lcmp, 1) := by decide +kernel
theorem dX6_isMember_39 : decode cX6_isMember 39 = .ok (.ifCond .ne 7, 3) := by decide +kernel
theorem dX6_isMember_42 : decode cX6_isMember 42 = .ok (.iconst 1, 1) := by decide +kernel
theorem dX6_isMember_43 : decode cX6_isMember 43 = .ok (.goto 4, 3) := by decide +kernel
theorem dX6_isMember_46 : decode cX6_isMember 46 = .ok (.iconst 0, 1) := by decide +kernel
theorem dX6_isMember_47 : decode cX6_isMember 47 = .ok (.ireturn, 1) := by decide +kernel
set_option maxRecDepth 20000 in
theorem ggX6_isSameIdeal_X6_isSet : GoodIn wsX6_isSameIdeal wsX6_isSet := goodIn_r _ [4] (by decide +kernel) (by decide +kernel)
set_option maxRecDepth 20000 in
theorem gX6_isSameIdeal_X6_isSet : GoodIn wsX6_isSameIdeal (va_wsS RX6 139 yX6_isSet wsX6_isSet) := goodIn_app (goodIn_of _ (by decide +kernel)) ggX6_isSameIdeal_X6_isSet
set_option maxRecDepth 20000 in
theorem ggX6_isSameIdeal_X6_nonZeros : GoodIn wsX6_isSameIdeal wsX6_nonZeros := goodIn_r _ [8, 9, 10, 11, 12, 3, 13, 14, 15, 16, 17, 18, 19, 20, 21, 22, 23, 24, 25, 26, 27, 28, 29, 30] (by decide +kernel) (by decide +kernel)
set_option maxRecDepth 20000 in
theorem gX6_isSameIdeal_X6_nonZeros : GoodIn wsX6_isSameIdeal (wsV RX6 170 RX6 yX6_nonZeros wsX6_nonZeros) := goodIn_app (goodIn_of _ (by decide +kernel)) ggX6_isSameIdeal_X6_nonZeros
theorem dX6_isSameIdeal_0 : decode cX6_isSameIdeal 0 = .ok (.iload_n 1, 1) := by decide +kernel
theorem dX6_isSameIdeal_1 : decode cX6_isSameIdeal 1 = .ok (.invokestatic 139, 3) := by decide +kernel
theorem dX6_isSameIdeal_4 : decode cX6_isSameIdeal 4 = .ok (.ifCond .eq 10, 3) := by decide +kernel
theorem dX6_isSameIdeal_7 : decode cX6_isSameIdeal 7 = .ok (.iload_n 2, 1) := by decide +kernel
theorem dX6_isSameIdeal_8 : decode cX6_isSameIdeal 8 = .ok (.invokestatic 139, 3) := by decide +kernel
theorem dX6_isSameIdeal_11 : decode cX6_isSameIdeal 11 = .ok (.ifCond .ne 5, 3) := by decide +kernel
theorem dX6_isSameIdeal_14 : decode cX6_isSameIdeal 14 = .ok (.iconst (-1), 1) := by decide +kernel
theorem dX6_isSameIdeal_15 : decode cX6_isSameIdeal 15 = .ok (.ireturn, 1) := by decide +kernel
theorem dX6_isSameIdeal_16 : decode cX6_isSameIdeal 16 = .ok (.aload_n 0, 1) := by decide +kernel
theorem dX6_isSameIdeal_17 : decode cX6_isSameIdeal 17 = .ok (.iload_n 1, 1) := by decide +kernel
theorem dX6_isSameIdeal_18 : decode cX6_isSameIdeal 18 = .ok (.invokevirtual 170, 3) := by decide +kernel
theorem dX6_isSameIdeal_21 : decode cX6_isSameIdeal 21 = .ok (.aload_n 0, 1) := by decide +kernel
theorem dX6_isSameIdeal_22 : decode cX6_isSameIdeal 22 = .ok (.iload_n 2, 1) := by decide +kernel
theorem dX6_isSameIdeal_23 : decode cX6_isSameIdeal 23 = .ok (.invokevirtual 170, 3) := by decide +kernel
theorem dX6_isSameIdeal_26 : decode cX6_isSameIdeal 26 = .ok (.lcmp, 1) := by decide +kernel
theorem dX6_isSameIdeal_27 : decode cX6_isSameIdeal 27 = .ok (.ifCond .ne 7, 3) := by decide +kernel
theorem dX6_isSameIdeal_30 : decode cX6_isSameIdeal 30 = .ok (.iconst 1, 1) := by decide +kernel
theorem dX6_isSameIdeal_31 : decode cX6_isSameIdeal 31 = .ok (.goto 4, 3) := by decide +kernel
theorem dX6_isSameIdeal_34 : decode cX6_isSameIdeal 34 = .ok (.iconst 0, 1) := by decide +kernel
theorem dX6_isSameIdeal_35 : decode cX6_isSameIdeal 35 = .ok (.ireturn, 1) := by decide +kernel
set_option maxRecDepth 20000 in
theorem ggX6_fixedVariables_X6_isSet : GoodIn wsX6_fixedVariables wsX6_isSet := goodIn_r _ [5] (by decide +kernel) (by decide +kernel)
set_option maxRecDepth 20000 in
theorem gX6_fixedVariables_X6_isSet : GoodIn wsX6_fixedVariables (va_wsS RX6 139 yX6_isSet wsX6_isSet) := goodIn_app (goodIn_of _ (by decide +kernel)) ggX6_fixedVariables_X6_isSet
set_option maxRecDepth 20000 in
theorem ggX6_fixedVariables_X6_commonZeros : GoodIn wsX6_fixedVariables wsX6_commonZeros := goodIn_r _ [9, 10, 11, 12, 13, 4, 14, 1, 15, 16, 17, 18, 19, 20, 21, 22, 23, 24, 25, 26, 27, 28, 29, 30, 31, 32, 33, 40, 41, 42, 43, 44, 45] (by decide +kernel) (by decide +kernel)
set_option maxRecDepth 20000 in
theorem gX6_fixedVariables_X6_commonZeros : GoodIn wsX6_fixedVariables (wsV RX6 167 RX6 yX6_commonZeros wsX6_commonZeros) := goodIn_app (goodIn_of _ (by decide +kernel)) ggX6_fixedVariables_X6_commonZeros
set_option maxRecDepth 20000 in
theorem ggX6_fixedVariables_X3_lowerHalf : GoodIn wsX6_fixedVariables wsX3_lowerHalf := goodIn_r _ [36, 30, 31, 25, 32, 33] (by decide +kernel) (by decide +kernel)
set_option maxRecDepth 20000 in
theorem gX6_fixedVariables_X3_lowerHalf : GoodIn wsX6_fixedVariables (va_wsS RX6 75 yX3_lowerHalf wsX3_lowerHalf) := goodIn_app (goodIn_of _ (by decide +kernel)) ggX6_fixedVariables_X3_lowerHalf
set_option maxRecDepth 20000 in
theorem ggX6_fixedVariables_X3_upperHalf : GoodIn wsX6_fixedVariables wsX3_upperHalf := goodIn_r _ [39, 30, 31, 25, 32, 33] (by decide +kernel) (by decide +kernel)
set_option maxRecDepth 20000 in
theorem gX6_fixedVariables_X3_upperHalf : GoodIn wsX6_fixedVariables (va_wsS RX6 79 yX3_upperHalf wsX3_upperHalf) := goodIn_app (goodIn_of _ (by decide +kernel)) ggX6_fixedVariables_X3_upperHalf
theorem dX6_fixedVariables_0 : decode cX6_fixedVariables 0 = .ok (.iload_n 1, 1) := by decide +kernel
theorem dX6_fixedVariables_1 : decode cX6_fixedVariables 1 = .ok (.invokestatic 139, 3) := by decide +kernel
theorem dX6_fixedVariables_4 : decode cX6_fixedVariables 4 = .ok (.ifCond .ne 5, 3) := by decide +kernel
theorem dX6_fixedVariables_7 : decode cX6_fixedVariables 7 = .ok (.iconst (-1), 1) := by decide +kernel
theorem dX6_fixedVariables_8 : decode cX6_fixedVariables 8 = .ok (.ireturn, 1) := by decide +kernel
theorem dX6_fixedVariables_9 : decode cX6_fixedVariables 9 = .ok (.aload_n 0, 1) := by decide +kernel
theorem dX6_fixedVariables_10 : decode cX6_fixedVariables 10 = .ok (.iload_n 1, 1) := by decide +kernel
theorem dX6_fixedVariables_11 : decode cX6_fixedVariables 11 = .ok (.invokevirtual 167, 3) := by decide +kernel
theorem dX6_fixedVariables_14 : decode cX6_fixedVariables 14 = .ok (.lstore_n 2, 1) := by decide +kernel
theorem dX6_fixedVariables_15 : decode cX6_fixedVariables 15 = .ok (.lload_n 2, 1) := by decide +kernel
theorem dX6_fixedVariables_16 : decode cX6_fixedVariables 16 = .ok (.lconst 0, 1) := by decide +kernel
theorem dX6_fixedVariables_17 : decode cX6_fixedVariables 17 = .ok (.lcmp, 1) := by decide +kernel
theorem dX6_fixedVariables_18 : decode cX6_fixedVariables 18 = .ok (.ifCond .ne 6, 3) := by decide +kernel
theorem dX6_fixedVariables_21 : decode cX6_fixedVariables 21 = .ok (.bipush (-4), 2) := by decide +kernel
theorem dX6_fixedVariables_23 : decode cX6_fixedVariables 23 = .ok (.ireturn, 1) := by decide +kernel
theorem dX6_fixedVariables_24 : decode cX6_fixedVariables 24 = .ok (.iconst 0, 1) := by decide +kernel
theorem dX6_fixedVariables_25 : decode cX6_fixedVariables 25 = .ok (.istore 4, 2) := by decide +kernel
theorem dX6_fixedVariables_27 : decode cX6_fixedVariables 27 = .ok (.iconst 0, 1) := by decide +kernel
theorem dX6_fixedVariables_28 : decode cX6_fixedVariables 28 = .ok (.istore 5, 2) := by decide +kernel
theorem dX6_fixedVariables_30 : decode cX6_fixedVariables 30 = .ok (.iload 5, 2) := by decide +kernel
theorem dX6_fixedVariables_32 : decode cX6_fixedVariables 32 = .ok (.aload_n 0, 1) := by decide +kernel
theorem dX6_fixedVariables_33 : decode cX6_fixedVariables 33 = .ok (.getfield 38, 3) := by decide +kernel
theorem dX6_fixedVariables_36 : decode cX6_fixedVariables 36 = .ok (.if_icmp .ge 34, 3) := by decide +kernel
theorem dX6_fixedVariables_39 : decode cX6_fixedVariables 39 = .ok (.lload_n 2, 1) := by decide +kernel
theorem dX6_fixedVariables_40 : decode cX6_fixedVariables 40 = .ok (.iload 5, 2) := by decide +kernel
theorem dX6_fixedVariables_42 : decode cX6_fixedVariables 42 = .ok (.invokestatic 75, 3) := by decide +kernel
theorem dX6_fixedVariables_45 : decode cX6_fixedVariables 45 = .ok (.lconst 0, 1) := by decide +kernel
theorem dX6_fixedVariables_46 : decode cX6_fixedVariables 46 = .ok (.lcmp, 1) := by decide +kernel
theorem dX6_fixedVariables_47 : decode cX6_fixedVariables 47 = .ok (.ifCond .eq 14, 3) := by decide +kernel
theorem dX6_fixedVariables_50 : decode cX6_fixedVariables 50 = .ok (.lload_n 2, 1) := by decide +kernel
theorem dX6_fixedVariables_51 : decode cX6_fixedVariables 51 = .ok (.iload 5, 2) := by decide +kernel
theorem dX6_fixedVariables_53 : decode cX6_fixedVariables 53 = .ok (.invokestatic 79, 3) := by decide +kernel
theorem dX6_fixedVariables_56 : decode cX6_fixedVariables 56 = .ok (.lconst 0, 1) := by decide +kernel
theorem dX6_fixedVariables_57 : decode cX6_fixedVariables 57 = .ok (.lcmp, 1) := by decide +kernel
theorem dX6_fixedVariables_58 : decode cX6_fixedVariables 58 = .ok (.ifCond .ne 6, 3) := by decide +kernel
theorem dX6_fixedVariables_61 : decode cX6_fixedVariables 61 = .ok (.iinc 4 1, 3) := by decide +kernel
theorem dX6_fixedVariables_64 : decode cX6_fixedVariables 64 = .ok (.iinc 5 1, 3) := by decide +kernel
theorem dX6_fixedVariables_67 : decode cX6_fixedVariables 67 = .ok (.goto (-37), 3) := by decide +kernel
theorem dX6_fixedVariables_70 : decode cX6_fixedVariables 70 = .ok (.iload 4, 2) := by decide +kernel
theorem dX6_fixedVariables_72 : decode cX6_fixedVariables 72 = .ok (.ireturn, 1) := by decide +kernel
set_option maxRecDepth 20000 in
theorem ggX6_type_X5_append : GoodIn wsX6_type wsX5_append := goodIn_r _ [6, 7, 8, 15, 16] (by decide +kernel) (by decide +kernel)
set_option maxRecDepth 20000 in
theorem gX6_type_X5_append : GoodIn wsX6_type (wsV RX6 182 RX5 yX5_append wsX5_append) := goodIn_app (goodIn_of _ (by decide +kernel)) ggX6_type_X5_append
theorem dX6_type_0 : decode cX6_type 0 = .ok (.iload_n 1, 1) := by decide +kernel
theorem dX6_type_1 : decode cX6_type 1 = .ok (.bipush 32, 2) := by decide +kernel
theorem dX6_type_3 : decode cX6_type 3 = .ok (.if_icmp .lt 9, 3) := by decide +kernel
theorem dX6_type_6 : decode cX6_type 6 = .ok (.iload_n 1, 1) := by decide +kernel
theorem dX6_type_7 : decode cX6_type 7 = .ok (.bipush 126, 2) := by decide +kernel
theorem dX6_type_9 : decode cX6_type 9 = .ok (.if_icmp .le 5, 3) := by decide +kernel
theorem dX6_type_12 : decode cX6_type 12 = .ok (.iconst (-1), 1) := by decide +kernel
theorem dX6_type_13 : decode cX6_type 13 = .ok (.ireturn, 1) := by decide +kernel
theorem dX6_type_14 : decode cX6_type 14 = .ok (.aload_n 0, 1) := by decide +kernel
theorem dX6_type_15 : decode cX6_type 15 = .ok (.getfield 34, 3) := by decide +kernel
theorem dX6_type_18 : decode cX6_type 18 = .ok (.iload_n 1, 1) := by decide +kernel
theorem dX6_type_19 : decode cX6_type 19 = .ok (.i2c, 1) := by decide +kernel
theorem dX6_type_20 : decode cX6_type 20 = .ok (.invokevirtual 182, 3) := by decide +kernel
theorem dX6_type_23 : decode cX6_type 23 = .ok (.ireturn, 1) := by decide +kernel
set_option maxRecDepth 20000 in
theorem ggX6_clearText_X5_empty : GoodIn wsX6_clearText wsX5_empty := goodIn_r _ [6, 7, 14, 15] (by decide +kernel) (by decide +kernel)
set_option maxRecDepth 20000 in
theorem gX6_clearText_X5_empty : GoodIn wsX6_clearText (wsV RX6 186 RX5 yX5_empty wsX5_empty) := goodIn_app (goodIn_of _ (by decide +kernel)) ggX6_clearText_X5_empty
theorem dX6_clearText_0 : decode cX6_clearText 0 = .ok (.aload_n 0, 1) := by decide +kernel
theorem dX6_clearText_1 : decode cX6_clearText 1 = .ok (.getfield 34, 3) := by decide +kernel
theorem dX6_clearText_4 : decode cX6_clearText 4 = .ok (.invokevirtual 186, 3) := by decide +kernel
theorem dX6_clearText_7 : decode cX6_clearText 7 = .ok (.ireturn, 1) := by decide +kernel
set_option maxRecDepth 20000 in
theorem ggX6_fault_X5_firstFault : GoodIn wsX6_fault wsX5_firstFault := goodIn_r _ [7, 8, 9, 10, 11, 6, 12, 19, 20] (by decide +kernel) (by decide +kernel)
set_option maxRecDepth 20000 in
theorem gX6_fault_X5_firstFault : GoodIn wsX6_fault (wsV RX6 189 RX5 yX5_firstFault wsX5_firstFault) := goodIn_app (goodIn_of _ (by decide +kernel)) ggX6_fault_X5_firstFault
theorem dX6_fault_0 : decode cX6_fault 0 = .ok (.aload_n 0, 1) := by decide +kernel
theorem dX6_fault_1 : decode cX6_fault 1 = .ok (.getfield 34, 3) := by decide +kernel
theorem dX6_fault_4 : decode cX6_fault 4 = .ok (.aload_n 0, 1) := by decide +kernel
theorem dX6_fault_5 : decode cX6_fault 5 = .ok (.getfield 38, 3) := by decide +kernel
theorem dX6_fault_8 : decode cX6_fault 8 = .ok (.invokevirtual 189, 3) := by decide +kernel
theorem dX6_fault_11 : decode cX6_fault 11 = .ok (.ireturn, 1) := by decide +kernel
set_option maxRecDepth 20000 in
theorem ggX6_read_X6_isRegister : GoodIn wsX6_read wsX6_isRegister := goodIn_r _ [6] (by decide +kernel) (by decide +kernel)
set_option maxRecDepth 20000 in
theorem gX6_read_X6_isRegister : GoodIn wsX6_read (va_wsS RX6 51 yX6_isRegister wsX6_isRegister) := goodIn_app (goodIn_of _ (by decide +kernel)) ggX6_read_X6_isRegister
set_option maxRecDepth 20000 in
theorem ggX6_read_X5_firstFault : GoodIn wsX6_read wsX5_firstFault := goodIn_r _ [11, 12, 13, 14, 15, 10, 16, 55, 56] (by decide +kernel) (by decide +kernel)
set_option maxRecDepth 20000 in
theorem gX6_read_X5_firstFault : GoodIn wsX6_read (wsV RX6 189 RX5 yX5_firstFault wsX5_firstFault) := goodIn_app (goodIn_of _ (by decide +kernel)) ggX6_read_X5_firstFault
set_option maxRecDepth 20000 in
theorem ggX6_read_X5_polynomial : GoodIn wsX6_read wsX5_polynomial := goodIn_r _ [20, 12, 13, 21, 22, 23, 24, 55, 56] (by decide +kernel) (by decide +kernel)
set_option maxRecDepth 20000 in
theorem gX6_read_X5_polynomial : GoodIn wsX6_read (wsV RX6 192 RX5 yX5_polynomial wsX5_polynomial) := goodIn_app (goodIn_of _ (by decide +kernel)) ggX6_read_X5_polynomial
set_option maxRecDepth 20000 in
theorem ggX6_read_X6_put : GoodIn wsX6_read wsX6_put := goodIn_r _ [28, 29, 30, 31, 32, 33, 34, 35, 36, 37, 38, 39, 40, 41, 3, 4, 5, 6, 42, 43, 44, 45, 46, 47, 48, 49, 50, 51, 52, 53, 54, 57, 58] (by decide +kernel) (by decide +kernel)
set_option maxRecDepth 20000 in
theorem gX6_read_X6_put : GoodIn wsX6_read (wsV RX6 64 RX6 yX6_put wsX6_put) := goodIn_app (goodIn_of _ (by decide +kernel)) ggX6_read_X6_put
theorem dX6_read_0 : decode cX6_read 0 = .ok (.iload_n 1, 1) := by decide +kernel
theorem dX6_read_1 : decode cX6_read 1 = .ok (.invokestatic 51, 3) := by decide +kernel
theorem dX6_read_4 : decode cX6_read 4 = .ok (.ifCond .ne 5, 3) := by decide +kernel
theorem dX6_read_7 : decode cX6_read 7 = .ok (.iconst (-1), 1) := by decide +kernel
theorem dX6_read_8 : decode cX6_read 8 = .ok (.ireturn, 1) := by decide +kernel
theorem dX6_read_9 : decode cX6_read 9 = .ok (.aload_n 0, 1) := by decide +kernel
theorem dX6_read_10 : decode cX6_read 10 = .ok (.getfield 34, 3) := by decide +kernel
theorem dX6_read_13 : decode cX6_read 13 = .ok (.aload_n 0, 1) := by decide +kernel
theorem dX6_read_14 : decode cX6_read 14 = .ok (.getfield 38, 3) := by decide +kernel
theorem dX6_read_17 : decode cX6_read 17 = .ok (.invokevirtual 189, 3) := by decide +kernel
theorem dX6_read_20 : decode cX6_read 20 = .ok (.bipush (-4), 2) := by decide +kernel
theorem dX6_read_22 : decode cX6_read 22 = .ok (.if_icmp .eq 6, 3) := by decide +kernel
theorem dX6_read_25 : decode cX6_read 25 = .ok (.bipush (-2), 2) := by decide +kernel
theorem dX6_read_27 : decode cX6_read 27 = .ok (.ireturn, 1) := by decide +kernel
theorem dX6_read_28 : decode cX6_read 28 = .ok (.aload_n 0, 1) := by decide +kernel
theorem dX6_read_29 : decode cX6_read 29 = .ok (.iload_n 1, 1) := by decide +kernel
theorem dX6_read_30 : decode cX6_read 30 = .ok (.aload_n 0, 1) := by decide +kernel
theorem dX6_read_31 : decode cX6_read 31 = .ok (.getfield 34, 3) := by decide +kernel
theorem dX6_read_34 : decode cX6_read 34 = .ok (.invokevirtual 192, 3) := by decide +kernel
theorem dX6_read_37 : decode cX6_read 37 = .ok (.invokevirtual 64, 3) := by decide +kernel
theorem dX6_read_40 : decode cX6_read 40 = .ok (.ireturn, 1) := by decide +kernel
set_option maxRecDepth 20000 in
theorem ggX6_textLength_X6_isRegister : GoodIn wsX6_textLength wsX6_isRegister := goodIn_r _ [5] (by decide +kernel) (by decide +kernel)
set_option maxRecDepth 20000 in
theorem gX6_textLength_X6_isRegister : GoodIn wsX6_textLength (va_wsS RX6 51 yX6_isRegister wsX6_isRegister) := goodIn_app (goodIn_of _ (by decide +kernel)) ggX6_textLength_X6_isRegister
set_option maxRecDepth 20000 in
theorem ggX6_textLength_X4_lengthOf : GoodIn wsX6_textLength wsX4_lengthOf := goodIn_r _ [9, 10, 11, 12, 13, 14, 15, 8, 16, 17, 18, 19, 20, 21, 22, 23, 24, 25, 26, 27, 28, 29, 30] (by decide +kernel) (by decide +kernel)
set_option maxRecDepth 20000 in
theorem gX6_textLength_X4_lengthOf : GoodIn wsX6_textLength (va_wsS RX6 195 yX4_lengthOf wsX4_lengthOf) := goodIn_app (goodIn_of _ (by decide +kernel)) ggX6_textLength_X4_lengthOf
theorem dX6_textLength_0 : decode cX6_textLength 0 = .ok (.iload_n 1, 1) := by decide +kernel
theorem dX6_textLength_1 : decode cX6_textLength 1 = .ok (.invokestatic 51, 3) := by decide +kernel
theorem dX6_textLength_4 : decode cX6_textLength 4 = .ok (.ifCond .ne 5, 3) := by decide +kernel
theorem dX6_textLength_7 : decode cX6_textLength 7 = .ok (.iconst (-1), 1) := by decide +kernel
theorem dX6_textLength_8 : decode cX6_textLength 8 = .ok (.ireturn, 1) := by decide +kernel
theorem dX6_textLength_9 : decode cX6_textLength 9 = .ok (.aload_n 0, 1) := by decide +kernel
theorem dX6_textLength_10 : decode cX6_textLength 10 = .ok (.getfield 9, 3) := by decide +kernel
theorem dX6_textLength_13 : decode cX6_textLength 13 = .ok (.iload_n 1, 1) := by decide +kernel
theorem dX6_textLength_14 : decode cX6_textLength 14 = .ok (.laload, 1) := by decide +kernel
theorem dX6_textLength_15 : decode cX6_textLength 15 = .ok (.invokestatic 195, 3) := by decide +kernel
theorem dX6_textLength_18 : decode cX6_textLength 18 = .ok (.ireturn, 1) := by decide +kernel
set_option maxRecDepth 20000 in
theorem ggX6_textAt_X6_isRegister : GoodIn wsX6_textAt wsX6_isRegister := goodIn_r _ [5] (by decide +kernel) (by decide +kernel)
set_option maxRecDepth 20000 in
theorem gX6_textAt_X6_isRegister : GoodIn wsX6_textAt (va_wsS RX6 51 yX6_isRegister wsX6_isRegister) := goodIn_app (goodIn_of _ (by decide +kernel)) ggX6_textAt_X6_isRegister
set_option maxRecDepth 20000 in
theorem ggX6_textAt_X4_characterOf : GoodIn wsX6_textAt wsX4_characterOf := goodIn_r _ [9, 10, 11, 8, 12, 13, 14, 15, 16, 17, 18, 19, 20, 21, 22, 23, 24, 25, 26, 27, 28, 29, 30, 31, 32, 33, 34, 35, 36, 37, 38, 39, 40, 41, 42, 43, 44, 45, 46] (by decide +kernel) (by decide +kernel)
set_option maxRecDepth 20000 in
theorem gX6_textAt_X4_characterOf : GoodIn wsX6_textAt (va_wsS RX6 200 yX4_characterOf wsX4_characterOf) := goodIn_app (goodIn_of _ (by decide +kernel)) ggX6_textAt_X4_characterOf
theorem dX6_textAt_0 : decode cX6_textAt 0 = .ok (.iload_n 1, 1) := by decide +kernel
theorem dX6_textAt_1 : decode cX6_textAt 1 = .ok (.invokestatic 51, 3) := by decide +kernel
theorem dX6_textAt_4 : decode cX6_textAt 4 = .ok (.ifCond .eq 7, 3) := by decide +kernel
theorem dX6_textAt_7 : decode cX6_textAt 7 = .ok (.iload_n 2, 1) := by decide +kernel
theorem dX6_textAt_8 : decode cX6_textAt 8 = .ok (.ifCond .ge 5, 3) := by decide +kernel
theorem dX6_textAt_11 : decode cX6_textAt 11 = .ok (.iconst (-1), 1) := by decide +kernel
theorem dX6_textAt_12 : decode cX6_textAt 12 = .ok (.ireturn, 1) := by decide +kernel
theorem dX6_textAt_13 : decode cX6_textAt 13 = .ok (.aload_n 0, 1) := by decide +kernel
theorem dX6_textAt_14 : decode cX6_textAt 14 = .ok (.getfield 9, 3) := by decide +kernel
theorem dX6_textAt_17 : decode cX6_textAt 17 = .ok (.iload_n 1, 1) := by decide +kernel
theorem dX6_textAt_18 : decode cX6_textAt 18 = .ok (.laload, 1) := by decide +kernel
theorem dX6_textAt_19 : decode cX6_textAt 19 = .ok (.iload_n 2, 1) := by decide +kernel
theorem dX6_textAt_20 : decode cX6_textAt 20 = .ok (.invokestatic 200, 3) := by decide +kernel
theorem dX6_textAt_23 : decode cX6_textAt 23 = .ok (.ireturn, 1) := by decide +kernel
theorem dX6_isRegister_0 : decode cX6_isRegister 0 = .ok (.iload_n 0, 1) := by decide +kernel
theorem dX6_isRegister_1 : decode cX6_isRegister 1 = .ok (.ifCond .lt 13, 3) := by decide +kernel
theorem dX6_isRegister_4 : decode cX6_isRegister 4 = .ok (.iload_n 0, 1) := by decide +kernel
theorem dX6_isRegister_5 : decode cX6_isRegister 5 = .ok (.bipush 8, 2) := by decide +kernel
theorem dX6_isRegister_7 : decode cX6_isRegister 7 = .ok (.if_icmp .ge 7, 3) := by decide +kernel
theorem dX6_isRegister_10 : decode cX6_isRegister 10 = .ok (.iconst 1, 1) := by decide +kernel
theorem dX6_isRegister_11 : decode cX6_isRegister 11 = .ok (.goto 4, 3) := by decide +kernel
theorem dX6_isRegister_14 : decode cX6_isRegister 14 = .ok (.iconst 0, 1) := by decide +kernel
theorem dX6_isRegister_15 : decode cX6_isRegister 15 = .ok (.ireturn, 1) := by decide +kernel
theorem dX6_isSet_0 : decode cX6_isSet 0 = .ok (.iload_n 0, 1) := by decide +kernel
theorem dX6_isSet_1 : decode cX6_isSet 1 = .ok (.ifCond .lt 14, 3) := by decide +kernel
theorem dX6_isSet_4 : decode cX6_isSet 4 = .ok (.iload_n 0, 1) := by decide +kernel
theorem dX6_isSet_5 : decode cX6_isSet 5 = .ok (.sipush 256, 3) := by decide +kernel
theorem dX6_isSet_8 : decode cX6_isSet 8 = .ok (.if_icmp .ge 7, 3) := by decide +kernel
theorem dX6_isSet_11 : decode cX6_isSet 11 = .ok (.iconst 1, 1) := by decide +kernel
theorem dX6_isSet_12 : decode cX6_isSet 12 = .ok (.goto 4, 3) := by decide +kernel
theorem dX6_isSet_15 : decode cX6_isSet 15 = .ok (.iconst 0, 1) := by decide +kernel
theorem dX6_isSet_16 : decode cX6_isSet 16 = .ok (.ireturn, 1) := by decide +kernel
theorem dX6_isOrder_0 : decode cX6_isOrder 0 = .ok (.iload_n 0, 1) := by decide +kernel
theorem dX6_isOrder_1 : decode cX6_isOrder 1 = .ok (.ifCond .lt 12, 3) := by decide +kernel
theorem dX6_isOrder_4 : decode cX6_isOrder 4 = .ok (.iload_n 0, 1) := by decide +kernel
theorem dX6_isOrder_5 : decode cX6_isOrder 5 = .ok (.iconst 3, 1) := by decide +kernel
theorem dX6_isOrder_6 : decode cX6_isOrder 6 = .ok (.if_icmp .ge 7, 3) := by decide +kernel
theorem dX6_isOrder_9 : decode cX6_isOrder 9 = .ok (.iconst 1, 1) := by decide +kernel
theorem dX6_isOrder_10 : decode cX6_isOrder 10 = .ok (.goto 4, 3) := by decide +kernel
theorem dX6_isOrder_13 : decode cX6_isOrder 13 = .ok (.iconst 0, 1) := by decide +kernel
theorem dX6_isOrder_14 : decode cX6_isOrder 14 = .ok (.ireturn, 1) := by decide +kernel
theorem dX6_isVariable_0 : decode cX6_isVariable 0 = .ok (.iload_n 1, 1) := by decide +kernel
theorem dX6_isVariable_1 : decode cX6_isVariable 1 = .ok (.ifCond .lt 15, 3) := by decide +kernel
theorem dX6_isVariable_4 : decode cX6_isVariable 4 = .ok (.iload_n 1, 1) := by decide +kernel
theorem dX6_isVariable_5 : decode cX6_isVariable 5 = .ok (.aload_n 0, 1) := by decide +kernel
theorem dX6_isVariable_6 : decode cX6_isVariable 6 = .ok (.getfield 38, 3) := by decide +kernel
theorem dX6_isVariable_9 : decode cX6_isVariable 9 = .ok (.if_icmp .ge 7, 3) := by decide +kernel
theorem dX6_isVariable_12 : decode cX6_isVariable 12 = .ok (.iconst 1, 1) := by decide +kernel
theorem dX6_isVariable_13 : decode cX6_isVariable 13 = .ok (.goto 4, 3) := by decide +kernel
theorem dX6_isVariable_16 : decode cX6_isVariable 16 = .ok (.iconst 0, 1) := by decide +kernel
theorem dX6_isVariable_17 : decode cX6_isVariable 17 = .ok (.ireturn, 1) := by decide +kernel
theorem dX6_isMask_0 : decode cX6_isMask 0 = .ok (.iload_n 1, 1) := by decide +kernel
theorem dX6_isMask_1 : decode cX6_isMask 1 = .ok (.ifCond .lt 17, 3) := by decide +kernel
theorem dX6_isMask_4 : decode cX6_isMask 4 = .ok (.iload_n 1, 1) := by decide +kernel
theorem dX6_isMask_5 : decode cX6_isMask 5 = .ok (.iconst 1, 1) := by decide +kernel
theorem dX6_isMask_6 : decode cX6_isMask 6 = .ok (.aload_n 0, 1) := by decide +kernel
theorem dX6_isMask_7 : decode cX6_isMask 7 = .ok (.getfield 38, 3) := by decide +kernel
theorem dX6_isMask_10 : decode cX6_isMask 10 = .ok (.ishl, 1) := by decide +kernel
theorem dX6_isMask_11 : decode cX6_isMask 11 = .ok (.if_icmp .ge 7, 3) := by decide +kernel
theorem dX6_isMask_14 : decode cX6_isMask 14 = .ok (.iconst 1, 1) := by decide +kernel
theorem dX6_isMask_15 : decode cX6_isMask 15 = .ok (.goto 4, 3) := by decide +kernel
theorem dX6_isMask_18 : decode cX6_isMask 18 = .ok (.iconst 0, 1) := by decide +kernel
theorem dX6_isMask_19 : decode cX6_isMask 19 = .ok (.ireturn, 1) := by decide +kernel
set_option maxRecDepth 20000 in
theorem ggX6_put_X1_keep : GoodIn wsX6_put wsX1_keep := goodIn_r _ [7, 8, 9, 10, 11, 12, 13, 31, 32] (by decide +kernel) (by decide +kernel)
set_option maxRecDepth 20000 in
theorem gX6_put_X1_keep : GoodIn wsX6_put (wsV RX6 152 RX1 yX1_keep wsX1_keep) := goodIn_app (goodIn_of _ (by decide +kernel)) ggX6_put_X1_keep
set_option maxRecDepth 20000 in
theorem ggX6_put_X6_isRegister : GoodIn wsX6_put wsX6_isRegister := goodIn_r _ [17] (by decide +kernel) (by decide +kernel)
set_option maxRecDepth 20000 in
theorem gX6_put_X6_isRegister : GoodIn wsX6_put (va_wsS RX6 51 yX6_isRegister wsX6_isRegister) := goodIn_app (goodIn_of _ (by decide +kernel)) ggX6_put_X6_isRegister
set_option maxRecDepth 20000 in
theorem ggX6_put_J13_bitCount_95d88 : GoodIn wsX6_put wsJ13_bitCount_95d88 := goodIn_r _ [21, 22, 23, 24] (by decide +kernel) (by decide +kernel)
set_option maxRecDepth 20000 in
theorem gX6_put_J13_bitCount_95d88 : GoodIn wsX6_put (va_wsS RX6 110 yJ13_bitCount_95d88 wsJ13_bitCount_95d88) := goodIn_app (goodIn_of _ (by decide +kernel)) ggX6_put_J13_bitCount_95d88
theorem dX6_put_0 : decode cX6_put 0 = .ok (.aload_n 0, 1) := by decide +kernel
theorem dX6_put_1 : decode cX6_put 1 = .ok (.getfield 20, 3) := by decide +kernel
theorem dX6_put_4 : decode cX6_put 4 = .ok (.aload_n 0, 1) := by decide +kernel
theorem dX6_put_5 : decode cX6_put 5 = .ok (.getfield 9, 3) := by decide +kernel
theorem dX6_put_8 : decode cX6_put 8 = .ok (.invokevirtual 152, 3) := by decide +kernel
theorem dX6_put_11 : decode cX6_put 11 = .ok (.iload_n 1, 1) := by decide +kernel
theorem dX6_put_12 : decode cX6_put 12 = .ok (.invokestatic 51, 3) := by decide +kernel
theorem dX6_put_15 : decode cX6_put 15 = .ok (.ifCond .eq 10, 3) := by decide +kernel
theorem dX6_put_18 : decode cX6_put 18 = .ok (.aload_n 0, 1) := by decide +kernel
theorem dX6_put_19 : decode cX6_put 19 = .ok (.getfield 9, 3) := by decide +kernel
theorem dX6_put_22 : decode cX6_put 22 = .ok (.iload_n 1, 1) := by decide +kernel
theorem dX6_put_23 : decode cX6_put 23 = .ok (.lload_n 2, 1) := by decide +kernel
theorem dX6_put_24 : decode cX6_put 24 = .ok (.lastore, 1) := by decide +kernel
theorem dX6_put_25 : decode cX6_put 25 = .ok (.lload_n 2, 1) := by decide +kernel
theorem dX6_put_26 : decode cX6_put 26 = .ok (.invokestatic 110, 3) := by decide +kernel
theorem dX6_put_29 : decode cX6_put 29 = .ok (.ireturn, 1) := by decide +kernel
theorem dX6_isIn_0 : decode cX6_isIn 0 = .ok (.iload_n 0, 1) := by decide +kernel
theorem dX6_isIn_1 : decode cX6_isIn 1 = .ok (.iload_n 1, 1) := by decide +kernel
theorem dX6_isIn_2 : decode cX6_isIn 2 = .ok (.ishr, 1) := by decide +kernel
theorem dX6_isIn_3 : decode cX6_isIn 3 = .ok (.iconst 1, 1) := by decide +kernel
theorem dX6_isIn_4 : decode cX6_isIn 4 = .ok (.iand, 1) := by decide +kernel
theorem dX6_isIn_5 : decode cX6_isIn 5 = .ok (.iconst 1, 1) := by decide +kernel
theorem dX6_isIn_6 : decode cX6_isIn 6 = .ok (.if_icmp .ne 7, 3) := by decide +kernel
theorem dX6_isIn_9 : decode cX6_isIn 9 = .ok (.iconst 1, 1) := by decide +kernel
theorem dX6_isIn_10 : decode cX6_isIn 10 = .ok (.goto 4, 3) := by decide +kernel
theorem dX6_isIn_13 : decode cX6_isIn 13 = .ok (.iconst 0, 1) := by decide +kernel
theorem dX6_isIn_14 : decode cX6_isIn 14 = .ok (.ireturn, 1) := by decide +kernel
set_option maxRecDepth 20000 in
theorem ggX6_nextOf_X6_isIn : GoodIn wsX6_nextOf wsX6_isIn := goodIn_r _ [4] (by decide +kernel) (by decide +kernel)
set_option maxRecDepth 20000 in
theorem gX6_nextOf_X6_isIn : GoodIn wsX6_nextOf (va_wsS RX6 203 yX6_isIn wsX6_isIn) := goodIn_app (goodIn_of _ (by decide +kernel)) ggX6_nextOf_X6_isIn
theorem dX6_nextOf_0 : decode cX6_nextOf 0 = .ok (.iload_n 1, 1) := by decide +kernel
theorem dX6_nextOf_1 : decode cX6_nextOf 1 = .ok (.istore_n 2, 1) := by decide +kernel
theorem dX6_nextOf_2 : decode cX6_nextOf 2 = .ok (.iload_n 2, 1) := by decide +kernel
theorem dX6_nextOf_3 : decode cX6_nextOf 3 = .ok (.bipush 8, 2) := by decide +kernel
theorem dX6_nextOf_5 : decode cX6_nextOf 5 = .ok (.if_icmp .ge 17, 3) := by decide +kernel
theorem dX6_nextOf_8 : decode cX6_nextOf 8 = .ok (.iload_n 0, 1) := by decide +kernel
theorem dX6_nextOf_9 : decode cX6_nextOf 9 = .ok (.iload_n 2, 1) := by decide +kernel
theorem dX6_nextOf_10 : decode cX6_nextOf 10 = .ok (.invokestatic 203, 3) := by decide +kernel
theorem dX6_nextOf_13 : decode cX6_nextOf 13 = .ok (.ifCond .ne 9, 3) := by decide +kernel
theorem dX6_nextOf_16 : decode cX6_nextOf 16 = .ok (.iinc 2 1, 3) := by decide +kernel
theorem dX6_nextOf_19 : decode cX6_nextOf 19 = .ok (.goto (-17), 3) := by decide +kernel
theorem dX6_nextOf_22 : decode cX6_nextOf 22 = .ok (.iload_n 2, 1) := by decide +kernel
theorem dX6_nextOf_23 : decode cX6_nextOf 23 = .ok (.ireturn, 1) := by decide +kernel
set_option maxRecDepth 20000 in
theorem ggX6_findLeading_X2_termOf : GoodIn wsX6_findLeading wsX2_termOf := goodIn_r _ [6, 7, 8, 9, 10, 11, 12, 13, 14, 15, 5, 16, 17, 18, 19, 20, 21, 22, 23, 24, 25, 26] (by decide +kernel) (by decide +kernel)
set_option maxRecDepth 20000 in
theorem gX6_findLeading_X2_termOf : GoodIn wsX6_findLeading (va_wsS RX6 118 yX2_termOf wsX2_termOf) := goodIn_app (goodIn_of _ (by decide +kernel)) ggX6_findLeading_X2_termOf
theorem dX6_findLeading_0 : decode cX6_findLeading 0 = .ok (.iconst 0, 1) := by decide +kernel
theorem dX6_findLeading_1 : decode cX6_findLeading 1 = .ok (.istore_n 2, 1) := by decide +kernel
theorem dX6_findLeading_2 : decode cX6_findLeading 2 = .ok (.iload_n 2, 1) := by decide +kernel
theorem dX6_findLeading_3 : decode cX6_findLeading 3 = .ok (.bipush 8, 2) := by decide +kernel
theorem dX6_findLeading_5 : decode cX6_findLeading 5 = .ok (.if_icmp .ge 26, 3) := by decide +kernel
theorem dX6_findLeading_8 : decode cX6_findLeading 8 = .ok (.aload_n 0, 1) := by decide +kernel
theorem dX6_findLeading_9 : decode cX6_findLeading 9 = .ok (.getfield 13, 3) := by decide +kernel
theorem dX6_findLeading_12 : decode cX6_findLeading 12 = .ok (.iload_n 2, 1) := by decide +kernel
theorem dX6_findLeading_13 : decode cX6_findLeading 13 = .ok (.aload_n 0, 1) := by decide +kernel
theorem dX6_findLeading_14 : decode cX6_findLeading 14 = .ok (.getfield 9, 3) := by decide +kernel
theorem dX6_findLeading_17 : decode cX6_findLeading 17 = .ok (.iload_n 2, 1) := by decide +kernel
theorem dX6_findLeading_18 : decode cX6_findLeading 18 = .ok (.laload, 1) := by decide +kernel
theorem dX6_findLeading_19 : decode cX6_findLeading 19 = .ok (.iload_n 1, 1) := by decide +kernel
theorem dX6_findLeading_20 : decode cX6_findLeading 20 = .ok (.iconst 0, 1) := by decide +kernel
theorem dX6_findLeading_21 : decode cX6_findLeading 21 = .ok (.invokestatic 118, 3) := by decide +kernel
theorem dX6_findLeading_24 : decode cX6_findLeading 24 = .ok (.iastore, 1) := by decide +kernel
theorem dX6_findLeading_25 : decode cX6_findLeading 25 = .ok (.iinc 2 1, 3) := by decide +kernel
theorem dX6_findLeading_28 : decode cX6_findLeading 28 = .ok (.goto (-26), 3) := by decide +kernel
theorem dX6_findLeading_31 : decode cX6_findLeading 31 = .ok (.return_, 1) := by decide +kernel
set_option maxRecDepth 20000 in
theorem ggX6_reducerOf_X6_isIn : GoodIn wsX6_reducerOf wsX6_isIn := goodIn_r _ [5] (by decide +kernel) (by decide +kernel)
set_option maxRecDepth 20000 in
theorem gX6_reducerOf_X6_isIn : GoodIn wsX6_reducerOf (va_wsS RX6 203 yX6_isIn wsX6_isIn) := goodIn_app (goodIn_of _ (by decide +kernel)) ggX6_reducerOf_X6_isIn
theorem dX6_reducerOf_0 : decode cX6_reducerOf 0 = .ok (.iconst 0, 1) := by decide +kernel
theorem dX6_reducerOf_1 : decode cX6_reducerOf 1 = .ok (.istore_n 3, 1) := by decide +kernel
theorem dX6_reducerOf_2 : decode cX6_reducerOf 2 = .ok (.iload_n 3, 1) := by decide +kernel
theorem dX6_reducerOf_3 : decode cX6_reducerOf 3 = .ok (.bipush 8, 2) := by decide +kernel
theorem dX6_reducerOf_5 : decode cX6_reducerOf 5 = .ok (.if_icmp .ge 41, 3) := by decide +kernel
theorem dX6_reducerOf_8 : decode cX6_reducerOf 8 = .ok (.iload_n 2, 1) := by decide +kernel
theorem dX6_reducerOf_9 : decode cX6_reducerOf 9 = .ok (.iload_n 3, 1) := by decide +kernel
theorem dX6_reducerOf_10 : decode cX6_reducerOf 10 = .ok (.invokestatic 203, 3) := by decide +kernel
theorem dX6_reducerOf_13 : decode cX6_reducerOf 13 = .ok (.ifCond .eq 27, 3) := by decide +kernel
theorem dX6_reducerOf_16 : decode cX6_reducerOf 16 = .ok (.aload_n 0, 1) := by decide +kernel
theorem dX6_reducerOf_17 : decode cX6_reducerOf 17 = .ok (.getfield 13, 3) := by decide +kernel
theorem dX6_reducerOf_20 : decode cX6_reducerOf 20 = .ok (.iload_n 3, 1) := by decide +kernel
theorem dX6_reducerOf_21 : decode cX6_reducerOf 21 = .ok (.iaload, 1) := by decide +kernel
theorem dX6_reducerOf_22 : decode cX6_reducerOf 22 = .ok (.ifCond .lt 18, 3) := by decide +kernel
theorem dX6_reducerOf_25 : decode cX6_reducerOf 25 = .ok (.aload_n 0, 1) := by decide +kernel
theorem dX6_reducerOf_26 : decode cX6_reducerOf 26 = .ok (.getfield 13, 3) := by decide +kernel
theorem dX6_reducerOf_29 : decode cX6_reducerOf 29 = .ok (.iload_n 3, 1) := by decide +kernel
theorem dX6_reducerOf_30 : decode cX6_reducerOf 30 = .ok (.iaload, 1) := by decide +kernel
theorem dX6_reducerOf_31 : decode cX6_reducerOf 31 = .ok (.iload_n 1, 1) := by decide +kernel
theorem dX6_reducerOf_32 : decode cX6_reducerOf 32 = .ok (.iconst (-1), 1) := by decide +kernel
theorem dX6_reducerOf_33 : decode cX6_reducerOf 33 = .ok (.ixor, 1) := by decide +kernel
theorem dX6_reducerOf_34 : decode cX6_reducerOf 34 = .ok (.iand, 1) := by decide +kernel
theorem dX6_reducerOf_35 : decode cX6_reducerOf 35 = .ok (.ifCond .ne 5, 3) := by decide +kernel
theorem dX6_reducerOf_38 : decode cX6_reducerOf 38 = .ok (.iload_n 3, 1) := by decide +kernel
theorem dX6_reducerOf_39 : decode cX6_reducerOf 39 = .ok (.ireturn, 1) := by decide +kernel
theorem dX6_reducerOf_40 : decode cX6_reducerOf 40 = .ok (.iinc 3 1, 3) := by decide +kernel
theorem dX6_reducerOf_43 : decode cX6_reducerOf 43 = .ok (.goto (-41), 3) := by decide +kernel
theorem dX6_reducerOf_46 : decode cX6_reducerOf 46 = .ok (.bipush (-4), 2) := by decide +kernel
theorem dX6_reducerOf_48 : decode cX6_reducerOf 48 = .ok (.ireturn, 1) := by decide +kernel
set_option maxRecDepth 20000 in
theorem ggX6_bringUp_X6_isRegister : GoodIn wsX6_bringUp wsX6_isRegister := goodIn_r _ [5] (by decide +kernel) (by decide +kernel)
set_option maxRecDepth 20000 in
theorem gX6_bringUp_X6_isRegister : GoodIn wsX6_bringUp (va_wsS RX6 51 yX6_isRegister wsX6_isRegister) := goodIn_app (goodIn_of _ (by decide +kernel)) ggX6_bringUp_X6_isRegister
set_option maxRecDepth 20000 in
theorem ggX6_bringUp_X6_isIn : GoodIn wsX6_bringUp wsX6_isIn := goodIn_r _ [8] (by decide +kernel) (by decide +kernel)
set_option maxRecDepth 20000 in
theorem gX6_bringUp_X6_isIn : GoodIn wsX6_bringUp (va_wsS RX6 203 yX6_isIn wsX6_isIn) := goodIn_app (goodIn_of _ (by decide +kernel)) ggX6_bringUp_X6_isIn
set_option maxRecDepth 20000 in
theorem ggX6_bringUp_X3_bit : GoodIn wsX6_bringUp wsX3_bit := goodIn_r _ [12] (by decide +kernel) (by decide +kernel)
set_option maxRecDepth 20000 in
theorem gX6_bringUp_X3_bit : GoodIn wsX6_bringUp (va_wsS RX6 106 yX3_bit wsX3_bit) := goodIn_app (goodIn_of _ (by decide +kernel)) ggX6_bringUp_X3_bit
theorem dX6_bringUp_0 : decode cX6_bringUp 0 = .ok (.iload_n 2, 1) := by decide +kernel
theorem dX6_bringUp_1 : decode cX6_bringUp 1 = .ok (.invokestatic 51, 3) := by decide +kernel
theorem dX6_bringUp_4 : decode cX6_bringUp 4 = .ok (.ifCond .ne 5, 3) := by decide +kernel
theorem dX6_bringUp_7 : decode cX6_bringUp 7 = .ok (.iconst 0, 1) := by decide +kernel
theorem dX6_bringUp_8 : decode cX6_bringUp 8 = .ok (.ireturn, 1) := by decide +kernel
theorem dX6_bringUp_9 : decode cX6_bringUp 9 = .ok (.iload_n 2, 1) := by decide +kernel
theorem dX6_bringUp_10 : decode cX6_bringUp 10 = .ok (.istore 4, 2) := by decide +kernel
theorem dX6_bringUp_12 : decode cX6_bringUp 12 = .ok (.iload 4, 2) := by decide +kernel
theorem dX6_bringUp_14 : decode cX6_bringUp 14 = .ok (.bipush 8, 2) := by decide +kernel
theorem dX6_bringUp_16 : decode cX6_bringUp 16 = .ok (.if_icmp .ge 65, 3) := by decide +kernel
theorem dX6_bringUp_19 : decode cX6_bringUp 19 = .ok (.iload_n 1, 1) := by decide +kernel
theorem dX6_bringUp_20 : decode cX6_bringUp 20 = .ok (.iload 4, 2) := by decide +kernel
theorem dX6_bringUp_22 : decode cX6_bringUp 22 = .ok (.invokestatic 203, 3) := by decide +kernel
theorem dX6_bringUp_25 : decode cX6_bringUp 25 = .ok (.ifCond .eq 50, 3) := by decide +kernel
theorem dX6_bringUp_28 : decode cX6_bringUp 28 = .ok (.aload_n 0, 1) := by decide +kernel
theorem dX6_bringUp_29 : decode cX6_bringUp 29 = .ok (.getfield 9, 3) := by decide +kernel
theorem dX6_bringUp_32 : decode cX6_bringUp 32 = .ok (.iload 4, 2) := by decide +kernel
theorem dX6_bringUp_34 : decode cX6_bringUp 34 = .ok (.laload, 1) := by decide +kernel
theorem dX6_bringUp_35 : decode cX6_bringUp 35 = .ok (.iload_n 3, 1) := by decide +kernel
theorem dX6_bringUp_36 : decode cX6_bringUp 36 = .ok (.invokestatic 106, 3) := by decide +kernel
theorem dX6_bringUp_39 : decode cX6_bringUp 39 = .ok (.iconst 1, 1) := by decide +kernel
theorem dX6_bringUp_40 : decode cX6_bringUp 40 = .ok (.if_icmp .ne 35, 3) := by decide +kernel
theorem dX6_bringUp_43 : decode cX6_bringUp 43 = .ok (.aload_n 0, 1) := by decide +kernel
theorem dX6_bringUp_44 : decode cX6_bringUp 44 = .ok (.getfield 9, 3) := by decide +kernel
theorem dX6_bringUp_47 : decode cX6_bringUp 47 = .ok (.iload 4, 2) := by decide +kernel
theorem dX6_bringUp_49 : decode cX6_bringUp 49 = .ok (.laload, 1) := by decide +kernel
theorem dX6_bringUp_50 : decode cX6_bringUp 50 = .ok (.lstore 5, 2) := by decide +kernel
theorem dX6_bringUp_52 : decode cX6_bringUp 52 = .ok (.aload_n 0, 1) := by decide +kernel
theorem dX6_bringUp_53 : decode cX6_bringUp 53 = .ok (.getfield 9, 3) := by decide +kernel
theorem dX6_bringUp_56 : decode cX6_bringUp 56 = .ok (.iload 4, 2) := by decide +kernel
theorem dX6_bringUp_58 : decode cX6_bringUp 58 = .ok (.aload_n 0, 1) := by decide +kernel
theorem dX6_bringUp_59 : decode cX6_bringUp 59 = .ok (.getfield 9, 3) := by decide +kernel
theorem dX6_bringUp_62 : decode cX6_bringUp 62 = .ok (.iload_n 2, 1) := by decide +kernel
theorem dX6_bringUp_63 : decode cX6_bringUp 63 = .ok (.laload, 1) := by decide +kernel
theorem dX6_bringUp_64 : decode cX6_bringUp 64 = .ok (.lastore, 1) := by decide +kernel
theorem dX6_bringUp_65 : decode cX6_bringUp 65 = .ok (.aload_n 0, 1) := by decide +kernel
theorem dX6_bringUp_66 : decode cX6_bringUp 66 = .ok (.getfield 9, 3) := by decide +kernel
theorem dX6_bringUp_69 : decode cX6_bringUp 69 = .ok (.iload_n 2, 1) := by decide +kernel
theorem dX6_bringUp_70 : decode cX6_bringUp 70 = .ok (.lload 5, 2) := by decide +kernel
theorem dX6_bringUp_72 : decode cX6_bringUp 72 = .ok (.lastore, 1) := by decide +kernel
theorem dX6_bringUp_73 : decode cX6_bringUp 73 = .ok (.iconst 1, 1) := by decide +kernel
theorem dX6_bringUp_74 : decode cX6_bringUp 74 = .ok (.ireturn, 1) := by decide +kernel
theorem dX6_bringUp_75 : decode cX6_bringUp 75 = .ok (.iinc 4 1, 3) := by decide +kernel
theorem dX6_bringUp_78 : decode cX6_bringUp 78 = .ok (.goto (-66), 3) := by decide +kernel
theorem dX6_bringUp_81 : decode cX6_bringUp 81 = .ok (.iconst 0, 1) := by decide +kernel
theorem dX6_bringUp_82 : decode cX6_bringUp 82 = .ok (.ireturn, 1) := by decide +kernel
set_option maxRecDepth 20000 in
theorem ggX6_clearElsewhere_X6_isRegister : GoodIn wsX6_clearElsewhere wsX6_isRegister := goodIn_r _ [5] (by decide +kernel) (by decide +kernel)
set_option maxRecDepth 20000 in
theorem gX6_clearElsewhere_X6_isRegister : GoodIn wsX6_clearElsewhere (va_wsS RX6 51 yX6_isRegister wsX6_isRegister) := goodIn_app (goodIn_of _ (by decide +kernel)) ggX6_clearElsewhere_X6_isRegister
set_option maxRecDepth 20000 in
theorem ggX6_clearElsewhere_X6_isIn : GoodIn wsX6_clearElsewhere wsX6_isIn := goodIn_r _ [8] (by decide +kernel) (by decide +kernel)
set_option maxRecDepth 20000 in
theorem gX6_clearElsewhere_X6_isIn : GoodIn wsX6_clearElsewhere (va_wsS RX6 203 yX6_isIn wsX6_isIn) := goodIn_app (goodIn_of _ (by decide +kernel)) ggX6_clearElsewhere_X6_isIn
set_option maxRecDepth 20000 in
theorem ggX6_clearElsewhere_X3_bit : GoodIn wsX6_clearElsewhere wsX3_bit := goodIn_r _ [12] (by decide +kernel) (by decide +kernel)
set_option maxRecDepth 20000 in
theorem gX6_clearElsewhere_X3_bit : GoodIn wsX6_clearElsewhere (va_wsS RX6 106 yX3_bit wsX3_bit) := goodIn_app (goodIn_of _ (by decide +kernel)) ggX6_clearElsewhere_X3_bit
theorem dX6_clearElsewhere_0 : decode cX6_clearElsewhere 0 = .ok (.iload_n 2, 1) := by decide +kernel
theorem dX6_clearElsewhere_1 : decode cX6_clearElsewhere 1 = .ok (.invokestatic 51, 3) := by decide +kernel
theorem dX6_clearElsewhere_4 : decode cX6_clearElsewhere 4 = .ok (.ifCond .ne 4, 3) := by decide +kernel
theorem dX6_clearElsewhere_7 : decode cX6_clearElsewhere 7 = .ok (.return_, 1) := by decide +kernel
theorem dX6_clearElsewhere_8 : decode cX6_clearElsewhere 8 = .ok (.iconst 0, 1) := by decide +kernel
theorem dX6_clearElsewhere_9 : decode cX6_clearElsewhere 9 = .ok (.istore 4, 2) := by decide +kernel
theorem dX6_clearElsewhere_11 : decode cX6_clearElsewhere 11 = .ok (.iload 4, 2) := by decide +kernel
theorem dX6_clearElsewhere_13 : decode cX6_clearElsewhere 13 = .ok (.bipush 8, 2) := by decide +kernel
theorem dX6_clearElsewhere_15 : decode cX6_clearElsewhere 15 = .ok (.if_icmp .ge 55, 3) := by decide +kernel
theorem dX6_clearElsewhere_18 : decode cX6_clearElsewhere 18 = .ok (.iload 4, 2) := by decide +kernel
theorem dX6_clearElsewhere_20 : decode cX6_clearElsewhere 20 = .ok (.iload_n 2, 1) := by decide +kernel
theorem dX6_clearElsewhere_21 : decode cX6_clearElsewhere 21 = .ok (.if_icmp .eq 43, 3) := by decide +kernel
theorem dX6_clearElsewhere_24 : decode cX6_clearElsewhere 24 = .ok (.iload_n 1, 1) := by decide +kernel
theorem dX6_clearElsewhere_25 : decode cX6_clearElsewhere 25 = .ok (.iload 4, 2) := by decide +kernel
theorem dX6_clearElsewhere_27 : decode cX6_clearElsewhere 27 = .ok (.invokestatic 203, 3) := by decide +kernel
theorem dX6_clearElsewhere_30 : decode cX6_clearElsewhere 30 = .ok (.ifCond .eq 34, 3) := by decide +kernel
theorem dX6_clearElsewhere_33 : decode cX6_clearElsewhere 33 = .ok (.aload_n 0, 1) := by decide +kernel
theorem dX6_clearElsewhere_34 : decode cX6_clearElsewhere 34 = .ok (.getfield 9, 3) := by decide +kernel
theorem dX6_clearElsewhere_37 : decode cX6_clearElsewhere 37 = .ok (.iload 4, 2) := by decide +kernel
theorem dX6_clearElsewhere_39 : decode cX6_clearElsewhere 39 = .ok (.laload, 1) := by decide +kernel
theorem dX6_clearElsewhere_40 : decode cX6_clearElsewhere 40 = .ok (.iload_n 3, 1) := by decide +kernel
theorem dX6_clearElsewhere_41 : decode cX6_clearElsewhere 41 = .ok (.invokestatic 106, 3) := by decide +kernel
theorem dX6_clearElsewhere_44 : decode cX6_clearElsewhere 44 = .ok (.iconst 1, 1) := by decide +kernel
theorem dX6_clearElsewhere_45 : decode cX6_clearElsewhere 45 = .ok (.if_icmp .ne 19, 3) := by decide +kernel
theorem dX6_clearElsewhere_48 : decode cX6_clearElsewhere 48 = .ok (.aload_n 0, 1) := by decide +kernel
theorem dX6_clearElsewhere_49 : decode cX6_clearElsewhere 49 = .ok (.getfield 9, 3) := by decide +kernel
theorem dX6_clearElsewhere_52 : decode cX6_clearElsewhere 52 = .ok (.iload 4, 2) := by decide +kernel
theorem dX6_clearElsewhere_54 : decode cX6_clearElsewhere 54 = .ok (.dup2, 1) := by decide +kernel
theorem dX6_clearElsewhere_55 : decode cX6_clearElsewhere 55 = .ok (.laload, 1) := by decide +kernel
theorem dX6_clearElsewhere_56 : decode cX6_clearElsewhere 56 = .ok (.aload_n 0, 1) := by decide +kernel
theorem dX6_clearElsewhere_57 : decode cX6_clearElsewhere 57 = .ok (.getfield 9, 3) := by decide +kernel
theorem dX6_clearElsewhere_60 : decode cX6_clearElsewhere 60 = .ok (.iload_n 2, 1) := by decide +kernel
theorem dX6_clearElsewhere_61 : decode cX6_clearElsewhere 61 = .ok (.laload, 1) := by decide +kernel
theorem dX6_clearElsewhere_62 : decode cX6_clearElsewhere 62 = .ok (.lxor, 1) := by decide +kernel
theorem dX6_clearElsewhere_63 : decode cX6_clearElsewhere 63 = .ok (.lastore, 1) := by decide +kernel
theorem dX6_clearElsewhere_64 : decode cX6_clearElsewhere 64 = .ok (.iinc 4 1, 3) := by decide +kernel
theorem dX6_clearElsewhere_67 : decode cX6_clearElsewhere 67 = .ok (.goto (-56), 3) := by decide +kernel
theorem dX6_clearElsewhere_70 : decode cX6_clearElsewhere 70 = .ok (.return_, 1) := by decide +kernel
theorem dX6_allPoints_0 : decode cX6_allPoints 0 = .ok (.aload_n 0, 1) := by decide +kernel
theorem dX6_allPoints_1 : decode cX6_allPoints 1 = .ok (.getfield 38, 3) := by decide +kernel
theorem dX6_allPoints_4 : decode cX6_allPoints 4 = .ok (.bipush 6, 2) := by decide +kernel
theorem dX6_allPoints_6 : decode cX6_allPoints 6 = .ok (.if_icmp .lt 9, 3) := by decide +kernel
theorem dX6_allPoints_9 : decode cX6_allPoints 9 = .ok (.ldc2_w 180, 3) := by decide +kernel
theorem dX6_allPoints_12 : decode cX6_allPoints 12 = .ok (.goto 13, 3) := by decide +kernel
theorem dX6_allPoints_15 : decode cX6_allPoints 15 = .ok (.lconst 1, 1) := by decide +kernel
theorem dX6_allPoints_16 : decode cX6_allPoints 16 = .ok (.iconst 1, 1) := by decide +kernel
theorem dX6_allPoints_17 : decode cX6_allPoints 17 = .ok (.aload_n 0, 1) := by decide +kernel
theorem dX6_allPoints_18 : decode cX6_allPoints 18 = .ok (.getfield 38, 3) := by decide +kernel
theorem dX6_allPoints_21 : decode cX6_allPoints 21 = .ok (.ishl, 1) := by decide +kernel
theorem dX6_allPoints_22 : decode cX6_allPoints 22 = .ok (.lshl, 1) := by decide +kernel
theorem dX6_allPoints_23 : decode cX6_allPoints 23 = .ok (.lconst 1, 1) := by decide +kernel
theorem dX6_allPoints_24 : decode cX6_allPoints 24 = .ok (.lsub, 1) := by decide +kernel
theorem dX6_allPoints_25 : decode cX6_allPoints 25 = .ok (.lreturn, 1) := by decide +kernel
set_option maxRecDepth 20000 in
theorem ggX6_nonZeros_X6_isIn : GoodIn wsX6_nonZeros wsX6_isIn := goodIn_r _ [6] (by decide +kernel) (by decide +kernel)
set_option maxRecDepth 20000 in
theorem gX6_nonZeros_X6_isIn : GoodIn wsX6_nonZeros (va_wsS RX6 203 yX6_isIn wsX6_isIn) := goodIn_app (goodIn_of _ (by decide +kernel)) ggX6_nonZeros_X6_isIn
set_option maxRecDepth 20000 in
theorem ggX6_nonZeros_X3_transformed : GoodIn wsX6_nonZeros wsX3_transformed := goodIn_r _ [10, 11, 12, 9, 13, 14, 15, 16, 17] (by decide +kernel) (by decide +kernel)
set_option maxRecDepth 20000 in
theorem gX6_nonZeros_X3_transformed : GoodIn wsX6_nonZeros (va_wsS RX6 82 yX3_transformed wsX3_transformed) := goodIn_app (goodIn_of _ (by decide +kernel)) ggX6_nonZeros_X3_transformed
theorem dX6_nonZeros_0 : decode cX6_nonZeros 0 = .ok (.lconst 0, 1) := by decide +kernel
theorem dX6_nonZeros_1 : decode cX6_nonZeros 1 = .ok (.lstore_n 2, 1) := by decide +kernel
theorem dX6_nonZeros_2 : decode cX6_nonZeros 2 = .ok (.iconst 0, 1) := by decide +kernel
theorem dX6_nonZeros_3 : decode cX6_nonZeros 3 = .ok (.istore 4, 2) := by decide +kernel
theorem dX6_nonZeros_5 : decode cX6_nonZeros 5 = .ok (.iload 4, 2) := by decide +kernel
theorem dX6_nonZeros_7 : decode cX6_nonZeros 7 = .ok (.bipush 8, 2) := by decide +kernel
theorem dX6_nonZeros_9 : decode cX6_nonZeros 9 = .ok (.if_icmp .ge 35, 3) := by decide +kernel
theorem dX6_nonZeros_12 : decode cX6_nonZeros 12 = .ok (.iload_n 1, 1) := by decide +kernel
theorem dX6_nonZeros_13 : decode cX6_nonZeros 13 = .ok (.iload 4, 2) := by decide +kernel
theorem dX6_nonZeros_15 : decode cX6_nonZeros 15 = .ok (.invokestatic 203, 3) := by decide +kernel
theorem dX6_nonZeros_18 : decode cX6_nonZeros 18 = .ok (.ifCond .eq 20, 3) := by decide +kernel
theorem dX6_nonZeros_21 : decode cX6_nonZeros 21 = .ok (.lload_n 2, 1) := by decide +kernel
theorem dX6_nonZeros_22 : decode cX6_nonZeros 22 = .ok (.aload_n 0, 1) := by decide +kernel
theorem dX6_nonZeros_23 : decode cX6_nonZeros 23 = .ok (.getfield 9, 3) := by decide +kernel
theorem dX6_nonZeros_26 : decode cX6_nonZeros 26 = .ok (.iload 4, 2) := by decide +kernel
theorem dX6_nonZeros_28 : decode cX6_nonZeros 28 = .ok (.laload, 1) := by decide +kernel
theorem dX6_nonZeros_29 : decode cX6_nonZeros 29 = .ok (.aload_n 0, 1) := by decide +kernel
theorem dX6_nonZeros_30 : decode cX6_nonZeros 30 = .ok (.getfield 38, 3) := by decide +kernel
theorem dX6_nonZeros_33 : decode cX6_nonZeros 33 = .ok (.invokestatic 82, 3) := by decide +kernel
theorem dX6_nonZeros_36 : decode cX6_nonZeros 36 = .ok (.lor, 1) := by decide +kernel
theorem dX6_nonZeros_37 : decode cX6_nonZeros 37 = .ok (.lstore_n 2, 1) := by decide +kernel
theorem dX6_nonZeros_38 : decode cX6_nonZeros 38 = .ok (.iinc 4 1, 3) := by decide +kernel
theorem dX6_nonZeros_41 : decode cX6_nonZeros 41 = .ok (.goto (-36), 3) := by decide +kernel
theorem dX6_nonZeros_44 : decode cX6_nonZeros 44 = .ok (.lload_n 2, 1) := by decide +kernel
theorem dX6_nonZeros_45 : decode cX6_nonZeros 45 = .ok (.lreturn, 1) := by decide +kernel
set_option maxRecDepth 20000 in
theorem ggX6_commonZeros_X6_allPoints : GoodIn wsX6_commonZeros wsX6_allPoints := goodIn_r _ [6, 7, 1, 27, 28, 29, 30, 31, 32] (by decide +kernel) (by decide +kernel)
set_option maxRecDepth 20000 in
theorem gX6_commonZeros_X6_allPoints : GoodIn wsX6_commonZeros (wsV RX6 176 RX6 yX6_allPoints wsX6_allPoints) := goodIn_app (goodIn_of _ (by decide +kernel)) ggX6_commonZeros_X6_allPoints
set_option maxRecDepth 20000 in
theorem ggX6_commonZeros_X6_nonZeros : GoodIn wsX6_commonZeros wsX6_nonZeros := goodIn_r _ [11, 12, 7, 13, 14, 5, 15, 16, 17, 18, 19, 20, 21, 22, 23, 24, 25, 26, 27, 28, 29, 30, 31, 32] (by decide +kernel) (by decide +kernel)
set_option maxRecDepth 20000 in
theorem gX6_commonZeros_X6_nonZeros : GoodIn wsX6_commonZeros (wsV RX6 170 RX6 yX6_nonZeros wsX6_nonZeros) := goodIn_app (goodIn_of _ (by decide +kernel)) ggX6_commonZeros_X6_nonZeros
theorem dX6_commonZeros_0 : decode cX6_commonZeros 0 = .ok (.aload_n 0, 1) := by decide +kernel
theorem dX6_commonZeros_1 : decode cX6_commonZeros 1 = .ok (.invokevirtual 176, 3) := by decide +kernel
theorem dX6_commonZeros_4 : decode cX6_commonZeros 4 = .ok (.aload_n 0, 1) := by decide +kernel
theorem dX6_commonZeros_5 : decode cX6_commonZeros 5 = .ok (.iload_n 1, 1) := by decide +kernel
theorem dX6_commonZeros_6 : decode cX6_commonZeros 6 = .ok (.invokevirtual 170, 3) := by decide +kernel
theorem dX6_commonZeros_9 : decode cX6_commonZeros 9 = .ok (.ldc2_w 180, 3) := by decide +kernel
theorem dX6_commonZeros_12 : decode cX6_commonZeros 12 = .ok (.lxor, 1) := by decide +kernel
theorem dX6_commonZeros_13 : decode cX6_commonZeros 13 = .ok (.land, 1) := by decide +kernel
theorem dX6_commonZeros_14 : decode cX6_commonZeros 14 = .ok (.lreturn, 1) := by decide +kernel
theorem dX7_init_0 : decode cX7_init 0 = .ok (.aload_n 0, 1) := by decide +kernel
theorem dX7_init_1 : decode cX7_init 1 = .ok (.invokespecial 1, 3) := by decide +kernel
theorem dX7_init_4 : decode cX7_init 4 = .ok (.aload_n 0, 1) := by decide +kernel
theorem dX7_init_5 : decode cX7_init 5 = .ok (.iconst 4, 1) := by decide +kernel
theorem dX7_init_6 : decode cX7_init 6 = .ok (.putfield 7, 3) := by decide +kernel
theorem dX7_init_9 : decode cX7_init 9 = .ok (.aload_n 0, 1) := by decide +kernel
theorem dX7_init_10 : decode cX7_init 10 = .ok (.bipush 8, 2) := by decide +kernel
theorem dX7_init_12 : decode cX7_init 12 = .ok (.newarray .long, 2) := by decide +kernel
theorem dX7_init_14 : decode cX7_init 14 = .ok (.putfield 13, 3) := by decide +kernel
theorem dX7_init_17 : decode cX7_init 17 = .ok (.aload_n 0, 1) := by decide +kernel
theorem dX7_init_18 : decode cX7_init 18 = .ok (.bipush 48, 2) := by decide +kernel
theorem dX7_init_20 : decode cX7_init 20 = .ok (.newarray .long, 2) := by decide +kernel
theorem dX7_init_22 : decode cX7_init 22 = .ok (.putfield 17, 3) := by decide +kernel
theorem dX7_init_25 : decode cX7_init 25 = .ok (.aload_n 0, 1) := by decide +kernel
theorem dX7_init_26 : decode cX7_init 26 = .ok (.bipush 60, 2) := by decide +kernel
theorem dX7_init_28 : decode cX7_init 28 = .ok (.newarray .char, 2) := by decide +kernel
theorem dX7_init_30 : decode cX7_init 30 = .ok (.putfield 20, 3) := by decide +kernel
theorem dX7_init_33 : decode cX7_init 33 = .ok (.aload_n 0, 1) := by decide +kernel
theorem dX7_init_34 : decode cX7_init 34 = .ok (.sipush 1024, 3) := by decide +kernel
theorem dX7_init_37 : decode cX7_init 37 = .ok (.newarray .long, 2) := by decide +kernel
theorem dX7_init_39 : decode cX7_init 39 = .ok (.putfield 24, 3) := by decide +kernel
theorem dX7_init_42 : decode cX7_init 42 = .ok (.aload_n 0, 1) := by decide +kernel
theorem dX7_init_43 : decode cX7_init 43 = .ok (.bipush 8, 2) := by decide +kernel
theorem dX7_init_45 : decode cX7_init 45 = .ok (.newarray .long, 2) := by decide +kernel
theorem dX7_init_47 : decode cX7_init 47 = .ok (.putfield 27, 3) := by decide +kernel
theorem dX7_init_50 : decode cX7_init 50 = .ok (.return_, 1) := by decide +kernel
theorem dX7_in_0 : decode cX7_in 0 = .ok (.iload_n 0, 1) := by decide +kernel
theorem dX7_in_1 : decode cX7_in 1 = .ok (.iload_n 1, 1) := by decide +kernel
theorem dX7_in_2 : decode cX7_in 2 = .ok (.if_icmp .lt 12, 3) := by decide +kernel
theorem dX7_in_5 : decode cX7_in 5 = .ok (.iload_n 0, 1) := by decide +kernel
theorem dX7_in_6 : decode cX7_in 6 = .ok (.iload_n 2, 1) := by decide +kernel
theorem dX7_in_7 : decode cX7_in 7 = .ok (.if_icmp .gt 7, 3) := by decide +kernel
theorem dX7_in_10 : decode cX7_in 10 = .ok (.iconst 1, 1) := by decide +kernel
theorem dX7_in_11 : decode cX7_in 11 = .ok (.goto 4, 3) := by decide +kernel
theorem dX7_in_14 : decode cX7_in 14 = .ok (.iconst 0, 1) := by decide +kernel
theorem dX7_in_15 : decode cX7_in 15 = .ok (.ireturn, 1) := by decide +kernel
set_option maxRecDepth 20000 in
theorem ggX7_isRegister_X7_in : GoodIn wsX7_isRegister wsX7_in := goodIn_r _ [4] (by decide +kernel) (by decide +kernel)
set_option maxRecDepth 20000 in
theorem gX7_isRegister_X7_in : GoodIn wsX7_isRegister (va_wsS RX7 30 yX7_in wsX7_in) := goodIn_app (goodIn_of _ (by decide +kernel)) ggX7_isRegister_X7_in
theorem dX7_isRegister_0 : decode cX7_isRegister 0 = .ok (.iload_n 0, 1) := by decide +kernel
theorem dX7_isRegister_1 : decode cX7_isRegister 1 = .ok (.iconst 0, 1) := by decide +kernel
theorem dX7_isRegister_2 : decode cX7_isRegister 2 = .ok (.bipush 7, 2) := by decide +kernel
theorem dX7_isRegister_4 : decode cX7_isRegister 4 = .ok (.invokestatic 30, 3) := by decide +kernel
theorem dX7_isRegister_7 : decode cX7_isRegister 7 = .ok (.ireturn, 1) := by decide +kernel
set_option maxRecDepth 20000 in
theorem ggX7_isVariable_X7_in : GoodIn wsX7_isVariable wsX7_in := goodIn_r _ [5] (by decide +kernel) (by decide +kernel)
set_option maxRecDepth 20000 in
theorem gX7_isVariable_X7_in : GoodIn wsX7_isVariable (va_wsS RX7 30 yX7_in wsX7_in) := goodIn_app (goodIn_of _ (by decide +kernel)) ggX7_isVariable_X7_in
theorem dX7_isVariable_0 : decode cX7_isVariable 0 = .ok (.iload_n 1, 1) := by decide +kernel
theorem dX7_isVariable_1 : decode cX7_isVariable 1 = .ok (.iconst 0, 1) := by decide +kernel
theorem dX7_isVariable_2 : decode cX7_isVariable 2 = .ok (.aload_n 0, 1) := by decide +kernel
theorem dX7_isVariable_3 : decode cX7_isVariable 3 = .ok (.getfield 7, 3) := by decide +kernel
theorem dX7_isVariable_6 : decode cX7_isVariable 6 = .ok (.iconst 1, 1) := by decide +kernel
theorem dX7_isVariable_7 : decode cX7_isVariable 7 = .ok (.isub, 1) := by decide +kernel
theorem dX7_isVariable_8 : decode cX7_isVariable 8 = .ok (.invokestatic 30, 3) := by decide +kernel
theorem dX7_isVariable_11 : decode cX7_isVariable 11 = .ok (.ireturn, 1) := by decide +kernel
set_option maxRecDepth 20000 in
theorem ggX7_isMask_X7_in : GoodIn wsX7_isMask wsX7_in := goodIn_r _ [5] (by decide +kernel) (by decide +kernel)
set_option maxRecDepth 20000 in
theorem gX7_isMask_X7_in : GoodIn wsX7_isMask (va_wsS RX7 30 yX7_in wsX7_in) := goodIn_app (goodIn_of _ (by decide +kernel)) ggX7_isMask_X7_in
theorem dX7_isMask_0 : decode cX7_isMask 0 = .ok (.iload_n 1, 1) := by decide +kernel
theorem dX7_isMask_1 : decode cX7_isMask 1 = .ok (.iconst 0, 1) := by decide +kernel
theorem dX7_isMask_2 : decode cX7_isMask 2 = .ok (.iconst 1, 1) := by decide +kernel
theorem dX7_isMask_3 : decode cX7_isMask 3 = .ok (.aload_n 0, 1) := by decide +kernel
theorem dX7_isMask_4 : decode cX7_isMask 4 = .ok (.getfield 7, 3) := by decide +kernel
theorem dX7_isMask_7 : decode cX7_isMask 7 = .ok (.ishl, 1) := by decide +kernel
theorem dX7_isMask_8 : decode cX7_isMask 8 = .ok (.iconst 1, 1) := by decide +kernel
theorem dX7_isMask_9 : decode cX7_isMask 9 = .ok (.isub, 1) := by decide +kernel
theorem dX7_isMask_10 : decode cX7_isMask 10 = .ok (.invokestatic 30, 3) := by decide +kernel
theorem dX7_isMask_13 : decode cX7_isMask 13 = .ok (.ireturn, 1) := by decide +kernel
set_option maxRecDepth 20000 in
theorem ggX7_isOrder_X7_in : GoodIn wsX7_isOrder wsX7_in := goodIn_r _ [4] (by decide +kernel) (by decide +kernel)
set_option maxRecDepth 20000 in
theorem gX7_isOrder_X7_in : GoodIn wsX7_isOrder (va_wsS RX7 30 yX7_in wsX7_in) := goodIn_app (goodIn_of _ (by decide +kernel)) ggX7_isOrder_X7_in
theorem dX7_isOrder_0 : decode cX7_isOrder 0 = .ok (.iload_n 0, 1) := by decide +kernel
theorem dX7_isOrder_1 : decode cX7_isOrder 1 = .ok (.iconst 0, 1) := by decide +kernel
theorem dX7_isOrder_2 : decode cX7_isOrder 2 = .ok (.iconst 2, 1) := by decide +kernel
theorem dX7_isOrder_3 : decode cX7_isOrder 3 = .ok (.invokestatic 30, 3) := by decide +kernel
theorem dX7_isOrder_6 : decode cX7_isOrder 6 = .ok (.ireturn, 1) := by decide +kernel
set_option maxRecDepth 20000 in
theorem ggX7_isSet_X7_in : GoodIn wsX7_isSet wsX7_in := goodIn_r _ [4] (by decide +kernel) (by decide +kernel)
set_option maxRecDepth 20000 in
theorem gX7_isSet_X7_in : GoodIn wsX7_isSet (va_wsS RX7 30 yX7_in wsX7_in) := goodIn_app (goodIn_of _ (by decide +kernel)) ggX7_isSet_X7_in
theorem dX7_isSet_0 : decode cX7_isSet 0 = .ok (.iload_n 0, 1) := by decide +kernel
theorem dX7_isSet_1 : decode cX7_isSet 1 = .ok (.iconst 0, 1) := by decide +kernel
theorem dX7_isSet_2 : decode cX7_isSet 2 = .ok (.sipush 255, 3) := by decide +kernel
theorem dX7_isSet_5 : decode cX7_isSet 5 = .ok (.invokestatic 30, 3) := by decide +kernel
theorem dX7_isSet_8 : decode cX7_isSet 8 = .ok (.ireturn, 1) := by decide +kernel
theorem dX7_has1_0 : decode cX7_has1 0 = .ok (.lload_n 0, 1) := by decide +kernel
theorem dX7_has1_1 : decode cX7_has1 1 = .ok (.iload_n 2, 1) := by decide +kernel
theorem dX7_has1_2 : decode cX7_has1 2 = .ok (.lshr, 1) := by decide +kernel
theorem dX7_has1_3 : decode cX7_has1 3 = .ok (.lconst 1, 1) := by decide +kernel
theorem dX7_has1_4 : decode cX7_has1 4 = .ok (.land, 1) := by decide +kernel
theorem dX7_has1_5 : decode cX7_has1 5 = .ok (.lconst 1, 1) := by decide +kernel
theorem dX7_has1_6 : decode cX7_has1 6 = .ok (.lcmp, 1) := by decide +kernel
theorem dX7_has1_7 : decode cX7_has1 7 = .ok (.ifCond .ne 7, 3) := by decide +kernel
theorem dX7_has1_10 : decode cX7_has1 10 = .ok (.iconst 1, 1) := by decide +kernel
theorem dX7_has1_11 : decode cX7_has1 11 = .ok (.goto 4, 3) := by decide +kernel
theorem dX7_has1_14 : decode cX7_has1 14 = .ok (.iconst 0, 1) := by decide +kernel
theorem dX7_has1_15 : decode cX7_has1 15 = .ok (.ireturn, 1) := by decide +kernel
theorem dX7_many_0 : decode cX7_many 0 = .ok (.iconst 0, 1) := by decide +kernel
theorem dX7_many_1 : decode cX7_many 1 = .ok (.istore_n 2, 1) := by decide +kernel
theorem dX7_many_2 : decode cX7_many 2 = .ok (.lload_n 0, 1) := by decide +kernel
theorem dX7_many_3 : decode cX7_many 3 = .ok (.lstore_n 3, 1) := by decide +kernel
theorem dX7_many_4 : decode cX7_many 4 = .ok (.lload_n 3, 1) := by decide +kernel
theorem dX7_many_5 : decode cX7_many 5 = .ok (.lconst 0, 1) := by decide +kernel
theorem dX7_many_6 : decode cX7_many 6 = .ok (.lcmp, 1) := by decide +kernel
theorem dX7_many_7 : decode cX7_many 7 = .ok (.ifCond .eq 15, 3) := by decide +kernel
theorem dX7_many_10 : decode cX7_many 10 = .ok (.iinc 2 1, 3) := by decide +kernel
theorem dX7_many_13 : decode cX7_many 13 = .ok (.lload_n 3, 1) := by decide +kernel
theorem dX7_many_14 : decode cX7_many 14 = .ok (.lload_n 3, 1) := by decide +kernel
theorem dX7_many_15 : decode cX7_many 15 = .ok (.lconst 1, 1) := by decide +kernel
theorem dX7_many_16 : decode cX7_many 16 = .ok (.lsub, 1) := by decide +kernel
theorem dX7_many_17 : decode cX7_many 17 = .ok (.land, 1) := by decide +kernel
theorem dX7_many_18 : decode cX7_many 18 = .ok (.lstore_n 3, 1) := by decide +kernel
theorem dX7_many_19 : decode cX7_many 19 = .ok (.goto (-15), 3) := by decide +kernel
theorem dX7_many_22 : decode cX7_many 22 = .ok (.iload_n 2, 1) := by decide +kernel
theorem dX7_many_23 : decode cX7_many 23 = .ok (.ireturn, 1) := by decide +kernel
theorem dX7_records_0 : decode cX7_records 0 = .ok (.aload_n 0, 1) := by decide +kernel
theorem dX7_records_1 : decode cX7_records 1 = .ok (.getfield 34, 3) := by decide +kernel
theorem dX7_records_4 : decode cX7_records 4 = .ok (.bipush 6, 2) := by decide +kernel
theorem dX7_records_6 : decode cX7_records 6 = .ok (.if_icmp .ne 42, 3) := by decide +kernel
theorem dX7_records_9 : decode cX7_records 9 = .ok (.iconst 0, 1) := by decide +kernel
theorem dX7_records_10 : decode cX7_records 10 = .ok (.istore_n 1, 1) := by decide +kernel
theorem dX7_records_11 : decode cX7_records 11 = .ok (.iload_n 1, 1) := by decide +kernel
theorem dX7_records_12 : decode cX7_records 12 = .ok (.bipush 40, 2) := by decide +kernel
theorem dX7_records_14 : decode cX7_records 14 = .ok (.if_icmp .ge 24, 3) := by decide +kernel
theorem dX7_records_17 : decode cX7_records 17 = .ok (.aload_n 0, 1) := by decide +kernel
theorem dX7_records_18 : decode cX7_records 18 = .ok (.getfield 17, 3) := by decide +kernel
theorem dX7_records_21 : decode cX7_records 21 = .ok (.iload_n 1, 1) := by decide +kernel
theorem dX7_records_22 : decode cX7_records 22 = .ok (.aload_n 0, 1) := by decide +kernel
theorem dX7_records_23 : decode cX7_records 23 = .ok (.getfield 17, 3) := by decide +kernel
theorem dX7_records_26 : decode cX7_records 26 = .ok (.iload_n 1, 1) := by decide +kernel
theorem dX7_records_27 : decode cX7_records 27 = .ok (.bipush 8, 2) := by decide +kernel
theorem dX7_records_29 : decode cX7_records 29 = .ok (.iadd, 1) := by decide +kernel
theorem dX7_records_30 : decode cX7_records 30 = .ok (.laload, 1) := by decide +kernel
theorem dX7_records_31 : decode cX7_records 31 = .ok (.lastore, 1) := by decide +kernel
theorem dX7_records_32 : decode cX7_records 32 = .ok (.iinc 1 1, 3) := by decide +kernel
theorem dX7_records_35 : decode cX7_records 35 = .ok (.goto (-24), 3) := by decide +kernel
theorem dX7_records_38 : decode cX7_records 38 = .ok (.aload_n 0, 1) := by decide +kernel
theorem dX7_records_39 : decode cX7_records 39 = .ok (.dup, 1) := by decide +kernel
theorem dX7_records_40 : decode cX7_records 40 = .ok (.getfield 34, 3) := by decide +kernel
theorem dX7_records_43 : decode cX7_records 43 = .ok (.iconst 1, 1) := by decide +kernel
theorem dX7_records_44 : decode cX7_records 44 = .ok (.isub, 1) := by decide +kernel
theorem dX7_records_45 : decode cX7_records 45 = .ok (.putfield 34, 3) := by decide +kernel
theorem dX7_records_48 : decode cX7_records 48 = .ok (.iconst 0, 1) := by decide +kernel
theorem dX7_records_49 : decode cX7_records 49 = .ok (.istore_n 1, 1) := by decide +kernel
theorem dX7_records_50 : decode cX7_records 50 = .ok (.iload_n 1, 1) := by decide +kernel
theorem dX7_records_51 : decode cX7_records 51 = .ok (.bipush 8, 2) := by decide +kernel
theorem dX7_records_53 : decode cX7_records 53 = .ok (.if_icmp .ge 29, 3) := by decide +kernel
theorem dX7_records_56 : decode cX7_records 56 = .ok (.aload_n 0, 1) := by decide +kernel
theorem dX7_records_57 : decode cX7_records 57 = .ok (.getfield 17, 3) := by decide +kernel
theorem dX7_records_60 : decode cX7_records 60 = .ok (.bipush 8, 2) := by decide +kernel
theorem dX7_records_62 : decode cX7_records 62 = .ok (.aload_n 0, 1) := by decide +kernel
theorem dX7_records_63 : decode cX7_records 63 = .ok (.getfield 34, 3) := by decide +kernel
theorem dX7_records_66 : decode cX7_records 66 = .ok (.imul, 1) := by decide +kernel
theorem dX7_records_67 : decode cX7_records 67 = .ok (.iload_n 1, 1) := by decide +kernel
theorem dX7_records_68 : decode cX7_records 68 = .ok (.iadd, 1) := by decide +kernel
theorem dX7_records_69 : decode cX7_records 69 = .ok (.aload_n 0, 1) := by decide +kernel
theorem dX7_records_70 : decode cX7_records 70 = .ok (.getfield 13, 3) := by decide +kernel
theorem dX7_records_73 : decode cX7_records 73 = .ok (.iload_n 1, 1) := by decide +kernel
theorem dX7_records_74 : decode cX7_records 74 = .ok (.laload, 1) := by decide +kernel
theorem dX7_records_75 : decode cX7_records 75 = .ok (.lastore, 1) := by decide +kernel
theorem dX7_records_76 : decode cX7_records 76 = .ok (.iinc 1 1, 3) := by decide +kernel
theorem dX7_records_79 : decode cX7_records 79 = .ok (.goto (-29), 3) := by decide +kernel
theorem dX7_records_82 : decode cX7_records 82 = .ok (.aload_n 0, 1) := by decide +kernel
theorem dX7_records_83 : decode cX7_records 83 = .ok (.dup, 1) := by decide +kernel
theorem dX7_records_84 : decode cX7_records 84 = .ok (.getfield 34, 3) := by decide +kernel
theorem dX7_records_87 : decode cX7_records 87 = .ok (.iconst 1, 1) := by decide +kernel
theorem dX7_records_88 : decode cX7_records 88 = .ok (.iadd, 1) := by decide +kernel
theorem dX7_records_89 : decode cX7_records 89 = .ok (.putfield 34, 3) := by decide +kernel
theorem dX7_records_92 : decode cX7_records 92 = .ok (.return_, 1) := by decide +kernel
set_option maxRecDepth 20000 in
theorem ggX7_gets_X7_records : GoodIn wsX7_gets wsX7_records := goodIn_r _ [6, 7, 8, 1, 12, 13, 14, 15, 16, 17, 18, 19, 20] (by decide +kernel) (by decide +kernel)
set_option maxRecDepth 20000 in
theorem gX7_gets_X7_records : GoodIn wsX7_gets (wsV RX7 37 RX7 yX7_records wsX7_records) := goodIn_app (goodIn_of _ (by decide +kernel)) ggX7_gets_X7_records
set_option maxRecDepth 20000 in
theorem ggX7_gets_X7_many : GoodIn wsX7_gets wsX7_many := goodIn_r _ [11] (by decide +kernel) (by decide +kernel)
set_option maxRecDepth 20000 in
theorem gX7_gets_X7_many : GoodIn wsX7_gets (va_wsS RX7 40 yX7_many wsX7_many) := goodIn_app (goodIn_of _ (by decide +kernel)) ggX7_gets_X7_many
theorem dX7_gets_0 : decode cX7_gets 0 = .ok (.aload_n 0, 1) := by decide +kernel
theorem dX7_gets_1 : decode cX7_gets 1 = .ok (.invokevirtual 37, 3) := by decide +kernel
theorem dX7_gets_4 : decode cX7_gets 4 = .ok (.aload_n 0, 1) := by decide +kernel
theorem dX7_gets_5 : decode cX7_gets 5 = .ok (.getfield 13, 3) := by decide +kernel
theorem dX7_gets_8 : decode cX7_gets 8 = .ok (.iload_n 1, 1) := by decide +kernel
theorem dX7_gets_9 : decode cX7_gets 9 = .ok (.lload_n 2, 1) := by decide +kernel
theorem dX7_gets_10 : decode cX7_gets 10 = .ok (.lastore, 1) := by decide +kernel
theorem dX7_gets_11 : decode cX7_gets 11 = .ok (.lload_n 2, 1) := by decide +kernel
theorem dX7_gets_12 : decode cX7_gets 12 = .ok (.invokestatic 40, 3) := by decide +kernel
theorem dX7_gets_15 : decode cX7_gets 15 = .ok (.ireturn, 1) := by decide +kernel
set_option maxRecDepth 20000 in
theorem ggX7_product1_X7_has1 : GoodIn wsX7_product1 wsX7_has1 := goodIn_r _ [5] (by decide +kernel) (by decide +kernel)
set_option maxRecDepth 20000 in
theorem gX7_product1_X7_has1 : GoodIn wsX7_product1 (va_wsS RX7 44 yX7_has1 wsX7_has1) := goodIn_app (goodIn_of _ (by decide +kernel)) ggX7_product1_X7_has1
theorem dX7_product1_0 : decode cX7_product1 0 = .ok (.lconst 0, 1) := by decide +kernel
theorem dX7_product1_1 : decode cX7_product1 1 = .ok (.lstore 5, 2) := by decide +kernel
theorem dX7_product1_3 : decode cX7_product1 3 = .ok (.iconst 0, 1) := by decide +kernel
theorem dX7_product1_4 : decode cX7_product1 4 = .ok (.istore 7, 2) := by decide +kernel
theorem dX7_product1_6 : decode cX7_product1 6 = .ok (.iload 7, 2) := by decide +kernel
theorem dX7_product1_8 : decode cX7_product1 8 = .ok (.iconst 1, 1) := by decide +kernel
theorem dX7_product1_9 : decode cX7_product1 9 = .ok (.aload_n 0, 1) := by decide +kernel
theorem dX7_product1_10 : decode cX7_product1 10 = .ok (.getfield 7, 3) := by decide +kernel
theorem dX7_product1_13 : decode cX7_product1 13 = .ok (.ishl, 1) := by decide +kernel
theorem dX7_product1_14 : decode cX7_product1 14 = .ok (.if_icmp .ge 63, 3) := by decide +kernel
theorem dX7_product1_17 : decode cX7_product1 17 = .ok (.iconst 0, 1) := by decide +kernel
theorem dX7_product1_18 : decode cX7_product1 18 = .ok (.istore 8, 2) := by decide +kernel
theorem dX7_product1_20 : decode cX7_product1 20 = .ok (.iload 8, 2) := by decide +kernel
theorem dX7_product1_22 : decode cX7_product1 22 = .ok (.iconst 1, 1) := by decide +kernel
theorem dX7_product1_23 : decode cX7_product1 23 = .ok (.aload_n 0, 1) := by decide +kernel
theorem dX7_product1_24 : decode cX7_product1 24 = .ok (.getfield 7, 3) := by decide +kernel
theorem dX7_product1_27 : decode cX7_product1 27 = .ok (.ishl, 1) := by decide +kernel
theorem dX7_product1_28 : decode cX7_product1 28 = .ok (.if_icmp .ge 43, 3) := by decide +kernel
theorem dX7_product1_31 : decode cX7_product1 31 = .ok (.lload_n 1, 1) := by decide +kernel
theorem dX7_product1_32 : decode cX7_product1 32 = .ok (.iload 7, 2) := by decide +kernel
theorem dX7_product1_34 : decode cX7_product1 34 = .ok (.invokestatic 44, 3) := by decide +kernel
theorem dX7_product1_37 : decode cX7_product1 37 = .ok (.ifCond .eq 34, 3) := by decide +kernel
theorem dX7_product1_40 : decode cX7_product1 40 = .ok (.lload 5, 2) := by decide +kernel
theorem dX7_product1_42 : decode cX7_product1 42 = .ok (.lload_n 3, 1) := by decide +kernel
theorem dX7_product1_43 : decode cX7_product1 43 = .ok (.iload 8, 2) := by decide +kernel
theorem dX7_product1_45 : decode cX7_product1 45 = .ok (.invokestatic 44, 3) := by decide +kernel
theorem dX7_product1_48 : decode cX7_product1 48 = .ok (.ifCond .eq 13, 3) := by decide +kernel
theorem dX7_product1_51 : decode cX7_product1 51 = .ok (.lconst 1, 1) := by decide +kernel
theorem dX7_product1_52 : decode cX7_product1 52 = .ok (.iload 7, 2) := by decide +kernel
theorem dX7_product1_54 : decode cX7_product1 54 = .ok (.iload 8, 2) := by decide +kernel
theorem dX7_product1_56 : decode cX7_product1 56 = .ok (.ior, 1) := by decide +kernel
theorem dX7_product1_57 : decode cX7_product1 57 = .ok (.lshl, 1) := by decide +kernel
theorem dX7_product1_58 : decode cX7_product1 58 = .ok (.goto 4, 3) := by decide +kernel
theorem dX7_product1_61 : decode cX7_product1 61 = .ok (.lconst 0, 1) := by decide +kernel
theorem dX7_product1_62 : decode cX7_product1 62 = .ok (.lxor, 1) := by decide +kernel
theorem dX7_product1_63 : decode cX7_product1 63 = .ok (.lstore 5, 2) := by decide +kernel
theorem dX7_product1_65 : decode cX7_product1 65 = .ok (.iinc 8 1, 3) := by decide +kernel
theorem dX7_product1_68 : decode cX7_product1 68 = .ok (.goto (-48), 3) := by decide +kernel
theorem dX7_product1_71 : decode cX7_product1 71 = .ok (.iinc 7 1, 3) := by decide +kernel
theorem dX7_product1_74 : decode cX7_product1 74 = .ok (.goto (-68), 3) := by decide +kernel
theorem dX7_product1_77 : decode cX7_product1 77 = .ok (.lload 5, 2) := by decide +kernel
theorem dX7_product1_79 : decode cX7_product1 79 = .ok (.lreturn, 1) := by decide +kernel
set_option maxRecDepth 20000 in
theorem ggX7_upper_X7_has1 : GoodIn wsX7_upper wsX7_has1 := goodIn_r _ [5] (by decide +kernel) (by decide +kernel)
set_option maxRecDepth 20000 in
theorem gX7_upper_X7_has1 : GoodIn wsX7_upper (va_wsS RX7 44 yX7_has1 wsX7_has1) := goodIn_app (goodIn_of _ (by decide +kernel)) ggX7_upper_X7_has1
theorem dX7_upper_0 : decode cX7_upper 0 = .ok (.lconst 0, 1) := by decide +kernel
theorem dX7_upper_1 : decode cX7_upper 1 = .ok (.lstore 4, 2) := by decide +kernel
theorem dX7_upper_3 : decode cX7_upper 3 = .ok (.iconst 0, 1) := by decide +kernel
theorem dX7_upper_4 : decode cX7_upper 4 = .ok (.istore 6, 2) := by decide +kernel
theorem dX7_upper_6 : decode cX7_upper 6 = .ok (.iload 6, 2) := by decide +kernel
theorem dX7_upper_8 : decode cX7_upper 8 = .ok (.iconst 1, 1) := by decide +kernel
theorem dX7_upper_9 : decode cX7_upper 9 = .ok (.aload_n 0, 1) := by decide +kernel
theorem dX7_upper_10 : decode cX7_upper 10 = .ok (.getfield 7, 3) := by decide +kernel
theorem dX7_upper_13 : decode cX7_upper 13 = .ok (.ishl, 1) := by decide +kernel
theorem dX7_upper_14 : decode cX7_upper 14 = .ok (.if_icmp .ge 45, 3) := by decide +kernel
theorem dX7_upper_17 : decode cX7_upper 17 = .ok (.lload 4, 2) := by decide +kernel
theorem dX7_upper_19 : decode cX7_upper 19 = .ok (.lload_n 1, 1) := by decide +kernel
theorem dX7_upper_20 : decode cX7_upper 20 = .ok (.iload 6, 2) := by decide +kernel
theorem dX7_upper_22 : decode cX7_upper 22 = .ok (.invokestatic 44, 3) := by decide +kernel
theorem dX7_upper_25 : decode cX7_upper 25 = .ok (.ifCond .eq 24, 3) := by decide +kernel
theorem dX7_upper_28 : decode cX7_upper 28 = .ok (.iload 6, 2) := by decide +kernel
theorem dX7_upper_30 : decode cX7_upper 30 = .ok (.iload_n 3, 1) := by decide +kernel
theorem dX7_upper_31 : decode cX7_upper 31 = .ok (.ishr, 1) := by decide +kernel
theorem dX7_upper_32 : decode cX7_upper 32 = .ok (.iconst 1, 1) := by decide +kernel
theorem dX7_upper_33 : decode cX7_upper 33 = .ok (.iand, 1) := by decide +kernel
theorem dX7_upper_34 : decode cX7_upper 34 = .ok (.iconst 1, 1) := by decide +kernel
theorem dX7_upper_35 : decode cX7_upper 35 = .ok (.if_icmp .ne 14, 3) := by decide +kernel
theorem dX7_upper_38 : decode cX7_upper 38 = .ok (.lconst 1, 1) := by decide +kernel
theorem dX7_upper_39 : decode cX7_upper 39 = .ok (.iload 6, 2) := by decide +kernel
theorem dX7_upper_41 : decode cX7_upper 41 = .ok (.iconst 1, 1) := by decide +kernel
theorem dX7_upper_42 : decode cX7_upper 42 = .ok (.iload_n 3, 1) := by decide +kernel
theorem dX7_upper_43 : decode cX7_upper 43 = .ok (.ishl, 1) := by decide +kernel
theorem dX7_upper_44 : decode cX7_upper 44 = .ok (.isub, 1) := by decide +kernel
theorem dX7_upper_45 : decode cX7_upper 45 = .ok (.lshl, 1) := by decide +kernel
theorem dX7_upper_46 : decode cX7_upper 46 = .ok (.goto 4, 3) := by decide +kernel
theorem dX7_upper_49 : decode cX7_upper 49 = .ok (.lconst 0, 1) := by decide +kernel
theorem dX7_upper_50 : decode cX7_upper 50 = .ok (.lor, 1) := by decide +kernel
theorem dX7_upper_51 : decode cX7_upper 51 = .ok (.lstore 4, 2) := by decide +kernel
theorem dX7_upper_53 : decode cX7_upper 53 = .ok (.iinc 6 1, 3) := by decide +kernel
theorem dX7_upper_56 : decode cX7_upper 56 = .ok (.goto (-50), 3) := by decide +kernel
theorem dX7_upper_59 : decode cX7_upper 59 = .ok (.lload 4, 2) := by decide +kernel
theorem dX7_upper_61 : decode cX7_upper 61 = .ok (.lreturn, 1) := by decide +kernel
set_option maxRecDepth 20000 in
theorem ggX7_lower_X7_has1 : GoodIn wsX7_lower wsX7_has1 := goodIn_r _ [5] (by decide +kernel) (by decide +kernel)
set_option maxRecDepth 20000 in
theorem gX7_lower_X7_has1 : GoodIn wsX7_lower (va_wsS RX7 44 yX7_has1 wsX7_has1) := goodIn_app (goodIn_of _ (by decide +kernel)) ggX7_lower_X7_has1
theorem dX7_lower_0 : decode cX7_lower 0 = .ok (.lconst 0, 1) := by decide +kernel
theorem dX7_lower_1 : decode cX7_lower 1 = .ok (.lstore 4, 2) := by decide +kernel
theorem dX7_lower_3 : decode cX7_lower 3 = .ok (.iconst 0, 1) := by decide +kernel
theorem dX7_lower_4 : decode cX7_lower 4 = .ok (.istore 6, 2) := by decide +kernel
theorem dX7_lower_6 : decode cX7_lower 6 = .ok (.iload 6, 2) := by decide +kernel
theorem dX7_lower_8 : decode cX7_lower 8 = .ok (.iconst 1, 1) := by decide +kernel
theorem dX7_lower_9 : decode cX7_lower 9 = .ok (.aload_n 0, 1) := by decide +kernel
theorem dX7_lower_10 : decode cX7_lower 10 = .ok (.getfield 7, 3) := by decide +kernel
theorem dX7_lower_13 : decode cX7_lower 13 = .ok (.ishl, 1) := by decide +kernel
theorem dX7_lower_14 : decode cX7_lower 14 = .ok (.if_icmp .ge 40, 3) := by decide +kernel
theorem dX7_lower_17 : decode cX7_lower 17 = .ok (.lload 4, 2) := by decide +kernel
theorem dX7_lower_19 : decode cX7_lower 19 = .ok (.lload_n 1, 1) := by decide +kernel
theorem dX7_lower_20 : decode cX7_lower 20 = .ok (.iload 6, 2) := by decide +kernel
theorem dX7_lower_22 : decode cX7_lower 22 = .ok (.invokestatic 44, 3) := by decide +kernel
theorem dX7_lower_25 : decode cX7_lower 25 = .ok (.ifCond .eq 19, 3) := by decide +kernel
theorem dX7_lower_28 : decode cX7_lower 28 = .ok (.iload 6, 2) := by decide +kernel
theorem dX7_lower_30 : decode cX7_lower 30 = .ok (.iload_n 3, 1) := by decide +kernel
theorem dX7_lower_31 : decode cX7_lower 31 = .ok (.ishr, 1) := by decide +kernel
theorem dX7_lower_32 : decode cX7_lower 32 = .ok (.iconst 1, 1) := by decide +kernel
theorem dX7_lower_33 : decode cX7_lower 33 = .ok (.iand, 1) := by decide +kernel
theorem dX7_lower_34 : decode cX7_lower 34 = .ok (.ifCond .ne 10, 3) := by decide +kernel
theorem dX7_lower_37 : decode cX7_lower 37 = .ok (.lconst 1, 1) := by decide +kernel
theorem dX7_lower_38 : decode cX7_lower 38 = .ok (.iload 6, 2) := by decide +kernel
theorem dX7_lower_40 : decode cX7_lower 40 = .ok (.lshl, 1) := by decide +kernel
theorem dX7_lower_41 : decode cX7_lower 41 = .ok (.goto 4, 3) := by decide +kernel
theorem dX7_lower_44 : decode cX7_lower 44 = .ok (.lconst 0, 1) := by decide +kernel
theorem dX7_lower_45 : decode cX7_lower 45 = .ok (.lor, 1) := by decide +kernel
theorem dX7_lower_46 : decode cX7_lower 46 = .ok (.lstore 4, 2) := by decide +kernel
theorem dX7_lower_48 : decode cX7_lower 48 = .ok (.iinc 6 1, 3) := by decide +kernel
theorem dX7_lower_51 : decode cX7_lower 51 = .ok (.goto (-45), 3) := by decide +kernel
theorem dX7_lower_54 : decode cX7_lower 54 = .ok (.lload 4, 2) := by decide +kernel
theorem dX7_lower_56 : decode cX7_lower 56 = .ok (.lreturn, 1) := by decide +kernel
set_option maxRecDepth 20000 in
theorem ggX7_values_X7_has1 : GoodIn wsX7_values wsX7_has1 := goodIn_r _ [5] (by decide +kernel) (by decide +kernel)
set_option maxRecDepth 20000 in
theorem gX7_values_X7_has1 : GoodIn wsX7_values (va_wsS RX7 44 yX7_has1 wsX7_has1) := goodIn_app (goodIn_of _ (by decide +kernel)) ggX7_values_X7_has1
theorem dX7_values_0 : decode cX7_values 0 = .ok (.lload_n 1, 1) := by decide +kernel
theorem dX7_values_1 : decode cX7_values 1 = .ok (.lstore_n 3, 1) := by decide +kernel
theorem dX7_values_2 : decode cX7_values 2 = .ok (.iconst 0, 1) := by decide +kernel
theorem dX7_values_3 : decode cX7_values 3 = .ok (.istore 5, 2) := by decide +kernel
theorem dX7_values_5 : decode cX7_values 5 = .ok (.iload 5, 2) := by decide +kernel
theorem dX7_values_7 : decode cX7_values 7 = .ok (.aload_n 0, 1) := by decide +kernel
theorem dX7_values_8 : decode cX7_values 8 = .ok (.getfield 7, 3) := by decide +kernel
theorem dX7_values_11 : decode cX7_values 11 = .ok (.if_icmp .ge 61, 3) := by decide +kernel
theorem dX7_values_14 : decode cX7_values 14 = .ok (.iconst 0, 1) := by decide +kernel
theorem dX7_values_15 : decode cX7_values 15 = .ok (.istore 6, 2) := by decide +kernel
theorem dX7_values_17 : decode cX7_values 17 = .ok (.iload 6, 2) := by decide +kernel
theorem dX7_values_19 : decode cX7_values 19 = .ok (.iconst 1, 1) := by decide +kernel
theorem dX7_values_20 : decode cX7_values 20 = .ok (.aload_n 0, 1) := by decide +kernel
theorem dX7_values_21 : decode cX7_values 21 = .ok (.getfield 7, 3) := by decide +kernel
theorem dX7_values_24 : decode cX7_values 24 = .ok (.ishl, 1) := by decide +kernel
theorem dX7_values_25 : decode cX7_values 25 = .ok (.if_icmp .ge 41, 3) := by decide +kernel
theorem dX7_values_28 : decode cX7_values 28 = .ok (.iload 6, 2) := by decide +kernel
theorem dX7_values_30 : decode cX7_values 30 = .ok (.iload 5, 2) := by decide +kernel
theorem dX7_values_32 : decode cX7_values 32 = .ok (.ishr, 1) := by decide +kernel
theorem dX7_values_33 : decode cX7_values 33 = .ok (.iconst 1, 1) := by decide +kernel
theorem dX7_values_34 : decode cX7_values 34 = .ok (.iand, 1) := by decide +kernel
theorem dX7_values_35 : decode cX7_values 35 = .ok (.iconst 1, 1) := by decide +kernel
theorem dX7_values_36 : decode cX7_values 36 = .ok (.if_icmp .ne 24, 3) := by decide +kernel
theorem dX7_values_39 : decode cX7_values 39 = .ok (.lload_n 3, 1) := by decide +kernel
theorem dX7_values_40 : decode cX7_values 40 = .ok (.iload 6, 2) := by decide +kernel
theorem dX7_values_42 : decode cX7_values 42 = .ok (.iconst 1, 1) := by decide +kernel
theorem dX7_values_43 : decode cX7_values 43 = .ok (.iload 5, 2) := by decide +kernel
theorem dX7_values_45 : decode cX7_values 45 = .ok (.ishl, 1) := by decide +kernel
theorem dX7_values_46 : decode cX7_values 46 = .ok (.isub, 1) := by decide +kernel
theorem dX7_values_47 : decode cX7_values 47 = .ok (.invokestatic 44, 3) := by decide +kernel
theorem dX7_values_50 : decode cX7_values 50 = .ok (.ifCond .eq 10, 3) := by decide +kernel
theorem dX7_values_53 : decode cX7_values 53 = .ok (.lload_n 3, 1) := by decide +kernel
theorem dX7_values_54 : decode cX7_values 54 = .ok (.lconst 1, 1) := by decide +kernel
theorem dX7_values_55 : decode cX7_values 55 = .ok (.iload 6, 2) := by decide +kernel
theorem dX7_values_57 : decode cX7_values 57 = .ok (.lshl, 1) := by decide +kernel
theorem dX7_values_58 : decode cX7_values 58 = .ok (.lxor, 1) := by decide +kernel
theorem dX7_values_59 : decode cX7_values 59 = .ok (.lstore_n 3, 1) := by decide +kernel
theorem dX7_values_60 : decode cX7_values 60 = .ok (.iinc 6 1, 3) := by decide +kernel
theorem dX7_values_63 : decode cX7_values 63 = .ok (.goto (-46), 3) := by decide +kernel
theorem dX7_values_66 : decode cX7_values 66 = .ok (.iinc 5 1, 3) := by decide +kernel
theorem dX7_values_69 : decode cX7_values 69 = .ok (.goto (-64), 3) := by decide +kernel
theorem dX7_values_72 : decode cX7_values 72 = .ok (.lload_n 3, 1) := by decide +kernel
theorem dX7_values_73 : decode cX7_values 73 = .ok (.lreturn, 1) := by decide +kernel
set_option maxRecDepth 20000 in
theorem ggX7_occurs_X7_has1 : GoodIn wsX7_occurs wsX7_has1 := goodIn_r _ [5] (by decide +kernel) (by decide +kernel)
set_option maxRecDepth 20000 in
theorem gX7_occurs_X7_has1 : GoodIn wsX7_occurs (va_wsS RX7 44 yX7_has1 wsX7_has1) := goodIn_app (goodIn_of _ (by decide +kernel)) ggX7_occurs_X7_has1
theorem dX7_occurs_0 : decode cX7_occurs 0 = .ok (.iconst 0, 1) := by decide +kernel
theorem dX7_occurs_1 : decode cX7_occurs 1 = .ok (.istore_n 3, 1) := by decide +kernel
theorem dX7_occurs_2 : decode cX7_occurs 2 = .ok (.iconst 0, 1) := by decide +kernel
theorem dX7_occurs_3 : decode cX7_occurs 3 = .ok (.istore 4, 2) := by decide +kernel
theorem dX7_occurs_5 : decode cX7_occurs 5 = .ok (.iload 4, 2) := by decide +kernel
theorem dX7_occurs_7 : decode cX7_occurs 7 = .ok (.iconst 1, 1) := by decide +kernel
theorem dX7_occurs_8 : decode cX7_occurs 8 = .ok (.aload_n 0, 1) := by decide +kernel
theorem dX7_occurs_9 : decode cX7_occurs 9 = .ok (.getfield 7, 3) := by decide +kernel
theorem dX7_occurs_12 : decode cX7_occurs 12 = .ok (.ishl, 1) := by decide +kernel
theorem dX7_occurs_13 : decode cX7_occurs 13 = .ok (.if_icmp .ge 27, 3) := by decide +kernel
theorem dX7_occurs_16 : decode cX7_occurs 16 = .ok (.iload_n 3, 1) := by decide +kernel
theorem dX7_occurs_17 : decode cX7_occurs 17 = .ok (.lload_n 1, 1) := by decide +kernel
theorem dX7_occurs_18 : decode cX7_occurs 18 = .ok (.iload 4, 2) := by decide +kernel
theorem dX7_occurs_20 : decode cX7_occurs 20 = .ok (.invokestatic 44, 3) := by decide +kernel
theorem dX7_occurs_23 : decode cX7_occurs 23 = .ok (.ifCond .eq 8, 3) := by decide +kernel
theorem dX7_occurs_26 : decode cX7_occurs 26 = .ok (.iload 4, 2) := by decide +kernel
theorem dX7_occurs_28 : decode cX7_occurs 28 = .ok (.goto 4, 3) := by decide +kernel
theorem dX7_occurs_31 : decode cX7_occurs 31 = .ok (.iconst 0, 1) := by decide +kernel
theorem dX7_occurs_32 : decode cX7_occurs 32 = .ok (.ior, 1) := by decide +kernel
theorem dX7_occurs_33 : decode cX7_occurs 33 = .ok (.istore_n 3, 1) := by decide +kernel
theorem dX7_occurs_34 : decode cX7_occurs 34 = .ok (.iinc 4 1, 3) := by decide +kernel
theorem dX7_occurs_37 : decode cX7_occurs 37 = .ok (.goto (-32), 3) := by decide +kernel
theorem dX7_occurs_40 : decode cX7_occurs 40 = .ok (.iload_n 3, 1) := by decide +kernel
theorem dX7_occurs_41 : decode cX7_occurs 41 = .ok (.ireturn, 1) := by decide +kernel
set_option maxRecDepth 20000 in
theorem ggX7_reset_X7_in : GoodIn wsX7_reset wsX7_in := goodIn_r _ [7] (by decide +kernel) (by decide +kernel)
set_option maxRecDepth 20000 in
theorem gX7_reset_X7_in : GoodIn wsX7_reset (va_wsS RX7 30 yX7_in wsX7_in) := goodIn_app (goodIn_of _ (by decide +kernel)) ggX7_reset_X7_in
theorem dX7_reset_0 : decode cX7_reset 0 = .ok (.iload_n 1, 1) := by decide +kernel
theorem dX7_reset_1 : decode cX7_reset 1 = .ok (.iconst 1, 1) := by decide +kernel
theorem dX7_reset_2 : decode cX7_reset 2 = .ok (.bipush 6, 2) := by decide +kernel
theorem dX7_reset_4 : decode cX7_reset 4 = .ok (.invokestatic 30, 3) := by decide +kernel
theorem dX7_reset_7 : decode cX7_reset 7 = .ok (.ifCond .ne 5, 3) := by decide +kernel
theorem dX7_reset_10 : decode cX7_reset 10 = .ok (.iconst (-1), 1) := by decide +kernel
theorem dX7_reset_11 : decode cX7_reset 11 = .ok (.ireturn, 1) := by decide +kernel
theorem dX7_reset_12 : decode cX7_reset 12 = .ok (.aload_n 0, 1) := by decide +kernel
theorem dX7_reset_13 : decode cX7_reset 13 = .ok (.getfield 7, 3) := by decide +kernel
theorem dX7_reset_16 : decode cX7_reset 16 = .ok (.istore_n 2, 1) := by decide +kernel
theorem dX7_reset_17 : decode cX7_reset 17 = .ok (.aload_n 0, 1) := by decide +kernel
theorem dX7_reset_18 : decode cX7_reset 18 = .ok (.iload_n 1, 1) := by decide +kernel
theorem dX7_reset_19 : decode cX7_reset 19 = .ok (.putfield 7, 3) := by decide +kernel
theorem dX7_reset_22 : decode cX7_reset 22 = .ok (.aload_n 0, 1) := by decide +kernel
theorem dX7_reset_23 : decode cX7_reset 23 = .ok (.iconst 0, 1) := by decide +kernel
theorem dX7_reset_24 : decode cX7_reset 24 = .ok (.putfield 34, 3) := by decide +kernel
theorem dX7_reset_27 : decode cX7_reset 27 = .ok (.iconst 0, 1) := by decide +kernel
theorem dX7_reset_28 : decode cX7_reset 28 = .ok (.istore_n 3, 1) := by decide +kernel
theorem dX7_reset_29 : decode cX7_reset 29 = .ok (.iload_n 3, 1) := by decide +kernel
theorem dX7_reset_30 : decode cX7_reset 30 = .ok (.bipush 8, 2) := by decide +kernel
theorem dX7_reset_32 : decode cX7_reset 32 = .ok (.if_icmp .ge 16, 3) := by decide +kernel
theorem dX7_reset_35 : decode cX7_reset 35 = .ok (.aload_n 0, 1) := by decide +kernel
theorem dX7_reset_36 : decode cX7_reset 36 = .ok (.getfield 13, 3) := by decide +kernel
theorem dX7_reset_39 : decode cX7_reset 39 = .ok (.iload_n 3, 1) := by decide +kernel
theorem dX7_reset_40 : decode cX7_reset 40 = .ok (.lconst 0, 1) := by decide +kernel
theorem dX7_reset_41 : decode cX7_reset 41 = .ok (.lastore, 1) := by decide +kernel
theorem dX7_reset_42 : decode cX7_reset 42 = .ok (.iinc 3 1, 3) := by decide +kernel
theorem dX7_reset_45 : decode cX7_reset 45 = .ok (.goto (-16), 3) := by decide +kernel
theorem dX7_reset_48 : decode cX7_reset 48 = .ok (.iload_n 2, 1) := by decide +kernel
theorem dX7_reset_49 : decode cX7_reset 49 = .ok (.ireturn, 1) := by decide +kernel
theorem dX7_variables_0 : decode cX7_variables 0 = .ok (.aload_n 0, 1) := by decide +kernel
theorem dX7_variables_1 : decode cX7_variables 1 = .ok (.getfield 7, 3) := by decide +kernel
theorem dX7_variables_4 : decode cX7_variables 4 = .ok (.ireturn, 1) := by decide +kernel
set_option maxRecDepth 20000 in
theorem ggX7_toggle_X7_isRegister : GoodIn wsX7_toggle wsX7_isRegister := goodIn_r _ [5, 6, 7, 4, 8] (by decide +kernel) (by decide +kernel)
set_option maxRecDepth 20000 in
theorem gX7_toggle_X7_isRegister : GoodIn wsX7_toggle (va_wsS RX7 48 yX7_isRegister wsX7_isRegister) := goodIn_app (goodIn_of _ (by decide +kernel)) ggX7_toggle_X7_isRegister
set_option maxRecDepth 20000 in
theorem ggX7_toggle_X7_isMask : GoodIn wsX7_toggle wsX7_isMask := goodIn_r _ [12, 13, 6, 7, 4, 8, 27, 28, 29, 30, 31, 32, 33, 34, 35] (by decide +kernel) (by decide +kernel)
set_option maxRecDepth 20000 in
theorem gX7_toggle_X7_isMask : GoodIn wsX7_toggle (wsV RX7 52 RX7 yX7_isMask wsX7_isMask) := goodIn_app (goodIn_of _ (by decide +kernel)) ggX7_toggle_X7_isMask
set_option maxRecDepth 20000 in
theorem ggX7_toggle_X7_gets : GoodIn wsX7_toggle wsX7_gets := goodIn_r _ [17, 1, 18, 19, 20, 4, 21, 22, 23, 24, 25, 26, 27, 28, 29, 30, 31, 32, 33, 34, 35] (by decide +kernel) (by decide +kernel)
set_option maxRecDepth 20000 in
theorem gX7_toggle_X7_gets : GoodIn wsX7_toggle (wsV RX7 55 RX7 yX7_gets wsX7_gets) := goodIn_app (goodIn_of _ (by decide +kernel)) ggX7_toggle_X7_gets
theorem dX7_toggle_0 : decode cX7_toggle 0 = .ok (.iload_n 1, 1) := by decide +kernel
theorem dX7_toggle_1 : decode cX7_toggle 1 = .ok (.invokestatic 48, 3) := by decide +kernel
theorem dX7_toggle_4 : decode cX7_toggle 4 = .ok (.ifCond .eq 29, 3) := by decide +kernel
theorem dX7_toggle_7 : decode cX7_toggle 7 = .ok (.aload_n 0, 1) := by decide +kernel
theorem dX7_toggle_8 : decode cX7_toggle 8 = .ok (.iload_n 2, 1) := by decide +kernel
theorem dX7_toggle_9 : decode cX7_toggle 9 = .ok (.invokevirtual 52, 3) := by decide +kernel
theorem dX7_toggle_12 : decode cX7_toggle 12 = .ok (.ifCond .eq 21, 3) := by decide +kernel
theorem dX7_toggle_15 : decode cX7_toggle 15 = .ok (.aload_n 0, 1) := by decide +kernel
theorem dX7_toggle_16 : decode cX7_toggle 16 = .ok (.iload_n 1, 1) := by decide +kernel
theorem dX7_toggle_17 : decode cX7_toggle 17 = .ok (.aload_n 0, 1) := by decide +kernel
theorem dX7_toggle_18 : decode cX7_toggle 18 = .ok (.getfield 13, 3) := by decide +kernel
theorem dX7_toggle_21 : decode cX7_toggle 21 = .ok (.iload_n 1, 1) := by decide +kernel
theorem dX7_toggle_22 : decode cX7_toggle 22 = .ok (.laload, 1) := by decide +kernel
theorem dX7_toggle_23 : decode cX7_toggle 23 = .ok (.lconst 1, 1) := by decide +kernel
theorem dX7_toggle_24 : decode cX7_toggle 24 = .ok (.iload_n 2, 1) := by decide +kernel
theorem dX7_toggle_25 : decode cX7_toggle 25 = .ok (.lshl, 1) := by decide +kernel
theorem dX7_toggle_26 : decode cX7_toggle 26 = .ok (.lxor, 1) := by decide +kernel
theorem dX7_toggle_27 : decode cX7_toggle 27 = .ok (.invokevirtual 55, 3) := by decide +kernel
theorem dX7_toggle_30 : decode cX7_toggle 30 = .ok (.goto 4, 3) := by decide +kernel
theorem dX7_toggle_33 : decode cX7_toggle 33 = .ok (.iconst (-1), 1) := by decide +kernel
theorem dX7_toggle_34 : decode cX7_toggle 34 = .ok (.ireturn, 1) := by decide +kernel
set_option maxRecDepth 20000 in
theorem ggX7_copy_X7_isRegister : GoodIn wsX7_copy wsX7_isRegister := goodIn_r _ [5, 6, 7, 4, 8] (by decide +kernel) (by decide +kernel)
set_option maxRecDepth 20000 in
theorem gX7_copy_X7_isRegister : GoodIn wsX7_copy (va_wsS RX7 48 yX7_isRegister wsX7_isRegister) := goodIn_app (goodIn_of _ (by decide +kernel)) ggX7_copy_X7_isRegister
set_option maxRecDepth 20000 in
theorem ggX7_copy_X7_gets : GoodIn wsX7_copy wsX7_gets := goodIn_r _ [12, 1, 13, 14, 15, 4, 16, 17, 18, 19, 20, 21, 22, 23, 24, 25, 26, 27, 28, 29, 30] (by decide +kernel) (by decide +kernel)
set_option maxRecDepth 20000 in
theorem gX7_copy_X7_gets : GoodIn wsX7_copy (wsV RX7 55 RX7 yX7_gets wsX7_gets) := goodIn_app (goodIn_of _ (by decide +kernel)) ggX7_copy_X7_gets
theorem dX7_copy_0 : decode cX7_copy 0 = .ok (.iload_n 1, 1) := by decide +kernel
theorem dX7_copy_1 : decode cX7_copy 1 = .ok (.invokestatic 48, 3) := by decide +kernel
theorem dX7_copy_4 : decode cX7_copy 4 = .ok (.ifCond .eq 24, 3) := by decide +kernel
theorem dX7_copy_7 : decode cX7_copy 7 = .ok (.iload_n 2, 1) := by decide +kernel
theorem dX7_copy_8 : decode cX7_copy 8 = .ok (.invokestatic 48, 3) := by decide +kernel
theorem dX7_copy_11 : decode cX7_copy 11 = .ok (.ifCond .eq 17, 3) := by decide +kernel
theorem dX7_copy_14 : decode cX7_copy 14 = .ok (.aload_n 0, 1) := by decide +kernel
theorem dX7_copy_15 : decode cX7_copy 15 = .ok (.iload_n 2, 1) := by decide +kernel
theorem dX7_copy_16 : decode cX7_copy 16 = .ok (.aload_n 0, 1) := by decide +kernel
theorem dX7_copy_17 : decode cX7_copy 17 = .ok (.getfield 13, 3) := by decide +kernel
theorem dX7_copy_20 : decode cX7_copy 20 = .ok (.iload_n 1, 1) := by decide +kernel
theorem dX7_copy_21 : decode cX7_copy 21 = .ok (.laload, 1) := by decide +kernel
theorem dX7_copy_22 : decode cX7_copy 22 = .ok (.invokevirtual 55, 3) := by decide +kernel
theorem dX7_copy_25 : decode cX7_copy 25 = .ok (.goto 4, 3) := by decide +kernel
theorem dX7_copy_28 : decode cX7_copy 28 = .ok (.iconst (-1), 1) := by decide +kernel
theorem dX7_copy_29 : decode cX7_copy 29 = .ok (.ireturn, 1) := by decide +kernel
set_option maxRecDepth 20000 in
theorem ggX7_sum_X7_isRegister : GoodIn wsX7_sum wsX7_isRegister := goodIn_r _ [5, 6, 7, 4, 8] (by decide +kernel) (by decide +kernel)
set_option maxRecDepth 20000 in
theorem gX7_sum_X7_isRegister : GoodIn wsX7_sum (va_wsS RX7 48 yX7_isRegister wsX7_isRegister) := goodIn_app (goodIn_of _ (by decide +kernel)) ggX7_sum_X7_isRegister
set_option maxRecDepth 20000 in
theorem ggX7_sum_X7_gets : GoodIn wsX7_sum wsX7_gets := goodIn_r _ [12, 1, 13, 14, 15, 4, 16, 17, 18, 19, 20, 21, 22, 23, 24, 25, 26, 27, 28, 29, 30] (by decide +kernel) (by decide +kernel)
set_option maxRecDepth 20000 in
theorem gX7_sum_X7_gets : GoodIn wsX7_sum (wsV RX7 55 RX7 yX7_gets wsX7_gets) := goodIn_app (goodIn_of _ (by decide +kernel)) ggX7_sum_X7_gets
theorem dX7_sum_0 : decode cX7_sum 0 = .ok (.iload_n 1, 1) := by decide +kernel
theorem dX7_sum_1 : decode cX7_sum 1 = .ok (.invokestatic 48, 3) := by decide +kernel
theorem dX7_sum_4 : decode cX7_sum 4 = .ok (.ifCond .eq 38, 3) := by decide +kernel
theorem dX7_sum_7 : decode cX7_sum 7 = .ok (.iload_n 2, 1) := by decide +kernel
theorem dX7_sum_8 : decode cX7_sum 8 = .ok (.invokestatic 48, 3) := by decide +kernel
theorem dX7_sum_11 : decode cX7_sum 11 = .ok (.ifCond .eq 31, 3) := by decide +kernel
theorem dX7_sum_14 : decode cX7_sum 14 = .ok (.iload_n 3, 1) := by decide +kernel
theorem dX7_sum_15 : decode cX7_sum 15 = .ok (.invokestatic 48, 3) := by decide +kernel
theorem dX7_sum_18 : decode cX7_sum 18 = .ok (.ifCond .eq 24, 3) := by decide +kernel
theorem dX7_sum_21 : decode cX7_sum 21 = .ok (.aload_n 0, 1) := by decide +kernel
theorem dX7_sum_22 : decode cX7_sum 22 = .ok (.iload_n 3, 1) := by decide +kernel
theorem dX7_sum_23 : decode cX7_sum 23 = .ok (.aload_n 0, 1) := by decide +kernel
theorem dX7_sum_24 : decode cX7_sum 24 = .ok (.getfield 13, 3) := by decide +kernel
theorem dX7_sum_27 : decode cX7_sum 27 = .ok (.iload_n 1, 1) := by decide +kernel
theorem dX7_sum_28 : decode cX7_sum 28 = .ok (.laload, 1) := by decide +kernel
theorem dX7_sum_29 : decode cX7_sum 29 = .ok (.aload_n 0, 1) := by decide +kernel
theorem dX7_sum_30 : decode cX7_sum 30 = .ok (.getfield 13, 3) := by decide +kernel
theorem dX7_sum_33 : decode cX7_sum 33 = .ok (.iload_n 2, 1) := by decide +kernel
theorem dX7_sum_34 : decode cX7_sum 34 = .ok (.laload, 1) := by decide +kernel
theorem dX7_sum_35 : decode cX7_sum 35 = .ok (.lxor, 1) := by decide +kernel
theorem dX7_sum_36 : decode cX7_sum 36 = .ok (.invokevirtual 55, 3) := by decide +kernel
theorem dX7_sum_39 : decode cX7_sum 39 = .ok (.goto 4, 3) := by decide +kernel
theorem dX7_sum_42 : decode cX7_sum 42 = .ok (.iconst (-1), 1) := by decide +kernel
theorem dX7_sum_43 : decode cX7_sum 43 = .ok (.ireturn, 1) := by decide +kernel
set_option maxRecDepth 20000 in
theorem ggX7_product_X7_isRegister : GoodIn wsX7_product wsX7_isRegister := goodIn_r _ [5, 6, 7, 4, 8] (by decide +kernel) (by decide +kernel)
set_option maxRecDepth 20000 in
theorem gX7_product_X7_isRegister : GoodIn wsX7_product (va_wsS RX7 48 yX7_isRegister wsX7_isRegister) := goodIn_app (goodIn_of _ (by decide +kernel)) ggX7_product_X7_isRegister
set_option maxRecDepth 20000 in
theorem ggX7_product_X7_product1 : GoodIn wsX7_product wsX7_product1 := goodIn_r _ [12, 13, 14, 15, 4, 16, 30, 31, 32, 33, 34, 35, 36, 37, 38] (by decide +kernel) (by decide +kernel)
set_option maxRecDepth 20000 in
theorem gX7_product_X7_product1 : GoodIn wsX7_product (wsV RX7 59 RX7 yX7_product1 wsX7_product1) := goodIn_app (goodIn_of _ (by decide +kernel)) ggX7_product_X7_product1
set_option maxRecDepth 20000 in
theorem ggX7_product_X7_gets : GoodIn wsX7_product wsX7_gets := goodIn_r _ [20, 1, 21, 22, 23, 4, 24, 25, 26, 27, 28, 29, 30, 31, 32, 33, 34, 35, 36, 37, 38] (by decide +kernel) (by decide +kernel)
set_option maxRecDepth 20000 in
theorem gX7_product_X7_gets : GoodIn wsX7_product (wsV RX7 55 RX7 yX7_gets wsX7_gets) := goodIn_app (goodIn_of _ (by decide +kernel)) ggX7_product_X7_gets
theorem dX7_product_0 : decode cX7_product 0 = .ok (.iload_n 1, 1) := by decide +kernel
theorem dX7_product_1 : decode cX7_product 1 = .ok (.invokestatic 48, 3) := by decide +kernel
theorem dX7_product_4 : decode cX7_product 4 = .ok (.ifCond .eq 41, 3) := by decide +kernel
theorem dX7_product_7 : decode cX7_product 7 = .ok (.iload_n 2, 1) := by decide +kernel
theorem dX7_product_8 : decode cX7_product 8 = .ok (.invokestatic 48, 3) := by decide +kernel
theorem dX7_product_11 : decode cX7_product 11 = .ok (.ifCond .eq 34, 3) := by decide +kernel
theorem dX7_product_14 : decode cX7_product 14 = .ok (.iload_n 3, 1) := by decide +kernel
theorem dX7_product_15 : decode cX7_product 15 = .ok (.invokestatic 48, 3) := by decide +kernel
theorem dX7_product_18 : decode cX7_product 18 = .ok (.ifCond .eq 27, 3) := by decide +kernel
theorem dX7_product_21 : decode cX7_product 21 = .ok (.aload_n 0, 1) := by decide +kernel
theorem dX7_product_22 : decode cX7_product 22 = .ok (.iload_n 3, 1) := by decide +kernel
theorem dX7_product_23 : decode cX7_product 23 = .ok (.aload_n 0, 1) := by decide +kernel
theorem dX7_product_24 : decode cX7_product 24 = .ok (.aload_n 0, 1) := by decide +kernel
theorem dX7_product_25 : decode cX7_product 25 = .ok (.getfield 13, 3) := by decide +kernel
theorem dX7_product_28 : decode cX7_product 28 = .ok (.iload_n 1, 1) := by decide +kernel
theorem dX7_product_29 : decode cX7_product 29 = .ok (.laload, 1) := by decide +kernel
theorem dX7_product_30 : decode cX7_product 30 = .ok (.aload_n 0, 1) := by decide +kernel
theorem dX7_product_31 : decode cX7_product 31 = .ok (.getfield 13, 3) := by decide +kernel
theorem dX7_product_34 : decode cX7_product 34 = .ok (.iload_n 2, 1) := by decide +kernel
theorem dX7_product_35 : decode cX7_product 35 = .ok (.laload, 1) := by decide +kernel
theorem dX7_product_36 : decode cX7_product 36 = .ok (.invokevirtual 59, 3) := by decide +kernel
theorem dX7_product_39 : decode cX7_product 39 = .ok (.invokevirtual 55, 3) := by decide +kernel
theorem dX7_product_42 : decode cX7_product 42 = .ok (.goto 4, 3) := by decide +kernel
theorem dX7_product_45 : decode cX7_product 45 = .ok (.iconst (-1), 1) := by decide +kernel
theorem dX7_product_46 : decode cX7_product 46 = .ok (.ireturn, 1) := by decide +kernel
set_option maxRecDepth 20000 in
theorem ggX7_times_X7_isRegister : GoodIn wsX7_times wsX7_isRegister := goodIn_r _ [5, 6, 7, 4, 8] (by decide +kernel) (by decide +kernel)
set_option maxRecDepth 20000 in
theorem gX7_times_X7_isRegister : GoodIn wsX7_times (va_wsS RX7 48 yX7_isRegister wsX7_isRegister) := goodIn_app (goodIn_of _ (by decide +kernel)) ggX7_times_X7_isRegister
set_option maxRecDepth 20000 in
theorem ggX7_times_X7_isMask : GoodIn wsX7_times wsX7_isMask := goodIn_r _ [12, 13, 6, 7, 4, 8, 34, 35, 36, 37, 38, 39, 40, 41, 42] (by decide +kernel) (by decide +kernel)
set_option maxRecDepth 20000 in
theorem gX7_times_X7_isMask : GoodIn wsX7_times (wsV RX7 52 RX7 yX7_isMask wsX7_isMask) := goodIn_app (goodIn_of _ (by decide +kernel)) ggX7_times_X7_isMask
set_option maxRecDepth 20000 in
theorem ggX7_times_X7_product1 : GoodIn wsX7_times wsX7_product1 := goodIn_r _ [17, 13, 18, 19, 4, 20, 34, 35, 36, 37, 38, 39, 40, 41, 42] (by decide +kernel) (by decide +kernel)
set_option maxRecDepth 20000 in
theorem gX7_times_X7_product1 : GoodIn wsX7_times (wsV RX7 59 RX7 yX7_product1 wsX7_product1) := goodIn_app (goodIn_of _ (by decide +kernel)) ggX7_times_X7_product1
set_option maxRecDepth 20000 in
theorem ggX7_times_X7_gets : GoodIn wsX7_times wsX7_gets := goodIn_r _ [24, 1, 25, 26, 27, 4, 28, 29, 30, 31, 32, 33, 34, 35, 36, 37, 38, 39, 40, 41, 42] (by decide +kernel) (by decide +kernel)
set_option maxRecDepth 20000 in
theorem gX7_times_X7_gets : GoodIn wsX7_times (wsV RX7 55 RX7 yX7_gets wsX7_gets) := goodIn_app (goodIn_of _ (by decide +kernel)) ggX7_times_X7_gets
theorem dX7_times_0 : decode cX7_times 0 = .ok (.iload_n 1, 1) := by decide +kernel
theorem dX7_times_1 : decode cX7_times 1 = .ok (.invokestatic 48, 3) := by decide +kernel
theorem dX7_times_4 : decode cX7_times 4 = .ok (.ifCond .eq 39, 3) := by decide +kernel
theorem dX7_times_7 : decode cX7_times 7 = .ok (.aload_n 0, 1) := by decide +kernel
theorem dX7_times_8 : decode cX7_times 8 = .ok (.iload_n 2, 1) := by decide +kernel
theorem dX7_times_9 : decode cX7_times 9 = .ok (.invokevirtual 52, 3) := by decide +kernel
theorem dX7_times_12 : decode cX7_times 12 = .ok (.ifCond .eq 31, 3) := by decide +kernel
theorem dX7_times_15 : decode cX7_times 15 = .ok (.iload_n 3, 1) := by decide +kernel
theorem dX7_times_16 : decode cX7_times 16 = .ok (.invokestatic 48, 3) := by decide +kernel
theorem dX7_times_19 : decode cX7_times 19 = .ok (.ifCond .eq 24, 3) := by decide +kernel
theorem dX7_times_22 : decode cX7_times 22 = .ok (.aload_n 0, 1) := by decide +kernel
theorem dX7_times_23 : decode cX7_times 23 = .ok (.iload_n 3, 1) := by decide +kernel
theorem dX7_times_24 : decode cX7_times 24 = .ok (.aload_n 0, 1) := by decide +kernel
theorem dX7_times_25 : decode cX7_times 25 = .ok (.aload_n 0, 1) := by decide +kernel
theorem dX7_times_26 : decode cX7_times 26 = .ok (.getfield 13, 3) := by decide +kernel
theorem dX7_times_29 : decode cX7_times 29 = .ok (.iload_n 1, 1) := by decide +kernel
theorem dX7_times_30 : decode cX7_times 30 = .ok (.laload, 1) := by decide +kernel
theorem dX7_times_31 : decode cX7_times 31 = .ok (.lconst 1, 1) := by decide +kernel
theorem dX7_times_32 : decode cX7_times 32 = .ok (.iload_n 2, 1) := by decide +kernel
theorem dX7_times_33 : decode cX7_times 33 = .ok (.lshl, 1) := by decide +kernel
theorem dX7_times_34 : decode cX7_times 34 = .ok (.invokevirtual 59, 3) := by decide +kernel
theorem dX7_times_37 : decode cX7_times 37 = .ok (.invokevirtual 55, 3) := by decide +kernel
theorem dX7_times_40 : decode cX7_times 40 = .ok (.goto 4, 3) := by decide +kernel
theorem dX7_times_43 : decode cX7_times 43 = .ok (.iconst (-1), 1) := by decide +kernel
theorem dX7_times_44 : decode cX7_times 44 = .ok (.ireturn, 1) := by decide +kernel
set_option maxRecDepth 20000 in
theorem ggX7_restrict_X7_isRegister : GoodIn wsX7_restrict wsX7_isRegister := goodIn_r _ [5, 6, 7, 4, 8] (by decide +kernel) (by decide +kernel)
set_option maxRecDepth 20000 in
theorem gX7_restrict_X7_isRegister : GoodIn wsX7_restrict (va_wsS RX7 48 yX7_isRegister wsX7_isRegister) := goodIn_app (goodIn_of _ (by decide +kernel)) ggX7_restrict_X7_isRegister
set_option maxRecDepth 20000 in
theorem ggX7_restrict_X7_isVariable : GoodIn wsX7_restrict wsX7_isVariable := goodIn_r _ [12, 13, 6, 7, 4, 8, 38, 39, 40, 41, 42, 43, 44, 45, 46] (by decide +kernel) (by decide +kernel)
set_option maxRecDepth 20000 in
theorem gX7_restrict_X7_isVariable : GoodIn wsX7_restrict (wsV RX7 63 RX7 yX7_isVariable wsX7_isVariable) := goodIn_app (goodIn_of _ (by decide +kernel)) ggX7_restrict_X7_isVariable
set_option maxRecDepth 20000 in
theorem ggX7_restrict_X7_in : GoodIn wsX7_restrict wsX7_in := goodIn_r _ [8] (by decide +kernel) (by decide +kernel)
set_option maxRecDepth 20000 in
theorem gX7_restrict_X7_in : GoodIn wsX7_restrict (va_wsS RX7 30 yX7_in wsX7_in) := goodIn_app (goodIn_of _ (by decide +kernel)) ggX7_restrict_X7_in
set_option maxRecDepth 20000 in
theorem ggX7_restrict_X7_lower : GoodIn wsX7_restrict wsX7_lower := goodIn_r _ [17, 13, 18, 19, 4, 20, 38, 39, 40, 41, 42, 43, 44, 45, 46] (by decide +kernel) (by decide +kernel)
set_option maxRecDepth 20000 in
theorem gX7_restrict_X7_lower : GoodIn wsX7_restrict (wsV RX7 66 RX7 yX7_lower wsX7_lower) := goodIn_app (goodIn_of _ (by decide +kernel)) ggX7_restrict_X7_lower
set_option maxRecDepth 20000 in
theorem ggX7_restrict_X7_upper : GoodIn wsX7_restrict wsX7_upper := goodIn_r _ [24, 13, 18, 19, 4, 20, 38, 39, 40, 41, 42, 43, 44, 45, 46] (by decide +kernel) (by decide +kernel)
set_option maxRecDepth 20000 in
theorem gX7_restrict_X7_upper : GoodIn wsX7_restrict (wsV RX7 70 RX7 yX7_upper wsX7_upper) := goodIn_app (goodIn_of _ (by decide +kernel)) ggX7_restrict_X7_upper
set_option maxRecDepth 20000 in
theorem ggX7_restrict_X7_gets : GoodIn wsX7_restrict wsX7_gets := goodIn_r _ [28, 1, 29, 30, 31, 4, 32, 33, 34, 35, 36, 37, 38, 39, 40, 41, 42, 43, 44, 45, 46] (by decide +kernel) (by decide +kernel)
set_option maxRecDepth 20000 in
theorem gX7_restrict_X7_gets : GoodIn wsX7_restrict (wsV RX7 55 RX7 yX7_gets wsX7_gets) := goodIn_app (goodIn_of _ (by decide +kernel)) ggX7_restrict_X7_gets
theorem dX7_restrict_0 : decode cX7_restrict 0 = .ok (.iload_n 1, 1) := by decide +kernel
theorem dX7_restrict_1 : decode cX7_restrict 1 = .ok (.invokestatic 48, 3) := by decide +kernel
theorem dX7_restrict_4 : decode cX7_restrict 4 = .ok (.ifCond .eq 28, 3) := by decide +kernel
theorem dX7_restrict_7 : decode cX7_restrict 7 = .ok (.aload_n 0, 1) := by decide +kernel
theorem dX7_restrict_8 : decode cX7_restrict 8 = .ok (.iload_n 2, 1) := by decide +kernel
theorem dX7_restrict_9 : decode cX7_restrict 9 = .ok (.invokevirtual 63, 3) := by decide +kernel
theorem dX7_restrict_12 : decode cX7_restrict 12 = .ok (.ifCond .eq 20, 3) := by decide +kernel
theorem dX7_restrict_15 : decode cX7_restrict 15 = .ok (.iload_n 3, 1) := by decide +kernel
theorem dX7_restrict_16 : decode cX7_restrict 16 = .ok (.iconst 0, 1) := by decide +kernel
theorem dX7_restrict_17 : decode cX7_restrict 17 = .ok (.iconst 1, 1) := by decide +kernel
theorem dX7_restrict_18 : decode cX7_restrict 18 = .ok (.invokestatic 30, 3) := by decide +kernel
theorem dX7_restrict_21 : decode cX7_restrict 21 = .ok (.ifCond .eq 11, 3) := by decide +kernel
theorem dX7_restrict_24 : decode cX7_restrict 24 = .ok (.iload 4, 2) := by decide +kernel
theorem dX7_restrict_26 : decode cX7_restrict 26 = .ok (.invokestatic 48, 3) := by decide +kernel
theorem dX7_restrict_29 : decode cX7_restrict 29 = .ok (.ifCond .ne 5, 3) := by decide +kernel
theorem dX7_restrict_32 : decode cX7_restrict 32 = .ok (.iconst (-1), 1) := by decide +kernel
theorem dX7_restrict_33 : decode cX7_restrict 33 = .ok (.ireturn, 1) := by decide +kernel
theorem dX7_restrict_34 : decode cX7_restrict 34 = .ok (.aload_n 0, 1) := by decide +kernel
theorem dX7_restrict_35 : decode cX7_restrict 35 = .ok (.iload 4, 2) := by decide +kernel
theorem dX7_restrict_37 : decode cX7_restrict 37 = .ok (.aload_n 0, 1) := by decide +kernel
theorem dX7_restrict_38 : decode cX7_restrict 38 = .ok (.aload_n 0, 1) := by decide +kernel
theorem dX7_restrict_39 : decode cX7_restrict 39 = .ok (.getfield 13, 3) := by decide +kernel
theorem dX7_restrict_42 : decode cX7_restrict 42 = .ok (.iload_n 1, 1) := by decide +kernel
theorem dX7_restrict_43 : decode cX7_restrict 43 = .ok (.laload, 1) := by decide +kernel
theorem dX7_restrict_44 : decode cX7_restrict 44 = .ok (.iload_n 2, 1) := by decide +kernel
theorem dX7_restrict_45 : decode cX7_restrict 45 = .ok (.invokevirtual 66, 3) := by decide +kernel
theorem dX7_restrict_48 : decode cX7_restrict 48 = .ok (.iload_n 3, 1) := by decide +kernel
theorem dX7_restrict_49 : decode cX7_restrict 49 = .ok (.iconst 1, 1) := by decide +kernel
theorem dX7_restrict_50 : decode cX7_restrict 50 = .ok (.if_icmp .ne 17, 3) := by decide +kernel
theorem dX7_restrict_53 : decode cX7_restrict 53 = .ok (.aload_n 0, 1) := by decide +kernel
theorem dX7_restrict_54 : decode cX7_restrict 54 = .ok (.aload_n 0, 1) := by decide +kernel
theorem dX7_restrict_55 : decode cX7_restrict 55 = .ok (.getfield 13, 3) := by decide +kernel
theorem dX7_restrict_58 : decode cX7_restrict 58 = .ok (.iload_n 1, 1) := by decide +kernel
theorem dX7_restrict_59 : decode cX7_restrict 59 = .ok (.laload, 1) := by decide +kernel
theorem dX7_restrict_60 : decode cX7_restrict 60 = .ok (.iload_n 2, 1) := by decide +kernel
theorem dX7_restrict_61 : decode cX7_restrict 61 = .ok (.invokevirtual 70, 3) := by decide +kernel
theorem dX7_restrict_64 : decode cX7_restrict 64 = .ok (.goto 4, 3) := by decide +kernel
theorem dX7_restrict_67 : decode cX7_restrict 67 = .ok (.lconst 0, 1) := by decide +kernel
theorem dX7_restrict_68 : decode cX7_restrict 68 = .ok (.lxor, 1) := by decide +kernel
theorem dX7_restrict_69 : decode cX7_restrict 69 = .ok (.invokevirtual 55, 3) := by decide +kernel
theorem dX7_restrict_72 : decode cX7_restrict 72 = .ok (.ireturn, 1) := by decide +kernel
set_option maxRecDepth 20000 in
theorem ggX7_substitute_X7_isRegister : GoodIn wsX7_substitute wsX7_isRegister := goodIn_r _ [5, 6, 7, 4, 8] (by decide +kernel) (by decide +kernel)
set_option maxRecDepth 20000 in
theorem gX7_substitute_X7_isRegister : GoodIn wsX7_substitute (va_wsS RX7 48 yX7_isRegister wsX7_isRegister) := goodIn_app (goodIn_of _ (by decide +kernel)) ggX7_substitute_X7_isRegister
set_option maxRecDepth 20000 in
theorem ggX7_substitute_X7_isVariable : GoodIn wsX7_substitute wsX7_isVariable := goodIn_r _ [12, 13, 6, 7, 4, 8, 42, 43, 44, 45, 46, 47, 48, 49, 50] (by decide +kernel) (by decide +kernel)
set_option maxRecDepth 20000 in
theorem gX7_substitute_X7_isVariable : GoodIn wsX7_substitute (wsV RX7 63 RX7 yX7_isVariable wsX7_isVariable) := goodIn_app (goodIn_of _ (by decide +kernel)) ggX7_substitute_X7_isVariable
set_option maxRecDepth 20000 in
theorem ggX7_substitute_X7_lower : GoodIn wsX7_substitute wsX7_lower := goodIn_r _ [17, 13, 18, 19, 4, 20, 42, 43, 44, 45, 46, 47, 48, 49, 50] (by decide +kernel) (by decide +kernel)
set_option maxRecDepth 20000 in
theorem gX7_substitute_X7_lower : GoodIn wsX7_substitute (wsV RX7 66 RX7 yX7_lower wsX7_lower) := goodIn_app (goodIn_of _ (by decide +kernel)) ggX7_substitute_X7_lower
set_option maxRecDepth 20000 in
theorem ggX7_substitute_X7_upper : GoodIn wsX7_substitute wsX7_upper := goodIn_r _ [24, 13, 18, 19, 4, 20, 42, 43, 44, 45, 46, 47, 48, 49, 50] (by decide +kernel) (by decide +kernel)
set_option maxRecDepth 20000 in
theorem gX7_substitute_X7_upper : GoodIn wsX7_substitute (wsV RX7 70 RX7 yX7_upper wsX7_upper) := goodIn_app (goodIn_of _ (by decide +kernel)) ggX7_substitute_X7_upper
set_option maxRecDepth 20000 in
theorem ggX7_substitute_X7_product1 : GoodIn wsX7_substitute wsX7_product1 := goodIn_r _ [28, 13, 18, 19, 4, 20, 42, 43, 44, 45, 46, 47, 48, 49, 50] (by decide +kernel) (by decide +kernel)
set_option maxRecDepth 20000 in
theorem gX7_substitute_X7_product1 : GoodIn wsX7_substitute (wsV RX7 59 RX7 yX7_product1 wsX7_product1) := goodIn_app (goodIn_of _ (by decide +kernel)) ggX7_substitute_X7_product1
set_option maxRecDepth 20000 in
theorem ggX7_substitute_X7_gets : GoodIn wsX7_substitute wsX7_gets := goodIn_r _ [32, 1, 33, 34, 35, 4, 36, 37, 38, 39, 40, 41, 42, 43, 44, 45, 46, 47, 48, 49, 50] (by decide +kernel) (by decide +kernel)
set_option maxRecDepth 20000 in
theorem gX7_substitute_X7_gets : GoodIn wsX7_substitute (wsV RX7 55 RX7 yX7_gets wsX7_gets) := goodIn_app (goodIn_of _ (by decide +kernel)) ggX7_substitute_X7_gets
theorem dX7_substitute_0 : decode cX7_substitute 0 = .ok (.iload_n 1, 1) := by decide +kernel
theorem dX7_substitute_1 : decode cX7_substitute 1 = .ok (.invokestatic 48, 3) := by decide +kernel
theorem dX7_substitute_4 : decode cX7_substitute 4 = .ok (.ifCond .eq 26, 3) := by decide +kernel
theorem dX7_substitute_7 : decode cX7_substitute 7 = .ok (.aload_n 0, 1) := by decide +kernel
theorem dX7_substitute_8 : decode cX7_substitute 8 = .ok (.iload_n 2, 1) := by decide +kernel
theorem dX7_substitute_9 : decode cX7_substitute 9 = .ok (.invokevirtual 63, 3) := by decide +kernel
theorem dX7_substitute_12 : decode cX7_substitute 12 = .ok (.ifCond .eq 18, 3) := by decide +kernel
theorem dX7_substitute_15 : decode cX7_substitute 15 = .ok (.iload_n 3, 1) := by decide +kernel
theorem dX7_substitute_16 : decode cX7_substitute 16 = .ok (.invokestatic 48, 3) := by decide +kernel
theorem dX7_substitute_19 : decode cX7_substitute 19 = .ok (.ifCond .eq 11, 3) := by decide +kernel
theorem dX7_substitute_22 : decode cX7_substitute 22 = .ok (.iload 4, 2) := by decide +kernel
theorem dX7_substitute_24 : decode cX7_substitute 24 = .ok (.invokestatic 48, 3) := by decide +kernel
theorem dX7_substitute_27 : decode cX7_substitute 27 = .ok (.ifCond .ne 5, 3) := by decide +kernel
theorem dX7_substitute_30 : decode cX7_substitute 30 = .ok (.iconst (-1), 1) := by decide +kernel
theorem dX7_substitute_31 : decode cX7_substitute 31 = .ok (.ireturn, 1) := by decide +kernel
theorem dX7_substitute_32 : decode cX7_substitute 32 = .ok (.aload_n 0, 1) := by decide +kernel
theorem dX7_substitute_33 : decode cX7_substitute 33 = .ok (.iload 4, 2) := by decide +kernel
theorem dX7_substitute_35 : decode cX7_substitute 35 = .ok (.aload_n 0, 1) := by decide +kernel
theorem dX7_substitute_36 : decode cX7_substitute 36 = .ok (.aload_n 0, 1) := by decide +kernel
theorem dX7_substitute_37 : decode cX7_substitute 37 = .ok (.getfield 13, 3) := by decide +kernel
theorem dX7_substitute_40 : decode cX7_substitute 40 = .ok (.iload_n 1, 1) := by decide +kernel
theorem dX7_substitute_41 : decode cX7_substitute 41 = .ok (.laload, 1) := by decide +kernel
theorem dX7_substitute_42 : decode cX7_substitute 42 = .ok (.iload_n 2, 1) := by decide +kernel
theorem dX7_substitute_43 : decode cX7_substitute 43 = .ok (.invokevirtual 66, 3) := by decide +kernel
theorem dX7_substitute_46 : decode cX7_substitute 46 = .ok (.aload_n 0, 1) := by decide +kernel
theorem dX7_substitute_47 : decode cX7_substitute 47 = .ok (.aload_n 0, 1) := by decide +kernel
theorem dX7_substitute_48 : decode cX7_substitute 48 = .ok (.aload_n 0, 1) := by decide +kernel
theorem dX7_substitute_49 : decode cX7_substitute 49 = .ok (.getfield 13, 3) := by decide +kernel
theorem dX7_substitute_52 : decode cX7_substitute 52 = .ok (.iload_n 1, 1) := by decide +kernel
theorem dX7_substitute_53 : decode cX7_substitute 53 = .ok (.laload, 1) := by decide +kernel
theorem dX7_substitute_54 : decode cX7_substitute 54 = .ok (.iload_n 2, 1) := by decide +kernel
theorem dX7_substitute_55 : decode cX7_substitute 55 = .ok (.invokevirtual 70, 3) := by decide +kernel
theorem dX7_substitute_58 : decode cX7_substitute 58 = .ok (.aload_n 0, 1) := by decide +kernel
theorem dX7_substitute_59 : decode cX7_substitute 59 = .ok (.getfield 13, 3) := by decide +kernel
theorem dX7_substitute_62 : decode cX7_substitute 62 = .ok (.iload_n 3, 1) := by decide +kernel
theorem dX7_substitute_63 : decode cX7_substitute 63 = .ok (.laload, 1) := by decide +kernel
theorem dX7_substitute_64 : decode cX7_substitute 64 = .ok (.invokevirtual 59, 3) := by decide +kernel
theorem dX7_substitute_67 : decode cX7_substitute 67 = .ok (.lxor, 1) := by decide +kernel
theorem dX7_substitute_68 : decode cX7_substitute 68 = .ok (.invokevirtual 55, 3) := by decide +kernel
theorem dX7_substitute_71 : decode cX7_substitute 71 = .ok (.ireturn, 1) := by decide +kernel
set_option maxRecDepth 20000 in
theorem ggX7_derivative_X7_isRegister : GoodIn wsX7_derivative wsX7_isRegister := goodIn_r _ [5, 6, 7, 4, 8] (by decide +kernel) (by decide +kernel)
set_option maxRecDepth 20000 in
theorem gX7_derivative_X7_isRegister : GoodIn wsX7_derivative (va_wsS RX7 48 yX7_isRegister wsX7_isRegister) := goodIn_app (goodIn_of _ (by decide +kernel)) ggX7_derivative_X7_isRegister
set_option maxRecDepth 20000 in
theorem ggX7_derivative_X7_isVariable : GoodIn wsX7_derivative wsX7_isVariable := goodIn_r _ [12, 13, 6, 7, 4, 8, 34, 35, 36, 37, 38, 39, 40, 41, 42] (by decide +kernel) (by decide +kernel)
set_option maxRecDepth 20000 in
theorem gX7_derivative_X7_isVariable : GoodIn wsX7_derivative (wsV RX7 63 RX7 yX7_isVariable wsX7_isVariable) := goodIn_app (goodIn_of _ (by decide +kernel)) ggX7_derivative_X7_isVariable
set_option maxRecDepth 20000 in
theorem ggX7_derivative_X7_upper : GoodIn wsX7_derivative wsX7_upper := goodIn_r _ [17, 13, 18, 19, 4, 20, 34, 35, 36, 37, 38, 39, 40, 41, 42] (by decide +kernel) (by decide +kernel)
set_option maxRecDepth 20000 in
theorem gX7_derivative_X7_upper : GoodIn wsX7_derivative (wsV RX7 70 RX7 yX7_upper wsX7_upper) := goodIn_app (goodIn_of _ (by decide +kernel)) ggX7_derivative_X7_upper
set_option maxRecDepth 20000 in
theorem ggX7_derivative_X7_gets : GoodIn wsX7_derivative wsX7_gets := goodIn_r _ [24, 1, 25, 26, 27, 4, 28, 29, 30, 31, 32, 33, 34, 35, 36, 37, 38, 39, 40, 41, 42] (by decide +kernel) (by decide +kernel)
set_option maxRecDepth 20000 in
theorem gX7_derivative_X7_gets : GoodIn wsX7_derivative (wsV RX7 55 RX7 yX7_gets wsX7_gets) := goodIn_app (goodIn_of _ (by decide +kernel)) ggX7_derivative_X7_gets
theorem dX7_derivative_0 : decode cX7_derivative 0 = .ok (.iload_n 1, 1) := by decide +kernel
theorem dX7_derivative_1 : decode cX7_derivative 1 = .ok (.invokestatic 48, 3) := by decide +kernel
theorem dX7_derivative_4 : decode cX7_derivative 4 = .ok (.ifCond .eq 37, 3) := by decide +kernel
theorem dX7_derivative_7 : decode cX7_derivative 7 = .ok (.aload_n 0, 1) := by decide +kernel
theorem dX7_derivative_8 : decode cX7_derivative 8 = .ok (.iload_n 2, 1) := by decide +kernel
theorem dX7_derivative_9 : decode cX7_derivative 9 = .ok (.invokevirtual 63, 3) := by decide +kernel
theorem dX7_derivative_12 : decode cX7_derivative 12 = .ok (.ifCond .eq 29, 3) := by decide +kernel
theorem dX7_derivative_15 : decode cX7_derivative 15 = .ok (.iload_n 3, 1) := by decide +kernel
theorem dX7_derivative_16 : decode cX7_derivative 16 = .ok (.invokestatic 48, 3) := by decide +kernel
theorem dX7_derivative_19 : decode cX7_derivative 19 = .ok (.ifCond .eq 22, 3) := by decide +kernel
theorem dX7_derivative_22 : decode cX7_derivative 22 = .ok (.aload_n 0, 1) := by decide +kernel
theorem dX7_derivative_23 : decode cX7_derivative 23 = .ok (.iload_n 3, 1) := by decide +kernel
theorem dX7_derivative_24 : decode cX7_derivative 24 = .ok (.aload_n 0, 1) := by decide +kernel
theorem dX7_derivative_25 : decode cX7_derivative 25 = .ok (.aload_n 0, 1) := by decide +kernel
theorem dX7_derivative_26 : decode cX7_derivative 26 = .ok (.getfield 13, 3) := by decide +kernel
theorem dX7_derivative_29 : decode cX7_derivative 29 = .ok (.iload_n 1, 1) := by decide +kernel
theorem dX7_derivative_30 : decode cX7_derivative 30 = .ok (.laload, 1) := by decide +kernel
theorem dX7_derivative_31 : decode cX7_derivative 31 = .ok (.iload_n 2, 1) := by decide +kernel
theorem dX7_derivative_32 : decode cX7_derivative 32 = .ok (.invokevirtual 70, 3) := by decide +kernel
theorem dX7_derivative_35 : decode cX7_derivative 35 = .ok (.invokevirtual 55, 3) := by decide +kernel
theorem dX7_derivative_38 : decode cX7_derivative 38 = .ok (.goto 4, 3) := by decide +kernel
theorem dX7_derivative_41 : decode cX7_derivative 41 = .ok (.iconst (-1), 1) := by decide +kernel
theorem dX7_derivative_42 : decode cX7_derivative 42 = .ok (.ireturn, 1) := by decide +kernel
set_option maxRecDepth 20000 in
theorem ggX7_flip_X7_isRegister : GoodIn wsX7_flip wsX7_isRegister := goodIn_r _ [5, 6, 7, 4, 8] (by decide +kernel) (by decide +kernel)
set_option maxRecDepth 20000 in
theorem gX7_flip_X7_isRegister : GoodIn wsX7_flip (va_wsS RX7 48 yX7_isRegister wsX7_isRegister) := goodIn_app (goodIn_of _ (by decide +kernel)) ggX7_flip_X7_isRegister
set_option maxRecDepth 20000 in
theorem ggX7_flip_X7_isMask : GoodIn wsX7_flip wsX7_isMask := goodIn_r _ [12, 13, 6, 7, 4, 8, 34, 35, 36, 37, 38, 39, 40, 41, 42] (by decide +kernel) (by decide +kernel)
set_option maxRecDepth 20000 in
theorem gX7_flip_X7_isMask : GoodIn wsX7_flip (wsV RX7 52 RX7 yX7_isMask wsX7_isMask) := goodIn_app (goodIn_of _ (by decide +kernel)) ggX7_flip_X7_isMask
set_option maxRecDepth 20000 in
theorem ggX7_flip_X7_values : GoodIn wsX7_flip wsX7_values := goodIn_r _ [17, 13, 18, 19, 4, 20, 34, 35, 36, 37, 38, 39, 40, 41, 42] (by decide +kernel) (by decide +kernel)
set_option maxRecDepth 20000 in
theorem gX7_flip_X7_values : GoodIn wsX7_flip (wsV RX7 73 RX7 yX7_values wsX7_values) := goodIn_app (goodIn_of _ (by decide +kernel)) ggX7_flip_X7_values
set_option maxRecDepth 20000 in
theorem ggX7_flip_X7_gets : GoodIn wsX7_flip wsX7_gets := goodIn_r _ [24, 1, 25, 26, 27, 4, 28, 29, 30, 31, 32, 33, 34, 35, 36, 37, 38, 39, 40, 41, 42] (by decide +kernel) (by decide +kernel)
set_option maxRecDepth 20000 in
theorem gX7_flip_X7_gets : GoodIn wsX7_flip (wsV RX7 55 RX7 yX7_gets wsX7_gets) := goodIn_app (goodIn_of _ (by decide +kernel)) ggX7_flip_X7_gets
theorem dX7_flip_0 : decode cX7_flip 0 = .ok (.iload_n 1, 1) := by decide +kernel
theorem dX7_flip_1 : decode cX7_flip 1 = .ok (.invokestatic 48, 3) := by decide +kernel
theorem dX7_flip_4 : decode cX7_flip 4 = .ok (.ifCond .eq 11, 3) := by decide +kernel
theorem dX7_flip_7 : decode cX7_flip 7 = .ok (.aload_n 0, 1) := by decide +kernel
theorem dX7_flip_8 : decode cX7_flip 8 = .ok (.iload_n 2, 1) := by decide +kernel
theorem dX7_flip_9 : decode cX7_flip 9 = .ok (.invokevirtual 52, 3) := by decide +kernel
theorem dX7_flip_12 : decode cX7_flip 12 = .ok (.ifCond .ne 5, 3) := by decide +kernel
theorem dX7_flip_15 : decode cX7_flip 15 = .ok (.iconst (-1), 1) := by decide +kernel
theorem dX7_flip_16 : decode cX7_flip 16 = .ok (.ireturn, 1) := by decide +kernel
theorem dX7_flip_17 : decode cX7_flip 17 = .ok (.aload_n 0, 1) := by decide +kernel
theorem dX7_flip_18 : decode cX7_flip 18 = .ok (.iload_n 1, 1) := by decide +kernel
theorem dX7_flip_19 : decode cX7_flip 19 = .ok (.aload_n 0, 1) := by decide +kernel
theorem dX7_flip_20 : decode cX7_flip 20 = .ok (.getfield 13, 3) := by decide +kernel
theorem dX7_flip_23 : decode cX7_flip 23 = .ok (.iload_n 1, 1) := by decide +kernel
theorem dX7_flip_24 : decode cX7_flip 24 = .ok (.laload, 1) := by decide +kernel
theorem dX7_flip_25 : decode cX7_flip 25 = .ok (.aload_n 0, 1) := by decide +kernel
theorem dX7_flip_26 : decode cX7_flip 26 = .ok (.lconst 1, 1) := by decide +kernel
theorem dX7_flip_27 : decode cX7_flip 27 = .ok (.iload_n 2, 1) := by decide +kernel
theorem dX7_flip_28 : decode cX7_flip 28 = .ok (.lshl, 1) := by decide +kernel
theorem dX7_flip_29 : decode cX7_flip 29 = .ok (.invokevirtual 73, 3) := by decide +kernel
theorem dX7_flip_32 : decode cX7_flip 32 = .ok (.lxor, 1) := by decide +kernel
theorem dX7_flip_33 : decode cX7_flip 33 = .ok (.invokevirtual 55, 3) := by decide +kernel
theorem dX7_flip_36 : decode cX7_flip 36 = .ok (.ireturn, 1) := by decide +kernel
set_option maxRecDepth 20000 in
theorem ggX7_exchange_X7_isRegister : GoodIn wsX7_exchange wsX7_isRegister := goodIn_r _ [6, 7, 8, 5, 9] (by decide +kernel) (by decide +kernel)
set_option maxRecDepth 20000 in
theorem gX7_exchange_X7_isRegister : GoodIn wsX7_exchange (va_wsS RX7 48 yX7_isRegister wsX7_isRegister) := goodIn_app (goodIn_of _ (by decide +kernel)) ggX7_exchange_X7_isRegister
set_option maxRecDepth 20000 in
theorem ggX7_exchange_X7_isVariable : GoodIn wsX7_exchange wsX7_isVariable := goodIn_r _ [13, 1, 7, 8, 5, 9, 30, 31, 32, 33, 34, 35, 36, 37, 38] (by decide +kernel) (by decide +kernel)
set_option maxRecDepth 20000 in
theorem gX7_exchange_X7_isVariable : GoodIn wsX7_exchange (wsV RX7 63 RX7 yX7_isVariable wsX7_isVariable) := goodIn_app (goodIn_of _ (by decide +kernel)) ggX7_exchange_X7_isVariable
set_option maxRecDepth 20000 in
theorem ggX7_exchange_X7_has1 : GoodIn wsX7_exchange wsX7_has1 := goodIn_r _ [16] (by decide +kernel) (by decide +kernel)
set_option maxRecDepth 20000 in
theorem gX7_exchange_X7_has1 : GoodIn wsX7_exchange (va_wsS RX7 44 yX7_has1 wsX7_has1) := goodIn_app (goodIn_of _ (by decide +kernel)) ggX7_exchange_X7_has1
set_option maxRecDepth 20000 in
theorem ggX7_exchange_X7_gets : GoodIn wsX7_exchange wsX7_gets := goodIn_r _ [20, 2, 21, 22, 23, 5, 24, 25, 26, 27, 28, 29, 30, 31, 32, 33, 34, 35, 36, 37, 38] (by decide +kernel) (by decide +kernel)
set_option maxRecDepth 20000 in
theorem gX7_exchange_X7_gets : GoodIn wsX7_exchange (wsV RX7 55 RX7 yX7_gets wsX7_gets) := goodIn_app (goodIn_of _ (by decide +kernel)) ggX7_exchange_X7_gets
theorem dX7_exchange_0 : decode cX7_exchange 0 = .ok (.iload_n 1, 1) := by decide +kernel
theorem dX7_exchange_1 : decode cX7_exchange 1 = .ok (.invokestatic 48, 3) := by decide +kernel
theorem dX7_exchange_4 : decode cX7_exchange 4 = .ok (.ifCond .eq 19, 3) := by decide +kernel
theorem dX7_exchange_7 : decode cX7_exchange 7 = .ok (.aload_n 0, 1) := by decide +kernel
theorem dX7_exchange_8 : decode cX7_exchange 8 = .ok (.iload_n 2, 1) := by decide +kernel
theorem dX7_exchange_9 : decode cX7_exchange 9 = .ok (.invokevirtual 63, 3) := by decide +kernel
theorem dX7_exchange_12 : decode cX7_exchange 12 = .ok (.ifCond .eq 11, 3) := by decide +kernel
theorem dX7_exchange_15 : decode cX7_exchange 15 = .ok (.aload_n 0, 1) := by decide +kernel
theorem dX7_exchange_16 : decode cX7_exchange 16 = .ok (.iload_n 3, 1) := by decide +kernel
theorem dX7_exchange_17 : decode cX7_exchange 17 = .ok (.invokevirtual 63, 3) := by decide +kernel
theorem dX7_exchange_20 : decode cX7_exchange 20 = .ok (.ifCond .ne 5, 3) := by decide +kernel
theorem dX7_exchange_23 : decode cX7_exchange 23 = .ok (.iconst (-1), 1) := by decide +kernel
theorem dX7_exchange_24 : decode cX7_exchange 24 = .ok (.ireturn, 1) := by decide +kernel
theorem dX7_exchange_25 : decode cX7_exchange 25 = .ok (.lconst 0, 1) := by decide +kernel
theorem dX7_exchange_26 : decode cX7_exchange 26 = .ok (.lstore 4, 2) := by decide +kernel
theorem dX7_exchange_28 : decode cX7_exchange 28 = .ok (.iconst 0, 1) := by decide +kernel
theorem dX7_exchange_29 : decode cX7_exchange 29 = .ok (.istore 6, 2) := by decide +kernel
theorem dX7_exchange_31 : decode cX7_exchange 31 = .ok (.iload 6, 2) := by decide +kernel
theorem dX7_exchange_33 : decode cX7_exchange 33 = .ok (.iconst 1, 1) := by decide +kernel
theorem dX7_exchange_34 : decode cX7_exchange 34 = .ok (.aload_n 0, 1) := by decide +kernel
theorem dX7_exchange_35 : decode cX7_exchange 35 = .ok (.getfield 7, 3) := by decide +kernel
theorem dX7_exchange_38 : decode cX7_exchange 38 = .ok (.ishl, 1) := by decide +kernel
theorem dX7_exchange_39 : decode cX7_exchange 39 = .ok (.if_icmp .ge 76, 3) := by decide +kernel
theorem dX7_exchange_42 : decode cX7_exchange 42 = .ok (.iload 6, 2) := by decide +kernel
theorem dX7_exchange_44 : decode cX7_exchange 44 = .ok (.iload_n 2, 1) := by decide +kernel
theorem dX7_exchange_45 : decode cX7_exchange 45 = .ok (.ishr, 1) := by decide +kernel
theorem dX7_exchange_46 : decode cX7_exchange 46 = .ok (.iconst 1, 1) := by decide +kernel
theorem dX7_exchange_47 : decode cX7_exchange 47 = .ok (.iand, 1) := by decide +kernel
theorem dX7_exchange_48 : decode cX7_exchange 48 = .ok (.iload 6, 2) := by decide +kernel
theorem dX7_exchange_50 : decode cX7_exchange 50 = .ok (.iload_n 3, 1) := by decide +kernel
theorem dX7_exchange_51 : decode cX7_exchange 51 = .ok (.ishr, 1) := by decide +kernel
theorem dX7_exchange_52 : decode cX7_exchange 52 = .ok (.iconst 1, 1) := by decide +kernel
theorem dX7_exchange_53 : decode cX7_exchange 53 = .ok (.iand, 1) := by decide +kernel
theorem dX7_exchange_54 : decode cX7_exchange 54 = .ok (.if_icmp .eq 7, 3) := by decide +kernel
theorem dX7_exchange_57 : decode cX7_exchange 57 = .ok (.iconst 1, 1) := by decide +kernel
theorem dX7_exchange_58 : decode cX7_exchange 58 = .ok (.goto 4, 3) := by decide +kernel
theorem dX7_exchange_61 : decode cX7_exchange 61 = .ok (.iconst 0, 1) := by decide +kernel
theorem dX7_exchange_62 : decode cX7_exchange 62 = .ok (.istore 7, 2) := by decide +kernel
theorem dX7_exchange_64 : decode cX7_exchange 64 = .ok (.lload 4, 2) := by decide +kernel
theorem dX7_exchange_66 : decode cX7_exchange 66 = .ok (.aload_n 0, 1) := by decide +kernel
theorem dX7_exchange_67 : decode cX7_exchange 67 = .ok (.getfield 13, 3) := by decide +kernel
theorem dX7_exchange_70 : decode cX7_exchange 70 = .ok (.iload_n 1, 1) := by decide +kernel
theorem dX7_exchange_71 : decode cX7_exchange 71 = .ok (.laload, 1) := by decide +kernel
theorem dX7_exchange_72 : decode cX7_exchange 72 = .ok (.iload 6, 2) := by decide +kernel
theorem dX7_exchange_74 : decode cX7_exchange 74 = .ok (.invokestatic 44, 3) := by decide +kernel
theorem dX7_exchange_77 : decode cX7_exchange 77 = .ok (.ifCond .eq 28, 3) := by decide +kernel
theorem dX7_exchange_80 : decode cX7_exchange 80 = .ok (.lconst 1, 1) := by decide +kernel
theorem dX7_exchange_81 : decode cX7_exchange 81 = .ok (.iload 7, 2) := by decide +kernel
theorem dX7_exchange_83 : decode cX7_exchange 83 = .ok (.ifCond .eq 16, 3) := by decide +kernel
theorem dX7_exchange_86 : decode cX7_exchange 86 = .ok (.iload 6, 2) := by decide +kernel
theorem dX7_exchange_88 : decode cX7_exchange 88 = .ok (.iconst 1, 1) := by decide +kernel
theorem dX7_exchange_89 : decode cX7_exchange 89 = .ok (.iload_n 2, 1) := by decide +kernel
theorem dX7_exchange_90 : decode cX7_exchange 90 = .ok (.ishl, 1) := by decide +kernel
theorem dX7_exchange_91 : decode cX7_exchange 91 = .ok (.ixor, 1) := by decide +kernel
theorem dX7_exchange_92 : decode cX7_exchange 92 = .ok (.iconst 1, 1) := by decide +kernel
theorem dX7_exchange_93 : decode cX7_exchange 93 = .ok (.iload_n 3, 1) := by decide +kernel
theorem dX7_exchange_94 : decode cX7_exchange 94 = .ok (.ishl, 1) := by decide +kernel
theorem dX7_exchange_95 : decode cX7_exchange 95 = .ok (.ixor, 1) := by decide +kernel
theorem dX7_exchange_96 : decode cX7_exchange 96 = .ok (.goto 5, 3) := by decide +kernel
theorem dX7_exchange_99 : decode cX7_exchange 99 = .ok (.iload 6, 2) := by decide +kernel
theorem dX7_exchange_101 : decode cX7_exchange 101 = .ok (.lshl, 1) := by decide +kernel
theorem dX7_exchange_102 : decode cX7_exchange 102 = .ok (.goto 4, 3) := by decide +kernel
theorem dX7_exchange_105 : decode cX7_exchange 105 = .ok (.lconst 0, 1) := by decide +kernel
theorem dX7_exchange_106 : decode cX7_exchange 106 = .ok (.lor, 1) := by decide +kernel
theorem dX7_exchange_107 : decode cX7_exchange 107 = .ok (.lstore 4, 2) := by decide +kernel
theorem dX7_exchange_109 : decode cX7_exchange 109 = .ok (.iinc 6 1, 3) := by decide +kernel
theorem dX7_exchange_112 : decode cX7_exchange 112 = .ok (.goto (-81), 3) := by decide +kernel
theorem dX7_exchange_115 : decode cX7_exchange 115 = .ok (.aload_n 0, 1) := by decide +kernel
theorem dX7_exchange_116 : decode cX7_exchange 116 = .ok (.iload_n 1, 1) := by decide +kernel
theorem dX7_exchange_117 : decode cX7_exchange 117 = .ok (.lload 4, 2) := by decide +kernel
theorem dX7_exchange_119 : decode cX7_exchange 119 = .ok (.invokevirtual 55, 3) := by decide +kernel
theorem dX7_exchange_122 : decode cX7_exchange 122 = .ok (.ireturn, 1) := by decide +kernel
theorem dX7_undo_0 : decode cX7_undo 0 = .ok (.aload_n 0, 1) := by decide +kernel
theorem dX7_undo_1 : decode cX7_undo 1 = .ok (.getfield 34, 3) := by decide +kernel
theorem dX7_undo_4 : decode cX7_undo 4 = .ok (.ifCond .ne 6, 3) := by decide +kernel
theorem dX7_undo_7 : decode cX7_undo 7 = .ok (.bipush (-2), 2) := by decide +kernel
theorem dX7_undo_9 : decode cX7_undo 9 = .ok (.ireturn, 1) := by decide +kernel
theorem dX7_undo_10 : decode cX7_undo 10 = .ok (.aload_n 0, 1) := by decide +kernel
theorem dX7_undo_11 : decode cX7_undo 11 = .ok (.dup, 1) := by decide +kernel
theorem dX7_undo_12 : decode cX7_undo 12 = .ok (.getfield 34, 3) := by decide +kernel
theorem dX7_undo_15 : decode cX7_undo 15 = .ok (.iconst 1, 1) := by decide +kernel
theorem dX7_undo_16 : decode cX7_undo 16 = .ok (.isub, 1) := by decide +kernel
theorem dX7_undo_17 : decode cX7_undo 17 = .ok (.putfield 34, 3) := by decide +kernel
theorem dX7_undo_20 : decode cX7_undo 20 = .ok (.iconst 0, 1) := by decide +kernel
theorem dX7_undo_21 : decode cX7_undo 21 = .ok (.istore_n 1, 1) := by decide +kernel
theorem dX7_undo_22 : decode cX7_undo 22 = .ok (.iload_n 1, 1) := by decide +kernel
theorem dX7_undo_23 : decode cX7_undo 23 = .ok (.bipush 8, 2) := by decide +kernel
theorem dX7_undo_25 : decode cX7_undo 25 = .ok (.if_icmp .ge 29, 3) := by decide +kernel
theorem dX7_undo_28 : decode cX7_undo 28 = .ok (.aload_n 0, 1) := by decide +kernel
theorem dX7_undo_29 : decode cX7_undo 29 = .ok (.getfield 13, 3) := by decide +kernel
theorem dX7_undo_32 : decode cX7_undo 32 = .ok (.iload_n 1, 1) := by decide +kernel
theorem dX7_undo_33 : decode cX7_undo 33 = .ok (.aload_n 0, 1) := by decide +kernel
theorem dX7_undo_34 : decode cX7_undo 34 = .ok (.getfield 17, 3) := by decide +kernel
theorem dX7_undo_37 : decode cX7_undo 37 = .ok (.bipush 8, 2) := by decide +kernel
theorem dX7_undo_39 : decode cX7_undo 39 = .ok (.aload_n 0, 1) := by decide +kernel
theorem dX7_undo_40 : decode cX7_undo 40 = .ok (.getfield 34, 3) := by decide +kernel
theorem dX7_undo_43 : decode cX7_undo 43 = .ok (.imul, 1) := by decide +kernel
theorem dX7_undo_44 : decode cX7_undo 44 = .ok (.iload_n 1, 1) := by decide +kernel
theorem dX7_undo_45 : decode cX7_undo 45 = .ok (.iadd, 1) := by decide +kernel
theorem dX7_undo_46 : decode cX7_undo 46 = .ok (.laload, 1) := by decide +kernel
theorem dX7_undo_47 : decode cX7_undo 47 = .ok (.lastore, 1) := by decide +kernel
theorem dX7_undo_48 : decode cX7_undo 48 = .ok (.iinc 1 1, 3) := by decide +kernel
theorem dX7_undo_51 : decode cX7_undo 51 = .ok (.goto (-29), 3) := by decide +kernel
theorem dX7_undo_54 : decode cX7_undo 54 = .ok (.aload_n 0, 1) := by decide +kernel
theorem dX7_undo_55 : decode cX7_undo 55 = .ok (.getfield 34, 3) := by decide +kernel
theorem dX7_undo_58 : decode cX7_undo 58 = .ok (.ireturn, 1) := by decide +kernel
set_option maxRecDepth 20000 in
theorem ggX7_has_X7_isRegister : GoodIn wsX7_has wsX7_isRegister := goodIn_r _ [5, 6, 7, 4, 8] (by decide +kernel) (by decide +kernel)
set_option maxRecDepth 20000 in
theorem gX7_has_X7_isRegister : GoodIn wsX7_has (va_wsS RX7 48 yX7_isRegister wsX7_isRegister) := goodIn_app (goodIn_of _ (by decide +kernel)) ggX7_has_X7_isRegister
set_option maxRecDepth 20000 in
theorem ggX7_has_X7_isMask : GoodIn wsX7_has wsX7_isMask := goodIn_r _ [12, 13, 6, 7, 4, 8, 17, 18, 19, 20, 21, 22, 23, 24, 25] (by decide +kernel) (by decide +kernel)
set_option maxRecDepth 20000 in
theorem gX7_has_X7_isMask : GoodIn wsX7_has (wsV RX7 52 RX7 yX7_isMask wsX7_isMask) := goodIn_app (goodIn_of _ (by decide +kernel)) ggX7_has_X7_isMask
set_option maxRecDepth 20000 in
theorem ggX7_has_X7_has1 : GoodIn wsX7_has wsX7_has1 := goodIn_r _ [16] (by decide +kernel) (by decide +kernel)
set_option maxRecDepth 20000 in
theorem gX7_has_X7_has1 : GoodIn wsX7_has (va_wsS RX7 44 yX7_has1 wsX7_has1) := goodIn_app (goodIn_of _ (by decide +kernel)) ggX7_has_X7_has1
theorem dX7_has_0 : decode cX7_has 0 = .ok (.iload_n 1, 1) := by decide +kernel
theorem dX7_has_1 : decode cX7_has 1 = .ok (.invokestatic 48, 3) := by decide +kernel
theorem dX7_has_4 : decode cX7_has 4 = .ok (.ifCond .eq 11, 3) := by decide +kernel
theorem dX7_has_7 : decode cX7_has 7 = .ok (.aload_n 0, 1) := by decide +kernel
theorem dX7_has_8 : decode cX7_has 8 = .ok (.iload_n 2, 1) := by decide +kernel
theorem dX7_has_9 : decode cX7_has 9 = .ok (.invokevirtual 52, 3) := by decide +kernel
theorem dX7_has_12 : decode cX7_has 12 = .ok (.ifCond .ne 7, 3) := by decide +kernel
theorem dX7_has_15 : decode cX7_has 15 = .ok (.iconst (-1), 1) := by decide +kernel
theorem dX7_has_16 : decode cX7_has 16 = .ok (.goto 21, 3) := by decide +kernel
theorem dX7_has_19 : decode cX7_has 19 = .ok (.aload_n 0, 1) := by decide +kernel
theorem dX7_has_20 : decode cX7_has 20 = .ok (.getfield 13, 3) := by decide +kernel
theorem dX7_has_23 : decode cX7_has 23 = .ok (.iload_n 1, 1) := by decide +kernel
theorem dX7_has_24 : decode cX7_has 24 = .ok (.laload, 1) := by decide +kernel
theorem dX7_has_25 : decode cX7_has 25 = .ok (.iload_n 2, 1) := by decide +kernel
theorem dX7_has_26 : decode cX7_has 26 = .ok (.invokestatic 44, 3) := by decide +kernel
theorem dX7_has_29 : decode cX7_has 29 = .ok (.ifCond .eq 7, 3) := by decide +kernel
theorem dX7_has_32 : decode cX7_has 32 = .ok (.iconst 1, 1) := by decide +kernel
theorem dX7_has_33 : decode cX7_has 33 = .ok (.goto 4, 3) := by decide +kernel
theorem dX7_has_36 : decode cX7_has 36 = .ok (.iconst 0, 1) := by decide +kernel
theorem dX7_has_37 : decode cX7_has 37 = .ok (.ireturn, 1) := by decide +kernel
set_option maxRecDepth 20000 in
theorem ggX7_terms_X7_isRegister : GoodIn wsX7_terms wsX7_isRegister := goodIn_r _ [5, 6, 7, 4, 8] (by decide +kernel) (by decide +kernel)
set_option maxRecDepth 20000 in
theorem gX7_terms_X7_isRegister : GoodIn wsX7_terms (va_wsS RX7 48 yX7_isRegister wsX7_isRegister) := goodIn_app (goodIn_of _ (by decide +kernel)) ggX7_terms_X7_isRegister
set_option maxRecDepth 20000 in
theorem ggX7_terms_X7_many : GoodIn wsX7_terms wsX7_many := goodIn_r _ [11] (by decide +kernel) (by decide +kernel)
set_option maxRecDepth 20000 in
theorem gX7_terms_X7_many : GoodIn wsX7_terms (va_wsS RX7 40 yX7_many wsX7_many) := goodIn_app (goodIn_of _ (by decide +kernel)) ggX7_terms_X7_many
theorem dX7_terms_0 : decode cX7_terms 0 = .ok (.iload_n 1, 1) := by decide +kernel
theorem dX7_terms_1 : decode cX7_terms 1 = .ok (.invokestatic 48, 3) := by decide +kernel
theorem dX7_terms_4 : decode cX7_terms 4 = .ok (.ifCond .eq 15, 3) := by decide +kernel
theorem dX7_terms_7 : decode cX7_terms 7 = .ok (.aload_n 0, 1) := by decide +kernel
theorem dX7_terms_8 : decode cX7_terms 8 = .ok (.getfield 13, 3) := by decide +kernel
theorem dX7_terms_11 : decode cX7_terms 11 = .ok (.iload_n 1, 1) := by decide +kernel
theorem dX7_terms_12 : decode cX7_terms 12 = .ok (.laload, 1) := by decide +kernel
theorem dX7_terms_13 : decode cX7_terms 13 = .ok (.invokestatic 40, 3) := by decide +kernel
theorem dX7_terms_16 : decode cX7_terms 16 = .ok (.goto 4, 3) := by decide +kernel
theorem dX7_terms_19 : decode cX7_terms 19 = .ok (.iconst (-1), 1) := by decide +kernel
theorem dX7_terms_20 : decode cX7_terms 20 = .ok (.ireturn, 1) := by decide +kernel
set_option maxRecDepth 20000 in
theorem ggX7_degree_X7_isRegister : GoodIn wsX7_degree wsX7_isRegister := goodIn_r _ [6, 7, 8, 5, 9] (by decide +kernel) (by decide +kernel)
set_option maxRecDepth 20000 in
theorem gX7_degree_X7_isRegister : GoodIn wsX7_degree (va_wsS RX7 48 yX7_isRegister wsX7_isRegister) := goodIn_app (goodIn_of _ (by decide +kernel)) ggX7_degree_X7_isRegister
set_option maxRecDepth 20000 in
theorem ggX7_degree_X7_many : GoodIn wsX7_degree wsX7_many := goodIn_r _ [12] (by decide +kernel) (by decide +kernel)
set_option maxRecDepth 20000 in
theorem gX7_degree_X7_many : GoodIn wsX7_degree (va_wsS RX7 40 yX7_many wsX7_many) := goodIn_app (goodIn_of _ (by decide +kernel)) ggX7_degree_X7_many
set_option maxRecDepth 20000 in
theorem ggX7_degree_X7_has1 : GoodIn wsX7_degree wsX7_has1 := goodIn_r _ [15] (by decide +kernel) (by decide +kernel)
set_option maxRecDepth 20000 in
theorem gX7_degree_X7_has1 : GoodIn wsX7_degree (va_wsS RX7 44 yX7_has1 wsX7_has1) := goodIn_app (goodIn_of _ (by decide +kernel)) ggX7_degree_X7_has1
theorem dX7_degree_0 : decode cX7_degree 0 = .ok (.iload_n 1, 1) := by decide +kernel
theorem dX7_degree_1 : decode cX7_degree 1 = .ok (.invokestatic 48, 3) := by decide +kernel
theorem dX7_degree_4 : decode cX7_degree 4 = .ok (.ifCond .ne 5, 3) := by decide +kernel
theorem dX7_degree_7 : decode cX7_degree 7 = .ok (.iconst (-1), 1) := by decide +kernel
theorem dX7_degree_8 : decode cX7_degree 8 = .ok (.ireturn, 1) := by decide +kernel
theorem dX7_degree_9 : decode cX7_degree 9 = .ok (.bipush (-4), 2) := by decide +kernel
theorem dX7_degree_11 : decode cX7_degree 11 = .ok (.istore_n 2, 1) := by decide +kernel
theorem dX7_degree_12 : decode cX7_degree 12 = .ok (.iconst 0, 1) := by decide +kernel
theorem dX7_degree_13 : decode cX7_degree 13 = .ok (.istore_n 3, 1) := by decide +kernel
theorem dX7_degree_14 : decode cX7_degree 14 = .ok (.iload_n 3, 1) := by decide +kernel
theorem dX7_degree_15 : decode cX7_degree 15 = .ok (.iconst 1, 1) := by decide +kernel
theorem dX7_degree_16 : decode cX7_degree 16 = .ok (.aload_n 0, 1) := by decide +kernel
theorem dX7_degree_17 : decode cX7_degree 17 = .ok (.getfield 7, 3) := by decide +kernel
theorem dX7_degree_20 : decode cX7_degree 20 = .ok (.ishl, 1) := by decide +kernel
theorem dX7_degree_21 : decode cX7_degree 21 = .ok (.if_icmp .ge 42, 3) := by decide +kernel
theorem dX7_degree_24 : decode cX7_degree 24 = .ok (.iload_n 3, 1) := by decide +kernel
theorem dX7_degree_25 : decode cX7_degree 25 = .ok (.i2l, 1) := by decide +kernel
theorem dX7_degree_26 : decode cX7_degree 26 = .ok (.invokestatic 40, 3) := by decide +kernel
theorem dX7_degree_29 : decode cX7_degree 29 = .ok (.istore 4, 2) := by decide +kernel
theorem dX7_degree_31 : decode cX7_degree 31 = .ok (.aload_n 0, 1) := by decide +kernel
theorem dX7_degree_32 : decode cX7_degree 32 = .ok (.getfield 13, 3) := by decide +kernel
theorem dX7_degree_35 : decode cX7_degree 35 = .ok (.iload_n 1, 1) := by decide +kernel
theorem dX7_degree_36 : decode cX7_degree 36 = .ok (.laload, 1) := by decide +kernel
theorem dX7_degree_37 : decode cX7_degree 37 = .ok (.iload_n 3, 1) := by decide +kernel
theorem dX7_degree_38 : decode cX7_degree 38 = .ok (.invokestatic 44, 3) := by decide +kernel
theorem dX7_degree_41 : decode cX7_degree 41 = .ok (.ifCond .eq 14, 3) := by decide +kernel
theorem dX7_degree_44 : decode cX7_degree 44 = .ok (.iload 4, 2) := by decide +kernel
theorem dX7_degree_46 : decode cX7_degree 46 = .ok (.iload_n 2, 1) := by decide +kernel
theorem dX7_degree_47 : decode cX7_degree 47 = .ok (.if_icmp .le 8, 3) := by decide +kernel
theorem dX7_degree_50 : decode cX7_degree 50 = .ok (.iload 4, 2) := by decide +kernel
theorem dX7_degree_52 : decode cX7_degree 52 = .ok (.goto 4, 3) := by decide +kernel
theorem dX7_degree_55 : decode cX7_degree 55 = .ok (.iload_n 2, 1) := by decide +kernel
theorem dX7_degree_56 : decode cX7_degree 56 = .ok (.istore_n 2, 1) := by decide +kernel
theorem dX7_degree_57 : decode cX7_degree 57 = .ok (.iinc 3 1, 3) := by decide +kernel
theorem dX7_degree_60 : decode cX7_degree 60 = .ok (.goto (-46), 3) := by decide +kernel
theorem dX7_degree_63 : decode cX7_degree 63 = .ok (.iload_n 2, 1) := by decide +kernel
theorem dX7_degree_64 : decode cX7_degree 64 = .ok (.ireturn, 1) := by decide +kernel
set_option maxRecDepth 20000 in
theorem ggX7_occurring_X7_isRegister : GoodIn wsX7_occurring wsX7_isRegister := goodIn_r _ [5, 6, 7, 4, 8] (by decide +kernel) (by decide +kernel)
set_option maxRecDepth 20000 in
theorem gX7_occurring_X7_isRegister : GoodIn wsX7_occurring (va_wsS RX7 48 yX7_isRegister wsX7_isRegister) := goodIn_app (goodIn_of _ (by decide +kernel)) ggX7_occurring_X7_isRegister
set_option maxRecDepth 20000 in
theorem ggX7_occurring_X7_occurs : GoodIn wsX7_occurring wsX7_occurs := goodIn_r _ [12, 13, 14, 15, 4, 16, 17, 18, 19, 20, 21, 22, 23, 24, 25] (by decide +kernel) (by decide +kernel)
set_option maxRecDepth 20000 in
theorem gX7_occurring_X7_occurs : GoodIn wsX7_occurring (wsV RX7 77 RX7 yX7_occurs wsX7_occurs) := goodIn_app (goodIn_of _ (by decide +kernel)) ggX7_occurring_X7_occurs
theorem dX7_occurring_0 : decode cX7_occurring 0 = .ok (.iload_n 1, 1) := by decide +kernel
theorem dX7_occurring_1 : decode cX7_occurring 1 = .ok (.invokestatic 48, 3) := by decide +kernel
theorem dX7_occurring_4 : decode cX7_occurring 4 = .ok (.ifCond .eq 16, 3) := by decide +kernel
theorem dX7_occurring_7 : decode cX7_occurring 7 = .ok (.aload_n 0, 1) := by decide +kernel
theorem dX7_occurring_8 : decode cX7_occurring 8 = .ok (.aload_n 0, 1) := by decide +kernel
theorem dX7_occurring_9 : decode cX7_occurring 9 = .ok (.getfield 13, 3) := by decide +kernel
theorem dX7_occurring_12 : decode cX7_occurring 12 = .ok (.iload_n 1, 1) := by decide +kernel
theorem dX7_occurring_13 : decode cX7_occurring 13 = .ok (.laload, 1) := by decide +kernel
theorem dX7_occurring_14 : decode cX7_occurring 14 = .ok (.invokevirtual 77, 3) := by decide +kernel
theorem dX7_occurring_17 : decode cX7_occurring 17 = .ok (.goto 4, 3) := by decide +kernel
theorem dX7_occurring_20 : decode cX7_occurring 20 = .ok (.iconst (-1), 1) := by decide +kernel
theorem dX7_occurring_21 : decode cX7_occurring 21 = .ok (.ireturn, 1) := by decide +kernel
set_option maxRecDepth 20000 in
theorem ggX7_notes_X7_occurs : GoodIn wsX7_notes wsX7_occurs := goodIn_r _ [7, 8, 9, 10, 6, 11, 12, 13, 14, 15, 16, 17, 18, 19, 20] (by decide +kernel) (by decide +kernel)
set_option maxRecDepth 20000 in
theorem gX7_notes_X7_occurs : GoodIn wsX7_notes (wsV RX7 77 RX7 yX7_occurs wsX7_occurs) := goodIn_app (goodIn_of _ (by decide +kernel)) ggX7_notes_X7_occurs
theorem dX7_notes_0 : decode cX7_notes 0 = .ok (.aload_n 0, 1) := by decide +kernel
theorem dX7_notes_1 : decode cX7_notes 1 = .ok (.lload_n 1, 1) := by decide +kernel
theorem dX7_notes_2 : decode cX7_notes 2 = .ok (.invokevirtual 77, 3) := by decide +kernel
theorem dX7_notes_5 : decode cX7_notes 5 = .ok (.ifCond .eq 7, 3) := by decide +kernel
theorem dX7_notes_8 : decode cX7_notes 8 = .ok (.iconst 1, 1) := by decide +kernel
theorem dX7_notes_9 : decode cX7_notes 9 = .ok (.goto 4, 3) := by decide +kernel
theorem dX7_notes_12 : decode cX7_notes 12 = .ok (.iconst 0, 1) := by decide +kernel
theorem dX7_notes_13 : decode cX7_notes 13 = .ok (.istore_n 3, 1) := by decide +kernel
theorem dX7_notes_14 : decode cX7_notes 14 = .ok (.iconst 0, 1) := by decide +kernel
theorem dX7_notes_15 : decode cX7_notes 15 = .ok (.istore 4, 2) := by decide +kernel
theorem dX7_notes_17 : decode cX7_notes 17 = .ok (.iload 4, 2) := by decide +kernel
theorem dX7_notes_19 : decode cX7_notes 19 = .ok (.aload_n 0, 1) := by decide +kernel
theorem dX7_notes_20 : decode cX7_notes 20 = .ok (.getfield 80, 3) := by decide +kernel
theorem dX7_notes_23 : decode cX7_notes 23 = .ok (.if_icmp .ge 31, 3) := by decide +kernel
theorem dX7_notes_26 : decode cX7_notes 26 = .ok (.iload_n 3, 1) := by decide +kernel
theorem dX7_notes_27 : decode cX7_notes 27 = .ok (.ifCond .eq 27, 3) := by decide +kernel
theorem dX7_notes_30 : decode cX7_notes 30 = .ok (.aload_n 0, 1) := by decide +kernel
theorem dX7_notes_31 : decode cX7_notes 31 = .ok (.getfield 24, 3) := by decide +kernel
theorem dX7_notes_34 : decode cX7_notes 34 = .ok (.iload 4, 2) := by decide +kernel
theorem dX7_notes_36 : decode cX7_notes 36 = .ok (.laload, 1) := by decide +kernel
theorem dX7_notes_37 : decode cX7_notes 37 = .ok (.lload_n 1, 1) := by decide +kernel
theorem dX7_notes_38 : decode cX7_notes 38 = .ok (.lcmp, 1) := by decide +kernel
theorem dX7_notes_39 : decode cX7_notes 39 = .ok (.ifCond .eq 7, 3) := by decide +kernel
theorem dX7_notes_42 : decode cX7_notes 42 = .ok (.iconst 1, 1) := by decide +kernel
theorem dX7_notes_43 : decode cX7_notes 43 = .ok (.goto 4, 3) := by decide +kernel
theorem dX7_notes_46 : decode cX7_notes 46 = .ok (.iconst 0, 1) := by decide +kernel
theorem dX7_notes_47 : decode cX7_notes 47 = .ok (.istore_n 3, 1) := by decide +kernel
theorem dX7_notes_48 : decode cX7_notes 48 = .ok (.iinc 4 1, 3) := by decide +kernel
theorem dX7_notes_51 : decode cX7_notes 51 = .ok (.goto (-34), 3) := by decide +kernel
theorem dX7_notes_54 : decode cX7_notes 54 = .ok (.iload_n 3, 1) := by decide +kernel
theorem dX7_notes_55 : decode cX7_notes 55 = .ok (.ifCond .eq 23, 3) := by decide +kernel
theorem dX7_notes_58 : decode cX7_notes 58 = .ok (.aload_n 0, 1) := by decide +kernel
theorem dX7_notes_59 : decode cX7_notes 59 = .ok (.getfield 24, 3) := by decide +kernel
theorem dX7_notes_62 : decode cX7_notes 62 = .ok (.aload_n 0, 1) := by decide +kernel
theorem dX7_notes_63 : decode cX7_notes 63 = .ok (.getfield 80, 3) := by decide +kernel
theorem dX7_notes_66 : decode cX7_notes 66 = .ok (.lload_n 1, 1) := by decide +kernel
theorem dX7_notes_67 : decode cX7_notes 67 = .ok (.lastore, 1) := by decide +kernel
theorem dX7_notes_68 : decode cX7_notes 68 = .ok (.aload_n 0, 1) := by decide +kernel
theorem dX7_notes_69 : decode cX7_notes 69 = .ok (.dup, 1) := by decide +kernel
theorem dX7_notes_70 : decode cX7_notes 70 = .ok (.getfield 80, 3) := by decide +kernel
theorem dX7_notes_73 : decode cX7_notes 73 = .ok (.iconst 1, 1) := by decide +kernel
theorem dX7_notes_74 : decode cX7_notes 74 = .ok (.iadd, 1) := by decide +kernel
theorem dX7_notes_75 : decode cX7_notes 75 = .ok (.putfield 80, 3) := by decide +kernel
theorem dX7_notes_78 : decode cX7_notes 78 = .ok (.return_, 1) := by decide +kernel
set_option maxRecDepth 20000 in
theorem ggX7_spreads_X7_occurs : GoodIn wsX7_spreads wsX7_occurs := goodIn_r _ [7, 8, 9, 10, 6, 11, 24, 25, 26, 27, 28, 29, 30, 31, 32] (by decide +kernel) (by decide +kernel)
set_option maxRecDepth 20000 in
theorem gX7_spreads_X7_occurs : GoodIn wsX7_spreads (wsV RX7 77 RX7 yX7_occurs wsX7_occurs) := goodIn_app (goodIn_of _ (by decide +kernel)) ggX7_spreads_X7_occurs
set_option maxRecDepth 20000 in
theorem ggX7_spreads_X7_upper : GoodIn wsX7_spreads wsX7_upper := goodIn_r _ [15, 8, 9, 10, 6, 11, 24, 25, 26, 27, 28, 29, 30, 31, 32] (by decide +kernel) (by decide +kernel)
set_option maxRecDepth 20000 in
theorem gX7_spreads_X7_upper : GoodIn wsX7_spreads (wsV RX7 70 RX7 yX7_upper wsX7_upper) := goodIn_app (goodIn_of _ (by decide +kernel)) ggX7_spreads_X7_upper
set_option maxRecDepth 20000 in
theorem ggX7_spreads_X7_notes : GoodIn wsX7_spreads wsX7_notes := goodIn_r _ [19, 1, 2, 3, 4, 5, 6, 7, 8, 9, 10, 11, 24, 25, 26, 27, 28, 29, 30, 31, 32] (by decide +kernel) (by decide +kernel)
set_option maxRecDepth 20000 in
theorem gX7_spreads_X7_notes : GoodIn wsX7_spreads (wsV RX7 83 RX7 yX7_notes wsX7_notes) := goodIn_app (goodIn_of _ (by decide +kernel)) ggX7_spreads_X7_notes
set_option maxRecDepth 20000 in
theorem ggX7_spreads_X7_lower : GoodIn wsX7_spreads wsX7_lower := goodIn_r _ [23, 8, 9, 10, 6, 11, 24, 25, 26, 27, 28, 29, 30, 31, 32] (by decide +kernel) (by decide +kernel)
set_option maxRecDepth 20000 in
theorem gX7_spreads_X7_lower : GoodIn wsX7_spreads (wsV RX7 66 RX7 yX7_lower wsX7_lower) := goodIn_app (goodIn_of _ (by decide +kernel)) ggX7_spreads_X7_lower
theorem dX7_spreads_0 : decode cX7_spreads 0 = .ok (.iconst 0, 1) := by decide +kernel
theorem dX7_spreads_1 : decode cX7_spreads 1 = .ok (.istore_n 1, 1) := by decide +kernel
theorem dX7_spreads_2 : decode cX7_spreads 2 = .ok (.iload_n 1, 1) := by decide +kernel
theorem dX7_spreads_3 : decode cX7_spreads 3 = .ok (.aload_n 0, 1) := by decide +kernel
theorem dX7_spreads_4 : decode cX7_spreads 4 = .ok (.getfield 80, 3) := by decide +kernel
theorem dX7_spreads_7 : decode cX7_spreads 7 = .ok (.if_icmp .ge 64, 3) := by decide +kernel
theorem dX7_spreads_10 : decode cX7_spreads 10 = .ok (.iconst 0, 1) := by decide +kernel
theorem dX7_spreads_11 : decode cX7_spreads 11 = .ok (.istore_n 2, 1) := by decide +kernel
theorem dX7_spreads_12 : decode cX7_spreads 12 = .ok (.aload_n 0, 1) := by decide +kernel
theorem dX7_spreads_13 : decode cX7_spreads 13 = .ok (.aload_n 0, 1) := by decide +kernel
theorem dX7_spreads_14 : decode cX7_spreads 14 = .ok (.getfield 24, 3) := by decide +kernel
theorem dX7_spreads_17 : decode cX7_spreads 17 = .ok (.iload_n 1, 1) := by decide +kernel
theorem dX7_spreads_18 : decode cX7_spreads 18 = .ok (.laload, 1) := by decide +kernel
theorem dX7_spreads_19 : decode cX7_spreads 19 = .ok (.invokevirtual 77, 3) := by decide +kernel
theorem dX7_spreads_22 : decode cX7_spreads 22 = .ok (.iload_n 2, 1) := by decide +kernel
theorem dX7_spreads_23 : decode cX7_spreads 23 = .ok (.ishr, 1) := by decide +kernel
theorem dX7_spreads_24 : decode cX7_spreads 24 = .ok (.iconst 1, 1) := by decide +kernel
theorem dX7_spreads_25 : decode cX7_spreads 25 = .ok (.iand, 1) := by decide +kernel
theorem dX7_spreads_26 : decode cX7_spreads 26 = .ok (.ifCond .ne 9, 3) := by decide +kernel
theorem dX7_spreads_29 : decode cX7_spreads 29 = .ok (.iinc 2 1, 3) := by decide +kernel
theorem dX7_spreads_32 : decode cX7_spreads 32 = .ok (.goto (-20), 3) := by decide +kernel
theorem dX7_spreads_35 : decode cX7_spreads 35 = .ok (.aload_n 0, 1) := by decide +kernel
theorem dX7_spreads_36 : decode cX7_spreads 36 = .ok (.aload_n 0, 1) := by decide +kernel
theorem dX7_spreads_37 : decode cX7_spreads 37 = .ok (.aload_n 0, 1) := by decide +kernel
theorem dX7_spreads_38 : decode cX7_spreads 38 = .ok (.getfield 24, 3) := by decide +kernel
theorem dX7_spreads_41 : decode cX7_spreads 41 = .ok (.iload_n 1, 1) := by decide +kernel
theorem dX7_spreads_42 : decode cX7_spreads 42 = .ok (.laload, 1) := by decide +kernel
theorem dX7_spreads_43 : decode cX7_spreads 43 = .ok (.iload_n 2, 1) := by decide +kernel
theorem dX7_spreads_44 : decode cX7_spreads 44 = .ok (.invokevirtual 70, 3) := by decide +kernel
theorem dX7_spreads_47 : decode cX7_spreads 47 = .ok (.invokevirtual 83, 3) := by decide +kernel
theorem dX7_spreads_50 : decode cX7_spreads 50 = .ok (.aload_n 0, 1) := by decide +kernel
theorem dX7_spreads_51 : decode cX7_spreads 51 = .ok (.aload_n 0, 1) := by decide +kernel
theorem dX7_spreads_52 : decode cX7_spreads 52 = .ok (.aload_n 0, 1) := by decide +kernel
theorem dX7_spreads_53 : decode cX7_spreads 53 = .ok (.getfield 24, 3) := by decide +kernel
theorem dX7_spreads_56 : decode cX7_spreads 56 = .ok (.iload_n 1, 1) := by decide +kernel
theorem dX7_spreads_57 : decode cX7_spreads 57 = .ok (.laload, 1) := by decide +kernel
theorem dX7_spreads_58 : decode cX7_spreads 58 = .ok (.iload_n 2, 1) := by decide +kernel
theorem dX7_spreads_59 : decode cX7_spreads 59 = .ok (.invokevirtual 66, 3) := by decide +kernel
theorem dX7_spreads_62 : decode cX7_spreads 62 = .ok (.invokevirtual 83, 3) := by decide +kernel
theorem dX7_spreads_65 : decode cX7_spreads 65 = .ok (.iinc 1 1, 3) := by decide +kernel
theorem dX7_spreads_68 : decode cX7_spreads 68 = .ok (.goto (-66), 3) := by decide +kernel
theorem dX7_spreads_71 : decode cX7_spreads 71 = .ok (.aload_n 0, 1) := by decide +kernel
theorem dX7_spreads_72 : decode cX7_spreads 72 = .ok (.getfield 80, 3) := by decide +kernel
theorem dX7_spreads_75 : decode cX7_spreads 75 = .ok (.ireturn, 1) := by decide +kernel
set_option maxRecDepth 20000 in
theorem ggX7_size_X7_isRegister : GoodIn wsX7_size wsX7_isRegister := goodIn_r _ [6, 7, 8, 5, 9] (by decide +kernel) (by decide +kernel)
set_option maxRecDepth 20000 in
theorem gX7_size_X7_isRegister : GoodIn wsX7_size (va_wsS RX7 48 yX7_isRegister wsX7_isRegister) := goodIn_app (goodIn_of _ (by decide +kernel)) ggX7_size_X7_isRegister
set_option maxRecDepth 20000 in
theorem ggX7_size_X7_notes : GoodIn wsX7_size wsX7_notes := goodIn_r _ [13, 1, 14, 15, 16, 17, 5, 18, 19, 20, 21, 22, 35, 36, 37, 38, 39, 40, 41, 42, 43] (by decide +kernel) (by decide +kernel)
set_option maxRecDepth 20000 in
theorem gX7_size_X7_notes : GoodIn wsX7_size (wsV RX7 83 RX7 yX7_notes wsX7_notes) := goodIn_app (goodIn_of _ (by decide +kernel)) ggX7_size_X7_notes
set_option maxRecDepth 20000 in
theorem ggX7_size_X7_spreads : GoodIn wsX7_size wsX7_spreads := goodIn_r _ [26, 1, 14, 15, 16, 17, 5, 18, 19, 20, 21, 22, 27, 28, 29, 30, 10, 11, 12, 13, 31, 32, 33, 34, 35, 36, 37, 38, 39, 40, 41, 42, 43] (by decide +kernel) (by decide +kernel)
set_option maxRecDepth 20000 in
theorem gX7_size_X7_spreads : GoodIn wsX7_size (wsV RX7 87 RX7 yX7_spreads wsX7_spreads) := goodIn_app (goodIn_of _ (by decide +kernel)) ggX7_size_X7_spreads
theorem dX7_size_0 : decode cX7_size 0 = .ok (.iload_n 1, 1) := by decide +kernel
theorem dX7_size_1 : decode cX7_size 1 = .ok (.invokestatic 48, 3) := by decide +kernel
theorem dX7_size_4 : decode cX7_size 4 = .ok (.ifCond .ne 5, 3) := by decide +kernel
theorem dX7_size_7 : decode cX7_size 7 = .ok (.iconst (-1), 1) := by decide +kernel
theorem dX7_size_8 : decode cX7_size 8 = .ok (.ireturn, 1) := by decide +kernel
theorem dX7_size_9 : decode cX7_size 9 = .ok (.aload_n 0, 1) := by decide +kernel
theorem dX7_size_10 : decode cX7_size 10 = .ok (.iconst 0, 1) := by decide +kernel
theorem dX7_size_11 : decode cX7_size 11 = .ok (.putfield 80, 3) := by decide +kernel
theorem dX7_size_14 : decode cX7_size 14 = .ok (.aload_n 0, 1) := by decide +kernel
theorem dX7_size_15 : decode cX7_size 15 = .ok (.aload_n 0, 1) := by decide +kernel
theorem dX7_size_16 : decode cX7_size 16 = .ok (.getfield 13, 3) := by decide +kernel
theorem dX7_size_19 : decode cX7_size 19 = .ok (.iload_n 1, 1) := by decide +kernel
theorem dX7_size_20 : decode cX7_size 20 = .ok (.laload, 1) := by decide +kernel
theorem dX7_size_21 : decode cX7_size 21 = .ok (.invokevirtual 83, 3) := by decide +kernel
theorem dX7_size_24 : decode cX7_size 24 = .ok (.aload_n 0, 1) := by decide +kernel
theorem dX7_size_25 : decode cX7_size 25 = .ok (.invokevirtual 87, 3) := by decide +kernel
theorem dX7_size_28 : decode cX7_size 28 = .ok (.ireturn, 1) := by decide +kernel
set_option maxRecDepth 20000 in
theorem ggX7_sharedSize_X7_notes : GoodIn wsX7_sharedSize wsX7_notes := goodIn_r _ [7, 1, 8, 9, 10, 11, 6, 12, 13, 14, 15, 16, 29, 30, 31, 32, 33, 34, 35, 36, 37] (by decide +kernel) (by decide +kernel)
set_option maxRecDepth 20000 in
theorem gX7_sharedSize_X7_notes : GoodIn wsX7_sharedSize (wsV RX7 83 RX7 yX7_notes wsX7_notes) := goodIn_app (goodIn_of _ (by decide +kernel)) ggX7_sharedSize_X7_notes
set_option maxRecDepth 20000 in
theorem ggX7_sharedSize_X7_spreads : GoodIn wsX7_sharedSize wsX7_spreads := goodIn_r _ [20, 1, 8, 9, 10, 11, 6, 12, 13, 14, 15, 16, 21, 22, 23, 24, 3, 4, 5, 7, 25, 26, 27, 28, 29, 30, 31, 32, 33, 34, 35, 36, 37] (by decide +kernel) (by decide +kernel)
set_option maxRecDepth 20000 in
theorem gX7_sharedSize_X7_spreads : GoodIn wsX7_sharedSize (wsV RX7 87 RX7 yX7_spreads wsX7_spreads) := goodIn_app (goodIn_of _ (by decide +kernel)) ggX7_sharedSize_X7_spreads
end
section
theorem dX7_sharedSize_0 : decode cX7_sharedSize 0 = .ok (.aload_n 0, 1) := by decide +kernel
theorem dX7_sharedSize_1 : decode cX7_sharedSize 1 = .ok (.iconst 0, 1) := by decide +kernel
theorem dX7_sharedSize_2 : decode cX7_sharedSize 2 = .ok (.putfield 80, 3) := by decide +kernel
theorem dX7_sharedSize_5 : decode cX7_sharedSize 5 = .ok (.iconst 0, 1) := by decide +kernel
theorem dX7_sharedSize_6 : decode cX7_sharedSize 6 = .ok (.istore_n 1, 1) := by decide +kernel
theorem dX7_sharedSize_7 : decode cX7_sharedSize 7 = .ok (.iload_n 1, 1) := by decide +kernel
theorem dX7_sharedSize_8 : decode cX7_sharedSize 8 = .ok (.bipush 8, 2) := by decide +kernel
theorem dX7_sharedSize_10 : decode cX7_sharedSize 10 = .ok (.if_icmp .ge 19, 3) := by decide +kernel
theorem dX7_sharedSize_13 : decode cX7_sharedSize 13 = .ok (.aload_n 0, 1) := by decide +kernel
theorem dX7_sharedSize_14 : decode cX7_sharedSize 14 = .ok (.aload_n 0, 1) := by decide +kernel
theorem dX7_sharedSize_15 : decode cX7_sharedSize 15 = .ok (.getfield 13, 3) := by decide +kernel
theorem dX7_sharedSize_18 : decode cX7_sharedSize 18 = .ok (.iload_n 1, 1) := by decide +kernel
theorem dX7_sharedSize_19 : decode cX7_sharedSize 19 = .ok (.laload, 1) := by decide +kernel
theorem dX7_sharedSize_20 : decode cX7_sharedSize 20 = .ok (.invokevirtual 83, 3) := by decide +kernel
theorem dX7_sharedSize_23 : decode cX7_sharedSize 23 = .ok (.iinc 1 1, 3) := by decide +kernel
theorem dX7_sharedSize_26 : decode cX7_sharedSize 26 = .ok (.goto (-19), 3) := by decide +kernel
theorem dX7_sharedSize_29 : decode cX7_sharedSize 29 = .ok (.aload_n 0, 1) := by decide +kernel
theorem dX7_sharedSize_30 : decode cX7_sharedSize 30 = .ok (.invokevirtual 87, 3) := by decide +kernel
theorem dX7_sharedSize_33 : decode cX7_sharedSize 33 = .ok (.ireturn, 1) := by decide +kernel
set_option maxRecDepth 20000 in
theorem ggX7_isGreater_X7_many : GoodIn wsX7_isGreater wsX7_many := goodIn_r _ [5] (by decide +kernel) (by decide +kernel)
set_option maxRecDepth 20000 in
theorem gX7_isGreater_X7_many : GoodIn wsX7_isGreater (va_wsS RX7 40 yX7_many wsX7_many) := goodIn_app (goodIn_of _ (by decide +kernel)) ggX7_isGreater_X7_many
theorem dX7_isGreater_0 : decode cX7_isGreater 0 = .ok (.iload_n 2, 1) := by decide +kernel
theorem dX7_isGreater_1 : decode cX7_isGreater 1 = .ok (.iload_n 3, 1) := by decide +kernel
theorem dX7_isGreater_2 : decode cX7_isGreater 2 = .ok (.ixor, 1) := by decide +kernel
theorem dX7_isGreater_3 : decode cX7_isGreater 3 = .ok (.istore 4, 2) := by decide +kernel
theorem dX7_isGreater_5 : decode cX7_isGreater 5 = .ok (.iload 4, 2) := by decide +kernel
theorem dX7_isGreater_7 : decode cX7_isGreater 7 = .ok (.ifCond .ne 5, 3) := by decide +kernel
theorem dX7_isGreater_10 : decode cX7_isGreater 10 = .ok (.iconst 0, 1) := by decide +kernel
theorem dX7_isGreater_11 : decode cX7_isGreater 11 = .ok (.ireturn, 1) := by decide +kernel
theorem dX7_isGreater_12 : decode cX7_isGreater 12 = .ok (.iload_n 2, 1) := by decide +kernel
theorem dX7_isGreater_13 : decode cX7_isGreater 13 = .ok (.i2l, 1) := by decide +kernel
theorem dX7_isGreater_14 : decode cX7_isGreater 14 = .ok (.invokestatic 40, 3) := by decide +kernel
theorem dX7_isGreater_17 : decode cX7_isGreater 17 = .ok (.iload_n 3, 1) := by decide +kernel
theorem dX7_isGreater_18 : decode cX7_isGreater 18 = .ok (.i2l, 1) := by decide +kernel
theorem dX7_isGreater_19 : decode cX7_isGreater 19 = .ok (.invokestatic 40, 3) := by decide +kernel
theorem dX7_isGreater_22 : decode cX7_isGreater 22 = .ok (.isub, 1) := by decide +kernel
theorem dX7_isGreater_23 : decode cX7_isGreater 23 = .ok (.istore 5, 2) := by decide +kernel
theorem dX7_isGreater_25 : decode cX7_isGreater 25 = .ok (.iload_n 1, 1) := by decide +kernel
theorem dX7_isGreater_26 : decode cX7_isGreater 26 = .ok (.ifCond .le 19, 3) := by decide +kernel
theorem dX7_isGreater_29 : decode cX7_isGreater 29 = .ok (.iload 5, 2) := by decide +kernel
theorem dX7_isGreater_31 : decode cX7_isGreater 31 = .ok (.ifCond .eq 14, 3) := by decide +kernel
theorem dX7_isGreater_34 : decode cX7_isGreater 34 = .ok (.iload 5, 2) := by decide +kernel
theorem dX7_isGreater_36 : decode cX7_isGreater 36 = .ok (.ifCond .le 7, 3) := by decide +kernel
theorem dX7_isGreater_39 : decode cX7_isGreater 39 = .ok (.iconst 1, 1) := by decide +kernel
theorem dX7_isGreater_40 : decode cX7_isGreater 40 = .ok (.goto 4, 3) := by decide +kernel
theorem dX7_isGreater_43 : decode cX7_isGreater 43 = .ok (.iconst 0, 1) := by decide +kernel
theorem dX7_isGreater_44 : decode cX7_isGreater 44 = .ok (.ireturn, 1) := by decide +kernel
theorem dX7_isGreater_45 : decode cX7_isGreater 45 = .ok (.iload_n 1, 1) := by decide +kernel
theorem dX7_isGreater_46 : decode cX7_isGreater 46 = .ok (.iconst 2, 1) := by decide +kernel
theorem dX7_isGreater_47 : decode cX7_isGreater 47 = .ok (.if_icmp .ne 12, 3) := by decide +kernel
theorem dX7_isGreater_50 : decode cX7_isGreater 50 = .ok (.aload_n 0, 1) := by decide +kernel
theorem dX7_isGreater_51 : decode cX7_isGreater 51 = .ok (.getfield 7, 3) := by decide +kernel
theorem dX7_isGreater_54 : decode cX7_isGreater 54 = .ok (.iconst 1, 1) := by decide +kernel
theorem dX7_isGreater_55 : decode cX7_isGreater 55 = .ok (.isub, 1) := by decide +kernel
theorem dX7_isGreater_56 : decode cX7_isGreater 56 = .ok (.goto 4, 3) := by decide +kernel
theorem dX7_isGreater_59 : decode cX7_isGreater 59 = .ok (.iconst 0, 1) := by decide +kernel
theorem dX7_isGreater_60 : decode cX7_isGreater 60 = .ok (.istore 6, 2) := by decide +kernel
theorem dX7_isGreater_62 : decode cX7_isGreater 62 = .ok (.iload 4, 2) := by decide +kernel
theorem dX7_isGreater_64 : decode cX7_isGreater 64 = .ok (.iload 6, 2) := by decide +kernel
theorem dX7_isGreater_66 : decode cX7_isGreater 66 = .ok (.ishr, 1) := by decide +kernel
theorem dX7_isGreater_67 : decode cX7_isGreater 67 = .ok (.iconst 1, 1) := by decide +kernel
theorem dX7_isGreater_68 : decode cX7_isGreater 68 = .ok (.iand, 1) := by decide +kernel
theorem dX7_isGreater_69 : decode cX7_isGreater 69 = .ok (.ifCond .ne 21, 3) := by decide +kernel
theorem dX7_isGreater_72 : decode cX7_isGreater 72 = .ok (.iload 6, 2) := by decide +kernel
theorem dX7_isGreater_74 : decode cX7_isGreater 74 = .ok (.iload_n 1, 1) := by decide +kernel
theorem dX7_isGreater_75 : decode cX7_isGreater 75 = .ok (.iconst 2, 1) := by decide +kernel
theorem dX7_isGreater_76 : decode cX7_isGreater 76 = .ok (.if_icmp .ne 7, 3) := by decide +kernel
theorem dX7_isGreater_79 : decode cX7_isGreater 79 = .ok (.iconst (-1), 1) := by decide +kernel
theorem dX7_isGreater_80 : decode cX7_isGreater 80 = .ok (.goto 4, 3) := by decide +kernel
theorem dX7_isGreater_83 : decode cX7_isGreater 83 = .ok (.iconst 1, 1) := by decide +kernel
theorem dX7_isGreater_84 : decode cX7_isGreater 84 = .ok (.iadd, 1) := by decide +kernel
theorem dX7_isGreater_85 : decode cX7_isGreater 85 = .ok (.istore 6, 2) := by decide +kernel
theorem dX7_isGreater_87 : decode cX7_isGreater 87 = .ok (.goto (-25), 3) := by decide +kernel
theorem dX7_isGreater_90 : decode cX7_isGreater 90 = .ok (.iload_n 2, 1) := by decide +kernel
theorem dX7_isGreater_91 : decode cX7_isGreater 91 = .ok (.iload 6, 2) := by decide +kernel
theorem dX7_isGreater_93 : decode cX7_isGreater 93 = .ok (.ishr, 1) := by decide +kernel
theorem dX7_isGreater_94 : decode cX7_isGreater 94 = .ok (.iconst 1, 1) := by decide +kernel
theorem dX7_isGreater_95 : decode cX7_isGreater 95 = .ok (.iand, 1) := by decide +kernel
theorem dX7_isGreater_96 : decode cX7_isGreater 96 = .ok (.iload_n 1, 1) := by decide +kernel
theorem dX7_isGreater_97 : decode cX7_isGreater 97 = .ok (.iconst 2, 1) := by decide +kernel
theorem dX7_isGreater_98 : decode cX7_isGreater 98 = .ok (.if_icmp .ne 7, 3) := by decide +kernel
theorem dX7_isGreater_101 : decode cX7_isGreater 101 = .ok (.iconst 0, 1) := by decide +kernel
theorem dX7_isGreater_102 : decode cX7_isGreater 102 = .ok (.goto 4, 3) := by decide +kernel
theorem dX7_isGreater_105 : decode cX7_isGreater 105 = .ok (.iconst 1, 1) := by decide +kernel
theorem dX7_isGreater_106 : decode cX7_isGreater 106 = .ok (.if_icmp .ne 7, 3) := by decide +kernel
theorem dX7_isGreater_109 : decode cX7_isGreater 109 = .ok (.iconst 1, 1) := by decide +kernel
theorem dX7_isGreater_110 : decode cX7_isGreater 110 = .ok (.goto 4, 3) := by decide +kernel
theorem dX7_isGreater_113 : decode cX7_isGreater 113 = .ok (.iconst 0, 1) := by decide +kernel
theorem dX7_isGreater_114 : decode cX7_isGreater 114 = .ok (.ireturn, 1) := by decide +kernel
set_option maxRecDepth 20000 in
theorem ggX7_leads_X7_has1 : GoodIn wsX7_leads wsX7_has1 := goodIn_r _ [5] (by decide +kernel) (by decide +kernel)
set_option maxRecDepth 20000 in
theorem gX7_leads_X7_has1 : GoodIn wsX7_leads (va_wsS RX7 44 yX7_has1 wsX7_has1) := goodIn_app (goodIn_of _ (by decide +kernel)) ggX7_leads_X7_has1
set_option maxRecDepth 20000 in
theorem ggX7_leads_X7_isGreater : GoodIn wsX7_leads wsX7_isGreater := goodIn_r _ [9, 1, 10, 11, 4, 12, 13, 14, 15, 16, 17, 18, 19, 20, 21] (by decide +kernel) (by decide +kernel)
set_option maxRecDepth 20000 in
theorem gX7_leads_X7_isGreater : GoodIn wsX7_leads (wsV RX7 91 RX7 yX7_isGreater wsX7_isGreater) := goodIn_app (goodIn_of _ (by decide +kernel)) ggX7_leads_X7_isGreater
theorem dX7_leads_0 : decode cX7_leads 0 = .ok (.iconst (-1), 1) := by decide +kernel
theorem dX7_leads_1 : decode cX7_leads 1 = .ok (.istore 4, 2) := by decide +kernel
theorem dX7_leads_3 : decode cX7_leads 3 = .ok (.iconst 0, 1) := by decide +kernel
theorem dX7_leads_4 : decode cX7_leads 4 = .ok (.istore 5, 2) := by decide +kernel
theorem dX7_leads_6 : decode cX7_leads 6 = .ok (.iload 5, 2) := by decide +kernel
theorem dX7_leads_8 : decode cX7_leads 8 = .ok (.iconst 1, 1) := by decide +kernel
theorem dX7_leads_9 : decode cX7_leads 9 = .ok (.aload_n 0, 1) := by decide +kernel
theorem dX7_leads_10 : decode cX7_leads 10 = .ok (.getfield 7, 3) := by decide +kernel
theorem dX7_leads_13 : decode cX7_leads 13 = .ok (.ishl, 1) := by decide +kernel
theorem dX7_leads_14 : decode cX7_leads 14 = .ok (.if_icmp .ge 44, 3) := by decide +kernel
theorem dX7_leads_17 : decode cX7_leads 17 = .ok (.lload_n 1, 1) := by decide +kernel
theorem dX7_leads_18 : decode cX7_leads 18 = .ok (.iload 5, 2) := by decide +kernel
theorem dX7_leads_20 : decode cX7_leads 20 = .ok (.invokestatic 44, 3) := by decide +kernel
theorem dX7_leads_23 : decode cX7_leads 23 = .ok (.ifCond .eq 25, 3) := by decide +kernel
theorem dX7_leads_26 : decode cX7_leads 26 = .ok (.iload 4, 2) := by decide +kernel
theorem dX7_leads_28 : decode cX7_leads 28 = .ok (.ifCond .lt 15, 3) := by decide +kernel
theorem dX7_leads_31 : decode cX7_leads 31 = .ok (.aload_n 0, 1) := by decide +kernel
theorem dX7_leads_32 : decode cX7_leads 32 = .ok (.iload_n 3, 1) := by decide +kernel
theorem dX7_leads_33 : decode cX7_leads 33 = .ok (.iload 5, 2) := by decide +kernel
theorem dX7_leads_35 : decode cX7_leads 35 = .ok (.iload 4, 2) := by decide +kernel
theorem dX7_leads_37 : decode cX7_leads 37 = .ok (.invokevirtual 91, 3) := by decide +kernel
theorem dX7_leads_40 : decode cX7_leads 40 = .ok (.ifCond .eq 8, 3) := by decide +kernel
theorem dX7_leads_43 : decode cX7_leads 43 = .ok (.iload 5, 2) := by decide +kernel
theorem dX7_leads_45 : decode cX7_leads 45 = .ok (.goto 5, 3) := by decide +kernel
theorem dX7_leads_48 : decode cX7_leads 48 = .ok (.iload 4, 2) := by decide +kernel
theorem dX7_leads_50 : decode cX7_leads 50 = .ok (.istore 4, 2) := by decide +kernel
theorem dX7_leads_52 : decode cX7_leads 52 = .ok (.iinc 5 1, 3) := by decide +kernel
theorem dX7_leads_55 : decode cX7_leads 55 = .ok (.goto (-49), 3) := by decide +kernel
theorem dX7_leads_58 : decode cX7_leads 58 = .ok (.iload 4, 2) := by decide +kernel
theorem dX7_leads_60 : decode cX7_leads 60 = .ok (.ireturn, 1) := by decide +kernel
set_option maxRecDepth 20000 in
theorem ggX7_termAt_X7_isRegister : GoodIn wsX7_termAt wsX7_isRegister := goodIn_r _ [5, 6, 7, 4, 8] (by decide +kernel) (by decide +kernel)
set_option maxRecDepth 20000 in
theorem gX7_termAt_X7_isRegister : GoodIn wsX7_termAt (va_wsS RX7 48 yX7_isRegister wsX7_isRegister) := goodIn_app (goodIn_of _ (by decide +kernel)) ggX7_termAt_X7_isRegister
set_option maxRecDepth 20000 in
theorem ggX7_termAt_X7_isOrder : GoodIn wsX7_termAt wsX7_isOrder := goodIn_r _ [11, 6, 7, 4, 8] (by decide +kernel) (by decide +kernel)
set_option maxRecDepth 20000 in
theorem gX7_termAt_X7_isOrder : GoodIn wsX7_termAt (va_wsS RX7 94 yX7_isOrder wsX7_isOrder) := goodIn_app (goodIn_of _ (by decide +kernel)) ggX7_termAt_X7_isOrder
set_option maxRecDepth 20000 in
theorem ggX7_termAt_X7_leads : GoodIn wsX7_termAt wsX7_leads := goodIn_r _ [15, 16, 17, 18, 4, 19, 20, 21, 22, 23, 24, 25, 26, 27, 28, 29, 30, 31, 32, 33, 34, 35] (by decide +kernel) (by decide +kernel)
set_option maxRecDepth 20000 in
theorem gX7_termAt_X7_leads : GoodIn wsX7_termAt (wsV RX7 97 RX7 yX7_leads wsX7_leads) := goodIn_app (goodIn_of _ (by decide +kernel)) ggX7_termAt_X7_leads
theorem dX7_termAt_0 : decode cX7_termAt 0 = .ok (.iload_n 1, 1) := by decide +kernel
theorem dX7_termAt_1 : decode cX7_termAt 1 = .ok (.invokestatic 48, 3) := by decide +kernel
theorem dX7_termAt_4 : decode cX7_termAt 4 = .ok (.ifCond .eq 14, 3) := by decide +kernel
theorem dX7_termAt_7 : decode cX7_termAt 7 = .ok (.iload_n 2, 1) := by decide +kernel
theorem dX7_termAt_8 : decode cX7_termAt 8 = .ok (.invokestatic 94, 3) := by decide +kernel
theorem dX7_termAt_11 : decode cX7_termAt 11 = .ok (.ifCond .eq 7, 3) := by decide +kernel
theorem dX7_termAt_14 : decode cX7_termAt 14 = .ok (.iload_n 3, 1) := by decide +kernel
theorem dX7_termAt_15 : decode cX7_termAt 15 = .ok (.ifCond .ge 5, 3) := by decide +kernel
theorem dX7_termAt_18 : decode cX7_termAt 18 = .ok (.iconst (-1), 1) := by decide +kernel
theorem dX7_termAt_19 : decode cX7_termAt 19 = .ok (.ireturn, 1) := by decide +kernel
theorem dX7_termAt_20 : decode cX7_termAt 20 = .ok (.aload_n 0, 1) := by decide +kernel
theorem dX7_termAt_21 : decode cX7_termAt 21 = .ok (.getfield 13, 3) := by decide +kernel
theorem dX7_termAt_24 : decode cX7_termAt 24 = .ok (.iload_n 1, 1) := by decide +kernel
theorem dX7_termAt_25 : decode cX7_termAt 25 = .ok (.laload, 1) := by decide +kernel
theorem dX7_termAt_26 : decode cX7_termAt 26 = .ok (.lstore 4, 2) := by decide +kernel
theorem dX7_termAt_28 : decode cX7_termAt 28 = .ok (.iconst 0, 1) := by decide +kernel
theorem dX7_termAt_29 : decode cX7_termAt 29 = .ok (.istore 6, 2) := by decide +kernel
theorem dX7_termAt_31 : decode cX7_termAt 31 = .ok (.iload 6, 2) := by decide +kernel
theorem dX7_termAt_33 : decode cX7_termAt 33 = .ok (.iload_n 3, 1) := by decide +kernel
theorem dX7_termAt_34 : decode cX7_termAt 34 = .ok (.if_icmp .ge 30, 3) := by decide +kernel
theorem dX7_termAt_37 : decode cX7_termAt 37 = .ok (.lload 4, 2) := by decide +kernel
theorem dX7_termAt_39 : decode cX7_termAt 39 = .ok (.lconst 0, 1) := by decide +kernel
theorem dX7_termAt_40 : decode cX7_termAt 40 = .ok (.lcmp, 1) := by decide +kernel
theorem dX7_termAt_41 : decode cX7_termAt 41 = .ok (.ifCond .eq 23, 3) := by decide +kernel
theorem dX7_termAt_44 : decode cX7_termAt 44 = .ok (.lload 4, 2) := by decide +kernel
theorem dX7_termAt_46 : decode cX7_termAt 46 = .ok (.lconst 1, 1) := by decide +kernel
theorem dX7_termAt_47 : decode cX7_termAt 47 = .ok (.aload_n 0, 1) := by decide +kernel
theorem dX7_termAt_48 : decode cX7_termAt 48 = .ok (.lload 4, 2) := by decide +kernel
theorem dX7_termAt_50 : decode cX7_termAt 50 = .ok (.iload_n 2, 1) := by decide +kernel
theorem dX7_termAt_51 : decode cX7_termAt 51 = .ok (.invokevirtual 97, 3) := by decide +kernel
theorem dX7_termAt_54 : decode cX7_termAt 54 = .ok (.lshl, 1) := by decide +kernel
theorem dX7_termAt_55 : decode cX7_termAt 55 = .ok (.lxor, 1) := by decide +kernel
theorem dX7_termAt_56 : decode cX7_termAt 56 = .ok (.lstore 4, 2) := by decide +kernel
theorem dX7_termAt_58 : decode cX7_termAt 58 = .ok (.iinc 6 1, 3) := by decide +kernel
theorem dX7_termAt_61 : decode cX7_termAt 61 = .ok (.goto (-30), 3) := by decide +kernel
theorem dX7_termAt_64 : decode cX7_termAt 64 = .ok (.lload 4, 2) := by decide +kernel
theorem dX7_termAt_66 : decode cX7_termAt 66 = .ok (.lconst 0, 1) := by decide +kernel
theorem dX7_termAt_67 : decode cX7_termAt 67 = .ok (.lcmp, 1) := by decide +kernel
theorem dX7_termAt_68 : decode cX7_termAt 68 = .ok (.ifCond .ne 8, 3) := by decide +kernel
theorem dX7_termAt_71 : decode cX7_termAt 71 = .ok (.bipush (-4), 2) := by decide +kernel
theorem dX7_termAt_73 : decode cX7_termAt 73 = .ok (.goto 10, 3) := by decide +kernel
theorem dX7_termAt_76 : decode cX7_termAt 76 = .ok (.aload_n 0, 1) := by decide +kernel
theorem dX7_termAt_77 : decode cX7_termAt 77 = .ok (.lload 4, 2) := by decide +kernel
theorem dX7_termAt_79 : decode cX7_termAt 79 = .ok (.iload_n 2, 1) := by decide +kernel
theorem dX7_termAt_80 : decode cX7_termAt 80 = .ok (.invokevirtual 97, 3) := by decide +kernel
theorem dX7_termAt_83 : decode cX7_termAt 83 = .ok (.ireturn, 1) := by decide +kernel
set_option maxRecDepth 20000 in
theorem ggX7_value_X7_isRegister : GoodIn wsX7_value wsX7_isRegister := goodIn_r _ [5, 6, 7, 4, 8] (by decide +kernel) (by decide +kernel)
set_option maxRecDepth 20000 in
theorem gX7_value_X7_isRegister : GoodIn wsX7_value (va_wsS RX7 48 yX7_isRegister wsX7_isRegister) := goodIn_app (goodIn_of _ (by decide +kernel)) ggX7_value_X7_isRegister
set_option maxRecDepth 20000 in
theorem ggX7_value_X7_isMask : GoodIn wsX7_value wsX7_isMask := goodIn_r _ [12, 13, 6, 7, 4, 8, 21, 22, 23, 24, 25, 26, 27, 28, 29] (by decide +kernel) (by decide +kernel)
set_option maxRecDepth 20000 in
theorem gX7_value_X7_isMask : GoodIn wsX7_value (wsV RX7 52 RX7 yX7_isMask wsX7_isMask) := goodIn_app (goodIn_of _ (by decide +kernel)) ggX7_value_X7_isMask
set_option maxRecDepth 20000 in
theorem ggX7_value_X7_values : GoodIn wsX7_value wsX7_values := goodIn_r _ [17, 13, 18, 19, 4, 20, 21, 22, 23, 24, 25, 26, 27, 28, 29] (by decide +kernel) (by decide +kernel)
set_option maxRecDepth 20000 in
theorem gX7_value_X7_values : GoodIn wsX7_value (wsV RX7 73 RX7 yX7_values wsX7_values) := goodIn_app (goodIn_of _ (by decide +kernel)) ggX7_value_X7_values
theorem dX7_value_0 : decode cX7_value 0 = .ok (.iload_n 1, 1) := by decide +kernel
theorem dX7_value_1 : decode cX7_value 1 = .ok (.invokestatic 48, 3) := by decide +kernel
theorem dX7_value_4 : decode cX7_value 4 = .ok (.ifCond .eq 29, 3) := by decide +kernel
theorem dX7_value_7 : decode cX7_value 7 = .ok (.aload_n 0, 1) := by decide +kernel
theorem dX7_value_8 : decode cX7_value 8 = .ok (.iload_n 2, 1) := by decide +kernel
theorem dX7_value_9 : decode cX7_value 9 = .ok (.invokevirtual 52, 3) := by decide +kernel
theorem dX7_value_12 : decode cX7_value 12 = .ok (.ifCond .eq 21, 3) := by decide +kernel
theorem dX7_value_15 : decode cX7_value 15 = .ok (.aload_n 0, 1) := by decide +kernel
theorem dX7_value_16 : decode cX7_value 16 = .ok (.aload_n 0, 1) := by decide +kernel
theorem dX7_value_17 : decode cX7_value 17 = .ok (.getfield 13, 3) := by decide +kernel
theorem dX7_value_20 : decode cX7_value 20 = .ok (.iload_n 1, 1) := by decide +kernel
theorem dX7_value_21 : decode cX7_value 21 = .ok (.laload, 1) := by decide +kernel
theorem dX7_value_22 : decode cX7_value 22 = .ok (.invokevirtual 73, 3) := by decide +kernel
theorem dX7_value_25 : decode cX7_value 25 = .ok (.iload_n 2, 1) := by decide +kernel
theorem dX7_value_26 : decode cX7_value 26 = .ok (.lshr, 1) := by decide +kernel
theorem dX7_value_27 : decode cX7_value 27 = .ok (.lconst 1, 1) := by decide +kernel
theorem dX7_value_28 : decode cX7_value 28 = .ok (.land, 1) := by decide +kernel
theorem dX7_value_29 : decode cX7_value 29 = .ok (.l2i, 1) := by decide +kernel
theorem dX7_value_30 : decode cX7_value 30 = .ok (.goto 4, 3) := by decide +kernel
theorem dX7_value_33 : decode cX7_value 33 = .ok (.iconst (-1), 1) := by decide +kernel
theorem dX7_value_34 : decode cX7_value 34 = .ok (.ireturn, 1) := by decide +kernel
set_option maxRecDepth 20000 in
theorem ggX7_isSame_X7_isRegister : GoodIn wsX7_isSame wsX7_isRegister := goodIn_r _ [5, 6, 7, 4, 8] (by decide +kernel) (by decide +kernel)
set_option maxRecDepth 20000 in
theorem gX7_isSame_X7_isRegister : GoodIn wsX7_isSame (va_wsS RX7 48 yX7_isRegister wsX7_isRegister) := goodIn_app (goodIn_of _ (by decide +kernel)) ggX7_isSame_X7_isRegister
theorem dX7_isSame_0 : decode cX7_isSame 0 = .ok (.iload_n 1, 1) := by decide +kernel
theorem dX7_isSame_1 : decode cX7_isSame 1 = .ok (.invokestatic 48, 3) := by decide +kernel
theorem dX7_isSame_4 : decode cX7_isSame 4 = .ok (.ifCond .eq 10, 3) := by decide +kernel
theorem dX7_isSame_7 : decode cX7_isSame 7 = .ok (.iload_n 2, 1) := by decide +kernel
theorem dX7_isSame_8 : decode cX7_isSame 8 = .ok (.invokestatic 48, 3) := by decide +kernel
theorem dX7_isSame_11 : decode cX7_isSame 11 = .ok (.ifCond .ne 7, 3) := by decide +kernel
theorem dX7_isSame_14 : decode cX7_isSame 14 = .ok (.iconst (-1), 1) := by decide +kernel
theorem dX7_isSame_15 : decode cX7_isSame 15 = .ok (.goto 24, 3) := by decide +kernel
theorem dX7_isSame_18 : decode cX7_isSame 18 = .ok (.aload_n 0, 1) := by decide +kernel
theorem dX7_isSame_19 : decode cX7_isSame 19 = .ok (.getfield 13, 3) := by decide +kernel
theorem dX7_isSame_22 : decode cX7_isSame 22 = .ok (.iload_n 1, 1) := by decide +kernel
theorem dX7_isSame_23 : decode cX7_isSame 23 = .ok (.laload, 1) := by decide +kernel
theorem dX7_isSame_24 : decode cX7_isSame 24 = .ok (.aload_n 0, 1) := by decide +kernel
theorem dX7_isSame_25 : decode cX7_isSame 25 = .ok (.getfield 13, 3) := by decide +kernel
theorem dX7_isSame_28 : decode cX7_isSame 28 = .ok (.iload_n 2, 1) := by decide +kernel
theorem dX7_isSame_29 : decode cX7_isSame 29 = .ok (.laload, 1) := by decide +kernel
theorem dX7_isSame_30 : decode cX7_isSame 30 = .ok (.lcmp, 1) := by decide +kernel
theorem dX7_isSame_31 : decode cX7_isSame 31 = .ok (.ifCond .ne 7, 3) := by decide +kernel
theorem dX7_isSame_34 : decode cX7_isSame 34 = .ok (.iconst 1, 1) := by decide +kernel
theorem dX7_isSame_35 : decode cX7_isSame 35 = .ok (.goto 4, 3) := by decide +kernel
theorem dX7_isSame_38 : decode cX7_isSame 38 = .ok (.iconst 0, 1) := by decide +kernel
theorem dX7_isSame_39 : decode cX7_isSame 39 = .ok (.ireturn, 1) := by decide +kernel
set_option maxRecDepth 20000 in
theorem ggX7_taker_X7_leads : GoodIn wsX7_taker wsX7_leads := goodIn_r _ [6, 7, 8, 9, 5, 10, 11, 12, 13, 14, 15, 16, 17, 18, 19, 20, 21, 22, 23, 24, 25, 26] (by decide +kernel) (by decide +kernel)
set_option maxRecDepth 20000 in
theorem gX7_taker_X7_leads : GoodIn wsX7_taker (wsV RX7 97 RX7 yX7_leads wsX7_leads) := goodIn_app (goodIn_of _ (by decide +kernel)) ggX7_taker_X7_leads
theorem dX7_taker_0 : decode cX7_taker 0 = .ok (.iconst 0, 1) := by decide +kernel
theorem dX7_taker_1 : decode cX7_taker 1 = .ok (.istore 4, 2) := by decide +kernel
theorem dX7_taker_3 : decode cX7_taker 3 = .ok (.iload 4, 2) := by decide +kernel
theorem dX7_taker_5 : decode cX7_taker 5 = .ok (.bipush 8, 2) := by decide +kernel
theorem dX7_taker_7 : decode cX7_taker 7 = .ok (.if_icmp .ge 57, 3) := by decide +kernel
theorem dX7_taker_10 : decode cX7_taker 10 = .ok (.iload_n 1, 1) := by decide +kernel
theorem dX7_taker_11 : decode cX7_taker 11 = .ok (.iload 4, 2) := by decide +kernel
theorem dX7_taker_13 : decode cX7_taker 13 = .ok (.ishr, 1) := by decide +kernel
theorem dX7_taker_14 : decode cX7_taker 14 = .ok (.iconst 1, 1) := by decide +kernel
theorem dX7_taker_15 : decode cX7_taker 15 = .ok (.iand, 1) := by decide +kernel
theorem dX7_taker_16 : decode cX7_taker 16 = .ok (.iconst 1, 1) := by decide +kernel
theorem dX7_taker_17 : decode cX7_taker 17 = .ok (.if_icmp .ne 41, 3) := by decide +kernel
theorem dX7_taker_20 : decode cX7_taker 20 = .ok (.aload_n 0, 1) := by decide +kernel
theorem dX7_taker_21 : decode cX7_taker 21 = .ok (.getfield 27, 3) := by decide +kernel
theorem dX7_taker_24 : decode cX7_taker 24 = .ok (.iload 4, 2) := by decide +kernel
theorem dX7_taker_26 : decode cX7_taker 26 = .ok (.laload, 1) := by decide +kernel
theorem dX7_taker_27 : decode cX7_taker 27 = .ok (.lconst 0, 1) := by decide +kernel
theorem dX7_taker_28 : decode cX7_taker 28 = .ok (.lcmp, 1) := by decide +kernel
theorem dX7_taker_29 : decode cX7_taker 29 = .ok (.ifCond .eq 29, 3) := by decide +kernel
theorem dX7_taker_32 : decode cX7_taker 32 = .ok (.aload_n 0, 1) := by decide +kernel
theorem dX7_taker_33 : decode cX7_taker 33 = .ok (.aload_n 0, 1) := by decide +kernel
theorem dX7_taker_34 : decode cX7_taker 34 = .ok (.getfield 27, 3) := by decide +kernel
theorem dX7_taker_37 : decode cX7_taker 37 = .ok (.iload 4, 2) := by decide +kernel
theorem dX7_taker_39 : decode cX7_taker 39 = .ok (.laload, 1) := by decide +kernel
theorem dX7_taker_40 : decode cX7_taker 40 = .ok (.iload_n 2, 1) := by decide +kernel
theorem dX7_taker_41 : decode cX7_taker 41 = .ok (.invokevirtual 97, 3) := by decide +kernel
theorem dX7_taker_44 : decode cX7_taker 44 = .ok (.istore 5, 2) := by decide +kernel
theorem dX7_taker_46 : decode cX7_taker 46 = .ok (.iload 5, 2) := by decide +kernel
theorem dX7_taker_48 : decode cX7_taker 48 = .ok (.iload_n 3, 1) := by decide +kernel
theorem dX7_taker_49 : decode cX7_taker 49 = .ok (.iconst (-1), 1) := by decide +kernel
theorem dX7_taker_50 : decode cX7_taker 50 = .ok (.ixor, 1) := by decide +kernel
theorem dX7_taker_51 : decode cX7_taker 51 = .ok (.iand, 1) := by decide +kernel
theorem dX7_taker_52 : decode cX7_taker 52 = .ok (.ifCond .ne 6, 3) := by decide +kernel
theorem dX7_taker_55 : decode cX7_taker 55 = .ok (.iload 4, 2) := by decide +kernel
theorem dX7_taker_57 : decode cX7_taker 57 = .ok (.ireturn, 1) := by decide +kernel
theorem dX7_taker_58 : decode cX7_taker 58 = .ok (.iinc 4 1, 3) := by decide +kernel
theorem dX7_taker_61 : decode cX7_taker 61 = .ok (.goto (-58), 3) := by decide +kernel
theorem dX7_taker_64 : decode cX7_taker 64 = .ok (.iconst (-1), 1) := by decide +kernel
theorem dX7_taker_65 : decode cX7_taker 65 = .ok (.ireturn, 1) := by decide +kernel
set_option maxRecDepth 20000 in
theorem ggX7_reduce_X7_isRegister : GoodIn wsX7_reduce wsX7_isRegister := goodIn_r _ [7, 8, 9, 6, 10] (by decide +kernel) (by decide +kernel)
set_option maxRecDepth 20000 in
theorem gX7_reduce_X7_isRegister : GoodIn wsX7_reduce (va_wsS RX7 48 yX7_isRegister wsX7_isRegister) := goodIn_app (goodIn_of _ (by decide +kernel)) ggX7_reduce_X7_isRegister
set_option maxRecDepth 20000 in
theorem ggX7_reduce_X7_isSet : GoodIn wsX7_reduce wsX7_isSet := goodIn_r _ [13, 8, 9, 6, 10] (by decide +kernel) (by decide +kernel)
set_option maxRecDepth 20000 in
theorem gX7_reduce_X7_isSet : GoodIn wsX7_reduce (va_wsS RX7 101 yX7_isSet wsX7_isSet) := goodIn_app (goodIn_of _ (by decide +kernel)) ggX7_reduce_X7_isSet
set_option maxRecDepth 20000 in
theorem ggX7_reduce_X7_isOrder : GoodIn wsX7_reduce wsX7_isOrder := goodIn_r _ [16, 8, 9, 6, 10] (by decide +kernel) (by decide +kernel)
set_option maxRecDepth 20000 in
theorem gX7_reduce_X7_isOrder : GoodIn wsX7_reduce (va_wsS RX7 94 yX7_isOrder wsX7_isOrder) := goodIn_app (goodIn_of _ (by decide +kernel)) ggX7_reduce_X7_isOrder
set_option maxRecDepth 20000 in
theorem ggX7_reduce_X7_leads : GoodIn wsX7_reduce wsX7_leads := goodIn_r _ [20, 21, 22, 23, 6, 24, 25, 26, 27, 28, 29, 30, 31, 50, 51, 52, 53, 54, 55, 56, 57, 58] (by decide +kernel) (by decide +kernel)
set_option maxRecDepth 20000 in
theorem gX7_reduce_X7_leads : GoodIn wsX7_reduce (wsV RX7 97 RX7 yX7_leads wsX7_leads) := goodIn_app (goodIn_of _ (by decide +kernel)) ggX7_reduce_X7_leads
set_option maxRecDepth 20000 in
theorem ggX7_reduce_X7_taker : GoodIn wsX7_reduce wsX7_taker := goodIn_r _ [35, 1, 17, 18, 19, 6, 20, 21, 22, 23, 24, 25, 26, 27, 28, 29, 30, 31, 50, 51, 52, 53, 54, 55, 56, 57, 58] (by decide +kernel) (by decide +kernel)
set_option maxRecDepth 20000 in
theorem gX7_reduce_X7_taker : GoodIn wsX7_reduce (wsV RX7 106 RX7 yX7_taker wsX7_taker) := goodIn_app (goodIn_of _ (by decide +kernel)) ggX7_reduce_X7_taker
set_option maxRecDepth 20000 in
theorem ggX7_reduce_X7_product1 : GoodIn wsX7_reduce wsX7_product1 := goodIn_r _ [39, 21, 22, 23, 6, 24, 50, 51, 52, 53, 54, 55, 56, 57, 58] (by decide +kernel) (by decide +kernel)
set_option maxRecDepth 20000 in
theorem gX7_reduce_X7_product1 : GoodIn wsX7_reduce (wsV RX7 59 RX7 yX7_product1 wsX7_product1) := goodIn_app (goodIn_of _ (by decide +kernel)) ggX7_reduce_X7_product1
set_option maxRecDepth 20000 in
theorem ggX7_reduce_X7_gets : GoodIn wsX7_reduce wsX7_gets := goodIn_r _ [43, 2, 44, 45, 46, 6, 47, 48, 49, 29, 30, 31, 50, 51, 52, 53, 54, 55, 56, 57, 58] (by decide +kernel) (by decide +kernel)
set_option maxRecDepth 20000 in
theorem gX7_reduce_X7_gets : GoodIn wsX7_reduce (wsV RX7 55 RX7 yX7_gets wsX7_gets) := goodIn_app (goodIn_of _ (by decide +kernel)) ggX7_reduce_X7_gets
theorem dX7_reduce_0 : decode cX7_reduce 0 = .ok (.iload_n 1, 1) := by decide +kernel
theorem dX7_reduce_1 : decode cX7_reduce 1 = .ok (.invokestatic 48, 3) := by decide +kernel
theorem dX7_reduce_4 : decode cX7_reduce 4 = .ok (.ifCond .eq 25, 3) := by decide +kernel
theorem dX7_reduce_7 : decode cX7_reduce 7 = .ok (.iload_n 2, 1) := by decide +kernel
theorem dX7_reduce_8 : decode cX7_reduce 8 = .ok (.invokestatic 101, 3) := by decide +kernel
theorem dX7_reduce_11 : decode cX7_reduce 11 = .ok (.ifCond .eq 18, 3) := by decide +kernel
theorem dX7_reduce_14 : decode cX7_reduce 14 = .ok (.iload_n 3, 1) := by decide +kernel
theorem dX7_reduce_15 : decode cX7_reduce 15 = .ok (.invokestatic 94, 3) := by decide +kernel
theorem dX7_reduce_18 : decode cX7_reduce 18 = .ok (.ifCond .eq 11, 3) := by decide +kernel
theorem dX7_reduce_21 : decode cX7_reduce 21 = .ok (.iload 4, 2) := by decide +kernel
theorem dX7_reduce_23 : decode cX7_reduce 23 = .ok (.invokestatic 48, 3) := by decide +kernel
theorem dX7_reduce_26 : decode cX7_reduce 26 = .ok (.ifCond .ne 5, 3) := by decide +kernel
theorem dX7_reduce_29 : decode cX7_reduce 29 = .ok (.iconst (-1), 1) := by decide +kernel
theorem dX7_reduce_30 : decode cX7_reduce 30 = .ok (.ireturn, 1) := by decide +kernel
theorem dX7_reduce_31 : decode cX7_reduce 31 = .ok (.iconst 0, 1) := by decide +kernel
theorem dX7_reduce_32 : decode cX7_reduce 32 = .ok (.istore 5, 2) := by decide +kernel
theorem dX7_reduce_34 : decode cX7_reduce 34 = .ok (.iload 5, 2) := by decide +kernel
theorem dX7_reduce_36 : decode cX7_reduce 36 = .ok (.bipush 8, 2) := by decide +kernel
theorem dX7_reduce_38 : decode cX7_reduce 38 = .ok (.if_icmp .ge 23, 3) := by decide +kernel
theorem dX7_reduce_41 : decode cX7_reduce 41 = .ok (.aload_n 0, 1) := by decide +kernel
theorem dX7_reduce_42 : decode cX7_reduce 42 = .ok (.getfield 27, 3) := by decide +kernel
theorem dX7_reduce_45 : decode cX7_reduce 45 = .ok (.iload 5, 2) := by decide +kernel
theorem dX7_reduce_47 : decode cX7_reduce 47 = .ok (.aload_n 0, 1) := by decide +kernel
theorem dX7_reduce_48 : decode cX7_reduce 48 = .ok (.getfield 13, 3) := by decide +kernel
theorem dX7_reduce_51 : decode cX7_reduce 51 = .ok (.iload 5, 2) := by decide +kernel
theorem dX7_reduce_53 : decode cX7_reduce 53 = .ok (.laload, 1) := by decide +kernel
theorem dX7_reduce_54 : decode cX7_reduce 54 = .ok (.lastore, 1) := by decide +kernel
theorem dX7_reduce_55 : decode cX7_reduce 55 = .ok (.iinc 5 1, 3) := by decide +kernel
theorem dX7_reduce_58 : decode cX7_reduce 58 = .ok (.goto (-24), 3) := by decide +kernel
theorem dX7_reduce_61 : decode cX7_reduce 61 = .ok (.aload_n 0, 1) := by decide +kernel
theorem dX7_reduce_62 : decode cX7_reduce 62 = .ok (.getfield 13, 3) := by decide +kernel
theorem dX7_reduce_65 : decode cX7_reduce 65 = .ok (.iload_n 1, 1) := by decide +kernel
theorem dX7_reduce_66 : decode cX7_reduce 66 = .ok (.laload, 1) := by decide +kernel
theorem dX7_reduce_67 : decode cX7_reduce 67 = .ok (.lstore 5, 2) := by decide +kernel
theorem dX7_reduce_69 : decode cX7_reduce 69 = .ok (.lconst 0, 1) := by decide +kernel
theorem dX7_reduce_70 : decode cX7_reduce 70 = .ok (.lstore 7, 2) := by decide +kernel
theorem dX7_reduce_72 : decode cX7_reduce 72 = .ok (.iconst 0, 1) := by decide +kernel
theorem dX7_reduce_73 : decode cX7_reduce 73 = .ok (.istore 9, 2) := by decide +kernel
theorem dX7_reduce_75 : decode cX7_reduce 75 = .ok (.lload 5, 2) := by decide +kernel
theorem dX7_reduce_77 : decode cX7_reduce 77 = .ok (.lload 7, 2) := by decide +kernel
theorem dX7_reduce_79 : decode cX7_reduce 79 = .ok (.ldc2_w 104, 3) := by decide +kernel
theorem dX7_reduce_82 : decode cX7_reduce 82 = .ok (.lxor, 1) := by decide +kernel
theorem dX7_reduce_83 : decode cX7_reduce 83 = .ok (.land, 1) := by decide +kernel
theorem dX7_reduce_84 : decode cX7_reduce 84 = .ok (.lconst 0, 1) := by decide +kernel
theorem dX7_reduce_85 : decode cX7_reduce 85 = .ok (.lcmp, 1) := by decide +kernel
theorem dX7_reduce_86 : decode cX7_reduce 86 = .ok (.ifCond .eq 87, 3) := by decide +kernel
theorem dX7_reduce_89 : decode cX7_reduce 89 = .ok (.aload_n 0, 1) := by decide +kernel
theorem dX7_reduce_90 : decode cX7_reduce 90 = .ok (.lload 5, 2) := by decide +kernel
theorem dX7_reduce_92 : decode cX7_reduce 92 = .ok (.lload 7, 2) := by decide +kernel
theorem dX7_reduce_94 : decode cX7_reduce 94 = .ok (.ldc2_w 104, 3) := by decide +kernel
theorem dX7_reduce_97 : decode cX7_reduce 97 = .ok (.lxor, 1) := by decide +kernel
theorem dX7_reduce_98 : decode cX7_reduce 98 = .ok (.land, 1) := by decide +kernel
theorem dX7_reduce_99 : decode cX7_reduce 99 = .ok (.iload_n 3, 1) := by decide +kernel
theorem dX7_reduce_100 : decode cX7_reduce 100 = .ok (.invokevirtual 97, 3) := by decide +kernel
theorem dX7_reduce_103 : decode cX7_reduce 103 = .ok (.istore 10, 2) := by decide +kernel
theorem dX7_reduce_105 : decode cX7_reduce 105 = .ok (.aload_n 0, 1) := by decide +kernel
theorem dX7_reduce_106 : decode cX7_reduce 106 = .ok (.iload_n 2, 1) := by decide +kernel
theorem dX7_reduce_107 : decode cX7_reduce 107 = .ok (.iload_n 3, 1) := by decide +kernel
theorem dX7_reduce_108 : decode cX7_reduce 108 = .ok (.iload 10, 2) := by decide +kernel
theorem dX7_reduce_110 : decode cX7_reduce 110 = .ok (.invokevirtual 106, 3) := by decide +kernel
theorem dX7_reduce_113 : decode cX7_reduce 113 = .ok (.istore 11, 2) := by decide +kernel
theorem dX7_reduce_115 : decode cX7_reduce 115 = .ok (.iload 11, 2) := by decide +kernel
theorem dX7_reduce_117 : decode cX7_reduce 117 = .ok (.ifCond .ge 15, 3) := by decide +kernel
theorem dX7_reduce_120 : decode cX7_reduce 120 = .ok (.lload 7, 2) := by decide +kernel
theorem dX7_reduce_122 : decode cX7_reduce 122 = .ok (.lconst 1, 1) := by decide +kernel
theorem dX7_reduce_123 : decode cX7_reduce 123 = .ok (.iload 10, 2) := by decide +kernel
theorem dX7_reduce_125 : decode cX7_reduce 125 = .ok (.lshl, 1) := by decide +kernel
theorem dX7_reduce_126 : decode cX7_reduce 126 = .ok (.lor, 1) := by decide +kernel
theorem dX7_reduce_127 : decode cX7_reduce 127 = .ok (.lstore 7, 2) := by decide +kernel
theorem dX7_reduce_129 : decode cX7_reduce 129 = .ok (.goto 41, 3) := by decide +kernel
theorem dX7_reduce_132 : decode cX7_reduce 132 = .ok (.lload 5, 2) := by decide +kernel
theorem dX7_reduce_134 : decode cX7_reduce 134 = .ok (.aload_n 0, 1) := by decide +kernel
theorem dX7_reduce_135 : decode cX7_reduce 135 = .ok (.lconst 1, 1) := by decide +kernel
theorem dX7_reduce_136 : decode cX7_reduce 136 = .ok (.iload 10, 2) := by decide +kernel
theorem dX7_reduce_138 : decode cX7_reduce 138 = .ok (.aload_n 0, 1) := by decide +kernel
theorem dX7_reduce_139 : decode cX7_reduce 139 = .ok (.aload_n 0, 1) := by decide +kernel
theorem dX7_reduce_140 : decode cX7_reduce 140 = .ok (.getfield 27, 3) := by decide +kernel
theorem dX7_reduce_143 : decode cX7_reduce 143 = .ok (.iload 11, 2) := by decide +kernel
theorem dX7_reduce_145 : decode cX7_reduce 145 = .ok (.laload, 1) := by decide +kernel
theorem dX7_reduce_146 : decode cX7_reduce 146 = .ok (.iload_n 3, 1) := by decide +kernel
theorem dX7_reduce_147 : decode cX7_reduce 147 = .ok (.invokevirtual 97, 3) := by decide +kernel
theorem dX7_reduce_150 : decode cX7_reduce 150 = .ok (.iconst (-1), 1) := by decide +kernel
theorem dX7_reduce_151 : decode cX7_reduce 151 = .ok (.ixor, 1) := by decide +kernel
theorem dX7_reduce_152 : decode cX7_reduce 152 = .ok (.iand, 1) := by decide +kernel
theorem dX7_reduce_153 : decode cX7_reduce 153 = .ok (.lshl, 1) := by decide +kernel
theorem dX7_reduce_154 : decode cX7_reduce 154 = .ok (.aload_n 0, 1) := by decide +kernel
theorem dX7_reduce_155 : decode cX7_reduce 155 = .ok (.getfield 27, 3) := by decide +kernel
theorem dX7_reduce_158 : decode cX7_reduce 158 = .ok (.iload 11, 2) := by decide +kernel
theorem dX7_reduce_160 : decode cX7_reduce 160 = .ok (.laload, 1) := by decide +kernel
theorem dX7_reduce_161 : decode cX7_reduce 161 = .ok (.invokevirtual 59, 3) := by decide +kernel
theorem dX7_reduce_164 : decode cX7_reduce 164 = .ok (.lxor, 1) := by decide +kernel
theorem dX7_reduce_165 : decode cX7_reduce 165 = .ok (.lstore 5, 2) := by decide +kernel
theorem dX7_reduce_167 : decode cX7_reduce 167 = .ok (.iinc 9 1, 3) := by decide +kernel
theorem dX7_reduce_170 : decode cX7_reduce 170 = .ok (.goto (-95), 3) := by decide +kernel
theorem dX7_reduce_173 : decode cX7_reduce 173 = .ok (.aload_n 0, 1) := by decide +kernel
theorem dX7_reduce_174 : decode cX7_reduce 174 = .ok (.iload 4, 2) := by decide +kernel
theorem dX7_reduce_176 : decode cX7_reduce 176 = .ok (.lload 5, 2) := by decide +kernel
theorem dX7_reduce_178 : decode cX7_reduce 178 = .ok (.invokevirtual 55, 3) := by decide +kernel
theorem dX7_reduce_181 : decode cX7_reduce 181 = .ok (.pop, 1) := by decide +kernel
theorem dX7_reduce_182 : decode cX7_reduce 182 = .ok (.iload 9, 2) := by decide +kernel
theorem dX7_reduce_184 : decode cX7_reduce 184 = .ok (.ireturn, 1) := by decide +kernel
set_option maxRecDepth 20000 in
theorem ggX7_echelon_X7_isSet : GoodIn wsX7_echelon wsX7_isSet := goodIn_r _ [6, 7, 8, 5, 9] (by decide +kernel) (by decide +kernel)
set_option maxRecDepth 20000 in
theorem gX7_echelon_X7_isSet : GoodIn wsX7_echelon (va_wsS RX7 101 yX7_isSet wsX7_isSet) := goodIn_app (goodIn_of _ (by decide +kernel)) ggX7_echelon_X7_isSet
set_option maxRecDepth 20000 in
theorem ggX7_echelon_X7_isOrder : GoodIn wsX7_echelon wsX7_isOrder := goodIn_r _ [12, 7, 8, 5, 9] (by decide +kernel) (by decide +kernel)
set_option maxRecDepth 20000 in
theorem gX7_echelon_X7_isOrder : GoodIn wsX7_echelon (va_wsS RX7 94 yX7_isOrder wsX7_isOrder) := goodIn_app (goodIn_of _ (by decide +kernel)) ggX7_echelon_X7_isOrder
set_option maxRecDepth 20000 in
theorem ggX7_echelon_X7_records : GoodIn wsX7_echelon wsX7_records := goodIn_r _ [16, 17, 18, 2, 34, 35, 36, 37, 38, 39, 40, 41, 42] (by decide +kernel) (by decide +kernel)
set_option maxRecDepth 20000 in
theorem gX7_echelon_X7_records : GoodIn wsX7_echelon (wsV RX7 37 RX7 yX7_records wsX7_records) := goodIn_app (goodIn_of _ (by decide +kernel)) ggX7_echelon_X7_records
set_option maxRecDepth 20000 in
theorem ggX7_echelon_X7_leads : GoodIn wsX7_echelon wsX7_leads := goodIn_r _ [22, 23, 24, 25, 5, 26, 27, 28, 29, 30, 31, 32, 33, 34, 35, 36, 37, 38, 39, 40, 41, 42] (by decide +kernel) (by decide +kernel)
set_option maxRecDepth 20000 in
theorem gX7_echelon_X7_leads : GoodIn wsX7_echelon (wsV RX7 97 RX7 yX7_leads wsX7_leads) := goodIn_app (goodIn_of _ (by decide +kernel)) ggX7_echelon_X7_leads
set_option maxRecDepth 20000 in
theorem ggX7_echelon_X7_isGreater : GoodIn wsX7_echelon wsX7_isGreater := goodIn_r _ [30, 23, 31, 32, 5, 33, 34, 35, 36, 37, 38, 39, 40, 41, 42] (by decide +kernel) (by decide +kernel)
set_option maxRecDepth 20000 in
theorem gX7_echelon_X7_isGreater : GoodIn wsX7_echelon (wsV RX7 91 RX7 yX7_isGreater wsX7_isGreater) := goodIn_app (goodIn_of _ (by decide +kernel)) ggX7_echelon_X7_isGreater
set_option maxRecDepth 20000 in
theorem ggX7_echelon_X7_has1 : GoodIn wsX7_echelon wsX7_has1 := goodIn_r _ [26] (by decide +kernel) (by decide +kernel)
set_option maxRecDepth 20000 in
theorem gX7_echelon_X7_has1 : GoodIn wsX7_echelon (va_wsS RX7 44 yX7_has1 wsX7_has1) := goodIn_app (goodIn_of _ (by decide +kernel)) ggX7_echelon_X7_has1
theorem dX7_echelon_0 : decode cX7_echelon 0 = .ok (.iload_n 1, 1) := by decide +kernel
theorem dX7_echelon_1 : decode cX7_echelon 1 = .ok (.invokestatic 101, 3) := by decide +kernel
theorem dX7_echelon_4 : decode cX7_echelon 4 = .ok (.ifCond .eq 10, 3) := by decide +kernel
theorem dX7_echelon_7 : decode cX7_echelon 7 = .ok (.iload_n 2, 1) := by decide +kernel
theorem dX7_echelon_8 : decode cX7_echelon 8 = .ok (.invokestatic 94, 3) := by decide +kernel
theorem dX7_echelon_11 : decode cX7_echelon 11 = .ok (.ifCond .ne 5, 3) := by decide +kernel
theorem dX7_echelon_14 : decode cX7_echelon 14 = .ok (.iconst (-1), 1) := by decide +kernel
theorem dX7_echelon_15 : decode cX7_echelon 15 = .ok (.ireturn, 1) := by decide +kernel
theorem dX7_echelon_16 : decode cX7_echelon 16 = .ok (.aload_n 0, 1) := by decide +kernel
theorem dX7_echelon_17 : decode cX7_echelon 17 = .ok (.invokevirtual 37, 3) := by decide +kernel
theorem dX7_echelon_20 : decode cX7_echelon 20 = .ok (.iconst 0, 1) := by decide +kernel
theorem dX7_echelon_21 : decode cX7_echelon 21 = .ok (.istore_n 3, 1) := by decide +kernel
theorem dX7_echelon_22 : decode cX7_echelon 22 = .ok (.iconst 0, 1) := by decide +kernel
theorem dX7_echelon_23 : decode cX7_echelon 23 = .ok (.istore 4, 2) := by decide +kernel
theorem dX7_echelon_25 : decode cX7_echelon 25 = .ok (.iload 4, 2) := by decide +kernel
theorem dX7_echelon_27 : decode cX7_echelon 27 = .ok (.bipush 8, 2) := by decide +kernel
theorem dX7_echelon_29 : decode cX7_echelon 29 = .ok (.if_icmp .ge 35, 3) := by decide +kernel
theorem dX7_echelon_32 : decode cX7_echelon 32 = .ok (.iload_n 1, 1) := by decide +kernel
theorem dX7_echelon_33 : decode cX7_echelon 33 = .ok (.iload 4, 2) := by decide +kernel
theorem dX7_echelon_35 : decode cX7_echelon 35 = .ok (.ishr, 1) := by decide +kernel
theorem dX7_echelon_36 : decode cX7_echelon 36 = .ok (.iconst 1, 1) := by decide +kernel
theorem dX7_echelon_37 : decode cX7_echelon 37 = .ok (.iand, 1) := by decide +kernel
theorem dX7_echelon_38 : decode cX7_echelon 38 = .ok (.iconst 1, 1) := by decide +kernel
theorem dX7_echelon_39 : decode cX7_echelon 39 = .ok (.if_icmp .ne 19, 3) := by decide +kernel
theorem dX7_echelon_42 : decode cX7_echelon 42 = .ok (.aload_n 0, 1) := by decide +kernel
theorem dX7_echelon_43 : decode cX7_echelon 43 = .ok (.getfield 27, 3) := by decide +kernel
theorem dX7_echelon_46 : decode cX7_echelon 46 = .ok (.iload_n 3, 1) := by decide +kernel
theorem dX7_echelon_47 : decode cX7_echelon 47 = .ok (.aload_n 0, 1) := by decide +kernel
theorem dX7_echelon_48 : decode cX7_echelon 48 = .ok (.getfield 13, 3) := by decide +kernel
theorem dX7_echelon_51 : decode cX7_echelon 51 = .ok (.iload 4, 2) := by decide +kernel
theorem dX7_echelon_53 : decode cX7_echelon 53 = .ok (.laload, 1) := by decide +kernel
theorem dX7_echelon_54 : decode cX7_echelon 54 = .ok (.lastore, 1) := by decide +kernel
theorem dX7_echelon_55 : decode cX7_echelon 55 = .ok (.iinc 3 1, 3) := by decide +kernel
theorem dX7_echelon_58 : decode cX7_echelon 58 = .ok (.iinc 4 1, 3) := by decide +kernel
theorem dX7_echelon_61 : decode cX7_echelon 61 = .ok (.goto (-36), 3) := by decide +kernel
theorem dX7_echelon_64 : decode cX7_echelon 64 = .ok (.iconst 0, 1) := by decide +kernel
theorem dX7_echelon_65 : decode cX7_echelon 65 = .ok (.istore 4, 2) := by decide +kernel
theorem dX7_echelon_67 : decode cX7_echelon 67 = .ok (.iconst 1, 1) := by decide +kernel
theorem dX7_echelon_68 : decode cX7_echelon 68 = .ok (.istore 5, 2) := by decide +kernel
theorem dX7_echelon_70 : decode cX7_echelon 70 = .ok (.iload 5, 2) := by decide +kernel
theorem dX7_echelon_72 : decode cX7_echelon 72 = .ok (.ifCond .eq 194, 3) := by decide +kernel
theorem dX7_echelon_75 : decode cX7_echelon 75 = .ok (.iconst (-1), 1) := by decide +kernel
theorem dX7_echelon_76 : decode cX7_echelon 76 = .ok (.istore 6, 2) := by decide +kernel
theorem dX7_echelon_78 : decode cX7_echelon 78 = .ok (.iload 4, 2) := by decide +kernel
theorem dX7_echelon_80 : decode cX7_echelon 80 = .ok (.istore 7, 2) := by decide +kernel
theorem dX7_echelon_82 : decode cX7_echelon 82 = .ok (.iload 7, 2) := by decide +kernel
theorem dX7_echelon_84 : decode cX7_echelon 84 = .ok (.iload_n 3, 1) := by decide +kernel
theorem dX7_echelon_85 : decode cX7_echelon 85 = .ok (.if_icmp .ge 64, 3) := by decide +kernel
theorem dX7_echelon_88 : decode cX7_echelon 88 = .ok (.aload_n 0, 1) := by decide +kernel
theorem dX7_echelon_89 : decode cX7_echelon 89 = .ok (.aload_n 0, 1) := by decide +kernel
theorem dX7_echelon_90 : decode cX7_echelon 90 = .ok (.getfield 27, 3) := by decide +kernel
theorem dX7_echelon_93 : decode cX7_echelon 93 = .ok (.iload 7, 2) := by decide +kernel
theorem dX7_echelon_95 : decode cX7_echelon 95 = .ok (.laload, 1) := by decide +kernel
theorem dX7_echelon_96 : decode cX7_echelon 96 = .ok (.iload_n 2, 1) := by decide +kernel
theorem dX7_echelon_97 : decode cX7_echelon 97 = .ok (.invokevirtual 97, 3) := by decide +kernel
theorem dX7_echelon_100 : decode cX7_echelon 100 = .ok (.istore 8, 2) := by decide +kernel
theorem dX7_echelon_102 : decode cX7_echelon 102 = .ok (.iload 8, 2) := by decide +kernel
theorem dX7_echelon_104 : decode cX7_echelon 104 = .ok (.ifCond .lt 35, 3) := by decide +kernel
theorem dX7_echelon_107 : decode cX7_echelon 107 = .ok (.iload 6, 2) := by decide +kernel
theorem dX7_echelon_109 : decode cX7_echelon 109 = .ok (.ifCond .lt 25, 3) := by decide +kernel
theorem dX7_echelon_112 : decode cX7_echelon 112 = .ok (.aload_n 0, 1) := by decide +kernel
theorem dX7_echelon_113 : decode cX7_echelon 113 = .ok (.iload_n 2, 1) := by decide +kernel
theorem dX7_echelon_114 : decode cX7_echelon 114 = .ok (.iload 8, 2) := by decide +kernel
theorem dX7_echelon_116 : decode cX7_echelon 116 = .ok (.aload_n 0, 1) := by decide +kernel
theorem dX7_echelon_117 : decode cX7_echelon 117 = .ok (.aload_n 0, 1) := by decide +kernel
theorem dX7_echelon_118 : decode cX7_echelon 118 = .ok (.getfield 27, 3) := by decide +kernel
theorem dX7_echelon_121 : decode cX7_echelon 121 = .ok (.iload 6, 2) := by decide +kernel
theorem dX7_echelon_123 : decode cX7_echelon 123 = .ok (.laload, 1) := by decide +kernel
theorem dX7_echelon_124 : decode cX7_echelon 124 = .ok (.iload_n 2, 1) := by decide +kernel
theorem dX7_echelon_125 : decode cX7_echelon 125 = .ok (.invokevirtual 97, 3) := by decide +kernel
theorem dX7_echelon_128 : decode cX7_echelon 128 = .ok (.invokevirtual 91, 3) := by decide +kernel
theorem dX7_echelon_131 : decode cX7_echelon 131 = .ok (.ifCond .eq 8, 3) := by decide +kernel
theorem dX7_echelon_134 : decode cX7_echelon 134 = .ok (.iload 7, 2) := by decide +kernel
theorem dX7_echelon_136 : decode cX7_echelon 136 = .ok (.goto 5, 3) := by decide +kernel
theorem dX7_echelon_139 : decode cX7_echelon 139 = .ok (.iload 6, 2) := by decide +kernel
theorem dX7_echelon_141 : decode cX7_echelon 141 = .ok (.istore 6, 2) := by decide +kernel
theorem dX7_echelon_143 : decode cX7_echelon 143 = .ok (.iinc 7 1, 3) := by decide +kernel
theorem dX7_echelon_146 : decode cX7_echelon 146 = .ok (.goto (-64), 3) := by decide +kernel
theorem dX7_echelon_149 : decode cX7_echelon 149 = .ok (.iload 6, 2) := by decide +kernel
theorem dX7_echelon_151 : decode cX7_echelon 151 = .ok (.ifCond .lt 7, 3) := by decide +kernel
theorem dX7_echelon_154 : decode cX7_echelon 154 = .ok (.iconst 1, 1) := by decide +kernel
theorem dX7_echelon_155 : decode cX7_echelon 155 = .ok (.goto 4, 3) := by decide +kernel
theorem dX7_echelon_158 : decode cX7_echelon 158 = .ok (.iconst 0, 1) := by decide +kernel
theorem dX7_echelon_159 : decode cX7_echelon 159 = .ok (.istore 5, 2) := by decide +kernel
theorem dX7_echelon_161 : decode cX7_echelon 161 = .ok (.iload 5, 2) := by decide +kernel
theorem dX7_echelon_163 : decode cX7_echelon 163 = .ok (.ifCond .eq 100, 3) := by decide +kernel
theorem dX7_echelon_166 : decode cX7_echelon 166 = .ok (.aload_n 0, 1) := by decide +kernel
theorem dX7_echelon_167 : decode cX7_echelon 167 = .ok (.getfield 27, 3) := by decide +kernel
theorem dX7_echelon_170 : decode cX7_echelon 170 = .ok (.iload 6, 2) := by decide +kernel
theorem dX7_echelon_172 : decode cX7_echelon 172 = .ok (.laload, 1) := by decide +kernel
theorem dX7_echelon_173 : decode cX7_echelon 173 = .ok (.lstore 7, 2) := by decide +kernel
theorem dX7_echelon_175 : decode cX7_echelon 175 = .ok (.aload_n 0, 1) := by decide +kernel
theorem dX7_echelon_176 : decode cX7_echelon 176 = .ok (.getfield 27, 3) := by decide +kernel
theorem dX7_echelon_179 : decode cX7_echelon 179 = .ok (.iload 6, 2) := by decide +kernel
theorem dX7_echelon_181 : decode cX7_echelon 181 = .ok (.aload_n 0, 1) := by decide +kernel
theorem dX7_echelon_182 : decode cX7_echelon 182 = .ok (.getfield 27, 3) := by decide +kernel
theorem dX7_echelon_185 : decode cX7_echelon 185 = .ok (.iload 4, 2) := by decide +kernel
theorem dX7_echelon_187 : decode cX7_echelon 187 = .ok (.laload, 1) := by decide +kernel
theorem dX7_echelon_188 : decode cX7_echelon 188 = .ok (.lastore, 1) := by decide +kernel
theorem dX7_echelon_189 : decode cX7_echelon 189 = .ok (.aload_n 0, 1) := by decide +kernel
theorem dX7_echelon_190 : decode cX7_echelon 190 = .ok (.getfield 27, 3) := by decide +kernel
theorem dX7_echelon_193 : decode cX7_echelon 193 = .ok (.iload 4, 2) := by decide +kernel
theorem dX7_echelon_195 : decode cX7_echelon 195 = .ok (.lload 7, 2) := by decide +kernel
theorem dX7_echelon_197 : decode cX7_echelon 197 = .ok (.lastore, 1) := by decide +kernel
theorem dX7_echelon_198 : decode cX7_echelon 198 = .ok (.aload_n 0, 1) := by decide +kernel
theorem dX7_echelon_199 : decode cX7_echelon 199 = .ok (.lload 7, 2) := by decide +kernel
theorem dX7_echelon_201 : decode cX7_echelon 201 = .ok (.iload_n 2, 1) := by decide +kernel
theorem dX7_echelon_202 : decode cX7_echelon 202 = .ok (.invokevirtual 97, 3) := by decide +kernel
theorem dX7_echelon_205 : decode cX7_echelon 205 = .ok (.istore 9, 2) := by decide +kernel
theorem dX7_echelon_207 : decode cX7_echelon 207 = .ok (.iconst 0, 1) := by decide +kernel
theorem dX7_echelon_208 : decode cX7_echelon 208 = .ok (.istore 10, 2) := by decide +kernel
theorem dX7_echelon_210 : decode cX7_echelon 210 = .ok (.iload 10, 2) := by decide +kernel
theorem dX7_echelon_212 : decode cX7_echelon 212 = .ok (.iload_n 3, 1) := by decide +kernel
theorem dX7_echelon_213 : decode cX7_echelon 213 = .ok (.if_icmp .ge 47, 3) := by decide +kernel
theorem dX7_echelon_216 : decode cX7_echelon 216 = .ok (.aload_n 0, 1) := by decide +kernel
theorem dX7_echelon_217 : decode cX7_echelon 217 = .ok (.getfield 27, 3) := by decide +kernel
theorem dX7_echelon_220 : decode cX7_echelon 220 = .ok (.iload 10, 2) := by decide +kernel
theorem dX7_echelon_222 : decode cX7_echelon 222 = .ok (.dup2, 1) := by decide +kernel
theorem dX7_echelon_223 : decode cX7_echelon 223 = .ok (.laload, 1) := by decide +kernel
theorem dX7_echelon_224 : decode cX7_echelon 224 = .ok (.iload 10, 2) := by decide +kernel
theorem dX7_echelon_226 : decode cX7_echelon 226 = .ok (.iload 4, 2) := by decide +kernel
theorem dX7_echelon_228 : decode cX7_echelon 228 = .ok (.if_icmp .eq 23, 3) := by decide +kernel
theorem dX7_echelon_231 : decode cX7_echelon 231 = .ok (.aload_n 0, 1) := by decide +kernel
theorem dX7_echelon_232 : decode cX7_echelon 232 = .ok (.getfield 27, 3) := by decide +kernel
theorem dX7_echelon_235 : decode cX7_echelon 235 = .ok (.iload 10, 2) := by decide +kernel
theorem dX7_echelon_237 : decode cX7_echelon 237 = .ok (.laload, 1) := by decide +kernel
theorem dX7_echelon_238 : decode cX7_echelon 238 = .ok (.iload 9, 2) := by decide +kernel
theorem dX7_echelon_240 : decode cX7_echelon 240 = .ok (.invokestatic 44, 3) := by decide +kernel
theorem dX7_echelon_243 : decode cX7_echelon 243 = .ok (.ifCond .eq 8, 3) := by decide +kernel
theorem dX7_echelon_246 : decode cX7_echelon 246 = .ok (.lload 7, 2) := by decide +kernel
theorem dX7_echelon_248 : decode cX7_echelon 248 = .ok (.goto 4, 3) := by decide +kernel
theorem dX7_echelon_251 : decode cX7_echelon 251 = .ok (.lconst 0, 1) := by decide +kernel
theorem dX7_echelon_252 : decode cX7_echelon 252 = .ok (.lxor, 1) := by decide +kernel
theorem dX7_echelon_253 : decode cX7_echelon 253 = .ok (.lastore, 1) := by decide +kernel
theorem dX7_echelon_254 : decode cX7_echelon 254 = .ok (.iinc 10 1, 3) := by decide +kernel
theorem dX7_echelon_257 : decode cX7_echelon 257 = .ok (.goto (-47), 3) := by decide +kernel
theorem dX7_echelon_260 : decode cX7_echelon 260 = .ok (.iinc 4 1, 3) := by decide +kernel
theorem dX7_echelon_263 : decode cX7_echelon 263 = .ok (.goto (-193), 3) := by decide +kernel
theorem dX7_echelon_266 : decode cX7_echelon 266 = .ok (.iconst 0, 1) := by decide +kernel
theorem dX7_echelon_267 : decode cX7_echelon 267 = .ok (.istore 6, 2) := by decide +kernel
theorem dX7_echelon_269 : decode cX7_echelon 269 = .ok (.iconst 0, 1) := by decide +kernel
theorem dX7_echelon_270 : decode cX7_echelon 270 = .ok (.istore 7, 2) := by decide +kernel
theorem dX7_echelon_272 : decode cX7_echelon 272 = .ok (.iload 7, 2) := by decide +kernel
theorem dX7_echelon_274 : decode cX7_echelon 274 = .ok (.bipush 8, 2) := by decide +kernel
theorem dX7_echelon_276 : decode cX7_echelon 276 = .ok (.if_icmp .ge 47, 3) := by decide +kernel
theorem dX7_echelon_279 : decode cX7_echelon 279 = .ok (.iload_n 1, 1) := by decide +kernel
theorem dX7_echelon_280 : decode cX7_echelon 280 = .ok (.iload 7, 2) := by decide +kernel
theorem dX7_echelon_282 : decode cX7_echelon 282 = .ok (.ishr, 1) := by decide +kernel
theorem dX7_echelon_283 : decode cX7_echelon 283 = .ok (.iconst 1, 1) := by decide +kernel
theorem dX7_echelon_284 : decode cX7_echelon 284 = .ok (.iand, 1) := by decide +kernel
theorem dX7_echelon_285 : decode cX7_echelon 285 = .ok (.iconst 1, 1) := by decide +kernel
theorem dX7_echelon_286 : decode cX7_echelon 286 = .ok (.if_icmp .ne 31, 3) := by decide +kernel
theorem dX7_echelon_289 : decode cX7_echelon 289 = .ok (.aload_n 0, 1) := by decide +kernel
theorem dX7_echelon_290 : decode cX7_echelon 290 = .ok (.getfield 13, 3) := by decide +kernel
theorem dX7_echelon_293 : decode cX7_echelon 293 = .ok (.iload 7, 2) := by decide +kernel
theorem dX7_echelon_295 : decode cX7_echelon 295 = .ok (.iload 6, 2) := by decide +kernel
theorem dX7_echelon_297 : decode cX7_echelon 297 = .ok (.iload 4, 2) := by decide +kernel
theorem dX7_echelon_299 : decode cX7_echelon 299 = .ok (.if_icmp .ge 13, 3) := by decide +kernel
theorem dX7_echelon_302 : decode cX7_echelon 302 = .ok (.aload_n 0, 1) := by decide +kernel
theorem dX7_echelon_303 : decode cX7_echelon 303 = .ok (.getfield 27, 3) := by decide +kernel
theorem dX7_echelon_306 : decode cX7_echelon 306 = .ok (.iload 6, 2) := by decide +kernel
theorem dX7_echelon_308 : decode cX7_echelon 308 = .ok (.laload, 1) := by decide +kernel
theorem dX7_echelon_309 : decode cX7_echelon 309 = .ok (.goto 4, 3) := by decide +kernel
theorem dX7_echelon_312 : decode cX7_echelon 312 = .ok (.lconst 0, 1) := by decide +kernel
theorem dX7_echelon_313 : decode cX7_echelon 313 = .ok (.lastore, 1) := by decide +kernel
theorem dX7_echelon_314 : decode cX7_echelon 314 = .ok (.iinc 6 1, 3) := by decide +kernel
theorem dX7_echelon_317 : decode cX7_echelon 317 = .ok (.iinc 7 1, 3) := by decide +kernel
theorem dX7_echelon_320 : decode cX7_echelon 320 = .ok (.goto (-48), 3) := by decide +kernel
theorem dX7_echelon_323 : decode cX7_echelon 323 = .ok (.iload 4, 2) := by decide +kernel
theorem dX7_echelon_325 : decode cX7_echelon 325 = .ok (.ireturn, 1) := by decide +kernel
set_option maxRecDepth 20000 in
theorem ggX7_barred_X7_values : GoodIn wsX7_barred wsX7_values := goodIn_r _ [6, 7, 8, 9, 5, 10, 11, 12, 13, 14, 15, 16, 17, 18, 19] (by decide +kernel) (by decide +kernel)
set_option maxRecDepth 20000 in
theorem gX7_barred_X7_values : GoodIn wsX7_barred (wsV RX7 73 RX7 yX7_values wsX7_values) := goodIn_app (goodIn_of _ (by decide +kernel)) ggX7_barred_X7_values
theorem dX7_barred_0 : decode cX7_barred 0 = .ok (.lconst 0, 1) := by decide +kernel
theorem dX7_barred_1 : decode cX7_barred 1 = .ok (.lstore_n 2, 1) := by decide +kernel
theorem dX7_barred_2 : decode cX7_barred 2 = .ok (.iconst 0, 1) := by decide +kernel
theorem dX7_barred_3 : decode cX7_barred 3 = .ok (.istore 4, 2) := by decide +kernel
theorem dX7_barred_5 : decode cX7_barred 5 = .ok (.iload 4, 2) := by decide +kernel
theorem dX7_barred_7 : decode cX7_barred 7 = .ok (.bipush 8, 2) := by decide +kernel
theorem dX7_barred_9 : decode cX7_barred 9 = .ok (.if_icmp .ge 37, 3) := by decide +kernel
theorem dX7_barred_12 : decode cX7_barred 12 = .ok (.lload_n 2, 1) := by decide +kernel
theorem dX7_barred_13 : decode cX7_barred 13 = .ok (.iload_n 1, 1) := by decide +kernel
theorem dX7_barred_14 : decode cX7_barred 14 = .ok (.iload 4, 2) := by decide +kernel
theorem dX7_barred_16 : decode cX7_barred 16 = .ok (.ishr, 1) := by decide +kernel
theorem dX7_barred_17 : decode cX7_barred 17 = .ok (.iconst 1, 1) := by decide +kernel
theorem dX7_barred_18 : decode cX7_barred 18 = .ok (.iand, 1) := by decide +kernel
theorem dX7_barred_19 : decode cX7_barred 19 = .ok (.iconst 1, 1) := by decide +kernel
theorem dX7_barred_20 : decode cX7_barred 20 = .ok (.if_icmp .ne 17, 3) := by decide +kernel
theorem dX7_barred_23 : decode cX7_barred 23 = .ok (.aload_n 0, 1) := by decide +kernel
theorem dX7_barred_24 : decode cX7_barred 24 = .ok (.aload_n 0, 1) := by decide +kernel
theorem dX7_barred_25 : decode cX7_barred 25 = .ok (.getfield 13, 3) := by decide +kernel
theorem dX7_barred_28 : decode cX7_barred 28 = .ok (.iload 4, 2) := by decide +kernel
theorem dX7_barred_30 : decode cX7_barred 30 = .ok (.laload, 1) := by decide +kernel
theorem dX7_barred_31 : decode cX7_barred 31 = .ok (.invokevirtual 73, 3) := by decide +kernel
theorem dX7_barred_34 : decode cX7_barred 34 = .ok (.goto 4, 3) := by decide +kernel
theorem dX7_barred_37 : decode cX7_barred 37 = .ok (.lconst 0, 1) := by decide +kernel
theorem dX7_barred_38 : decode cX7_barred 38 = .ok (.lor, 1) := by decide +kernel
theorem dX7_barred_39 : decode cX7_barred 39 = .ok (.lstore_n 2, 1) := by decide +kernel
theorem dX7_barred_40 : decode cX7_barred 40 = .ok (.iinc 4 1, 3) := by decide +kernel
theorem dX7_barred_43 : decode cX7_barred 43 = .ok (.goto (-38), 3) := by decide +kernel
theorem dX7_barred_46 : decode cX7_barred 46 = .ok (.lload_n 2, 1) := by decide +kernel
theorem dX7_barred_47 : decode cX7_barred 47 = .ok (.lreturn, 1) := by decide +kernel
set_option maxRecDepth 20000 in
theorem ggX7_zeros_X7_isSet : GoodIn wsX7_zeros wsX7_isSet := goodIn_r _ [5, 6, 7, 4, 8] (by decide +kernel) (by decide +kernel)
set_option maxRecDepth 20000 in
theorem gX7_zeros_X7_isSet : GoodIn wsX7_zeros (va_wsS RX7 101 yX7_isSet wsX7_isSet) := goodIn_app (goodIn_of _ (by decide +kernel)) ggX7_zeros_X7_isSet
set_option maxRecDepth 20000 in
theorem ggX7_zeros_X7_barred : GoodIn wsX7_zeros wsX7_barred := goodIn_r _ [12, 13, 14, 15, 16, 4, 17, 1, 18, 19, 20, 24, 25, 26, 27, 28, 29, 30, 31, 32] (by decide +kernel) (by decide +kernel)
set_option maxRecDepth 20000 in
theorem gX7_zeros_X7_barred : GoodIn wsX7_zeros (wsV RX7 110 RX7 yX7_barred wsX7_barred) := goodIn_app (goodIn_of _ (by decide +kernel)) ggX7_zeros_X7_barred
set_option maxRecDepth 20000 in
theorem ggX7_zeros_X7_many : GoodIn wsX7_zeros wsX7_many := goodIn_r _ [23] (by decide +kernel) (by decide +kernel)
set_option maxRecDepth 20000 in
theorem gX7_zeros_X7_many : GoodIn wsX7_zeros (va_wsS RX7 40 yX7_many wsX7_many) := goodIn_app (goodIn_of _ (by decide +kernel)) ggX7_zeros_X7_many
theorem dX7_zeros_0 : decode cX7_zeros 0 = .ok (.iload_n 1, 1) := by decide +kernel
theorem dX7_zeros_1 : decode cX7_zeros 1 = .ok (.invokestatic 101, 3) := by decide +kernel
theorem dX7_zeros_4 : decode cX7_zeros 4 = .ok (.ifCond .eq 21, 3) := by decide +kernel
theorem dX7_zeros_7 : decode cX7_zeros 7 = .ok (.iconst 1, 1) := by decide +kernel
theorem dX7_zeros_8 : decode cX7_zeros 8 = .ok (.aload_n 0, 1) := by decide +kernel
theorem dX7_zeros_9 : decode cX7_zeros 9 = .ok (.getfield 7, 3) := by decide +kernel
theorem dX7_zeros_12 : decode cX7_zeros 12 = .ok (.ishl, 1) := by decide +kernel
theorem dX7_zeros_13 : decode cX7_zeros 13 = .ok (.aload_n 0, 1) := by decide +kernel
theorem dX7_zeros_14 : decode cX7_zeros 14 = .ok (.iload_n 1, 1) := by decide +kernel
theorem dX7_zeros_15 : decode cX7_zeros 15 = .ok (.invokevirtual 110, 3) := by decide +kernel
theorem dX7_zeros_18 : decode cX7_zeros 18 = .ok (.invokestatic 40, 3) := by decide +kernel
theorem dX7_zeros_21 : decode cX7_zeros 21 = .ok (.isub, 1) := by decide +kernel
theorem dX7_zeros_22 : decode cX7_zeros 22 = .ok (.goto 4, 3) := by decide +kernel
theorem dX7_zeros_25 : decode cX7_zeros 25 = .ok (.iconst (-1), 1) := by decide +kernel
theorem dX7_zeros_26 : decode cX7_zeros 26 = .ok (.ireturn, 1) := by decide +kernel
set_option maxRecDepth 20000 in
theorem ggX7_zeroAt_X7_isSet : GoodIn wsX7_zeroAt wsX7_isSet := goodIn_r _ [5, 6, 7, 4, 8] (by decide +kernel) (by decide +kernel)
set_option maxRecDepth 20000 in
theorem gX7_zeroAt_X7_isSet : GoodIn wsX7_zeroAt (va_wsS RX7 101 yX7_isSet wsX7_isSet) := goodIn_app (goodIn_of _ (by decide +kernel)) ggX7_zeroAt_X7_isSet
set_option maxRecDepth 20000 in
theorem ggX7_zeroAt_X7_barred : GoodIn wsX7_zeroAt wsX7_barred := goodIn_r _ [12, 13, 14, 15, 16, 4, 17, 1, 18, 19, 20, 21, 22, 23, 24, 25, 26, 27, 28, 29] (by decide +kernel) (by decide +kernel)
set_option maxRecDepth 20000 in
theorem gX7_zeroAt_X7_barred : GoodIn wsX7_zeroAt (wsV RX7 110 RX7 yX7_barred wsX7_barred) := goodIn_app (goodIn_of _ (by decide +kernel)) ggX7_zeroAt_X7_barred
set_option maxRecDepth 20000 in
theorem ggX7_zeroAt_X7_has1 : GoodIn wsX7_zeroAt wsX7_has1 := goodIn_r _ [20] (by decide +kernel) (by decide +kernel)
set_option maxRecDepth 20000 in
theorem gX7_zeroAt_X7_has1 : GoodIn wsX7_zeroAt (va_wsS RX7 44 yX7_has1 wsX7_has1) := goodIn_app (goodIn_of _ (by decide +kernel)) ggX7_zeroAt_X7_has1
theorem dX7_zeroAt_0 : decode cX7_zeroAt 0 = .ok (.iload_n 1, 1) := by decide +kernel
theorem dX7_zeroAt_1 : decode cX7_zeroAt 1 = .ok (.invokestatic 101, 3) := by decide +kernel
theorem dX7_zeroAt_4 : decode cX7_zeroAt 4 = .ok (.ifCond .eq 7, 3) := by decide +kernel
theorem dX7_zeroAt_7 : decode cX7_zeroAt 7 = .ok (.iload_n 2, 1) := by decide +kernel
theorem dX7_zeroAt_8 : decode cX7_zeroAt 8 = .ok (.ifCond .ge 5, 3) := by decide +kernel
theorem dX7_zeroAt_11 : decode cX7_zeroAt 11 = .ok (.iconst (-1), 1) := by decide +kernel
theorem dX7_zeroAt_12 : decode cX7_zeroAt 12 = .ok (.ireturn, 1) := by decide +kernel
theorem dX7_zeroAt_13 : decode cX7_zeroAt 13 = .ok (.aload_n 0, 1) := by decide +kernel
theorem dX7_zeroAt_14 : decode cX7_zeroAt 14 = .ok (.iload_n 1, 1) := by decide +kernel
theorem dX7_zeroAt_15 : decode cX7_zeroAt 15 = .ok (.invokevirtual 110, 3) := by decide +kernel
theorem dX7_zeroAt_18 : decode cX7_zeroAt 18 = .ok (.lstore_n 3, 1) := by decide +kernel
theorem dX7_zeroAt_19 : decode cX7_zeroAt 19 = .ok (.iload_n 2, 1) := by decide +kernel
theorem dX7_zeroAt_20 : decode cX7_zeroAt 20 = .ok (.istore 5, 2) := by decide +kernel
theorem dX7_zeroAt_22 : decode cX7_zeroAt 22 = .ok (.iconst 0, 1) := by decide +kernel
theorem dX7_zeroAt_23 : decode cX7_zeroAt 23 = .ok (.istore 6, 2) := by decide +kernel
theorem dX7_zeroAt_25 : decode cX7_zeroAt 25 = .ok (.iload 6, 2) := by decide +kernel
theorem dX7_zeroAt_27 : decode cX7_zeroAt 27 = .ok (.iconst 1, 1) := by decide +kernel
theorem dX7_zeroAt_28 : decode cX7_zeroAt 28 = .ok (.aload_n 0, 1) := by decide +kernel
theorem dX7_zeroAt_29 : decode cX7_zeroAt 29 = .ok (.getfield 7, 3) := by decide +kernel
theorem dX7_zeroAt_32 : decode cX7_zeroAt 32 = .ok (.ishl, 1) := by decide +kernel
theorem dX7_zeroAt_33 : decode cX7_zeroAt 33 = .ok (.if_icmp .ge 29, 3) := by decide +kernel
theorem dX7_zeroAt_36 : decode cX7_zeroAt 36 = .ok (.lload_n 3, 1) := by decide +kernel
theorem dX7_zeroAt_37 : decode cX7_zeroAt 37 = .ok (.iload 6, 2) := by decide +kernel
theorem dX7_zeroAt_39 : decode cX7_zeroAt 39 = .ok (.invokestatic 44, 3) := by decide +kernel
theorem dX7_zeroAt_42 : decode cX7_zeroAt 42 = .ok (.ifCond .ne 14, 3) := by decide +kernel
theorem dX7_zeroAt_45 : decode cX7_zeroAt 45 = .ok (.iload 5, 2) := by decide +kernel
theorem dX7_zeroAt_47 : decode cX7_zeroAt 47 = .ok (.ifCond .ne 6, 3) := by decide +kernel
theorem dX7_zeroAt_50 : decode cX7_zeroAt 50 = .ok (.iload 6, 2) := by decide +kernel
theorem dX7_zeroAt_52 : decode cX7_zeroAt 52 = .ok (.ireturn, 1) := by decide +kernel
theorem dX7_zeroAt_53 : decode cX7_zeroAt 53 = .ok (.iinc 5 (-1), 3) := by decide +kernel
theorem dX7_zeroAt_56 : decode cX7_zeroAt 56 = .ok (.iinc 6 1, 3) := by decide +kernel
theorem dX7_zeroAt_59 : decode cX7_zeroAt 59 = .ok (.goto (-34), 3) := by decide +kernel
theorem dX7_zeroAt_62 : decode cX7_zeroAt 62 = .ok (.bipush (-4), 2) := by decide +kernel
theorem dX7_zeroAt_64 : decode cX7_zeroAt 64 = .ok (.ireturn, 1) := by decide +kernel
set_option maxRecDepth 20000 in
theorem ggX7_combine_X7_isSet : GoodIn wsX7_combine wsX7_isSet := goodIn_r _ [4, 5, 6, 3, 7] (by decide +kernel) (by decide +kernel)
set_option maxRecDepth 20000 in
theorem gX7_combine_X7_isSet : GoodIn wsX7_combine (va_wsS RX7 101 yX7_isSet wsX7_isSet) := goodIn_app (goodIn_of _ (by decide +kernel)) ggX7_combine_X7_isSet
set_option maxRecDepth 20000 in
theorem ggX7_combine_X7_isRegister : GoodIn wsX7_combine wsX7_isRegister := goodIn_r _ [10, 5, 6, 3, 7] (by decide +kernel) (by decide +kernel)
set_option maxRecDepth 20000 in
theorem gX7_combine_X7_isRegister : GoodIn wsX7_combine (va_wsS RX7 48 yX7_isRegister wsX7_isRegister) := goodIn_app (goodIn_of _ (by decide +kernel)) ggX7_combine_X7_isRegister
set_option maxRecDepth 20000 in
theorem ggX7_combine_X7_barred : GoodIn wsX7_combine wsX7_barred := goodIn_r _ [14, 15, 16, 17, 18, 3, 19, 20, 21, 22, 23, 37, 38, 39, 40, 41, 42, 43, 44, 45] (by decide +kernel) (by decide +kernel)
set_option maxRecDepth 20000 in
theorem gX7_combine_X7_barred : GoodIn wsX7_combine (wsV RX7 110 RX7 yX7_barred wsX7_barred) := goodIn_app (goodIn_of _ (by decide +kernel)) ggX7_combine_X7_barred
set_option maxRecDepth 20000 in
theorem ggX7_combine_X7_values : GoodIn wsX7_combine wsX7_values := goodIn_r _ [19, 20, 21, 22, 3, 23, 37, 38, 39, 40, 41, 42, 43, 44, 45] (by decide +kernel) (by decide +kernel)
set_option maxRecDepth 20000 in
theorem gX7_combine_X7_values : GoodIn wsX7_combine (wsV RX7 73 RX7 yX7_values wsX7_values) := goodIn_app (goodIn_of _ (by decide +kernel)) ggX7_combine_X7_values
set_option maxRecDepth 20000 in
theorem ggX7_combine_X7_gets : GoodIn wsX7_combine wsX7_gets := goodIn_r _ [27, 15, 28, 29, 30, 3, 31, 32, 33, 34, 35, 36, 37, 38, 39, 40, 41, 42, 43, 44, 45] (by decide +kernel) (by decide +kernel)
set_option maxRecDepth 20000 in
theorem gX7_combine_X7_gets : GoodIn wsX7_combine (wsV RX7 55 RX7 yX7_gets wsX7_gets) := goodIn_app (goodIn_of _ (by decide +kernel)) ggX7_combine_X7_gets
theorem dX7_combine_0 : decode cX7_combine 0 = .ok (.iload_n 1, 1) := by decide +kernel
theorem dX7_combine_1 : decode cX7_combine 1 = .ok (.invokestatic 101, 3) := by decide +kernel
theorem dX7_combine_4 : decode cX7_combine 4 = .ok (.ifCond .eq 27, 3) := by decide +kernel
theorem dX7_combine_7 : decode cX7_combine 7 = .ok (.iload_n 2, 1) := by decide +kernel
theorem dX7_combine_8 : decode cX7_combine 8 = .ok (.invokestatic 48, 3) := by decide +kernel
theorem dX7_combine_11 : decode cX7_combine 11 = .ok (.ifCond .eq 20, 3) := by decide +kernel
theorem dX7_combine_14 : decode cX7_combine 14 = .ok (.aload_n 0, 1) := by decide +kernel
theorem dX7_combine_15 : decode cX7_combine 15 = .ok (.iload_n 2, 1) := by decide +kernel
theorem dX7_combine_16 : decode cX7_combine 16 = .ok (.aload_n 0, 1) := by decide +kernel
theorem dX7_combine_17 : decode cX7_combine 17 = .ok (.aload_n 0, 1) := by decide +kernel
theorem dX7_combine_18 : decode cX7_combine 18 = .ok (.iload_n 1, 1) := by decide +kernel
theorem dX7_combine_19 : decode cX7_combine 19 = .ok (.invokevirtual 110, 3) := by decide +kernel
theorem dX7_combine_22 : decode cX7_combine 22 = .ok (.invokevirtual 73, 3) := by decide +kernel
theorem dX7_combine_25 : decode cX7_combine 25 = .ok (.invokevirtual 55, 3) := by decide +kernel
theorem dX7_combine_28 : decode cX7_combine 28 = .ok (.goto 4, 3) := by decide +kernel
theorem dX7_combine_31 : decode cX7_combine 31 = .ok (.iconst (-1), 1) := by decide +kernel
theorem dX7_combine_32 : decode cX7_combine 32 = .ok (.ireturn, 1) := by decide +kernel
set_option maxRecDepth 20000 in
theorem ggX7_eliminate_X7_isSet : GoodIn wsX7_eliminate wsX7_isSet := goodIn_r _ [5, 6, 7, 4, 8] (by decide +kernel) (by decide +kernel)
set_option maxRecDepth 20000 in
theorem gX7_eliminate_X7_isSet : GoodIn wsX7_eliminate (va_wsS RX7 101 yX7_isSet wsX7_isSet) := goodIn_app (goodIn_of _ (by decide +kernel)) ggX7_eliminate_X7_isSet
set_option maxRecDepth 20000 in
theorem ggX7_eliminate_X7_isVariable : GoodIn wsX7_eliminate wsX7_isVariable := goodIn_r _ [12, 1, 6, 7, 4, 8, 41, 42, 43, 44, 45, 46, 47, 48, 49] (by decide +kernel) (by decide +kernel)
set_option maxRecDepth 20000 in
theorem gX7_eliminate_X7_isVariable : GoodIn wsX7_eliminate (wsV RX7 63 RX7 yX7_isVariable wsX7_isVariable) := goodIn_app (goodIn_of _ (by decide +kernel)) ggX7_eliminate_X7_isVariable
set_option maxRecDepth 20000 in
theorem ggX7_eliminate_X7_isRegister : GoodIn wsX7_eliminate wsX7_isRegister := goodIn_r _ [15, 6, 7, 4, 8] (by decide +kernel) (by decide +kernel)
set_option maxRecDepth 20000 in
theorem gX7_eliminate_X7_isRegister : GoodIn wsX7_eliminate (va_wsS RX7 48 yX7_isRegister wsX7_isRegister) := goodIn_app (goodIn_of _ (by decide +kernel)) ggX7_eliminate_X7_isRegister
set_option maxRecDepth 20000 in
theorem ggX7_eliminate_X7_barred : GoodIn wsX7_eliminate wsX7_barred := goodIn_r _ [19, 20, 21, 22, 23, 4, 24, 1, 25, 26, 27, 41, 42, 43, 44, 45, 46, 47, 48, 49] (by decide +kernel) (by decide +kernel)
set_option maxRecDepth 20000 in
theorem gX7_eliminate_X7_barred : GoodIn wsX7_eliminate (wsV RX7 110 RX7 yX7_barred wsX7_barred) := goodIn_app (goodIn_of _ (by decide +kernel)) ggX7_eliminate_X7_barred
set_option maxRecDepth 20000 in
theorem ggX7_eliminate_X7_has1 : GoodIn wsX7_eliminate wsX7_has1 := goodIn_r _ [27] (by decide +kernel) (by decide +kernel)
set_option maxRecDepth 20000 in
theorem gX7_eliminate_X7_has1 : GoodIn wsX7_eliminate (va_wsS RX7 44 yX7_has1 wsX7_has1) := goodIn_app (goodIn_of _ (by decide +kernel)) ggX7_eliminate_X7_has1
set_option maxRecDepth 20000 in
theorem ggX7_eliminate_X7_values : GoodIn wsX7_eliminate wsX7_values := goodIn_r _ [24, 1, 25, 26, 4, 27, 41, 42, 43, 44, 45, 46, 47, 48, 49] (by decide +kernel) (by decide +kernel)
set_option maxRecDepth 20000 in
theorem gX7_eliminate_X7_values : GoodIn wsX7_eliminate (wsV RX7 73 RX7 yX7_values wsX7_values) := goodIn_app (goodIn_of _ (by decide +kernel)) ggX7_eliminate_X7_values
set_option maxRecDepth 20000 in
theorem ggX7_eliminate_X7_gets : GoodIn wsX7_eliminate wsX7_gets := goodIn_r _ [31, 20, 32, 33, 34, 4, 35, 36, 37, 38, 39, 40, 41, 42, 43, 44, 45, 46, 47, 48, 49] (by decide +kernel) (by decide +kernel)
set_option maxRecDepth 20000 in
theorem gX7_eliminate_X7_gets : GoodIn wsX7_eliminate (wsV RX7 55 RX7 yX7_gets wsX7_gets) := goodIn_app (goodIn_of _ (by decide +kernel)) ggX7_eliminate_X7_gets
theorem dX7_eliminate_0 : decode cX7_eliminate 0 = .ok (.iload_n 1, 1) := by decide +kernel
theorem dX7_eliminate_1 : decode cX7_eliminate 1 = .ok (.invokestatic 101, 3) := by decide +kernel
theorem dX7_eliminate_4 : decode cX7_eliminate 4 = .ok (.ifCond .eq 18, 3) := by decide +kernel
theorem dX7_eliminate_7 : decode cX7_eliminate 7 = .ok (.aload_n 0, 1) := by decide +kernel
theorem dX7_eliminate_8 : decode cX7_eliminate 8 = .ok (.iload_n 2, 1) := by decide +kernel
theorem dX7_eliminate_9 : decode cX7_eliminate 9 = .ok (.invokevirtual 63, 3) := by decide +kernel
theorem dX7_eliminate_12 : decode cX7_eliminate 12 = .ok (.ifCond .eq 10, 3) := by decide +kernel
theorem dX7_eliminate_15 : decode cX7_eliminate 15 = .ok (.iload_n 3, 1) := by decide +kernel
theorem dX7_eliminate_16 : decode cX7_eliminate 16 = .ok (.invokestatic 48, 3) := by decide +kernel
theorem dX7_eliminate_19 : decode cX7_eliminate 19 = .ok (.ifCond .ne 5, 3) := by decide +kernel
theorem dX7_eliminate_22 : decode cX7_eliminate 22 = .ok (.iconst (-1), 1) := by decide +kernel
theorem dX7_eliminate_23 : decode cX7_eliminate 23 = .ok (.ireturn, 1) := by decide +kernel
theorem dX7_eliminate_24 : decode cX7_eliminate 24 = .ok (.aload_n 0, 1) := by decide +kernel
theorem dX7_eliminate_25 : decode cX7_eliminate 25 = .ok (.iload_n 1, 1) := by decide +kernel
theorem dX7_eliminate_26 : decode cX7_eliminate 26 = .ok (.invokevirtual 110, 3) := by decide +kernel
theorem dX7_eliminate_29 : decode cX7_eliminate 29 = .ok (.lstore 4, 2) := by decide +kernel
theorem dX7_eliminate_31 : decode cX7_eliminate 31 = .ok (.lconst 0, 1) := by decide +kernel
theorem dX7_eliminate_32 : decode cX7_eliminate 32 = .ok (.lstore 6, 2) := by decide +kernel
theorem dX7_eliminate_34 : decode cX7_eliminate 34 = .ok (.iconst 0, 1) := by decide +kernel
theorem dX7_eliminate_35 : decode cX7_eliminate 35 = .ok (.istore 8, 2) := by decide +kernel
theorem dX7_eliminate_37 : decode cX7_eliminate 37 = .ok (.iload 8, 2) := by decide +kernel
theorem dX7_eliminate_39 : decode cX7_eliminate 39 = .ok (.iconst 1, 1) := by decide +kernel
theorem dX7_eliminate_40 : decode cX7_eliminate 40 = .ok (.aload_n 0, 1) := by decide +kernel
theorem dX7_eliminate_41 : decode cX7_eliminate 41 = .ok (.getfield 7, 3) := by decide +kernel
theorem dX7_eliminate_44 : decode cX7_eliminate 44 = .ok (.ishl, 1) := by decide +kernel
theorem dX7_eliminate_45 : decode cX7_eliminate 45 = .ok (.if_icmp .ge 46, 3) := by decide +kernel
theorem dX7_eliminate_48 : decode cX7_eliminate 48 = .ok (.lload 6, 2) := by decide +kernel
theorem dX7_eliminate_50 : decode cX7_eliminate 50 = .ok (.lload 4, 2) := by decide +kernel
theorem dX7_eliminate_52 : decode cX7_eliminate 52 = .ok (.iload 8, 2) := by decide +kernel
theorem dX7_eliminate_54 : decode cX7_eliminate 54 = .ok (.invokestatic 44, 3) := by decide +kernel
theorem dX7_eliminate_57 : decode cX7_eliminate 57 = .ok (.ifCond .eq 24, 3) := by decide +kernel
theorem dX7_eliminate_60 : decode cX7_eliminate 60 = .ok (.lload 4, 2) := by decide +kernel
theorem dX7_eliminate_62 : decode cX7_eliminate 62 = .ok (.iload 8, 2) := by decide +kernel
theorem dX7_eliminate_64 : decode cX7_eliminate 64 = .ok (.iconst 1, 1) := by decide +kernel
theorem dX7_eliminate_65 : decode cX7_eliminate 65 = .ok (.iload_n 2, 1) := by decide +kernel
theorem dX7_eliminate_66 : decode cX7_eliminate 66 = .ok (.ishl, 1) := by decide +kernel
theorem dX7_eliminate_67 : decode cX7_eliminate 67 = .ok (.ixor, 1) := by decide +kernel
theorem dX7_eliminate_68 : decode cX7_eliminate 68 = .ok (.invokestatic 44, 3) := by decide +kernel
theorem dX7_eliminate_71 : decode cX7_eliminate 71 = .ok (.ifCond .eq 10, 3) := by decide +kernel
theorem dX7_eliminate_74 : decode cX7_eliminate 74 = .ok (.lconst 1, 1) := by decide +kernel
theorem dX7_eliminate_75 : decode cX7_eliminate 75 = .ok (.iload 8, 2) := by decide +kernel
theorem dX7_eliminate_77 : decode cX7_eliminate 77 = .ok (.lshl, 1) := by decide +kernel
theorem dX7_eliminate_78 : decode cX7_eliminate 78 = .ok (.goto 4, 3) := by decide +kernel
theorem dX7_eliminate_81 : decode cX7_eliminate 81 = .ok (.lconst 0, 1) := by decide +kernel
theorem dX7_eliminate_82 : decode cX7_eliminate 82 = .ok (.lor, 1) := by decide +kernel
theorem dX7_eliminate_83 : decode cX7_eliminate 83 = .ok (.lstore 6, 2) := by decide +kernel
theorem dX7_eliminate_85 : decode cX7_eliminate 85 = .ok (.iinc 8 1, 3) := by decide +kernel
theorem dX7_eliminate_88 : decode cX7_eliminate 88 = .ok (.goto (-51), 3) := by decide +kernel
theorem dX7_eliminate_91 : decode cX7_eliminate 91 = .ok (.aload_n 0, 1) := by decide +kernel
theorem dX7_eliminate_92 : decode cX7_eliminate 92 = .ok (.iload_n 3, 1) := by decide +kernel
theorem dX7_eliminate_93 : decode cX7_eliminate 93 = .ok (.aload_n 0, 1) := by decide +kernel
theorem dX7_eliminate_94 : decode cX7_eliminate 94 = .ok (.lload 6, 2) := by decide +kernel
theorem dX7_eliminate_96 : decode cX7_eliminate 96 = .ok (.invokevirtual 73, 3) := by decide +kernel
theorem dX7_eliminate_99 : decode cX7_eliminate 99 = .ok (.invokevirtual 55, 3) := by decide +kernel
theorem dX7_eliminate_102 : decode cX7_eliminate 102 = .ok (.ireturn, 1) := by decide +kernel
set_option maxRecDepth 20000 in
theorem ggX7_fibres_X7_isSet : GoodIn wsX7_fibres wsX7_isSet := goodIn_r _ [5, 6, 7, 4, 8] (by decide +kernel) (by decide +kernel)
set_option maxRecDepth 20000 in
theorem gX7_fibres_X7_isSet : GoodIn wsX7_fibres (va_wsS RX7 101 yX7_isSet wsX7_isSet) := goodIn_app (goodIn_of _ (by decide +kernel)) ggX7_fibres_X7_isSet
set_option maxRecDepth 20000 in
theorem ggX7_fibres_X7_isVariable : GoodIn wsX7_fibres wsX7_isVariable := goodIn_r _ [12, 1, 6, 7, 4, 8, 25, 26, 27, 28, 29, 30, 31, 32, 33] (by decide +kernel) (by decide +kernel)
set_option maxRecDepth 20000 in
theorem gX7_fibres_X7_isVariable : GoodIn wsX7_fibres (wsV RX7 63 RX7 yX7_isVariable wsX7_isVariable) := goodIn_app (goodIn_of _ (by decide +kernel)) ggX7_fibres_X7_isVariable
set_option maxRecDepth 20000 in
theorem ggX7_fibres_X7_in : GoodIn wsX7_fibres wsX7_in := goodIn_r _ [8] (by decide +kernel) (by decide +kernel)
set_option maxRecDepth 20000 in
theorem gX7_fibres_X7_in : GoodIn wsX7_fibres (va_wsS RX7 30 yX7_in wsX7_in) := goodIn_app (goodIn_of _ (by decide +kernel)) ggX7_fibres_X7_in
set_option maxRecDepth 20000 in
theorem ggX7_fibres_X7_barred : GoodIn wsX7_fibres wsX7_barred := goodIn_r _ [16, 17, 18, 19, 20, 4, 21, 1, 22, 23, 24, 25, 26, 27, 28, 29, 30, 31, 32, 33] (by decide +kernel) (by decide +kernel)
set_option maxRecDepth 20000 in
theorem gX7_fibres_X7_barred : GoodIn wsX7_fibres (wsV RX7 110 RX7 yX7_barred wsX7_barred) := goodIn_app (goodIn_of _ (by decide +kernel)) ggX7_fibres_X7_barred
set_option maxRecDepth 20000 in
theorem ggX7_fibres_X7_has1 : GoodIn wsX7_fibres wsX7_has1 := goodIn_r _ [24] (by decide +kernel) (by decide +kernel)
set_option maxRecDepth 20000 in
theorem gX7_fibres_X7_has1 : GoodIn wsX7_fibres (va_wsS RX7 44 yX7_has1 wsX7_has1) := goodIn_app (goodIn_of _ (by decide +kernel)) ggX7_fibres_X7_has1
theorem dX7_fibres_0 : decode cX7_fibres 0 = .ok (.iload_n 1, 1) := by decide +kernel
theorem dX7_fibres_1 : decode cX7_fibres 1 = .ok (.invokestatic 101, 3) := by decide +kernel
theorem dX7_fibres_4 : decode cX7_fibres 4 = .ok (.ifCond .eq 20, 3) := by decide +kernel
theorem dX7_fibres_7 : decode cX7_fibres 7 = .ok (.aload_n 0, 1) := by decide +kernel
theorem dX7_fibres_8 : decode cX7_fibres 8 = .ok (.iload_n 2, 1) := by decide +kernel
theorem dX7_fibres_9 : decode cX7_fibres 9 = .ok (.invokevirtual 63, 3) := by decide +kernel
theorem dX7_fibres_12 : decode cX7_fibres 12 = .ok (.ifCond .eq 12, 3) := by decide +kernel
theorem dX7_fibres_15 : decode cX7_fibres 15 = .ok (.iload_n 3, 1) := by decide +kernel
theorem dX7_fibres_16 : decode cX7_fibres 16 = .ok (.iconst 0, 1) := by decide +kernel
theorem dX7_fibres_17 : decode cX7_fibres 17 = .ok (.iconst 2, 1) := by decide +kernel
theorem dX7_fibres_18 : decode cX7_fibres 18 = .ok (.invokestatic 30, 3) := by decide +kernel
theorem dX7_fibres_21 : decode cX7_fibres 21 = .ok (.ifCond .ne 5, 3) := by decide +kernel
theorem dX7_fibres_24 : decode cX7_fibres 24 = .ok (.iconst (-1), 1) := by decide +kernel
theorem dX7_fibres_25 : decode cX7_fibres 25 = .ok (.ireturn, 1) := by decide +kernel
theorem dX7_fibres_26 : decode cX7_fibres 26 = .ok (.aload_n 0, 1) := by decide +kernel
theorem dX7_fibres_27 : decode cX7_fibres 27 = .ok (.iload_n 1, 1) := by decide +kernel
theorem dX7_fibres_28 : decode cX7_fibres 28 = .ok (.invokevirtual 110, 3) := by decide +kernel
theorem dX7_fibres_31 : decode cX7_fibres 31 = .ok (.lstore 4, 2) := by decide +kernel
theorem dX7_fibres_33 : decode cX7_fibres 33 = .ok (.iconst 0, 1) := by decide +kernel
theorem dX7_fibres_34 : decode cX7_fibres 34 = .ok (.istore 6, 2) := by decide +kernel
theorem dX7_fibres_36 : decode cX7_fibres 36 = .ok (.iconst 0, 1) := by decide +kernel
theorem dX7_fibres_37 : decode cX7_fibres 37 = .ok (.istore 7, 2) := by decide +kernel
theorem dX7_fibres_39 : decode cX7_fibres 39 = .ok (.iload 7, 2) := by decide +kernel
theorem dX7_fibres_41 : decode cX7_fibres 41 = .ok (.iconst 1, 1) := by decide +kernel
theorem dX7_fibres_42 : decode cX7_fibres 42 = .ok (.aload_n 0, 1) := by decide +kernel
theorem dX7_fibres_43 : decode cX7_fibres 43 = .ok (.getfield 7, 3) := by decide +kernel
theorem dX7_fibres_46 : decode cX7_fibres 46 = .ok (.ishl, 1) := by decide +kernel
theorem dX7_fibres_47 : decode cX7_fibres 47 = .ok (.if_icmp .ge 71, 3) := by decide +kernel
theorem dX7_fibres_50 : decode cX7_fibres 50 = .ok (.lload 4, 2) := by decide +kernel
theorem dX7_fibres_52 : decode cX7_fibres 52 = .ok (.iload 7, 2) := by decide +kernel
theorem dX7_fibres_54 : decode cX7_fibres 54 = .ok (.invokestatic 44, 3) := by decide +kernel
theorem dX7_fibres_57 : decode cX7_fibres 57 = .ok (.ifCond .eq 7, 3) := by decide +kernel
theorem dX7_fibres_60 : decode cX7_fibres 60 = .ok (.iconst 0, 1) := by decide +kernel
theorem dX7_fibres_61 : decode cX7_fibres 61 = .ok (.goto 4, 3) := by decide +kernel
theorem dX7_fibres_64 : decode cX7_fibres 64 = .ok (.iconst 1, 1) := by decide +kernel
theorem dX7_fibres_65 : decode cX7_fibres 65 = .ok (.lload 4, 2) := by decide +kernel
theorem dX7_fibres_67 : decode cX7_fibres 67 = .ok (.iload 7, 2) := by decide +kernel
theorem dX7_fibres_69 : decode cX7_fibres 69 = .ok (.iconst 1, 1) := by decide +kernel
theorem dX7_fibres_70 : decode cX7_fibres 70 = .ok (.iload_n 2, 1) := by decide +kernel
theorem dX7_fibres_71 : decode cX7_fibres 71 = .ok (.ishl, 1) := by decide +kernel
theorem dX7_fibres_72 : decode cX7_fibres 72 = .ok (.ixor, 1) := by decide +kernel
theorem dX7_fibres_73 : decode cX7_fibres 73 = .ok (.invokestatic 44, 3) := by decide +kernel
theorem dX7_fibres_76 : decode cX7_fibres 76 = .ok (.ifCond .eq 7, 3) := by decide +kernel
theorem dX7_fibres_79 : decode cX7_fibres 79 = .ok (.iconst 0, 1) := by decide +kernel
theorem dX7_fibres_80 : decode cX7_fibres 80 = .ok (.goto 4, 3) := by decide +kernel
theorem dX7_fibres_83 : decode cX7_fibres 83 = .ok (.iconst 1, 1) := by decide +kernel
theorem dX7_fibres_84 : decode cX7_fibres 84 = .ok (.iadd, 1) := by decide +kernel
theorem dX7_fibres_85 : decode cX7_fibres 85 = .ok (.istore 8, 2) := by decide +kernel
theorem dX7_fibres_87 : decode cX7_fibres 87 = .ok (.iload 6, 2) := by decide +kernel
theorem dX7_fibres_89 : decode cX7_fibres 89 = .ok (.iload 7, 2) := by decide +kernel
theorem dX7_fibres_91 : decode cX7_fibres 91 = .ok (.iload_n 2, 1) := by decide +kernel
theorem dX7_fibres_92 : decode cX7_fibres 92 = .ok (.ishr, 1) := by decide +kernel
theorem dX7_fibres_93 : decode cX7_fibres 93 = .ok (.iconst 1, 1) := by decide +kernel
theorem dX7_fibres_94 : decode cX7_fibres 94 = .ok (.iand, 1) := by decide +kernel
theorem dX7_fibres_95 : decode cX7_fibres 95 = .ok (.ifCond .ne 13, 3) := by decide +kernel
theorem dX7_fibres_98 : decode cX7_fibres 98 = .ok (.iload 8, 2) := by decide +kernel
theorem dX7_fibres_100 : decode cX7_fibres 100 = .ok (.iload_n 3, 1) := by decide +kernel
theorem dX7_fibres_101 : decode cX7_fibres 101 = .ok (.if_icmp .ne 7, 3) := by decide +kernel
theorem dX7_fibres_104 : decode cX7_fibres 104 = .ok (.iconst 1, 1) := by decide +kernel
theorem dX7_fibres_105 : decode cX7_fibres 105 = .ok (.goto 4, 3) := by decide +kernel
theorem dX7_fibres_108 : decode cX7_fibres 108 = .ok (.iconst 0, 1) := by decide +kernel
theorem dX7_fibres_109 : decode cX7_fibres 109 = .ok (.iadd, 1) := by decide +kernel
theorem dX7_fibres_110 : decode cX7_fibres 110 = .ok (.istore 6, 2) := by decide +kernel
theorem dX7_fibres_112 : decode cX7_fibres 112 = .ok (.iinc 7 1, 3) := by decide +kernel
theorem dX7_fibres_115 : decode cX7_fibres 115 = .ok (.goto (-76), 3) := by decide +kernel
theorem dX7_fibres_118 : decode cX7_fibres 118 = .ok (.iload 6, 2) := by decide +kernel
theorem dX7_fibres_120 : decode cX7_fibres 120 = .ok (.ireturn, 1) := by decide +kernel
set_option maxRecDepth 20000 in
theorem ggX7_isMember_X7_isRegister : GoodIn wsX7_isMember wsX7_isRegister := goodIn_r _ [6, 7, 8, 5, 9] (by decide +kernel) (by decide +kernel)
set_option maxRecDepth 20000 in
theorem gX7_isMember_X7_isRegister : GoodIn wsX7_isMember (va_wsS RX7 48 yX7_isRegister wsX7_isRegister) := goodIn_app (goodIn_of _ (by decide +kernel)) ggX7_isMember_X7_isRegister
set_option maxRecDepth 20000 in
theorem ggX7_isMember_X7_isSet : GoodIn wsX7_isMember wsX7_isSet := goodIn_r _ [12, 7, 8, 5, 9] (by decide +kernel) (by decide +kernel)
set_option maxRecDepth 20000 in
theorem gX7_isMember_X7_isSet : GoodIn wsX7_isMember (va_wsS RX7 101 yX7_isSet wsX7_isSet) := goodIn_app (goodIn_of _ (by decide +kernel)) ggX7_isMember_X7_isSet
set_option maxRecDepth 20000 in
theorem ggX7_isMember_X7_values : GoodIn wsX7_isMember wsX7_values := goodIn_r _ [16, 17, 18, 19, 5, 20, 25, 26, 27, 28, 29, 30, 31, 32, 33] (by decide +kernel) (by decide +kernel)
set_option maxRecDepth 20000 in
theorem gX7_isMember_X7_values : GoodIn wsX7_isMember (wsV RX7 73 RX7 yX7_values wsX7_values) := goodIn_app (goodIn_of _ (by decide +kernel)) ggX7_isMember_X7_values
set_option maxRecDepth 20000 in
theorem ggX7_isMember_X7_barred : GoodIn wsX7_isMember wsX7_barred := goodIn_r _ [24, 1, 13, 14, 15, 5, 16, 17, 18, 19, 20, 25, 26, 27, 28, 29, 30, 31, 32, 33] (by decide +kernel) (by decide +kernel)
set_option maxRecDepth 20000 in
theorem gX7_isMember_X7_barred : GoodIn wsX7_isMember (wsV RX7 110 RX7 yX7_barred wsX7_barred) := goodIn_app (goodIn_of _ (by decide +kernel)) ggX7_isMember_X7_barred
theorem dX7_isMember_0 : decode cX7_isMember 0 = .ok (.iload_n 1, 1) := by decide +kernel
theorem dX7_isMember_1 : decode cX7_isMember 1 = .ok (.invokestatic 48, 3) := by decide +kernel
theorem dX7_isMember_4 : decode cX7_isMember 4 = .ok (.ifCond .eq 10, 3) := by decide +kernel
theorem dX7_isMember_7 : decode cX7_isMember 7 = .ok (.iload_n 2, 1) := by decide +kernel
theorem dX7_isMember_8 : decode cX7_isMember 8 = .ok (.invokestatic 101, 3) := by decide +kernel
theorem dX7_isMember_11 : decode cX7_isMember 11 = .ok (.ifCond .ne 5, 3) := by decide +kernel
theorem dX7_isMember_14 : decode cX7_isMember 14 = .ok (.iconst (-1), 1) := by decide +kernel
theorem dX7_isMember_15 : decode cX7_isMember 15 = .ok (.ireturn, 1) := by decide +kernel
theorem dX7_isMember_16 : decode cX7_isMember 16 = .ok (.aload_n 0, 1) := by decide +kernel
theorem dX7_isMember_17 : decode cX7_isMember 17 = .ok (.aload_n 0, 1) := by decide +kernel
theorem dX7_isMember_18 : decode cX7_isMember 18 = .ok (.getfield 13, 3) := by decide +kernel
theorem dX7_isMember_21 : decode cX7_isMember 21 = .ok (.iload_n 1, 1) := by decide +kernel
theorem dX7_isMember_22 : decode cX7_isMember 22 = .ok (.laload, 1) := by decide +kernel
theorem dX7_isMember_23 : decode cX7_isMember 23 = .ok (.invokevirtual 73, 3) := by decide +kernel
theorem dX7_isMember_26 : decode cX7_isMember 26 = .ok (.aload_n 0, 1) := by decide +kernel
theorem dX7_isMember_27 : decode cX7_isMember 27 = .ok (.iload_n 2, 1) := by decide +kernel
theorem dX7_isMember_28 : decode cX7_isMember 28 = .ok (.invokevirtual 110, 3) := by decide +kernel
theorem dX7_isMember_31 : decode cX7_isMember 31 = .ok (.ldc2_w 104, 3) := by decide +kernel
theorem dX7_isMember_34 : decode cX7_isMember 34 = .ok (.lxor, 1) := by decide +kernel
theorem dX7_isMember_35 : decode cX7_isMember 35 = .ok (.land, 1) := by decide +kernel
theorem dX7_isMember_36 : decode cX7_isMember 36 = .ok (.lconst 0, 1) := by decide +kernel
theorem dX7_isMember_37 : decode cX7_isMember 37 = .ok (.lcmp, 1) := by decide +kernel
theorem dX7_isMember_38 : decode cX7_isMember 38 = .ok (.ifCond .ne 7, 3) := by decide +kernel
theorem dX7_isMember_41 : decode cX7_isMember 41 = .ok (.iconst 1, 1) := by decide +kernel
theorem dX7_isMember_42 : decode cX7_isMember 42 = .ok (.goto 4, 3) := by decide +kernel
theorem dX7_isMember_45 : decode cX7_isMember 45 = .ok (.iconst 0, 1) := by decide +kernel
theorem dX7_isMember_46 : decode cX7_isMember 46 = .ok (.ireturn, 1) := by decide +kernel
set_option maxRecDepth 20000 in
theorem ggX7_isSameIdeal_X7_isSet : GoodIn wsX7_isSameIdeal wsX7_isSet := goodIn_r _ [4, 5, 6, 3, 7] (by decide +kernel) (by decide +kernel)
set_option maxRecDepth 20000 in
theorem gX7_isSameIdeal_X7_isSet : GoodIn wsX7_isSameIdeal (va_wsS RX7 101 yX7_isSet wsX7_isSet) := goodIn_app (goodIn_of _ (by decide +kernel)) ggX7_isSameIdeal_X7_isSet
set_option maxRecDepth 20000 in
theorem ggX7_isSameIdeal_X7_barred : GoodIn wsX7_isSameIdeal wsX7_barred := goodIn_r _ [11, 12, 13, 14, 15, 3, 16, 17, 18, 19, 20, 21, 22, 23, 24, 25, 26, 27, 28, 29] (by decide +kernel) (by decide +kernel)
set_option maxRecDepth 20000 in
theorem gX7_isSameIdeal_X7_barred : GoodIn wsX7_isSameIdeal (wsV RX7 110 RX7 yX7_barred wsX7_barred) := goodIn_app (goodIn_of _ (by decide +kernel)) ggX7_isSameIdeal_X7_barred
theorem dX7_isSameIdeal_0 : decode cX7_isSameIdeal 0 = .ok (.iload_n 1, 1) := by decide +kernel
theorem dX7_isSameIdeal_1 : decode cX7_isSameIdeal 1 = .ok (.invokestatic 101, 3) := by decide +kernel
theorem dX7_isSameIdeal_4 : decode cX7_isSameIdeal 4 = .ok (.ifCond .eq 10, 3) := by decide +kernel
theorem dX7_isSameIdeal_7 : decode cX7_isSameIdeal 7 = .ok (.iload_n 2, 1) := by decide +kernel
theorem dX7_isSameIdeal_8 : decode cX7_isSameIdeal 8 = .ok (.invokestatic 101, 3) := by decide +kernel
theorem dX7_isSameIdeal_11 : decode cX7_isSameIdeal 11 = .ok (.ifCond .ne 7, 3) := by decide +kernel
theorem dX7_isSameIdeal_14 : decode cX7_isSameIdeal 14 = .ok (.iconst (-1), 1) := by decide +kernel
theorem dX7_isSameIdeal_15 : decode cX7_isSameIdeal 15 = .ok (.goto 22, 3) := by decide +kernel
theorem dX7_isSameIdeal_18 : decode cX7_isSameIdeal 18 = .ok (.aload_n 0, 1) := by decide +kernel
theorem dX7_isSameIdeal_19 : decode cX7_isSameIdeal 19 = .ok (.iload_n 1, 1) := by decide +kernel
theorem dX7_isSameIdeal_20 : decode cX7_isSameIdeal 20 = .ok (.invokevirtual 110, 3) := by decide +kernel
theorem dX7_isSameIdeal_23 : decode cX7_isSameIdeal 23 = .ok (.aload_n 0, 1) := by decide +kernel
theorem dX7_isSameIdeal_24 : decode cX7_isSameIdeal 24 = .ok (.iload_n 2, 1) := by decide +kernel
theorem dX7_isSameIdeal_25 : decode cX7_isSameIdeal 25 = .ok (.invokevirtual 110, 3) := by decide +kernel
theorem dX7_isSameIdeal_28 : decode cX7_isSameIdeal 28 = .ok (.lcmp, 1) := by decide +kernel
theorem dX7_isSameIdeal_29 : decode cX7_isSameIdeal 29 = .ok (.ifCond .ne 7, 3) := by decide +kernel
theorem dX7_isSameIdeal_32 : decode cX7_isSameIdeal 32 = .ok (.iconst 1, 1) := by decide +kernel
theorem dX7_isSameIdeal_33 : decode cX7_isSameIdeal 33 = .ok (.goto 4, 3) := by decide +kernel
theorem dX7_isSameIdeal_36 : decode cX7_isSameIdeal 36 = .ok (.iconst 0, 1) := by decide +kernel
theorem dX7_isSameIdeal_37 : decode cX7_isSameIdeal 37 = .ok (.ireturn, 1) := by decide +kernel
set_option maxRecDepth 20000 in
theorem ggX7_fixedVariables_X7_isSet : GoodIn wsX7_fixedVariables wsX7_isSet := goodIn_r _ [5, 6, 7, 4, 8] (by decide +kernel) (by decide +kernel)
set_option maxRecDepth 20000 in
theorem gX7_fixedVariables_X7_isSet : GoodIn wsX7_fixedVariables (va_wsS RX7 101 yX7_isSet wsX7_isSet) := goodIn_app (goodIn_of _ (by decide +kernel)) ggX7_fixedVariables_X7_isSet
set_option maxRecDepth 20000 in
theorem ggX7_fixedVariables_X7_barred : GoodIn wsX7_fixedVariables wsX7_barred := goodIn_r _ [12, 13, 14, 15, 16, 4, 17, 1, 18, 19, 20, 24, 25, 26, 27, 28, 29, 30, 31, 32] (by decide +kernel) (by decide +kernel)
set_option maxRecDepth 20000 in
theorem gX7_fixedVariables_X7_barred : GoodIn wsX7_fixedVariables (wsV RX7 110 RX7 yX7_barred wsX7_barred) := goodIn_app (goodIn_of _ (by decide +kernel)) ggX7_fixedVariables_X7_barred
set_option maxRecDepth 20000 in
theorem ggX7_fixedVariables_X7_has1 : GoodIn wsX7_fixedVariables wsX7_has1 := goodIn_r _ [20] (by decide +kernel) (by decide +kernel)
set_option maxRecDepth 20000 in
theorem gX7_fixedVariables_X7_has1 : GoodIn wsX7_fixedVariables (va_wsS RX7 44 yX7_has1 wsX7_has1) := goodIn_app (goodIn_of _ (by decide +kernel)) ggX7_fixedVariables_X7_has1
set_option maxRecDepth 20000 in
theorem ggX7_fixedVariables_X7_many : GoodIn wsX7_fixedVariables wsX7_many := goodIn_r _ [23] (by decide +kernel) (by decide +kernel)
set_option maxRecDepth 20000 in
theorem gX7_fixedVariables_X7_many : GoodIn wsX7_fixedVariables (va_wsS RX7 40 yX7_many wsX7_many) := goodIn_app (goodIn_of _ (by decide +kernel)) ggX7_fixedVariables_X7_many
theorem dX7_fixedVariables_0 : decode cX7_fixedVariables 0 = .ok (.iload_n 1, 1) := by decide +kernel
theorem dX7_fixedVariables_1 : decode cX7_fixedVariables 1 = .ok (.invokestatic 101, 3) := by decide +kernel
theorem dX7_fixedVariables_4 : decode cX7_fixedVariables 4 = .ok (.ifCond .ne 5, 3) := by decide +kernel
theorem dX7_fixedVariables_7 : decode cX7_fixedVariables 7 = .ok (.iconst (-1), 1) := by decide +kernel
theorem dX7_fixedVariables_8 : decode cX7_fixedVariables 8 = .ok (.ireturn, 1) := by decide +kernel
theorem dX7_fixedVariables_9 : decode cX7_fixedVariables 9 = .ok (.aload_n 0, 1) := by decide +kernel
theorem dX7_fixedVariables_10 : decode cX7_fixedVariables 10 = .ok (.iload_n 1, 1) := by decide +kernel
theorem dX7_fixedVariables_11 : decode cX7_fixedVariables 11 = .ok (.invokevirtual 110, 3) := by decide +kernel
theorem dX7_fixedVariables_14 : decode cX7_fixedVariables 14 = .ok (.lstore_n 2, 1) := by decide +kernel
theorem dX7_fixedVariables_15 : decode cX7_fixedVariables 15 = .ok (.iconst 0, 1) := by decide +kernel
theorem dX7_fixedVariables_16 : decode cX7_fixedVariables 16 = .ok (.istore 4, 2) := by decide +kernel
theorem dX7_fixedVariables_18 : decode cX7_fixedVariables 18 = .ok (.iconst 0, 1) := by decide +kernel
theorem dX7_fixedVariables_19 : decode cX7_fixedVariables 19 = .ok (.istore 5, 2) := by decide +kernel
theorem dX7_fixedVariables_21 : decode cX7_fixedVariables 21 = .ok (.iconst 0, 1) := by decide +kernel
theorem dX7_fixedVariables_22 : decode cX7_fixedVariables 22 = .ok (.istore 6, 2) := by decide +kernel
theorem dX7_fixedVariables_24 : decode cX7_fixedVariables 24 = .ok (.iload 6, 2) := by decide +kernel
theorem dX7_fixedVariables_26 : decode cX7_fixedVariables 26 = .ok (.iconst 1, 1) := by decide +kernel
theorem dX7_fixedVariables_27 : decode cX7_fixedVariables 27 = .ok (.aload_n 0, 1) := by decide +kernel
theorem dX7_fixedVariables_28 : decode cX7_fixedVariables 28 = .ok (.getfield 7, 3) := by decide +kernel
theorem dX7_fixedVariables_31 : decode cX7_fixedVariables 31 = .ok (.ishl, 1) := by decide +kernel
theorem dX7_fixedVariables_32 : decode cX7_fixedVariables 32 = .ok (.if_icmp .ge 43, 3) := by decide +kernel
theorem dX7_fixedVariables_35 : decode cX7_fixedVariables 35 = .ok (.lload_n 2, 1) := by decide +kernel
theorem dX7_fixedVariables_36 : decode cX7_fixedVariables 36 = .ok (.iload 6, 2) := by decide +kernel
theorem dX7_fixedVariables_38 : decode cX7_fixedVariables 38 = .ok (.invokestatic 44, 3) := by decide +kernel
theorem dX7_fixedVariables_41 : decode cX7_fixedVariables 41 = .ok (.ifCond .ne 28, 3) := by decide +kernel
theorem dX7_fixedVariables_44 : decode cX7_fixedVariables 44 = .ok (.iload 4, 2) := by decide +kernel
theorem dX7_fixedVariables_46 : decode cX7_fixedVariables 46 = .ok (.iload 6, 2) := by decide +kernel
theorem dX7_fixedVariables_48 : decode cX7_fixedVariables 48 = .ok (.ior, 1) := by decide +kernel
theorem dX7_fixedVariables_49 : decode cX7_fixedVariables 49 = .ok (.istore 4, 2) := by decide +kernel
theorem dX7_fixedVariables_51 : decode cX7_fixedVariables 51 = .ok (.iload 5, 2) := by decide +kernel
theorem dX7_fixedVariables_53 : decode cX7_fixedVariables 53 = .ok (.iload 6, 2) := by decide +kernel
theorem dX7_fixedVariables_55 : decode cX7_fixedVariables 55 = .ok (.iconst (-1), 1) := by decide +kernel
theorem dX7_fixedVariables_56 : decode cX7_fixedVariables 56 = .ok (.ixor, 1) := by decide +kernel
theorem dX7_fixedVariables_57 : decode cX7_fixedVariables 57 = .ok (.iconst 1, 1) := by decide +kernel
theorem dX7_fixedVariables_58 : decode cX7_fixedVariables 58 = .ok (.aload_n 0, 1) := by decide +kernel
theorem dX7_fixedVariables_59 : decode cX7_fixedVariables 59 = .ok (.getfield 7, 3) := by decide +kernel
theorem dX7_fixedVariables_62 : decode cX7_fixedVariables 62 = .ok (.ishl, 1) := by decide +kernel
theorem dX7_fixedVariables_63 : decode cX7_fixedVariables 63 = .ok (.iconst 1, 1) := by decide +kernel
theorem dX7_fixedVariables_64 : decode cX7_fixedVariables 64 = .ok (.isub, 1) := by decide +kernel
theorem dX7_fixedVariables_65 : decode cX7_fixedVariables 65 = .ok (.iand, 1) := by decide +kernel
theorem dX7_fixedVariables_66 : decode cX7_fixedVariables 66 = .ok (.ior, 1) := by decide +kernel
theorem dX7_fixedVariables_67 : decode cX7_fixedVariables 67 = .ok (.istore 5, 2) := by decide +kernel
theorem dX7_fixedVariables_69 : decode cX7_fixedVariables 69 = .ok (.iinc 6 1, 3) := by decide +kernel
theorem dX7_fixedVariables_72 : decode cX7_fixedVariables 72 = .ok (.goto (-48), 3) := by decide +kernel
theorem dX7_fixedVariables_75 : decode cX7_fixedVariables 75 = .ok (.iload 4, 2) := by decide +kernel
theorem dX7_fixedVariables_77 : decode cX7_fixedVariables 77 = .ok (.ifCond .ne 13, 3) := by decide +kernel
theorem dX7_fixedVariables_80 : decode cX7_fixedVariables 80 = .ok (.iload 5, 2) := by decide +kernel
theorem dX7_fixedVariables_82 : decode cX7_fixedVariables 82 = .ok (.ifCond .ne 8, 3) := by decide +kernel
theorem dX7_fixedVariables_85 : decode cX7_fixedVariables 85 = .ok (.bipush (-4), 2) := by decide +kernel
theorem dX7_fixedVariables_87 : decode cX7_fixedVariables 87 = .ok (.goto 17, 3) := by decide +kernel
theorem dX7_fixedVariables_90 : decode cX7_fixedVariables 90 = .ok (.aload_n 0, 1) := by decide +kernel
theorem dX7_fixedVariables_91 : decode cX7_fixedVariables 91 = .ok (.getfield 7, 3) := by decide +kernel
theorem dX7_fixedVariables_94 : decode cX7_fixedVariables 94 = .ok (.iload 4, 2) := by decide +kernel
theorem dX7_fixedVariables_96 : decode cX7_fixedVariables 96 = .ok (.iload 5, 2) := by decide +kernel
theorem dX7_fixedVariables_98 : decode cX7_fixedVariables 98 = .ok (.iand, 1) := by decide +kernel
theorem dX7_fixedVariables_99 : decode cX7_fixedVariables 99 = .ok (.i2l, 1) := by decide +kernel
theorem dX7_fixedVariables_100 : decode cX7_fixedVariables 100 = .ok (.invokestatic 40, 3) := by decide +kernel
theorem dX7_fixedVariables_103 : decode cX7_fixedVariables 103 = .ok (.isub, 1) := by decide +kernel
theorem dX7_fixedVariables_104 : decode cX7_fixedVariables 104 = .ok (.ireturn, 1) := by decide +kernel
set_option maxRecDepth 20000 in
theorem ggX7_type_X7_in : GoodIn wsX7_type wsX7_in := goodIn_r _ [6] (by decide +kernel) (by decide +kernel)
set_option maxRecDepth 20000 in
theorem gX7_type_X7_in : GoodIn wsX7_type (va_wsS RX7 30 yX7_in wsX7_in) := goodIn_app (goodIn_of _ (by decide +kernel)) ggX7_type_X7_in
theorem dX7_type_0 : decode cX7_type 0 = .ok (.iload_n 1, 1) := by decide +kernel
theorem dX7_type_1 : decode cX7_type 1 = .ok (.bipush 32, 2) := by decide +kernel
theorem dX7_type_3 : decode cX7_type 3 = .ok (.bipush 126, 2) := by decide +kernel
theorem dX7_type_5 : decode cX7_type 5 = .ok (.invokestatic 30, 3) := by decide +kernel
theorem dX7_type_8 : decode cX7_type 8 = .ok (.ifCond .ne 5, 3) := by decide +kernel
theorem dX7_type_11 : decode cX7_type 11 = .ok (.iconst (-1), 1) := by decide +kernel
theorem dX7_type_12 : decode cX7_type 12 = .ok (.ireturn, 1) := by decide +kernel
theorem dX7_type_13 : decode cX7_type 13 = .ok (.aload_n 0, 1) := by decide +kernel
theorem dX7_type_14 : decode cX7_type 14 = .ok (.getfield 114, 3) := by decide +kernel
theorem dX7_type_17 : decode cX7_type 17 = .ok (.bipush 60, 2) := by decide +kernel
theorem dX7_type_19 : decode cX7_type 19 = .ok (.if_icmp .ne 6, 3) := by decide +kernel
theorem dX7_type_22 : decode cX7_type 22 = .ok (.bipush (-3), 2) := by decide +kernel
theorem dX7_type_24 : decode cX7_type 24 = .ok (.ireturn, 1) := by decide +kernel
theorem dX7_type_25 : decode cX7_type 25 = .ok (.aload_n 0, 1) := by decide +kernel
theorem dX7_type_26 : decode cX7_type 26 = .ok (.getfield 20, 3) := by decide +kernel
theorem dX7_type_29 : decode cX7_type 29 = .ok (.aload_n 0, 1) := by decide +kernel
theorem dX7_type_30 : decode cX7_type 30 = .ok (.getfield 114, 3) := by decide +kernel
theorem dX7_type_33 : decode cX7_type 33 = .ok (.iload_n 1, 1) := by decide +kernel
theorem dX7_type_34 : decode cX7_type 34 = .ok (.i2c, 1) := by decide +kernel
theorem dX7_type_35 : decode cX7_type 35 = .ok (.castore, 1) := by decide +kernel
theorem dX7_type_36 : decode cX7_type 36 = .ok (.aload_n 0, 1) := by decide +kernel
theorem dX7_type_37 : decode cX7_type 37 = .ok (.dup, 1) := by decide +kernel
theorem dX7_type_38 : decode cX7_type 38 = .ok (.getfield 114, 3) := by decide +kernel
theorem dX7_type_41 : decode cX7_type 41 = .ok (.iconst 1, 1) := by decide +kernel
theorem dX7_type_42 : decode cX7_type 42 = .ok (.iadd, 1) := by decide +kernel
theorem dX7_type_43 : decode cX7_type 43 = .ok (.putfield 114, 3) := by decide +kernel
theorem dX7_type_46 : decode cX7_type 46 = .ok (.aload_n 0, 1) := by decide +kernel
theorem dX7_type_47 : decode cX7_type 47 = .ok (.getfield 114, 3) := by decide +kernel
theorem dX7_type_50 : decode cX7_type 50 = .ok (.ireturn, 1) := by decide +kernel
theorem dX7_clearText_0 : decode cX7_clearText 0 = .ok (.aload_n 0, 1) := by decide +kernel
theorem dX7_clearText_1 : decode cX7_clearText 1 = .ok (.getfield 114, 3) := by decide +kernel
theorem dX7_clearText_4 : decode cX7_clearText 4 = .ok (.istore_n 1, 1) := by decide +kernel
theorem dX7_clearText_5 : decode cX7_clearText 5 = .ok (.aload_n 0, 1) := by decide +kernel
theorem dX7_clearText_6 : decode cX7_clearText 6 = .ok (.iconst 0, 1) := by decide +kernel
theorem dX7_clearText_7 : decode cX7_clearText 7 = .ok (.putfield 114, 3) := by decide +kernel
theorem dX7_clearText_10 : decode cX7_clearText 10 = .ok (.iload_n 1, 1) := by decide +kernel
theorem dX7_clearText_11 : decode cX7_clearText 11 = .ok (.ireturn, 1) := by decide +kernel
set_option maxRecDepth 20000 in
theorem ggX7_behind_X7_in : GoodIn wsX7_behind wsX7_in := goodIn_r _ [5] (by decide +kernel) (by decide +kernel)
set_option maxRecDepth 20000 in
theorem gX7_behind_X7_in : GoodIn wsX7_behind (va_wsS RX7 30 yX7_in wsX7_in) := goodIn_app (goodIn_of _ (by decide +kernel)) ggX7_behind_X7_in
theorem dX7_behind_0 : decode cX7_behind 0 = .ok (.iload_n 2, 1) := by decide +kernel
theorem dX7_behind_1 : decode cX7_behind 1 = .ok (.bipush 43, 2) := by decide +kernel
theorem dX7_behind_3 : decode cX7_behind 3 = .ok (.if_icmp .ne 14, 3) := by decide +kernel
theorem dX7_behind_6 : decode cX7_behind 6 = .ok (.iload_n 1, 1) := by decide +kernel
theorem dX7_behind_7 : decode cX7_behind 7 = .ok (.ifCond .lt 7, 3) := by decide +kernel
theorem dX7_behind_10 : decode cX7_behind 10 = .ok (.iconst (-1), 1) := by decide +kernel
theorem dX7_behind_11 : decode cX7_behind 11 = .ok (.goto 5, 3) := by decide +kernel
theorem dX7_behind_14 : decode cX7_behind 14 = .ok (.bipush (-2), 2) := by decide +kernel
theorem dX7_behind_16 : decode cX7_behind 16 = .ok (.ireturn, 1) := by decide +kernel
theorem dX7_behind_17 : decode cX7_behind 17 = .ok (.iload_n 2, 1) := by decide +kernel
theorem dX7_behind_18 : decode cX7_behind 18 = .ok (.bipush 97, 2) := by decide +kernel
theorem dX7_behind_20 : decode cX7_behind 20 = .ok (.isub, 1) := by decide +kernel
theorem dX7_behind_21 : decode cX7_behind 21 = .ok (.istore_n 3, 1) := by decide +kernel
theorem dX7_behind_22 : decode cX7_behind 22 = .ok (.iload_n 1, 1) := by decide +kernel
theorem dX7_behind_23 : decode cX7_behind 23 = .ok (.ifCond .ge 18, 3) := by decide +kernel
theorem dX7_behind_26 : decode cX7_behind 26 = .ok (.iload_n 2, 1) := by decide +kernel
theorem dX7_behind_27 : decode cX7_behind 27 = .ok (.bipush 48, 2) := by decide +kernel
theorem dX7_behind_29 : decode cX7_behind 29 = .ok (.if_icmp .eq 9, 3) := by decide +kernel
theorem dX7_behind_32 : decode cX7_behind 32 = .ok (.iload_n 2, 1) := by decide +kernel
theorem dX7_behind_33 : decode cX7_behind 33 = .ok (.bipush 49, 2) := by decide +kernel
theorem dX7_behind_35 : decode cX7_behind 35 = .ok (.if_icmp .ne 6, 3) := by decide +kernel
theorem dX7_behind_38 : decode cX7_behind 38 = .ok (.bipush 6, 2) := by decide +kernel
theorem dX7_behind_40 : decode cX7_behind 40 = .ok (.ireturn, 1) := by decide +kernel
theorem dX7_behind_41 : decode cX7_behind 41 = .ok (.iload_n 1, 1) := by decide +kernel
theorem dX7_behind_42 : decode cX7_behind 42 = .ok (.bipush 6, 2) := by decide +kernel
theorem dX7_behind_44 : decode cX7_behind 44 = .ok (.if_icmp .ge 31, 3) := by decide +kernel
theorem dX7_behind_47 : decode cX7_behind 47 = .ok (.iload_n 3, 1) := by decide +kernel
theorem dX7_behind_48 : decode cX7_behind 48 = .ok (.iload_n 1, 1) := by decide +kernel
theorem dX7_behind_49 : decode cX7_behind 49 = .ok (.ifCond .ge 7, 3) := by decide +kernel
theorem dX7_behind_52 : decode cX7_behind 52 = .ok (.iconst 0, 1) := by decide +kernel
theorem dX7_behind_53 : decode cX7_behind 53 = .ok (.goto 6, 3) := by decide +kernel
theorem dX7_behind_56 : decode cX7_behind 56 = .ok (.iload_n 1, 1) := by decide +kernel
theorem dX7_behind_57 : decode cX7_behind 57 = .ok (.iconst 1, 1) := by decide +kernel
theorem dX7_behind_58 : decode cX7_behind 58 = .ok (.iadd, 1) := by decide +kernel
theorem dX7_behind_59 : decode cX7_behind 59 = .ok (.aload_n 0, 1) := by decide +kernel
theorem dX7_behind_60 : decode cX7_behind 60 = .ok (.getfield 7, 3) := by decide +kernel
theorem dX7_behind_63 : decode cX7_behind 63 = .ok (.iconst 1, 1) := by decide +kernel
theorem dX7_behind_64 : decode cX7_behind 64 = .ok (.isub, 1) := by decide +kernel
theorem dX7_behind_65 : decode cX7_behind 65 = .ok (.invokestatic 30, 3) := by decide +kernel
theorem dX7_behind_68 : decode cX7_behind 68 = .ok (.ifCond .eq 7, 3) := by decide +kernel
theorem dX7_behind_71 : decode cX7_behind 71 = .ok (.iload_n 3, 1) := by decide +kernel
theorem dX7_behind_72 : decode cX7_behind 72 = .ok (.goto 5, 3) := by decide +kernel
theorem dX7_behind_75 : decode cX7_behind 75 = .ok (.bipush (-2), 2) := by decide +kernel
theorem dX7_behind_77 : decode cX7_behind 77 = .ok (.ireturn, 1) := by decide +kernel
set_option maxRecDepth 20000 in
theorem ggX7_fault_X7_behind : GoodIn wsX7_fault wsX7_behind := goodIn_r _ [7, 8, 9, 10, 6, 11, 12, 13, 14, 15, 16, 17, 18, 19, 20] (by decide +kernel) (by decide +kernel)
set_option maxRecDepth 20000 in
theorem gX7_fault_X7_behind : GoodIn wsX7_fault (wsV RX7 117 RX7 yX7_behind wsX7_behind) := goodIn_app (goodIn_of _ (by decide +kernel)) ggX7_fault_X7_behind
theorem dX7_fault_0 : decode cX7_fault 0 = .ok (.iconst (-1), 1) := by decide +kernel
theorem dX7_fault_1 : decode cX7_fault 1 = .ok (.istore_n 1, 1) := by decide +kernel
theorem dX7_fault_2 : decode cX7_fault 2 = .ok (.iconst 0, 1) := by decide +kernel
theorem dX7_fault_3 : decode cX7_fault 3 = .ok (.istore_n 2, 1) := by decide +kernel
theorem dX7_fault_4 : decode cX7_fault 4 = .ok (.iload_n 2, 1) := by decide +kernel
theorem dX7_fault_5 : decode cX7_fault 5 = .ok (.aload_n 0, 1) := by decide +kernel
theorem dX7_fault_6 : decode cX7_fault 6 = .ok (.getfield 114, 3) := by decide +kernel
theorem dX7_fault_9 : decode cX7_fault 9 = .ok (.if_icmp .ge 29, 3) := by decide +kernel
theorem dX7_fault_12 : decode cX7_fault 12 = .ok (.aload_n 0, 1) := by decide +kernel
theorem dX7_fault_13 : decode cX7_fault 13 = .ok (.iload_n 1, 1) := by decide +kernel
theorem dX7_fault_14 : decode cX7_fault 14 = .ok (.aload_n 0, 1) := by decide +kernel
theorem dX7_fault_15 : decode cX7_fault 15 = .ok (.getfield 20, 3) := by decide +kernel
theorem dX7_fault_18 : decode cX7_fault 18 = .ok (.iload_n 2, 1) := by decide +kernel
theorem dX7_fault_19 : decode cX7_fault 19 = .ok (.caload, 1) := by decide +kernel
theorem dX7_fault_20 : decode cX7_fault 20 = .ok (.invokevirtual 117, 3) := by decide +kernel
theorem dX7_fault_23 : decode cX7_fault 23 = .ok (.istore_n 1, 1) := by decide +kernel
theorem dX7_fault_24 : decode cX7_fault 24 = .ok (.iload_n 1, 1) := by decide +kernel
theorem dX7_fault_25 : decode cX7_fault 25 = .ok (.bipush (-2), 2) := by decide +kernel
theorem dX7_fault_27 : decode cX7_fault 27 = .ok (.if_icmp .ne 5, 3) := by decide +kernel
theorem dX7_fault_30 : decode cX7_fault 30 = .ok (.iload_n 2, 1) := by decide +kernel
theorem dX7_fault_31 : decode cX7_fault 31 = .ok (.ireturn, 1) := by decide +kernel
theorem dX7_fault_32 : decode cX7_fault 32 = .ok (.iinc 2 1, 3) := by decide +kernel
theorem dX7_fault_35 : decode cX7_fault 35 = .ok (.goto (-31), 3) := by decide +kernel
theorem dX7_fault_38 : decode cX7_fault 38 = .ok (.iload_n 1, 1) := by decide +kernel
theorem dX7_fault_39 : decode cX7_fault 39 = .ok (.ifCond .ge 10, 3) := by decide +kernel
theorem dX7_fault_42 : decode cX7_fault 42 = .ok (.aload_n 0, 1) := by decide +kernel
theorem dX7_fault_43 : decode cX7_fault 43 = .ok (.getfield 114, 3) := by decide +kernel
theorem dX7_fault_46 : decode cX7_fault 46 = .ok (.goto 5, 3) := by decide +kernel
theorem dX7_fault_49 : decode cX7_fault 49 = .ok (.bipush (-4), 2) := by decide +kernel
theorem dX7_fault_51 : decode cX7_fault 51 = .ok (.ireturn, 1) := by decide +kernel
set_option maxRecDepth 20000 in
theorem ggX7_read_X7_isRegister : GoodIn wsX7_read wsX7_isRegister := goodIn_r _ [6, 7, 8, 5, 9] (by decide +kernel) (by decide +kernel)
set_option maxRecDepth 20000 in
theorem gX7_read_X7_isRegister : GoodIn wsX7_read (va_wsS RX7 48 yX7_isRegister wsX7_isRegister) := goodIn_app (goodIn_of _ (by decide +kernel)) ggX7_read_X7_isRegister
set_option maxRecDepth 20000 in
theorem ggX7_read_X7_fault : GoodIn wsX7_read wsX7_fault := goodIn_r _ [13, 1, 2, 14, 15, 16, 5, 17, 18, 7, 8, 9, 33, 34, 35, 36, 37, 38, 39, 40, 41] (by decide +kernel) (by decide +kernel)
set_option maxRecDepth 20000 in
theorem gX7_read_X7_fault : GoodIn wsX7_read (wsV RX7 121 RX7 yX7_fault wsX7_fault) := goodIn_app (goodIn_of _ (by decide +kernel)) ggX7_read_X7_fault
set_option maxRecDepth 20000 in
theorem ggX7_read_X7_gets : GoodIn wsX7_read wsX7_gets := goodIn_r _ [22, 23, 24, 25, 26, 5, 27, 28, 29, 30, 31, 32, 33, 34, 35, 36, 37, 38, 39, 40, 41] (by decide +kernel) (by decide +kernel)
set_option maxRecDepth 20000 in
theorem gX7_read_X7_gets : GoodIn wsX7_read (wsV RX7 55 RX7 yX7_gets wsX7_gets) := goodIn_app (goodIn_of _ (by decide +kernel)) ggX7_read_X7_gets
theorem dX7_read_0 : decode cX7_read 0 = .ok (.iload_n 1, 1) := by decide +kernel
theorem dX7_read_1 : decode cX7_read 1 = .ok (.invokestatic 48, 3) := by decide +kernel
theorem dX7_read_4 : decode cX7_read 4 = .ok (.ifCond .ne 5, 3) := by decide +kernel
theorem dX7_read_7 : decode cX7_read 7 = .ok (.iconst (-1), 1) := by decide +kernel
theorem dX7_read_8 : decode cX7_read 8 = .ok (.ireturn, 1) := by decide +kernel
theorem dX7_read_9 : decode cX7_read 9 = .ok (.aload_n 0, 1) := by decide +kernel
theorem dX7_read_10 : decode cX7_read 10 = .ok (.invokevirtual 121, 3) := by decide +kernel
theorem dX7_read_13 : decode cX7_read 13 = .ok (.bipush (-4), 2) := by decide +kernel
theorem dX7_read_15 : decode cX7_read 15 = .ok (.if_icmp .eq 6, 3) := by decide +kernel
theorem dX7_read_18 : decode cX7_read 18 = .ok (.bipush (-2), 2) := by decide +kernel
theorem dX7_read_20 : decode cX7_read 20 = .ok (.ireturn, 1) := by decide +kernel
theorem dX7_read_21 : decode cX7_read 21 = .ok (.lconst 0, 1) := by decide +kernel
theorem dX7_read_22 : decode cX7_read 22 = .ok (.lstore_n 2, 1) := by decide +kernel
theorem dX7_read_23 : decode cX7_read 23 = .ok (.iconst 0, 1) := by decide +kernel
theorem dX7_read_24 : decode cX7_read 24 = .ok (.istore 4, 2) := by decide +kernel
theorem dX7_read_26 : decode cX7_read 26 = .ok (.iconst 0, 1) := by decide +kernel
theorem dX7_read_27 : decode cX7_read 27 = .ok (.istore 5, 2) := by decide +kernel
theorem dX7_read_29 : decode cX7_read 29 = .ok (.iconst 0, 1) := by decide +kernel
theorem dX7_read_30 : decode cX7_read 30 = .ok (.istore 6, 2) := by decide +kernel
theorem dX7_read_32 : decode cX7_read 32 = .ok (.iload 6, 2) := by decide +kernel
theorem dX7_read_34 : decode cX7_read 34 = .ok (.aload_n 0, 1) := by decide +kernel
theorem dX7_read_35 : decode cX7_read 35 = .ok (.getfield 114, 3) := by decide +kernel
theorem dX7_read_38 : decode cX7_read 38 = .ok (.if_icmp .gt 100, 3) := by decide +kernel
theorem dX7_read_41 : decode cX7_read 41 = .ok (.iload 6, 2) := by decide +kernel
theorem dX7_read_43 : decode cX7_read 43 = .ok (.aload_n 0, 1) := by decide +kernel
theorem dX7_read_44 : decode cX7_read 44 = .ok (.getfield 114, 3) := by decide +kernel
theorem dX7_read_47 : decode cX7_read 47 = .ok (.if_icmp .ge 13, 3) := by decide +kernel
theorem dX7_read_50 : decode cX7_read 50 = .ok (.aload_n 0, 1) := by decide +kernel
theorem dX7_read_51 : decode cX7_read 51 = .ok (.getfield 20, 3) := by decide +kernel
theorem dX7_read_54 : decode cX7_read 54 = .ok (.iload 6, 2) := by decide +kernel
theorem dX7_read_56 : decode cX7_read 56 = .ok (.caload, 1) := by decide +kernel
theorem dX7_read_57 : decode cX7_read 57 = .ok (.goto 5, 3) := by decide +kernel
theorem dX7_read_60 : decode cX7_read 60 = .ok (.bipush 43, 2) := by decide +kernel
theorem dX7_read_62 : decode cX7_read 62 = .ok (.istore 7, 2) := by decide +kernel
theorem dX7_read_64 : decode cX7_read 64 = .ok (.iload 7, 2) := by decide +kernel
theorem dX7_read_66 : decode cX7_read 66 = .ok (.bipush 43, 2) := by decide +kernel
theorem dX7_read_68 : decode cX7_read 68 = .ok (.if_icmp .ne 28, 3) := by decide +kernel
theorem dX7_read_71 : decode cX7_read 71 = .ok (.lload_n 2, 1) := by decide +kernel
theorem dX7_read_72 : decode cX7_read 72 = .ok (.iload 5, 2) := by decide +kernel
theorem dX7_read_74 : decode cX7_read 74 = .ok (.ifCond .eq 7, 3) := by decide +kernel
theorem dX7_read_77 : decode cX7_read 77 = .ok (.lconst 0, 1) := by decide +kernel
theorem dX7_read_78 : decode cX7_read 78 = .ok (.goto 7, 3) := by decide +kernel
theorem dX7_read_81 : decode cX7_read 81 = .ok (.lconst 1, 1) := by decide +kernel
theorem dX7_read_82 : decode cX7_read 82 = .ok (.iload 4, 2) := by decide +kernel
theorem dX7_read_84 : decode cX7_read 84 = .ok (.lshl, 1) := by decide +kernel
theorem dX7_read_85 : decode cX7_read 85 = .ok (.lxor, 1) := by decide +kernel
theorem dX7_read_86 : decode cX7_read 86 = .ok (.lstore_n 2, 1) := by decide +kernel
theorem dX7_read_87 : decode cX7_read 87 = .ok (.iconst 0, 1) := by decide +kernel
theorem dX7_read_88 : decode cX7_read 88 = .ok (.istore 4, 2) := by decide +kernel
theorem dX7_read_90 : decode cX7_read 90 = .ok (.iconst 0, 1) := by decide +kernel
theorem dX7_read_91 : decode cX7_read 91 = .ok (.istore 5, 2) := by decide +kernel
theorem dX7_read_93 : decode cX7_read 93 = .ok (.goto 39, 3) := by decide +kernel
theorem dX7_read_96 : decode cX7_read 96 = .ok (.iload 7, 2) := by decide +kernel
theorem dX7_read_98 : decode cX7_read 98 = .ok (.bipush 97, 2) := by decide +kernel
theorem dX7_read_100 : decode cX7_read 100 = .ok (.if_icmp .lt 18, 3) := by decide +kernel
theorem dX7_read_103 : decode cX7_read 103 = .ok (.iload 4, 2) := by decide +kernel
theorem dX7_read_105 : decode cX7_read 105 = .ok (.iconst 1, 1) := by decide +kernel
theorem dX7_read_106 : decode cX7_read 106 = .ok (.iload 7, 2) := by decide +kernel
theorem dX7_read_108 : decode cX7_read 108 = .ok (.bipush 97, 2) := by decide +kernel
theorem dX7_read_110 : decode cX7_read 110 = .ok (.isub, 1) := by decide +kernel
theorem dX7_read_111 : decode cX7_read 111 = .ok (.ishl, 1) := by decide +kernel
theorem dX7_read_112 : decode cX7_read 112 = .ok (.ior, 1) := by decide +kernel
theorem dX7_read_113 : decode cX7_read 113 = .ok (.istore 4, 2) := by decide +kernel
theorem dX7_read_115 : decode cX7_read 115 = .ok (.goto 17, 3) := by decide +kernel
theorem dX7_read_118 : decode cX7_read 118 = .ok (.iload 7, 2) := by decide +kernel
theorem dX7_read_120 : decode cX7_read 120 = .ok (.bipush 48, 2) := by decide +kernel
theorem dX7_read_122 : decode cX7_read 122 = .ok (.if_icmp .ne 7, 3) := by decide +kernel
theorem dX7_read_125 : decode cX7_read 125 = .ok (.iconst 1, 1) := by decide +kernel
theorem dX7_read_126 : decode cX7_read 126 = .ok (.goto 4, 3) := by decide +kernel
theorem dX7_read_129 : decode cX7_read 129 = .ok (.iconst 0, 1) := by decide +kernel
theorem dX7_read_130 : decode cX7_read 130 = .ok (.istore 5, 2) := by decide +kernel
theorem dX7_read_132 : decode cX7_read 132 = .ok (.iinc 6 1, 3) := by decide +kernel
theorem dX7_read_135 : decode cX7_read 135 = .ok (.goto (-103), 3) := by decide +kernel
theorem dX7_read_138 : decode cX7_read 138 = .ok (.aload_n 0, 1) := by decide +kernel
theorem dX7_read_139 : decode cX7_read 139 = .ok (.iload_n 1, 1) := by decide +kernel
theorem dX7_read_140 : decode cX7_read 140 = .ok (.lload_n 2, 1) := by decide +kernel
theorem dX7_read_141 : decode cX7_read 141 = .ok (.invokevirtual 55, 3) := by decide +kernel
theorem dX7_read_144 : decode cX7_read 144 = .ok (.ireturn, 1) := by decide +kernel
set_option maxRecDepth 20000 in
theorem ggX7_longOf_X7_many : GoodIn wsX7_longOf wsX7_many := goodIn_r _ [4] (by decide +kernel) (by decide +kernel)
set_option maxRecDepth 20000 in
theorem gX7_longOf_X7_many : GoodIn wsX7_longOf (va_wsS RX7 40 yX7_many wsX7_many) := goodIn_app (goodIn_of _ (by decide +kernel)) ggX7_longOf_X7_many
theorem dX7_longOf_0 : decode cX7_longOf 0 = .ok (.iload_n 0, 1) := by decide +kernel
theorem dX7_longOf_1 : decode cX7_longOf 1 = .ok (.ifCond .ne 7, 3) := by decide +kernel
theorem dX7_longOf_4 : decode cX7_longOf 4 = .ok (.iconst 1, 1) := by decide +kernel
theorem dX7_longOf_5 : decode cX7_longOf 5 = .ok (.goto 8, 3) := by decide +kernel
theorem dX7_longOf_8 : decode cX7_longOf 8 = .ok (.iload_n 0, 1) := by decide +kernel
theorem dX7_longOf_9 : decode cX7_longOf 9 = .ok (.i2l, 1) := by decide +kernel
theorem dX7_longOf_10 : decode cX7_longOf 10 = .ok (.invokestatic 40, 3) := by decide +kernel
theorem dX7_longOf_13 : decode cX7_longOf 13 = .ok (.ireturn, 1) := by decide +kernel
set_option maxRecDepth 20000 in
theorem ggX7_textLength_X7_isRegister : GoodIn wsX7_textLength wsX7_isRegister := goodIn_r _ [6, 7, 8, 5, 9] (by decide +kernel) (by decide +kernel)
set_option maxRecDepth 20000 in
theorem gX7_textLength_X7_isRegister : GoodIn wsX7_textLength (va_wsS RX7 48 yX7_isRegister wsX7_isRegister) := goodIn_app (goodIn_of _ (by decide +kernel)) ggX7_textLength_X7_isRegister
set_option maxRecDepth 20000 in
theorem ggX7_textLength_X7_has1 : GoodIn wsX7_textLength wsX7_has1 := goodIn_r _ [12] (by decide +kernel) (by decide +kernel)
set_option maxRecDepth 20000 in
theorem gX7_textLength_X7_has1 : GoodIn wsX7_textLength (va_wsS RX7 44 yX7_has1 wsX7_has1) := goodIn_app (goodIn_of _ (by decide +kernel)) ggX7_textLength_X7_has1
set_option maxRecDepth 20000 in
theorem ggX7_textLength_X7_longOf : GoodIn wsX7_textLength wsX7_longOf := goodIn_r _ [15, 16, 17, 5, 18] (by decide +kernel) (by decide +kernel)
set_option maxRecDepth 20000 in
theorem gX7_textLength_X7_longOf : GoodIn wsX7_textLength (va_wsS RX7 124 yX7_longOf wsX7_longOf) := goodIn_app (goodIn_of _ (by decide +kernel)) ggX7_textLength_X7_longOf
theorem dX7_textLength_0 : decode cX7_textLength 0 = .ok (.iload_n 1, 1) := by decide +kernel
theorem dX7_textLength_1 : decode cX7_textLength 1 = .ok (.invokestatic 48, 3) := by decide +kernel
theorem dX7_textLength_4 : decode cX7_textLength 4 = .ok (.ifCond .ne 5, 3) := by decide +kernel
theorem dX7_textLength_7 : decode cX7_textLength 7 = .ok (.iconst (-1), 1) := by decide +kernel
theorem dX7_textLength_8 : decode cX7_textLength 8 = .ok (.ireturn, 1) := by decide +kernel
theorem dX7_textLength_9 : decode cX7_textLength 9 = .ok (.aload_n 0, 1) := by decide +kernel
theorem dX7_textLength_10 : decode cX7_textLength 10 = .ok (.getfield 13, 3) := by decide +kernel
theorem dX7_textLength_13 : decode cX7_textLength 13 = .ok (.iload_n 1, 1) := by decide +kernel
theorem dX7_textLength_14 : decode cX7_textLength 14 = .ok (.laload, 1) := by decide +kernel
theorem dX7_textLength_15 : decode cX7_textLength 15 = .ok (.lconst 0, 1) := by decide +kernel
theorem dX7_textLength_16 : decode cX7_textLength 16 = .ok (.lcmp, 1) := by decide +kernel
theorem dX7_textLength_17 : decode cX7_textLength 17 = .ok (.ifCond .ne 7, 3) := by decide +kernel
theorem dX7_textLength_20 : decode cX7_textLength 20 = .ok (.iconst 1, 1) := by decide +kernel
theorem dX7_textLength_21 : decode cX7_textLength 21 = .ok (.goto 4, 3) := by decide +kernel
theorem dX7_textLength_24 : decode cX7_textLength 24 = .ok (.iconst (-1), 1) := by decide +kernel
theorem dX7_textLength_25 : decode cX7_textLength 25 = .ok (.istore_n 2, 1) := by decide +kernel
theorem dX7_textLength_26 : decode cX7_textLength 26 = .ok (.iconst 0, 1) := by decide +kernel
theorem dX7_textLength_27 : decode cX7_textLength 27 = .ok (.istore_n 3, 1) := by decide +kernel
theorem dX7_textLength_28 : decode cX7_textLength 28 = .ok (.iload_n 3, 1) := by decide +kernel
theorem dX7_textLength_29 : decode cX7_textLength 29 = .ok (.iconst 1, 1) := by decide +kernel
theorem dX7_textLength_30 : decode cX7_textLength 30 = .ok (.aload_n 0, 1) := by decide +kernel
theorem dX7_textLength_31 : decode cX7_textLength 31 = .ok (.getfield 7, 3) := by decide +kernel
theorem dX7_textLength_34 : decode cX7_textLength 34 = .ok (.ishl, 1) := by decide +kernel
theorem dX7_textLength_35 : decode cX7_textLength 35 = .ok (.if_icmp .ge 35, 3) := by decide +kernel
theorem dX7_textLength_38 : decode cX7_textLength 38 = .ok (.iload_n 2, 1) := by decide +kernel
theorem dX7_textLength_39 : decode cX7_textLength 39 = .ok (.aload_n 0, 1) := by decide +kernel
theorem dX7_textLength_40 : decode cX7_textLength 40 = .ok (.getfield 13, 3) := by decide +kernel
theorem dX7_textLength_43 : decode cX7_textLength 43 = .ok (.iload_n 1, 1) := by decide +kernel
theorem dX7_textLength_44 : decode cX7_textLength 44 = .ok (.laload, 1) := by decide +kernel
theorem dX7_textLength_45 : decode cX7_textLength 45 = .ok (.iload_n 3, 1) := by decide +kernel
theorem dX7_textLength_46 : decode cX7_textLength 46 = .ok (.invokestatic 44, 3) := by decide +kernel
theorem dX7_textLength_49 : decode cX7_textLength 49 = .ok (.ifCond .eq 12, 3) := by decide +kernel
theorem dX7_textLength_52 : decode cX7_textLength 52 = .ok (.iconst 1, 1) := by decide +kernel
theorem dX7_textLength_53 : decode cX7_textLength 53 = .ok (.iload_n 3, 1) := by decide +kernel
theorem dX7_textLength_54 : decode cX7_textLength 54 = .ok (.invokestatic 124, 3) := by decide +kernel
theorem dX7_textLength_57 : decode cX7_textLength 57 = .ok (.iadd, 1) := by decide +kernel
theorem dX7_textLength_58 : decode cX7_textLength 58 = .ok (.goto 4, 3) := by decide +kernel
theorem dX7_textLength_61 : decode cX7_textLength 61 = .ok (.iconst 0, 1) := by decide +kernel
theorem dX7_textLength_62 : decode cX7_textLength 62 = .ok (.iadd, 1) := by decide +kernel
theorem dX7_textLength_63 : decode cX7_textLength 63 = .ok (.istore_n 2, 1) := by decide +kernel
theorem dX7_textLength_64 : decode cX7_textLength 64 = .ok (.iinc 3 1, 3) := by decide +kernel
theorem dX7_textLength_67 : decode cX7_textLength 67 = .ok (.goto (-39), 3) := by decide +kernel
theorem dX7_textLength_70 : decode cX7_textLength 70 = .ok (.iload_n 2, 1) := by decide +kernel
theorem dX7_textLength_71 : decode cX7_textLength 71 = .ok (.ireturn, 1) := by decide +kernel
theorem dX7_letter_0 : decode cX7_letter 0 = .ok (.iload_n 0, 1) := by decide +kernel
theorem dX7_letter_1 : decode cX7_letter 1 = .ok (.ifCond .ne 6, 3) := by decide +kernel
theorem dX7_letter_4 : decode cX7_letter 4 = .ok (.bipush 49, 2) := by decide +kernel
theorem dX7_letter_6 : decode cX7_letter 6 = .ok (.ireturn, 1) := by decide +kernel
theorem dX7_letter_7 : decode cX7_letter 7 = .ok (.iload_n 1, 1) := by decide +kernel
theorem dX7_letter_8 : decode cX7_letter 8 = .ok (.istore_n 2, 1) := by decide +kernel
theorem dX7_letter_9 : decode cX7_letter 9 = .ok (.iconst 0, 1) := by decide +kernel
theorem dX7_letter_10 : decode cX7_letter 10 = .ok (.istore_n 3, 1) := by decide +kernel
theorem dX7_letter_11 : decode cX7_letter 11 = .ok (.iload_n 2, 1) := by decide +kernel
theorem dX7_letter_12 : decode cX7_letter 12 = .ok (.ifCond .gt 11, 3) := by decide +kernel
theorem dX7_letter_15 : decode cX7_letter 15 = .ok (.iload_n 0, 1) := by decide +kernel
theorem dX7_letter_16 : decode cX7_letter 16 = .ok (.iload_n 3, 1) := by decide +kernel
theorem dX7_letter_17 : decode cX7_letter 17 = .ok (.ishr, 1) := by decide +kernel
theorem dX7_letter_18 : decode cX7_letter 18 = .ok (.iconst 1, 1) := by decide +kernel
theorem dX7_letter_19 : decode cX7_letter 19 = .ok (.iand, 1) := by decide +kernel
theorem dX7_letter_20 : decode cX7_letter 20 = .ok (.ifCond .ne 17, 3) := by decide +kernel
theorem dX7_letter_23 : decode cX7_letter 23 = .ok (.iload_n 2, 1) := by decide +kernel
theorem dX7_letter_24 : decode cX7_letter 24 = .ok (.iload_n 0, 1) := by decide +kernel
theorem dX7_letter_25 : decode cX7_letter 25 = .ok (.iload_n 3, 1) := by decide +kernel
theorem dX7_letter_26 : decode cX7_letter 26 = .ok (.ishr, 1) := by decide +kernel
theorem dX7_letter_27 : decode cX7_letter 27 = .ok (.iconst 1, 1) := by decide +kernel
theorem dX7_letter_28 : decode cX7_letter 28 = .ok (.iand, 1) := by decide +kernel
theorem dX7_letter_29 : decode cX7_letter 29 = .ok (.isub, 1) := by decide +kernel
theorem dX7_letter_30 : decode cX7_letter 30 = .ok (.istore_n 2, 1) := by decide +kernel
theorem dX7_letter_31 : decode cX7_letter 31 = .ok (.iinc 3 1, 3) := by decide +kernel
theorem dX7_letter_34 : decode cX7_letter 34 = .ok (.goto (-23), 3) := by decide +kernel
theorem dX7_letter_37 : decode cX7_letter 37 = .ok (.bipush 97, 2) := by decide +kernel
theorem dX7_letter_39 : decode cX7_letter 39 = .ok (.iload_n 3, 1) := by decide +kernel
theorem dX7_letter_40 : decode cX7_letter 40 = .ok (.iadd, 1) := by decide +kernel
theorem dX7_letter_41 : decode cX7_letter 41 = .ok (.ireturn, 1) := by decide +kernel
set_option maxRecDepth 20000 in
theorem ggX7_textAt_X7_isRegister : GoodIn wsX7_textAt wsX7_isRegister := goodIn_r _ [5, 6, 7, 4, 8] (by decide +kernel) (by decide +kernel)
set_option maxRecDepth 20000 in
theorem gX7_textAt_X7_isRegister : GoodIn wsX7_textAt (va_wsS RX7 48 yX7_isRegister wsX7_isRegister) := goodIn_app (goodIn_of _ (by decide +kernel)) ggX7_textAt_X7_isRegister
set_option maxRecDepth 20000 in
theorem ggX7_textAt_X7_leads : GoodIn wsX7_textAt wsX7_leads := goodIn_r _ [12, 13, 14, 15, 4, 16, 17, 18, 19, 20, 21, 22, 23, 30, 31, 32, 33, 34, 35, 36, 37, 38] (by decide +kernel) (by decide +kernel)
set_option maxRecDepth 20000 in
theorem gX7_textAt_X7_leads : GoodIn wsX7_textAt (wsV RX7 97 RX7 yX7_leads wsX7_leads) := goodIn_app (goodIn_of _ (by decide +kernel)) ggX7_textAt_X7_leads
set_option maxRecDepth 20000 in
theorem ggX7_textAt_X7_longOf : GoodIn wsX7_textAt wsX7_longOf := goodIn_r _ [26, 21, 22, 4, 23] (by decide +kernel) (by decide +kernel)
set_option maxRecDepth 20000 in
theorem gX7_textAt_X7_longOf : GoodIn wsX7_textAt (va_wsS RX7 124 yX7_longOf wsX7_longOf) := goodIn_app (goodIn_of _ (by decide +kernel)) ggX7_textAt_X7_longOf
set_option maxRecDepth 20000 in
theorem ggX7_textAt_X7_letter : GoodIn wsX7_textAt wsX7_letter := goodIn_r _ [29] (by decide +kernel) (by decide +kernel)
set_option maxRecDepth 20000 in
theorem gX7_textAt_X7_letter : GoodIn wsX7_textAt (va_wsS RX7 128 yX7_letter wsX7_letter) := goodIn_app (goodIn_of _ (by decide +kernel)) ggX7_textAt_X7_letter
set_option maxRecDepth 20000 in
theorem ggX7_textAt_X7_many : GoodIn wsX7_textAt wsX7_many := goodIn_r _ [23] (by decide +kernel) (by decide +kernel)
set_option maxRecDepth 20000 in
theorem gX7_textAt_X7_many : GoodIn wsX7_textAt (va_wsS RX7 40 yX7_many wsX7_many) := goodIn_app (goodIn_of _ (by decide +kernel)) ggX7_textAt_X7_many
theorem dX7_textAt_0 : decode cX7_textAt 0 = .ok (.iload_n 1, 1) := by decide +kernel
theorem dX7_textAt_1 : decode cX7_textAt 1 = .ok (.invokestatic 48, 3) := by decide +kernel
theorem dX7_textAt_4 : decode cX7_textAt 4 = .ok (.ifCond .eq 7, 3) := by decide +kernel
theorem dX7_textAt_7 : decode cX7_textAt 7 = .ok (.iload_n 2, 1) := by decide +kernel
theorem dX7_textAt_8 : decode cX7_textAt 8 = .ok (.ifCond .ge 5, 3) := by decide +kernel
theorem dX7_textAt_11 : decode cX7_textAt 11 = .ok (.iconst (-1), 1) := by decide +kernel
theorem dX7_textAt_12 : decode cX7_textAt 12 = .ok (.ireturn, 1) := by decide +kernel
theorem dX7_textAt_13 : decode cX7_textAt 13 = .ok (.aload_n 0, 1) := by decide +kernel
theorem dX7_textAt_14 : decode cX7_textAt 14 = .ok (.getfield 13, 3) := by decide +kernel
theorem dX7_textAt_17 : decode cX7_textAt 17 = .ok (.iload_n 1, 1) := by decide +kernel
theorem dX7_textAt_18 : decode cX7_textAt 18 = .ok (.laload, 1) := by decide +kernel
theorem dX7_textAt_19 : decode cX7_textAt 19 = .ok (.lconst 0, 1) := by decide +kernel
theorem dX7_textAt_20 : decode cX7_textAt 20 = .ok (.lcmp, 1) := by decide +kernel
theorem dX7_textAt_21 : decode cX7_textAt 21 = .ok (.ifCond .ne 15, 3) := by decide +kernel
theorem dX7_textAt_24 : decode cX7_textAt 24 = .ok (.iload_n 2, 1) := by decide +kernel
theorem dX7_textAt_25 : decode cX7_textAt 25 = .ok (.ifCond .ne 8, 3) := by decide +kernel
theorem dX7_textAt_28 : decode cX7_textAt 28 = .ok (.bipush 48, 2) := by decide +kernel
theorem dX7_textAt_30 : decode cX7_textAt 30 = .ok (.goto 5, 3) := by decide +kernel
theorem dX7_textAt_33 : decode cX7_textAt 33 = .ok (.bipush (-4), 2) := by decide +kernel
theorem dX7_textAt_35 : decode cX7_textAt 35 = .ok (.ireturn, 1) := by decide +kernel
theorem dX7_textAt_36 : decode cX7_textAt 36 = .ok (.iload_n 2, 1) := by decide +kernel
theorem dX7_textAt_37 : decode cX7_textAt 37 = .ok (.istore_n 3, 1) := by decide +kernel
theorem dX7_textAt_38 : decode cX7_textAt 38 = .ok (.aload_n 0, 1) := by decide +kernel
theorem dX7_textAt_39 : decode cX7_textAt 39 = .ok (.getfield 13, 3) := by decide +kernel
theorem dX7_textAt_42 : decode cX7_textAt 42 = .ok (.iload_n 1, 1) := by decide +kernel
theorem dX7_textAt_43 : decode cX7_textAt 43 = .ok (.laload, 1) := by decide +kernel
theorem dX7_textAt_44 : decode cX7_textAt 44 = .ok (.lstore 4, 2) := by decide +kernel
theorem dX7_textAt_46 : decode cX7_textAt 46 = .ok (.lload 4, 2) := by decide +kernel
theorem dX7_textAt_48 : decode cX7_textAt 48 = .ok (.lconst 0, 1) := by decide +kernel
theorem dX7_textAt_49 : decode cX7_textAt 49 = .ok (.lcmp, 1) := by decide +kernel
theorem dX7_textAt_50 : decode cX7_textAt 50 = .ok (.ifCond .eq 72, 3) := by decide +kernel
theorem dX7_textAt_53 : decode cX7_textAt 53 = .ok (.aload_n 0, 1) := by decide +kernel
theorem dX7_textAt_54 : decode cX7_textAt 54 = .ok (.lload 4, 2) := by decide +kernel
theorem dX7_textAt_56 : decode cX7_textAt 56 = .ok (.iconst 0, 1) := by decide +kernel
theorem dX7_textAt_57 : decode cX7_textAt 57 = .ok (.invokevirtual 97, 3) := by decide +kernel
theorem dX7_textAt_60 : decode cX7_textAt 60 = .ok (.istore 6, 2) := by decide +kernel
theorem dX7_textAt_62 : decode cX7_textAt 62 = .ok (.iload_n 3, 1) := by decide +kernel
theorem dX7_textAt_63 : decode cX7_textAt 63 = .ok (.iload 6, 2) := by decide +kernel
theorem dX7_textAt_65 : decode cX7_textAt 65 = .ok (.invokestatic 124, 3) := by decide +kernel
theorem dX7_textAt_68 : decode cX7_textAt 68 = .ok (.if_icmp .ge 10, 3) := by decide +kernel
theorem dX7_textAt_71 : decode cX7_textAt 71 = .ok (.iload 6, 2) := by decide +kernel
theorem dX7_textAt_73 : decode cX7_textAt 73 = .ok (.iload_n 3, 1) := by decide +kernel
theorem dX7_textAt_74 : decode cX7_textAt 74 = .ok (.invokestatic 128, 3) := by decide +kernel
theorem dX7_textAt_77 : decode cX7_textAt 77 = .ok (.ireturn, 1) := by decide +kernel
theorem dX7_textAt_78 : decode cX7_textAt 78 = .ok (.iload_n 3, 1) := by decide +kernel
theorem dX7_textAt_79 : decode cX7_textAt 79 = .ok (.iload 6, 2) := by decide +kernel
theorem dX7_textAt_81 : decode cX7_textAt 81 = .ok (.invokestatic 124, 3) := by decide +kernel
theorem dX7_textAt_84 : decode cX7_textAt 84 = .ok (.isub, 1) := by decide +kernel
theorem dX7_textAt_85 : decode cX7_textAt 85 = .ok (.istore_n 3, 1) := by decide +kernel
theorem dX7_textAt_86 : decode cX7_textAt 86 = .ok (.iload_n 3, 1) := by decide +kernel
theorem dX7_textAt_87 : decode cX7_textAt 87 = .ok (.ifCond .ne 15, 3) := by decide +kernel
theorem dX7_textAt_90 : decode cX7_textAt 90 = .ok (.lload 4, 2) := by decide +kernel
theorem dX7_textAt_92 : decode cX7_textAt 92 = .ok (.invokestatic 40, 3) := by decide +kernel
theorem dX7_textAt_95 : decode cX7_textAt 95 = .ok (.iconst 1, 1) := by decide +kernel
theorem dX7_textAt_96 : decode cX7_textAt 96 = .ok (.if_icmp .le 6, 3) := by decide +kernel
theorem dX7_textAt_99 : decode cX7_textAt 99 = .ok (.bipush 43, 2) := by decide +kernel
theorem dX7_textAt_101 : decode cX7_textAt 101 = .ok (.ireturn, 1) := by decide +kernel
theorem dX7_textAt_102 : decode cX7_textAt 102 = .ok (.iinc 3 (-1), 3) := by decide +kernel
theorem dX7_textAt_105 : decode cX7_textAt 105 = .ok (.lload 4, 2) := by decide +kernel
theorem dX7_textAt_107 : decode cX7_textAt 107 = .ok (.lconst 1, 1) := by decide +kernel
theorem dX7_textAt_108 : decode cX7_textAt 108 = .ok (.aload_n 0, 1) := by decide +kernel
theorem dX7_textAt_109 : decode cX7_textAt 109 = .ok (.lload 4, 2) := by decide +kernel
theorem dX7_textAt_111 : decode cX7_textAt 111 = .ok (.iconst 0, 1) := by decide +kernel
theorem dX7_textAt_112 : decode cX7_textAt 112 = .ok (.invokevirtual 97, 3) := by decide +kernel
theorem dX7_textAt_115 : decode cX7_textAt 115 = .ok (.lshl, 1) := by decide +kernel
theorem dX7_textAt_116 : decode cX7_textAt 116 = .ok (.lxor, 1) := by decide +kernel
theorem dX7_textAt_117 : decode cX7_textAt 117 = .ok (.lstore 4, 2) := by decide +kernel
theorem dX7_textAt_119 : decode cX7_textAt 119 = .ok (.goto (-73), 3) := by decide +kernel
theorem dX7_textAt_122 : decode cX7_textAt 122 = .ok (.bipush (-4), 2) := by decide +kernel
theorem dX7_textAt_124 : decode cX7_textAt 124 = .ok (.ireturn, 1) := by decide +kernel
theorem dJ6_bitCount_0f7a4_0 : decode cJ6_bitCount_0f7a4 0 = .ok (.iload_n 0, 1) := by decide +kernel
theorem dJ6_bitCount_0f7a4_1 : decode cJ6_bitCount_0f7a4 1 = .ok (.iload_n 0, 1) := by decide +kernel
theorem dJ6_bitCount_0f7a4_2 : decode cJ6_bitCount_0f7a4 2 = .ok (.iconst 1, 1) := by decide +kernel
theorem dJ6_bitCount_0f7a4_3 : decode cJ6_bitCount_0f7a4 3 = .ok (.iushr, 1) := by decide +kernel
theorem dJ6_bitCount_0f7a4_4 : decode cJ6_bitCount_0f7a4 4 = .ok (.ldc_w 265, 3) := by decide +kernel
theorem dJ6_bitCount_0f7a4_7 : decode cJ6_bitCount_0f7a4 7 = .ok (.iand, 1) := by decide +kernel
theorem dJ6_bitCount_0f7a4_8 : decode cJ6_bitCount_0f7a4 8 = .ok (.isub, 1) := by decide +kernel
theorem dJ6_bitCount_0f7a4_9 : decode cJ6_bitCount_0f7a4 9 = .ok (.istore_n 0, 1) := by decide +kernel
theorem dJ6_bitCount_0f7a4_10 : decode cJ6_bitCount_0f7a4 10 = .ok (.iload_n 0, 1) := by decide +kernel
theorem dJ6_bitCount_0f7a4_11 : decode cJ6_bitCount_0f7a4 11 = .ok (.ldc_w 266, 3) := by decide +kernel
theorem dJ6_bitCount_0f7a4_14 : decode cJ6_bitCount_0f7a4 14 = .ok (.iand, 1) := by decide +kernel
theorem dJ6_bitCount_0f7a4_15 : decode cJ6_bitCount_0f7a4 15 = .ok (.iload_n 0, 1) := by decide +kernel
theorem dJ6_bitCount_0f7a4_16 : decode cJ6_bitCount_0f7a4 16 = .ok (.iconst 2, 1) := by decide +kernel
theorem dJ6_bitCount_0f7a4_17 : decode cJ6_bitCount_0f7a4 17 = .ok (.iushr, 1) := by decide +kernel
theorem dJ6_bitCount_0f7a4_18 : decode cJ6_bitCount_0f7a4 18 = .ok (.ldc_w 266, 3) := by decide +kernel
theorem dJ6_bitCount_0f7a4_21 : decode cJ6_bitCount_0f7a4 21 = .ok (.iand, 1) := by decide +kernel
theorem dJ6_bitCount_0f7a4_22 : decode cJ6_bitCount_0f7a4 22 = .ok (.iadd, 1) := by decide +kernel
theorem dJ6_bitCount_0f7a4_23 : decode cJ6_bitCount_0f7a4 23 = .ok (.istore_n 0, 1) := by decide +kernel
theorem dJ6_bitCount_0f7a4_24 : decode cJ6_bitCount_0f7a4 24 = .ok (.iload_n 0, 1) := by decide +kernel
theorem dJ6_bitCount_0f7a4_25 : decode cJ6_bitCount_0f7a4 25 = .ok (.iload_n 0, 1) := by decide +kernel
theorem dJ6_bitCount_0f7a4_26 : decode cJ6_bitCount_0f7a4 26 = .ok (.iconst 4, 1) := by decide +kernel
theorem dJ6_bitCount_0f7a4_27 : decode cJ6_bitCount_0f7a4 27 = .ok (.iushr, 1) := by decide +kernel
theorem dJ6_bitCount_0f7a4_28 : decode cJ6_bitCount_0f7a4 28 = .ok (.iadd, 1) := by decide +kernel
theorem dJ6_bitCount_0f7a4_29 : decode cJ6_bitCount_0f7a4 29 = .ok (.ldc_w 267, 3) := by decide +kernel
theorem dJ6_bitCount_0f7a4_32 : decode cJ6_bitCount_0f7a4 32 = .ok (.iand, 1) := by decide +kernel
theorem dJ6_bitCount_0f7a4_33 : decode cJ6_bitCount_0f7a4 33 = .ok (.istore_n 0, 1) := by decide +kernel
theorem dJ6_bitCount_0f7a4_34 : decode cJ6_bitCount_0f7a4 34 = .ok (.iload_n 0, 1) := by decide +kernel
theorem dJ6_bitCount_0f7a4_35 : decode cJ6_bitCount_0f7a4 35 = .ok (.iload_n 0, 1) := by decide +kernel
theorem dJ6_bitCount_0f7a4_36 : decode cJ6_bitCount_0f7a4 36 = .ok (.bipush 8, 2) := by decide +kernel
theorem dJ6_bitCount_0f7a4_38 : decode cJ6_bitCount_0f7a4 38 = .ok (.iushr, 1) := by decide +kernel
theorem dJ6_bitCount_0f7a4_39 : decode cJ6_bitCount_0f7a4 39 = .ok (.iadd, 1) := by decide +kernel
theorem dJ6_bitCount_0f7a4_40 : decode cJ6_bitCount_0f7a4 40 = .ok (.istore_n 0, 1) := by decide +kernel
theorem dJ6_bitCount_0f7a4_41 : decode cJ6_bitCount_0f7a4 41 = .ok (.iload_n 0, 1) := by decide +kernel
theorem dJ6_bitCount_0f7a4_42 : decode cJ6_bitCount_0f7a4 42 = .ok (.iload_n 0, 1) := by decide +kernel
theorem dJ6_bitCount_0f7a4_43 : decode cJ6_bitCount_0f7a4 43 = .ok (.bipush 16, 2) := by decide +kernel
theorem dJ6_bitCount_0f7a4_45 : decode cJ6_bitCount_0f7a4 45 = .ok (.iushr, 1) := by decide +kernel
theorem dJ6_bitCount_0f7a4_46 : decode cJ6_bitCount_0f7a4 46 = .ok (.iadd, 1) := by decide +kernel
theorem dJ6_bitCount_0f7a4_47 : decode cJ6_bitCount_0f7a4 47 = .ok (.istore_n 0, 1) := by decide +kernel
theorem dJ6_bitCount_0f7a4_48 : decode cJ6_bitCount_0f7a4 48 = .ok (.iload_n 0, 1) := by decide +kernel
theorem dJ6_bitCount_0f7a4_49 : decode cJ6_bitCount_0f7a4 49 = .ok (.bipush 63, 2) := by decide +kernel
theorem dJ6_bitCount_0f7a4_51 : decode cJ6_bitCount_0f7a4 51 = .ok (.iand, 1) := by decide +kernel
theorem dJ6_bitCount_0f7a4_52 : decode cJ6_bitCount_0f7a4 52 = .ok (.ireturn, 1) := by decide +kernel
theorem dJ13_bitCount_95d88_0 : decode cJ13_bitCount_95d88 0 = .ok (.lload_n 0, 1) := by decide +kernel
theorem dJ13_bitCount_95d88_1 : decode cJ13_bitCount_95d88 1 = .ok (.lload_n 0, 1) := by decide +kernel
theorem dJ13_bitCount_95d88_2 : decode cJ13_bitCount_95d88 2 = .ok (.iconst 1, 1) := by decide +kernel
theorem dJ13_bitCount_95d88_3 : decode cJ13_bitCount_95d88 3 = .ok (.lushr, 1) := by decide +kernel
theorem dJ13_bitCount_95d88_4 : decode cJ13_bitCount_95d88 4 = .ok (.ldc2_w 314, 3) := by decide +kernel
theorem dJ13_bitCount_95d88_7 : decode cJ13_bitCount_95d88 7 = .ok (.land, 1) := by decide +kernel
theorem dJ13_bitCount_95d88_8 : decode cJ13_bitCount_95d88 8 = .ok (.lsub, 1) := by decide +kernel
theorem dJ13_bitCount_95d88_9 : decode cJ13_bitCount_95d88 9 = .ok (.lstore_n 0, 1) := by decide +kernel
theorem dJ13_bitCount_95d88_10 : decode cJ13_bitCount_95d88 10 = .ok (.lload_n 0, 1) := by decide +kernel
theorem dJ13_bitCount_95d88_11 : decode cJ13_bitCount_95d88 11 = .ok (.ldc2_w 316, 3) := by decide +kernel
theorem dJ13_bitCount_95d88_14 : decode cJ13_bitCount_95d88 14 = .ok (.land, 1) := by decide +kernel
theorem dJ13_bitCount_95d88_15 : decode cJ13_bitCount_95d88 15 = .ok (.lload_n 0, 1) := by decide +kernel
theorem dJ13_bitCount_95d88_16 : decode cJ13_bitCount_95d88 16 = .ok (.iconst 2, 1) := by decide +kernel
theorem dJ13_bitCount_95d88_17 : decode cJ13_bitCount_95d88 17 = .ok (.lushr, 1) := by decide +kernel
theorem dJ13_bitCount_95d88_18 : decode cJ13_bitCount_95d88 18 = .ok (.ldc2_w 316, 3) := by decide +kernel
theorem dJ13_bitCount_95d88_21 : decode cJ13_bitCount_95d88 21 = .ok (.land, 1) := by decide +kernel
theorem dJ13_bitCount_95d88_22 : decode cJ13_bitCount_95d88 22 = .ok (.ladd, 1) := by decide +kernel
theorem dJ13_bitCount_95d88_23 : decode cJ13_bitCount_95d88 23 = .ok (.lstore_n 0, 1) := by decide +kernel
theorem dJ13_bitCount_95d88_24 : decode cJ13_bitCount_95d88 24 = .ok (.lload_n 0, 1) := by decide +kernel
theorem dJ13_bitCount_95d88_25 : decode cJ13_bitCount_95d88 25 = .ok (.lload_n 0, 1) := by decide +kernel
theorem dJ13_bitCount_95d88_26 : decode cJ13_bitCount_95d88 26 = .ok (.iconst 4, 1) := by decide +kernel
theorem dJ13_bitCount_95d88_27 : decode cJ13_bitCount_95d88 27 = .ok (.lushr, 1) := by decide +kernel
theorem dJ13_bitCount_95d88_28 : decode cJ13_bitCount_95d88 28 = .ok (.ladd, 1) := by decide +kernel
theorem dJ13_bitCount_95d88_29 : decode cJ13_bitCount_95d88 29 = .ok (.ldc2_w 318, 3) := by decide +kernel
theorem dJ13_bitCount_95d88_32 : decode cJ13_bitCount_95d88 32 = .ok (.land, 1) := by decide +kernel
theorem dJ13_bitCount_95d88_33 : decode cJ13_bitCount_95d88 33 = .ok (.lstore_n 0, 1) := by decide +kernel
theorem dJ13_bitCount_95d88_34 : decode cJ13_bitCount_95d88 34 = .ok (.lload_n 0, 1) := by decide +kernel
theorem dJ13_bitCount_95d88_35 : decode cJ13_bitCount_95d88 35 = .ok (.lload_n 0, 1) := by decide +kernel
theorem dJ13_bitCount_95d88_36 : decode cJ13_bitCount_95d88 36 = .ok (.bipush 8, 2) := by decide +kernel
theorem dJ13_bitCount_95d88_38 : decode cJ13_bitCount_95d88 38 = .ok (.lushr, 1) := by decide +kernel
theorem dJ13_bitCount_95d88_39 : decode cJ13_bitCount_95d88 39 = .ok (.ladd, 1) := by decide +kernel
theorem dJ13_bitCount_95d88_40 : decode cJ13_bitCount_95d88 40 = .ok (.lstore_n 0, 1) := by decide +kernel
theorem dJ13_bitCount_95d88_41 : decode cJ13_bitCount_95d88 41 = .ok (.lload_n 0, 1) := by decide +kernel
theorem dJ13_bitCount_95d88_42 : decode cJ13_bitCount_95d88 42 = .ok (.lload_n 0, 1) := by decide +kernel
theorem dJ13_bitCount_95d88_43 : decode cJ13_bitCount_95d88 43 = .ok (.bipush 16, 2) := by decide +kernel
theorem dJ13_bitCount_95d88_45 : decode cJ13_bitCount_95d88 45 = .ok (.lushr, 1) := by decide +kernel
theorem dJ13_bitCount_95d88_46 : decode cJ13_bitCount_95d88 46 = .ok (.ladd, 1) := by decide +kernel
theorem dJ13_bitCount_95d88_47 : decode cJ13_bitCount_95d88 47 = .ok (.lstore_n 0, 1) := by decide +kernel
theorem dJ13_bitCount_95d88_48 : decode cJ13_bitCount_95d88 48 = .ok (.lload_n 0, 1) := by decide +kernel
theorem dJ13_bitCount_95d88_49 : decode cJ13_bitCount_95d88 49 = .ok (.lload_n 0, 1) := by decide +kernel
theorem dJ13_bitCount_95d88_50 : decode cJ13_bitCount_95d88 50 = .ok (.bipush 32, 2) := by decide +kernel
theorem dJ13_bitCount_95d88_52 : decode cJ13_bitCount_95d88 52 = .ok (.lushr, 1) := by decide +kernel
theorem dJ13_bitCount_95d88_53 : decode cJ13_bitCount_95d88 53 = .ok (.ladd, 1) := by decide +kernel
theorem dJ13_bitCount_95d88_54 : decode cJ13_bitCount_95d88 54 = .ok (.lstore_n 0, 1) := by decide +kernel
theorem dJ13_bitCount_95d88_55 : decode cJ13_bitCount_95d88 55 = .ok (.lload_n 0, 1) := by decide +kernel
theorem dJ13_bitCount_95d88_56 : decode cJ13_bitCount_95d88 56 = .ok (.l2i, 1) := by decide +kernel
theorem dJ13_bitCount_95d88_57 : decode cJ13_bitCount_95d88 57 = .ok (.bipush 127, 2) := by decide +kernel
theorem dJ13_bitCount_95d88_59 : decode cJ13_bitCount_95d88 59 = .ok (.iand, 1) := by decide +kernel
theorem dJ13_bitCount_95d88_60 : decode cJ13_bitCount_95d88 60 = .ok (.ireturn, 1) := by decide +kernel
theorem dJ9_max_7cf53_0 : decode cJ9_max_7cf53 0 = .ok (.iload_n 0, 1) := by decide +kernel
theorem dJ9_max_7cf53_1 : decode cJ9_max_7cf53 1 = .ok (.iload_n 1, 1) := by decide +kernel
theorem dJ9_max_7cf53_2 : decode cJ9_max_7cf53 2 = .ok (.if_icmp .lt 7, 3) := by decide +kernel
theorem dJ9_max_7cf53_5 : decode cJ9_max_7cf53 5 = .ok (.iload_n 0, 1) := by decide +kernel
theorem dJ9_max_7cf53_6 : decode cJ9_max_7cf53 6 = .ok (.goto 4, 3) := by decide +kernel
theorem dJ9_max_7cf53_9 : decode cJ9_max_7cf53 9 = .ok (.iload_n 1, 1) := by decide +kernel
theorem dJ9_max_7cf53_10 : decode cJ9_max_7cf53 10 = .ok (.ireturn, 1) := by decide +kernel
theorem dJ9_min_7cf53_0 : decode cJ9_min_7cf53 0 = .ok (.iload_n 0, 1) := by decide +kernel
theorem dJ9_min_7cf53_1 : decode cJ9_min_7cf53 1 = .ok (.iload_n 1, 1) := by decide +kernel
theorem dJ9_min_7cf53_2 : decode cJ9_min_7cf53 2 = .ok (.if_icmp .gt 7, 3) := by decide +kernel
theorem dJ9_min_7cf53_5 : decode cJ9_min_7cf53 5 = .ok (.iload_n 0, 1) := by decide +kernel
theorem dJ9_min_7cf53_6 : decode cJ9_min_7cf53 6 = .ok (.goto 4, 3) := by decide +kernel
theorem dJ9_min_7cf53_9 : decode cJ9_min_7cf53 9 = .ok (.iload_n 1, 1) := by decide +kernel
theorem dJ9_min_7cf53_10 : decode cJ9_min_7cf53 10 = .ok (.ireturn, 1) := by decide +kernel
theorem dJ7_fill_d0a16_0 : decode cJ7_fill_d0a16 0 = .ok (.iconst 0, 1) := by decide +kernel
theorem dJ7_fill_d0a16_1 : decode cJ7_fill_d0a16 1 = .ok (.istore_n 3, 1) := by decide +kernel
theorem dJ7_fill_d0a16_2 : decode cJ7_fill_d0a16 2 = .ok (.aload_n 0, 1) := by decide +kernel
theorem dJ7_fill_d0a16_3 : decode cJ7_fill_d0a16 3 = .ok (.arraylength, 1) := by decide +kernel
theorem dJ7_fill_d0a16_4 : decode cJ7_fill_d0a16 4 = .ok (.istore 4, 2) := by decide +kernel
theorem dJ7_fill_d0a16_6 : decode cJ7_fill_d0a16 6 = .ok (.iload_n 3, 1) := by decide +kernel
theorem dJ7_fill_d0a16_7 : decode cJ7_fill_d0a16 7 = .ok (.iload 4, 2) := by decide +kernel
theorem dJ7_fill_d0a16_9 : decode cJ7_fill_d0a16 9 = .ok (.if_icmp .ge 13, 3) := by decide +kernel
theorem dJ7_fill_d0a16_12 : decode cJ7_fill_d0a16 12 = .ok (.aload_n 0, 1) := by decide +kernel
theorem dJ7_fill_d0a16_13 : decode cJ7_fill_d0a16 13 = .ok (.iload_n 3, 1) := by decide +kernel
theorem dJ7_fill_d0a16_14 : decode cJ7_fill_d0a16 14 = .ok (.lload_n 1, 1) := by decide +kernel
theorem dJ7_fill_d0a16_15 : decode cJ7_fill_d0a16 15 = .ok (.lastore, 1) := by decide +kernel
theorem dJ7_fill_d0a16_16 : decode cJ7_fill_d0a16 16 = .ok (.iinc 3 1, 3) := by decide +kernel
theorem dJ7_fill_d0a16_19 : decode cJ7_fill_d0a16 19 = .ok (.goto (-13), 3) := by decide +kernel
theorem dJ7_fill_d0a16_22 : decode cJ7_fill_d0a16 22 = .ok (.return_, 1) := by decide +kernel
set_option maxRecDepth 20000 in
theorem ggL_law_X6_init : GoodIn wsL_law wsX6_init := goodIn_r _ [8, 9, 10, 11, 12, 13, 14, 15, 16, 17, 18, 19, 20, 21, 22, 23, 24, 25, 26, 27, 28, 29, 30, 31, 32, 33, 34, 35, 36, 37, 38, 39, 40, 41, 42, 43, 44, 663, 664, 665, 666, 667, 668, 678, 679, 680, 681, 682, 683] (by decide +kernel) (by decide +kernel)
set_option maxRecDepth 20000 in
theorem gL_law_X6_init : GoodIn wsL_law (wsX6_init) := ggL_law_X6_init
set_option maxRecDepth 20000 in
theorem ggL_law_X7_init : GoodIn wsL_law wsX7_init := goodIn_r _ [47, 48, 10, 11, 49, 12, 50, 51, 42, 52, 53, 54, 669, 670, 671, 672, 673, 674, 675, 676, 677] (by decide +kernel) (by decide +kernel)
set_option maxRecDepth 20000 in
theorem gL_law_X7_init : GoodIn wsL_law (wsX7_init) := ggL_law_X7_init
set_option maxRecDepth 20000 in
theorem ggL_law_X6_reset : GoodIn wsL_law wsX6_reset := goodIn_r _ [58, 28, 13, 19, 59, 60, 61, 62, 63, 64, 65, 18, 66, 33, 663, 664, 665, 666, 667, 668, 678, 679] (by decide +kernel) (by decide +kernel)
set_option maxRecDepth 20000 in
theorem gL_law_X6_reset : GoodIn wsL_law (wsV RL 13 RX6 yX6_reset wsX6_reset) := goodIn_app (goodIn_of _ (by decide +kernel)) ggL_law_X6_reset
set_option maxRecDepth 20000 in
theorem ggL_law_X7_reset : GoodIn wsL_law wsX7_reset := goodIn_r _ [70, 49, 71, 50, 72, 73, 5, 74, 669, 670, 671, 672, 673, 674, 675, 676, 677] (by decide +kernel) (by decide +kernel)
set_option maxRecDepth 20000 in
theorem gL_law_X7_reset : GoodIn wsL_law (wsV RL 17 RX7 yX7_reset wsX7_reset) := goodIn_app (goodIn_of _ (by decide +kernel)) ggL_law_X7_reset
set_option maxRecDepth 20000 in
theorem ggL_law_X6_variables : GoodIn wsL_law wsX6_variables := goodIn_r _ [78, 28, 663, 664, 665, 666, 667, 668] (by decide +kernel) (by decide +kernel)
set_option maxRecDepth 20000 in
theorem gL_law_X6_variables : GoodIn wsL_law (wsV RL 18 RX6 yX6_variables wsX6_variables) := goodIn_app (goodIn_of _ (by decide +kernel)) ggL_law_X6_variables
set_option maxRecDepth 20000 in
theorem ggL_law_X7_variables : GoodIn wsL_law wsX7_variables := goodIn_r _ [82, 49, 669, 670, 671, 672, 673, 674, 675, 676, 677] (by decide +kernel) (by decide +kernel)
set_option maxRecDepth 20000 in
theorem gL_law_X7_variables : GoodIn wsL_law (wsV RL 22 RX7 yX7_variables wsX7_variables) := goodIn_app (goodIn_of _ (by decide +kernel)) ggL_law_X7_variables
set_option maxRecDepth 20000 in
theorem ggL_law_X6_toggle : GoodIn wsL_law wsX6_toggle := goodIn_r _ [86, 13, 87, 88, 2, 89, 90, 91, 92, 93, 28, 94, 95, 96, 97, 98, 99, 100, 101, 19, 102, 103, 104, 18, 105, 33, 32, 106, 107, 108, 109, 110, 111, 112, 113, 114, 115, 116, 663, 664, 665, 666, 667, 668, 678, 679] (by decide +kernel) (by decide +kernel)
set_option maxRecDepth 20000 in
theorem gL_law_X6_toggle : GoodIn wsL_law (wsV RL 23 RX6 yX6_toggle wsX6_toggle) := goodIn_app (goodIn_of _ (by decide +kernel)) ggL_law_X6_toggle
set_option maxRecDepth 20000 in
theorem ggL_law_X7_toggle : GoodIn wsL_law wsX7_toggle := goodIn_r _ [120, 50, 121, 122, 5, 123, 72, 73, 74, 124, 125, 126, 127, 49, 128, 129, 130, 131, 132, 133, 134, 135, 71, 51, 136, 137, 138, 669, 670, 671, 672, 673, 674, 675, 676, 677] (by decide +kernel) (by decide +kernel)
set_option maxRecDepth 20000 in
theorem gL_law_X7_toggle : GoodIn wsL_law (wsV RL 27 RX7 yX7_toggle wsX7_toggle) := goodIn_app (goodIn_of _ (by decide +kernel)) ggL_law_X7_toggle
set_option maxRecDepth 20000 in
theorem ggL_law_X6_copy : GoodIn wsL_law wsX6_copy := goodIn_r _ [142, 13, 87, 88, 2, 89, 98, 99, 100, 101, 19, 102, 103, 104, 18, 105, 33, 32, 106, 107, 108, 109, 110, 111, 112, 113, 114, 115, 116, 663, 664, 665, 666, 667, 668, 678, 679] (by decide +kernel) (by decide +kernel)
set_option maxRecDepth 20000 in
theorem gL_law_X6_copy : GoodIn wsL_law (wsV RL 28 RX6 yX6_copy wsX6_copy) := goodIn_app (goodIn_of _ (by decide +kernel)) ggL_law_X6_copy
set_option maxRecDepth 20000 in
theorem ggL_law_X7_copy : GoodIn wsL_law wsX7_copy := goodIn_r _ [146, 50, 121, 122, 5, 123, 72, 73, 74, 128, 129, 130, 131, 132, 133, 134, 135, 71, 51, 136, 137, 138, 669, 670, 671, 672, 673, 674, 675, 676, 677] (by decide +kernel) (by decide +kernel)
set_option maxRecDepth 20000 in
theorem gL_law_X7_copy : GoodIn wsL_law (wsV RL 31 RX7 yX7_copy wsX7_copy) := goodIn_app (goodIn_of _ (by decide +kernel)) ggL_law_X7_copy
set_option maxRecDepth 20000 in
theorem ggL_law_X6_sum : GoodIn wsL_law wsX6_sum := goodIn_r _ [150, 13, 87, 88, 2, 89, 98, 99, 100, 101, 19, 102, 103, 104, 18, 105, 33, 32, 106, 107, 108, 109, 110, 111, 112, 113, 114, 115, 116, 663, 664, 665, 666, 667, 668, 678, 679] (by decide +kernel) (by decide +kernel)
set_option maxRecDepth 20000 in
theorem gL_law_X6_sum : GoodIn wsL_law (wsV RL 32 RX6 yX6_sum wsX6_sum) := goodIn_app (goodIn_of _ (by decide +kernel)) ggL_law_X6_sum
set_option maxRecDepth 20000 in
theorem ggL_law_X7_sum : GoodIn wsL_law wsX7_sum := goodIn_r _ [154, 50, 121, 122, 5, 123, 72, 73, 74, 128, 129, 130, 131, 132, 133, 134, 135, 71, 51, 136, 137, 138, 669, 670, 671, 672, 673, 674, 675, 676, 677] (by decide +kernel) (by decide +kernel)
set_option maxRecDepth 20000 in
theorem gL_law_X7_sum : GoodIn wsL_law (wsV RL 36 RX7 yX7_sum wsX7_sum) := goodIn_app (goodIn_of _ (by decide +kernel)) ggL_law_X7_sum
set_option maxRecDepth 20000 in
theorem ggL_law_X6_product : GoodIn wsL_law wsX6_product := goodIn_r _ [158, 13, 28, 87, 88, 2, 89, 159, 160, 96, 161, 162, 163, 164, 165, 166, 167, 168, 169, 170, 171, 98, 99, 100, 101, 19, 102, 103, 104, 18, 105, 33, 32, 106, 107, 108, 109, 110, 111, 112, 113, 114, 115, 116, 663, 664, 665, 666, 667, 668, 678, 679] (by decide +kernel) (by decide +kernel)
set_option maxRecDepth 20000 in
theorem gL_law_X6_product : GoodIn wsL_law (wsV RL 37 RX6 yX6_product wsX6_product) := goodIn_app (goodIn_of _ (by decide +kernel)) ggL_law_X6_product
set_option maxRecDepth 20000 in
theorem ggL_law_X7_product : GoodIn wsL_law wsX7_product := goodIn_r _ [175, 50, 121, 122, 5, 123, 72, 73, 74, 176, 177, 178, 179, 49, 180, 181, 182, 128, 129, 130, 131, 132, 133, 134, 135, 71, 51, 136, 137, 138, 669, 670, 671, 672, 673, 674, 675, 676, 677] (by decide +kernel) (by decide +kernel)
set_option maxRecDepth 20000 in
theorem gL_law_X7_product : GoodIn wsL_law (wsV RL 40 RX7 yX7_product wsX7_product) := goodIn_app (goodIn_of _ (by decide +kernel)) ggL_law_X7_product
set_option maxRecDepth 20000 in
theorem ggL_law_X6_times : GoodIn wsL_law wsX6_times := goodIn_r _ [186, 13, 28, 87, 88, 2, 89, 90, 91, 92, 93, 94, 95, 96, 97, 159, 160, 161, 162, 163, 164, 165, 166, 167, 168, 169, 170, 171, 98, 99, 100, 101, 19, 102, 103, 104, 18, 105, 33, 32, 106, 107, 108, 109, 110, 111, 112, 113, 114, 115, 116, 663, 664, 665, 666, 667, 668, 678, 679] (by decide +kernel) (by decide +kernel)
set_option maxRecDepth 20000 in
theorem gL_law_X6_times : GoodIn wsL_law (wsV RL 41 RX6 yX6_times wsX6_times) := goodIn_app (goodIn_of _ (by decide +kernel)) ggL_law_X6_times
set_option maxRecDepth 20000 in
theorem ggL_law_X7_times : GoodIn wsL_law wsX7_times := goodIn_r _ [190, 50, 121, 122, 5, 123, 72, 73, 74, 124, 125, 126, 127, 49, 176, 177, 178, 179, 180, 181, 182, 128, 129, 130, 131, 132, 133, 134, 135, 71, 51, 136, 137, 138, 669, 670, 671, 672, 673, 674, 675, 676, 677] (by decide +kernel) (by decide +kernel)
set_option maxRecDepth 20000 in
theorem gL_law_X7_times : GoodIn wsL_law (wsV RL 44 RX7 yX7_times wsX7_times) := goodIn_app (goodIn_of _ (by decide +kernel)) ggL_law_X7_times
set_option maxRecDepth 20000 in
theorem ggL_law_X6_restrict : GoodIn wsL_law wsX6_restrict := goodIn_r _ [194, 13, 87, 88, 2, 89, 195, 196, 197, 198, 28, 199, 200, 96, 201, 168, 169, 170, 171, 202, 203, 204, 98, 99, 100, 101, 19, 102, 103, 104, 18, 105, 33, 32, 106, 107, 108, 109, 110, 111, 112, 113, 114, 115, 116, 663, 664, 665, 666, 667, 668, 678, 679] (by decide +kernel) (by decide +kernel)
set_option maxRecDepth 20000 in
theorem gL_law_X6_restrict : GoodIn wsL_law (wsV RL 45 RX6 yX6_restrict wsX6_restrict) := goodIn_app (goodIn_of _ (by decide +kernel)) ggL_law_X6_restrict
set_option maxRecDepth 20000 in
theorem ggL_law_X7_restrict : GoodIn wsL_law wsX7_restrict := goodIn_r _ [208, 50, 121, 122, 5, 123, 72, 73, 74, 209, 210, 211, 212, 49, 213, 214, 215, 216, 180, 181, 182, 217, 218, 219, 220, 128, 129, 130, 131, 132, 133, 134, 135, 71, 51, 136, 137, 138, 669, 670, 671, 672, 673, 674, 675, 676, 677] (by decide +kernel) (by decide +kernel)
set_option maxRecDepth 20000 in
theorem gL_law_X7_restrict : GoodIn wsL_law (wsV RL 49 RX7 yX7_restrict wsX7_restrict) := goodIn_app (goodIn_of _ (by decide +kernel)) ggL_law_X7_restrict
set_option maxRecDepth 20000 in
theorem ggL_law_X6_substitute : GoodIn wsL_law wsX6_substitute := goodIn_r _ [224, 13, 28, 87, 88, 2, 89, 195, 196, 197, 198, 202, 203, 96, 204, 168, 169, 170, 171, 199, 200, 201, 159, 160, 161, 162, 163, 164, 165, 166, 167, 98, 99, 100, 101, 19, 102, 103, 104, 18, 105, 33, 32, 106, 107, 108, 109, 110, 111, 112, 113, 114, 115, 116, 663, 664, 665, 666, 667, 668, 678, 679] (by decide +kernel) (by decide +kernel)
set_option maxRecDepth 20000 in
theorem gL_law_X6_substitute : GoodIn wsL_law (wsV RL 50 RX6 yX6_substitute wsX6_substitute) := goodIn_app (goodIn_of _ (by decide +kernel)) ggL_law_X6_substitute
set_option maxRecDepth 20000 in
theorem ggL_law_X7_substitute : GoodIn wsL_law wsX7_substitute := goodIn_r _ [228, 50, 121, 122, 5, 123, 72, 73, 74, 209, 210, 211, 212, 49, 213, 214, 215, 216, 180, 181, 182, 217, 218, 219, 220, 176, 177, 178, 179, 128, 129, 130, 131, 132, 133, 134, 135, 71, 51, 136, 137, 138, 669, 670, 671, 672, 673, 674, 675, 676, 677] (by decide +kernel) (by decide +kernel)
set_option maxRecDepth 20000 in
theorem gL_law_X7_substitute : GoodIn wsL_law (wsV RL 53 RX7 yX7_substitute wsX7_substitute) := goodIn_app (goodIn_of _ (by decide +kernel)) ggL_law_X7_substitute
set_option maxRecDepth 20000 in
theorem ggL_law_X6_derivative : GoodIn wsL_law wsX6_derivative := goodIn_r _ [232, 13, 87, 88, 2, 89, 195, 196, 197, 198, 28, 202, 203, 96, 204, 168, 169, 170, 171, 98, 99, 100, 101, 19, 102, 103, 104, 18, 105, 33, 32, 106, 107, 108, 109, 110, 111, 112, 113, 114, 115, 116, 663, 664, 665, 666, 667, 668, 678, 679] (by decide +kernel) (by decide +kernel)
set_option maxRecDepth 20000 in
theorem gL_law_X6_derivative : GoodIn wsL_law (wsV RL 54 RX6 yX6_derivative wsX6_derivative) := goodIn_app (goodIn_of _ (by decide +kernel)) ggL_law_X6_derivative
set_option maxRecDepth 20000 in
theorem ggL_law_X7_derivative : GoodIn wsL_law wsX7_derivative := goodIn_r _ [236, 50, 121, 122, 5, 123, 72, 73, 74, 209, 210, 211, 212, 49, 217, 218, 219, 220, 180, 181, 182, 128, 129, 130, 131, 132, 133, 134, 135, 71, 51, 136, 137, 138, 669, 670, 671, 672, 673, 674, 675, 676, 677] (by decide +kernel) (by decide +kernel)
set_option maxRecDepth 20000 in
theorem gL_law_X7_derivative : GoodIn wsL_law (wsV RL 57 RX7 yX7_derivative wsX7_derivative) := goodIn_app (goodIn_of _ (by decide +kernel)) ggL_law_X7_derivative
set_option maxRecDepth 20000 in
theorem ggL_law_X6_flip : GoodIn wsL_law wsX6_flip := goodIn_r _ [240, 28, 13, 87, 88, 2, 89, 90, 91, 92, 93, 241, 163, 96, 164, 165, 166, 167, 168, 169, 170, 171, 98, 99, 100, 101, 19, 102, 103, 104, 18, 105, 33, 32, 106, 107, 108, 109, 110, 111, 112, 113, 114, 115, 116, 663, 664, 665, 666, 667, 668, 678, 679] (by decide +kernel) (by decide +kernel)
set_option maxRecDepth 20000 in
theorem gL_law_X6_flip : GoodIn wsL_law (wsV RL 58 RX6 yX6_flip wsX6_flip) := goodIn_app (goodIn_of _ (by decide +kernel)) ggL_law_X6_flip
set_option maxRecDepth 20000 in
theorem ggL_law_X7_flip : GoodIn wsL_law wsX7_flip := goodIn_r _ [245, 50, 121, 122, 5, 123, 72, 73, 74, 124, 125, 126, 127, 49, 246, 247, 248, 249, 180, 181, 182, 128, 129, 130, 131, 132, 133, 134, 135, 71, 51, 136, 137, 138, 669, 670, 671, 672, 673, 674, 675, 676, 677] (by decide +kernel) (by decide +kernel)
set_option maxRecDepth 20000 in
theorem gL_law_X7_flip : GoodIn wsL_law (wsV RL 61 RX7 yX7_flip wsX7_flip) := goodIn_app (goodIn_of _ (by decide +kernel)) ggL_law_X7_flip
set_option maxRecDepth 20000 in
theorem ggL_law_X6_exchange : GoodIn wsL_law wsX6_exchange := goodIn_r _ [253, 13, 254, 255, 256, 257, 258, 259, 260, 87, 88, 2, 89, 195, 196, 197, 198, 28, 261, 262, 96, 263, 264, 168, 169, 170, 171, 98, 99, 100, 101, 19, 102, 103, 104, 18, 105, 33, 32, 106, 107, 108, 109, 110, 111, 112, 113, 114, 115, 116, 663, 664, 665, 666, 667, 668, 678, 679] (by decide +kernel) (by decide +kernel)
set_option maxRecDepth 20000 in
theorem gL_law_X6_exchange : GoodIn wsL_law (wsV RL 62 RX6 yX6_exchange wsX6_exchange) := goodIn_app (goodIn_of _ (by decide +kernel)) ggL_law_X6_exchange
set_option maxRecDepth 20000 in
theorem ggL_law_X7_exchange : GoodIn wsL_law wsX7_exchange := goodIn_r _ [268, 49, 50, 121, 122, 5, 123, 72, 73, 74, 209, 210, 211, 212, 180, 181, 182, 128, 129, 130, 131, 132, 133, 134, 135, 71, 51, 136, 137, 138, 669, 670, 671, 672, 673, 674, 675, 676, 677] (by decide +kernel) (by decide +kernel)
set_option maxRecDepth 20000 in
theorem gL_law_X7_exchange : GoodIn wsL_law (wsV RL 65 RX7 yX7_exchange wsX7_exchange) := goodIn_app (goodIn_of _ (by decide +kernel)) ggL_law_X7_exchange
set_option maxRecDepth 20000 in
theorem ggL_law_X6_undo : GoodIn wsL_law wsX6_undo := goodIn_r _ [272, 19, 13, 273, 274, 275, 18, 276, 33, 277, 278, 279, 280, 32, 106, 107, 108, 109, 663, 664, 665, 666, 667, 668, 678, 679] (by decide +kernel) (by decide +kernel)
set_option maxRecDepth 20000 in
theorem gL_law_X6_undo : GoodIn wsL_law (wsV RL 66 RX6 yX6_undo wsX6_undo) := goodIn_app (goodIn_of _ (by decide +kernel)) ggL_law_X6_undo
set_option maxRecDepth 20000 in
theorem ggL_law_X7_undo : GoodIn wsL_law wsX7_undo := goodIn_r _ [284, 71, 50, 51, 669, 670, 671, 672, 673, 674, 675, 676, 677] (by decide +kernel) (by decide +kernel)
set_option maxRecDepth 20000 in
theorem gL_law_X7_undo : GoodIn wsL_law (wsV RL 69 RX7 yX7_undo wsX7_undo) := goodIn_app (goodIn_of _ (by decide +kernel)) ggL_law_X7_undo
set_option maxRecDepth 20000 in
theorem ggL_law_X6_has : GoodIn wsL_law wsX6_has := goodIn_r _ [288, 13, 87, 88, 2, 89, 90, 91, 92, 93, 28, 289, 290, 96, 291, 663, 664, 665, 666, 667, 668] (by decide +kernel) (by decide +kernel)
set_option maxRecDepth 20000 in
theorem gL_law_X6_has : GoodIn wsL_law (wsV RL 70 RX6 yX6_has wsX6_has) := goodIn_app (goodIn_of _ (by decide +kernel)) ggL_law_X6_has
set_option maxRecDepth 20000 in
theorem ggL_law_X7_has : GoodIn wsL_law wsX7_has := goodIn_r _ [295, 50, 121, 122, 5, 123, 72, 73, 74, 124, 125, 126, 127, 49, 180, 181, 182, 669, 670, 671, 672, 673, 674, 675, 676, 677] (by decide +kernel) (by decide +kernel)
set_option maxRecDepth 20000 in
theorem gL_law_X7_has : GoodIn wsL_law (wsV RL 73 RX7 yX7_has wsX7_has) := goodIn_app (goodIn_of _ (by decide +kernel)) ggL_law_X7_has
set_option maxRecDepth 20000 in
theorem ggL_law_X6_terms : GoodIn wsL_law wsX6_terms := goodIn_r _ [299, 13, 87, 88, 2, 89, 110, 111, 112, 113, 114, 115, 116, 663, 664, 665, 666, 667, 668] (by decide +kernel) (by decide +kernel)
set_option maxRecDepth 20000 in
theorem gL_law_X6_terms : GoodIn wsL_law (wsV RL 74 RX6 yX6_terms wsX6_terms) := goodIn_app (goodIn_of _ (by decide +kernel)) ggL_law_X6_terms
set_option maxRecDepth 20000 in
theorem ggL_law_X7_terms : GoodIn wsL_law wsX7_terms := goodIn_r _ [303, 50, 121, 122, 5, 123, 72, 73, 74, 136, 137, 138, 669, 670, 671, 672, 673, 674, 675, 676, 677] (by decide +kernel) (by decide +kernel)
set_option maxRecDepth 20000 in
theorem gL_law_X7_terms : GoodIn wsL_law (wsV RL 77 RX7 yX7_terms wsX7_terms) := goodIn_app (goodIn_of _ (by decide +kernel)) ggL_law_X7_terms
set_option maxRecDepth 20000 in
theorem ggL_law_X6_degree : GoodIn wsL_law wsX6_degree := goodIn_r _ [307, 13, 87, 88, 2, 89, 308, 309, 310, 311, 312, 111, 112, 113, 114, 115, 116, 313, 314, 315, 316, 317, 318, 319, 320, 321, 322, 290, 96, 291, 323, 324, 325, 326, 327, 328, 329, 663, 664, 665, 666, 667, 668] (by decide +kernel) (by decide +kernel)
set_option maxRecDepth 20000 in
theorem gL_law_X6_degree : GoodIn wsL_law (wsV RL 78 RX6 yX6_degree wsX6_degree) := goodIn_app (goodIn_of _ (by decide +kernel)) ggL_law_X6_degree
set_option maxRecDepth 20000 in
theorem ggL_law_X7_degree : GoodIn wsL_law wsX7_degree := goodIn_r _ [333, 49, 50, 121, 122, 5, 123, 72, 73, 74, 136, 137, 138, 180, 181, 182, 669, 670, 671, 672, 673, 674, 675, 676, 677] (by decide +kernel) (by decide +kernel)
set_option maxRecDepth 20000 in
theorem gL_law_X7_degree : GoodIn wsL_law (wsV RL 81 RX7 yX7_degree wsX7_degree) := goodIn_app (goodIn_of _ (by decide +kernel)) ggL_law_X7_degree
set_option maxRecDepth 20000 in
theorem ggL_law_X6_occurring : GoodIn wsL_law wsX6_occurring := goodIn_r _ [337, 28, 13, 87, 88, 2, 89, 202, 203, 96, 204, 168, 169, 170, 171, 663, 664, 665, 666, 667, 668] (by decide +kernel) (by decide +kernel)
set_option maxRecDepth 20000 in
theorem gL_law_X6_occurring : GoodIn wsL_law (wsV RL 82 RX6 yX6_occurring wsX6_occurring) := goodIn_app (goodIn_of _ (by decide +kernel)) ggL_law_X6_occurring
set_option maxRecDepth 20000 in
theorem ggL_law_X7_occurring : GoodIn wsL_law wsX7_occurring := goodIn_r _ [341, 50, 121, 122, 5, 123, 72, 73, 74, 342, 343, 344, 345, 49, 180, 181, 182, 669, 670, 671, 672, 673, 674, 675, 676, 677] (by decide +kernel) (by decide +kernel)
set_option maxRecDepth 20000 in
theorem gL_law_X7_occurring : GoodIn wsL_law (wsV RL 85 RX7 yX7_occurring wsX7_occurring) := goodIn_app (goodIn_of _ (by decide +kernel)) ggL_law_X7_occurring
set_option maxRecDepth 20000 in
theorem ggL_law_X6_size : GoodIn wsL_law wsX6_size := goodIn_r _ [349, 23, 13, 87, 88, 2, 89, 350, 351, 352, 22, 353, 38, 354, 355, 356, 357, 358, 37, 359, 360, 361, 362, 363, 364, 365, 366, 367, 368, 96, 369, 370, 203, 204, 168, 169, 170, 171, 371, 372, 373, 200, 201, 663, 664, 665, 666, 667, 668, 680, 681] (by decide +kernel) (by decide +kernel)
set_option maxRecDepth 20000 in
theorem gL_law_X6_size : GoodIn wsL_law (wsV RL 86 RX6 yX6_size wsX6_size) := goodIn_app (goodIn_of _ (by decide +kernel)) ggL_law_X6_size
set_option maxRecDepth 20000 in
theorem ggL_law_X7_size : GoodIn wsL_law wsX7_size := goodIn_r _ [377, 378, 50, 121, 122, 5, 123, 72, 73, 74, 379, 380, 381, 382, 53, 342, 343, 344, 345, 49, 180, 181, 182, 383, 384, 385, 386, 217, 218, 219, 220, 213, 214, 215, 216, 669, 670, 671, 672, 673, 674, 675, 676, 677] (by decide +kernel) (by decide +kernel)
set_option maxRecDepth 20000 in
theorem gL_law_X7_size : GoodIn wsL_law (wsV RL 89 RX7 yX7_size wsX7_size) := goodIn_app (goodIn_of _ (by decide +kernel)) ggL_law_X7_size
set_option maxRecDepth 20000 in
theorem ggL_law_X6_sharedSize : GoodIn wsL_law wsX6_sharedSize := goodIn_r _ [390, 23, 13, 350, 351, 352, 22, 353, 38, 354, 355, 356, 357, 358, 37, 359, 360, 361, 362, 363, 364, 365, 366, 367, 368, 96, 369, 370, 203, 204, 168, 169, 170, 171, 371, 372, 373, 200, 201, 663, 664, 665, 666, 667, 668, 680, 681] (by decide +kernel) (by decide +kernel)
set_option maxRecDepth 20000 in
theorem gL_law_X6_sharedSize : GoodIn wsL_law (wsV RL 90 RX6 yX6_sharedSize wsX6_sharedSize) := goodIn_app (goodIn_of _ (by decide +kernel)) ggL_law_X6_sharedSize
set_option maxRecDepth 20000 in
theorem ggL_law_X7_sharedSize : GoodIn wsL_law wsX7_sharedSize := goodIn_r _ [394, 378, 50, 379, 380, 381, 5, 382, 53, 342, 343, 344, 345, 49, 180, 181, 182, 383, 384, 385, 386, 217, 218, 219, 220, 213, 214, 215, 216, 669, 670, 671, 672, 673, 674, 675, 676, 677] (by decide +kernel) (by decide +kernel)
set_option maxRecDepth 20000 in
theorem gL_law_X7_sharedSize : GoodIn wsL_law (wsV RL 93 RX7 yX7_sharedSize wsX7_sharedSize) := goodIn_app (goodIn_of _ (by decide +kernel)) ggL_law_X7_sharedSize
set_option maxRecDepth 20000 in
theorem ggL_law_X6_termAt : GoodIn wsL_law wsX6_termAt := goodIn_r _ [398, 13, 87, 88, 2, 89, 399, 400, 401, 308, 309, 310, 311, 312, 111, 112, 113, 114, 115, 116, 313, 314, 315, 316, 317, 318, 319, 320, 321, 322, 290, 96, 291, 663, 664, 665, 666, 667, 668] (by decide +kernel) (by decide +kernel)
set_option maxRecDepth 20000 in
theorem gL_law_X6_termAt : GoodIn wsL_law (wsV RL 94 RX6 yX6_termAt wsX6_termAt) := goodIn_app (goodIn_of _ (by decide +kernel)) ggL_law_X6_termAt
set_option maxRecDepth 20000 in
theorem ggL_law_X7_termAt : GoodIn wsL_law wsX7_termAt := goodIn_r _ [405, 50, 121, 122, 5, 123, 72, 73, 74, 406, 407, 408, 409, 410, 411, 412, 49, 180, 181, 182, 413, 414, 415, 416, 136, 137, 138, 669, 670, 671, 672, 673, 674, 675, 676, 677] (by decide +kernel) (by decide +kernel)
set_option maxRecDepth 20000 in
theorem gL_law_X7_termAt : GoodIn wsL_law (wsV RL 97 RX7 yX7_termAt wsX7_termAt) := goodIn_app (goodIn_of _ (by decide +kernel)) ggL_law_X7_termAt
set_option maxRecDepth 20000 in
theorem ggL_law_X6_value : GoodIn wsL_law wsX6_value := goodIn_r _ [420, 13, 28, 87, 88, 2, 89, 90, 91, 92, 93, 241, 163, 96, 164, 165, 166, 167, 168, 169, 170, 171, 289, 290, 291, 663, 664, 665, 666, 667, 668] (by decide +kernel) (by decide +kernel)
set_option maxRecDepth 20000 in
theorem gL_law_X6_value : GoodIn wsL_law (wsV RL 98 RX6 yX6_value wsX6_value) := goodIn_app (goodIn_of _ (by decide +kernel)) ggL_law_X6_value
set_option maxRecDepth 20000 in
theorem ggL_law_X7_value : GoodIn wsL_law wsX7_value := goodIn_r _ [424, 50, 121, 122, 5, 123, 72, 73, 74, 124, 125, 126, 127, 49, 246, 247, 248, 249, 180, 181, 182, 669, 670, 671, 672, 673, 674, 675, 676, 677] (by decide +kernel) (by decide +kernel)
set_option maxRecDepth 20000 in
theorem gL_law_X7_value : GoodIn wsL_law (wsV RL 101 RX7 yX7_value wsX7_value) := goodIn_app (goodIn_of _ (by decide +kernel)) ggL_law_X7_value
set_option maxRecDepth 20000 in
theorem ggL_law_X6_isSame : GoodIn wsL_law wsX6_isSame := goodIn_r _ [428, 13, 87, 88, 2, 89, 663, 664, 665, 666, 667, 668] (by decide +kernel) (by decide +kernel)
set_option maxRecDepth 20000 in
theorem gL_law_X6_isSame : GoodIn wsL_law (wsV RL 102 RX6 yX6_isSame wsX6_isSame) := goodIn_app (goodIn_of _ (by decide +kernel)) ggL_law_X6_isSame
set_option maxRecDepth 20000 in
theorem ggL_law_X7_isSame : GoodIn wsL_law wsX7_isSame := goodIn_r _ [432, 50, 121, 122, 5, 123, 72, 73, 74, 669, 670, 671, 672, 673, 674, 675, 676, 677] (by decide +kernel) (by decide +kernel)
set_option maxRecDepth 20000 in
theorem gL_law_X7_isSame : GoodIn wsL_law (wsV RL 105 RX7 yX7_isSame wsX7_isSame) := goodIn_app (goodIn_of _ (by decide +kernel)) ggL_law_X7_isSame
set_option maxRecDepth 20000 in
theorem ggL_law_X6_reduce : GoodIn wsL_law wsX6_reduce := goodIn_r _ [436, 13, 15, 28, 87, 88, 2, 89, 437, 438, 439, 399, 400, 401, 440, 441, 442, 443, 308, 309, 310, 311, 312, 111, 112, 113, 114, 115, 116, 313, 314, 315, 316, 317, 318, 319, 320, 321, 322, 290, 96, 291, 444, 289, 445, 446, 447, 448, 449, 450, 451, 94, 95, 97, 159, 160, 161, 162, 163, 164, 165, 166, 167, 168, 169, 170, 171, 98, 99, 100, 101, 19, 102, 103, 104, 18, 105, 33, 32, 106, 107, 108, 109, 110, 663, 664, 665, 666, 667, 668, 678, 679] (by decide +kernel) (by decide +kernel)
set_option maxRecDepth 20000 in
theorem gL_law_X6_reduce : GoodIn wsL_law (wsV RL 106 RX6 yX6_reduce wsX6_reduce) := goodIn_app (goodIn_of _ (by decide +kernel)) ggL_law_X6_reduce
set_option maxRecDepth 20000 in
theorem ggL_law_X7_reduce : GoodIn wsL_law wsX7_reduce := goodIn_r _ [455, 54, 50, 456, 121, 122, 5, 123, 72, 73, 74, 457, 458, 459, 406, 407, 408, 409, 410, 411, 412, 49, 180, 181, 182, 413, 414, 415, 416, 136, 137, 138, 460, 461, 462, 463, 176, 177, 178, 179, 128, 129, 130, 131, 132, 133, 134, 135, 71, 51, 669, 670, 671, 672, 673, 674, 675, 676, 677] (by decide +kernel) (by decide +kernel)
set_option maxRecDepth 20000 in
theorem gL_law_X7_reduce : GoodIn wsL_law (wsV RL 109 RX7 yX7_reduce wsX7_reduce) := goodIn_app (goodIn_of _ (by decide +kernel)) ggL_law_X7_reduce
set_option maxRecDepth 20000 in
theorem ggL_law_X6_echelon : GoodIn wsL_law wsX6_echelon := goodIn_r _ [467, 19, 13, 437, 438, 2, 439, 399, 400, 401, 102, 103, 104, 18, 105, 33, 32, 106, 107, 108, 109, 468, 469, 470, 449, 450, 451, 444, 314, 310, 315, 316, 317, 318, 319, 320, 321, 471, 472, 473, 474, 87, 88, 89, 289, 290, 96, 291, 475, 476, 477, 478, 663, 664, 665, 666, 667, 668, 678, 679] (by decide +kernel) (by decide +kernel)
set_option maxRecDepth 20000 in
theorem gL_law_X6_echelon : GoodIn wsL_law (wsV RL 110 RX6 yX6_echelon wsX6_echelon) := goodIn_app (goodIn_of _ (by decide +kernel)) ggL_law_X6_echelon
set_option maxRecDepth 20000 in
theorem ggL_law_X7_echelon : GoodIn wsL_law wsX7_echelon := goodIn_r _ [482, 54, 50, 457, 458, 5, 459, 72, 73, 74, 406, 407, 408, 132, 133, 134, 135, 71, 51, 409, 410, 411, 412, 49, 180, 181, 182, 413, 414, 415, 416, 136, 137, 138, 669, 670, 671, 672, 673, 674, 675, 676, 677] (by decide +kernel) (by decide +kernel)
set_option maxRecDepth 20000 in
theorem gL_law_X7_echelon : GoodIn wsL_law (wsV RL 113 RX7 yX7_echelon wsX7_echelon) := goodIn_app (goodIn_of _ (by decide +kernel)) ggL_law_X7_echelon
set_option maxRecDepth 20000 in
theorem ggL_law_X6_zeros : GoodIn wsL_law wsX6_zeros := goodIn_r _ [486, 437, 438, 2, 439, 487, 488, 489, 490, 491, 492, 493, 494, 495, 28, 496, 497, 498, 499, 13, 449, 450, 451, 241, 163, 96, 164, 165, 166, 167, 168, 169, 170, 171, 110, 111, 112, 113, 114, 115, 116, 663, 664, 665, 666, 667, 668] (by decide +kernel) (by decide +kernel)
set_option maxRecDepth 20000 in
theorem gL_law_X6_zeros : GoodIn wsL_law (wsV RL 114 RX6 yX6_zeros wsX6_zeros) := goodIn_app (goodIn_of _ (by decide +kernel)) ggL_law_X6_zeros
set_option maxRecDepth 20000 in
theorem ggL_law_X7_zeros : GoodIn wsL_law wsX7_zeros := goodIn_r _ [503, 49, 457, 458, 5, 459, 72, 73, 74, 504, 505, 506, 507, 50, 246, 247, 248, 249, 180, 181, 182, 136, 137, 138, 669, 670, 671, 672, 673, 674, 675, 676, 677] (by decide +kernel) (by decide +kernel)
set_option maxRecDepth 20000 in
theorem gL_law_X7_zeros : GoodIn wsL_law (wsV RL 117 RX7 yX7_zeros wsX7_zeros) := goodIn_app (goodIn_of _ (by decide +kernel)) ggL_law_X7_zeros
set_option maxRecDepth 20000 in
theorem ggL_law_X6_zeroAt : GoodIn wsL_law wsX6_zeroAt := goodIn_r _ [511, 437, 438, 2, 439, 487, 488, 489, 490, 491, 492, 493, 494, 495, 28, 496, 497, 498, 499, 13, 449, 450, 451, 241, 163, 96, 164, 165, 166, 167, 168, 169, 170, 171, 289, 290, 291, 663, 664, 665, 666, 667, 668] (by decide +kernel) (by decide +kernel)
set_option maxRecDepth 20000 in
theorem gL_law_X6_zeroAt : GoodIn wsL_law (wsV RL 118 RX6 yX6_zeroAt wsX6_zeroAt) := goodIn_app (goodIn_of _ (by decide +kernel)) ggL_law_X6_zeroAt
set_option maxRecDepth 20000 in
theorem ggL_law_X7_zeroAt : GoodIn wsL_law wsX7_zeroAt := goodIn_r _ [515, 49, 457, 458, 5, 459, 72, 73, 74, 504, 505, 506, 507, 50, 246, 247, 248, 249, 180, 181, 182, 669, 670, 671, 672, 673, 674, 675, 676, 677] (by decide +kernel) (by decide +kernel)
set_option maxRecDepth 20000 in
theorem gL_law_X7_zeroAt : GoodIn wsL_law (wsV RL 121 RX7 yX7_zeroAt wsX7_zeroAt) := goodIn_app (goodIn_of _ (by decide +kernel)) ggL_law_X7_zeroAt
set_option maxRecDepth 20000 in
theorem ggL_law_X6_combine : GoodIn wsL_law wsX6_combine := goodIn_r _ [519, 28, 437, 438, 2, 439, 87, 88, 89, 496, 497, 498, 499, 13, 449, 450, 451, 241, 163, 96, 164, 165, 166, 167, 168, 169, 170, 171, 98, 99, 100, 101, 19, 102, 103, 104, 18, 105, 33, 32, 106, 107, 108, 109, 110, 111, 112, 113, 114, 115, 116, 663, 664, 665, 666, 667, 668, 678, 679] (by decide +kernel) (by decide +kernel)
set_option maxRecDepth 20000 in
theorem gL_law_X6_combine : GoodIn wsL_law (wsV RL 122 RX6 yX6_combine wsX6_combine) := goodIn_app (goodIn_of _ (by decide +kernel)) ggL_law_X6_combine
set_option maxRecDepth 20000 in
theorem ggL_law_X7_combine : GoodIn wsL_law wsX7_combine := goodIn_r _ [523, 457, 458, 5, 459, 72, 73, 74, 121, 122, 123, 504, 505, 506, 507, 50, 246, 247, 248, 249, 49, 180, 181, 182, 128, 129, 130, 131, 132, 133, 134, 135, 71, 51, 136, 137, 138, 669, 670, 671, 672, 673, 674, 675, 676, 677] (by decide +kernel) (by decide +kernel)
set_option maxRecDepth 20000 in
theorem gL_law_X7_combine : GoodIn wsL_law (wsV RL 125 RX7 yX7_combine wsX7_combine) := goodIn_app (goodIn_of _ (by decide +kernel)) ggL_law_X7_combine
set_option maxRecDepth 20000 in
theorem ggL_law_X6_eliminate : GoodIn wsL_law wsX6_eliminate := goodIn_r _ [527, 28, 437, 438, 2, 439, 195, 196, 197, 198, 87, 88, 89, 496, 497, 498, 499, 13, 449, 450, 451, 241, 163, 96, 164, 165, 166, 167, 168, 169, 170, 171, 199, 200, 201, 202, 203, 204, 528, 98, 99, 100, 101, 19, 102, 103, 104, 18, 105, 33, 32, 106, 107, 108, 109, 110, 111, 112, 113, 114, 115, 116, 663, 664, 665, 666, 667, 668, 678, 679] (by decide +kernel) (by decide +kernel)
set_option maxRecDepth 20000 in
theorem gL_law_X6_eliminate : GoodIn wsL_law (wsV RL 126 RX6 yX6_eliminate wsX6_eliminate) := goodIn_app (goodIn_of _ (by decide +kernel)) ggL_law_X6_eliminate
set_option maxRecDepth 20000 in
theorem ggL_law_X7_eliminate : GoodIn wsL_law wsX7_eliminate := goodIn_r _ [532, 49, 457, 458, 5, 459, 72, 73, 74, 209, 210, 211, 212, 121, 122, 123, 504, 505, 506, 507, 50, 246, 247, 248, 249, 180, 181, 182, 128, 129, 130, 131, 132, 133, 134, 135, 71, 51, 136, 137, 138, 669, 670, 671, 672, 673, 674, 675, 676, 677] (by decide +kernel) (by decide +kernel)
set_option maxRecDepth 20000 in
theorem gL_law_X7_eliminate : GoodIn wsL_law (wsV RL 129 RX7 yX7_eliminate wsX7_eliminate) := goodIn_app (goodIn_of _ (by decide +kernel)) ggL_law_X7_eliminate
set_option maxRecDepth 20000 in
theorem ggL_law_X6_fibres : GoodIn wsL_law wsX6_fibres := goodIn_r _ [536, 491, 437, 438, 2, 439, 195, 196, 197, 198, 28, 487, 488, 489, 490, 492, 493, 494, 495, 496, 497, 498, 499, 13, 449, 450, 451, 241, 163, 96, 164, 165, 166, 167, 168, 169, 170, 171, 199, 200, 201, 202, 203, 204, 110, 111, 112, 113, 114, 115, 116, 663, 664, 665, 666, 667, 668] (by decide +kernel) (by decide +kernel)
set_option maxRecDepth 20000 in
theorem gL_law_X6_fibres : GoodIn wsL_law (wsV RL 130 RX6 yX6_fibres wsX6_fibres) := goodIn_app (goodIn_of _ (by decide +kernel)) ggL_law_X6_fibres
set_option maxRecDepth 20000 in
theorem ggL_law_X7_fibres : GoodIn wsL_law wsX7_fibres := goodIn_r _ [540, 49, 457, 458, 5, 459, 72, 73, 74, 209, 210, 211, 212, 504, 505, 506, 507, 50, 246, 247, 248, 249, 180, 181, 182, 669, 670, 671, 672, 673, 674, 675, 676, 677] (by decide +kernel) (by decide +kernel)
set_option maxRecDepth 20000 in
theorem gL_law_X7_fibres : GoodIn wsL_law (wsV RL 133 RX7 yX7_fibres wsX7_fibres) := goodIn_app (goodIn_of _ (by decide +kernel)) ggL_law_X7_fibres
set_option maxRecDepth 20000 in
theorem ggL_law_X6_isMember : GoodIn wsL_law wsX6_isMember := goodIn_r _ [544, 13, 28, 87, 88, 2, 89, 437, 438, 439, 241, 163, 96, 164, 165, 166, 167, 168, 169, 170, 171, 487, 488, 489, 490, 491, 492, 493, 494, 495, 496, 497, 498, 499, 449, 450, 451, 663, 664, 665, 666, 667, 668] (by decide +kernel) (by decide +kernel)
set_option maxRecDepth 20000 in
theorem gL_law_X6_isMember : GoodIn wsL_law (wsV RL 134 RX6 yX6_isMember wsX6_isMember) := goodIn_app (goodIn_of _ (by decide +kernel)) ggL_law_X6_isMember
set_option maxRecDepth 20000 in
theorem ggL_law_X7_isMember : GoodIn wsL_law wsX7_isMember := goodIn_r _ [548, 50, 456, 121, 122, 5, 123, 72, 73, 74, 457, 458, 459, 246, 247, 248, 249, 49, 180, 181, 182, 504, 505, 506, 507, 669, 670, 671, 672, 673, 674, 675, 676, 677] (by decide +kernel) (by decide +kernel)
set_option maxRecDepth 20000 in
theorem gL_law_X7_isMember : GoodIn wsL_law (wsV RL 137 RX7 yX7_isMember wsX7_isMember) := goodIn_app (goodIn_of _ (by decide +kernel)) ggL_law_X7_isMember
set_option maxRecDepth 20000 in
theorem ggL_law_X6_isSameIdeal : GoodIn wsL_law wsX6_isSameIdeal := goodIn_r _ [552, 437, 438, 2, 439, 496, 497, 498, 499, 13, 28, 449, 450, 451, 241, 163, 96, 164, 165, 166, 167, 168, 169, 170, 171, 663, 664, 665, 666, 667, 668] (by decide +kernel) (by decide +kernel)
set_option maxRecDepth 20000 in
theorem gL_law_X6_isSameIdeal : GoodIn wsL_law (wsV RL 138 RX6 yX6_isSameIdeal wsX6_isSameIdeal) := goodIn_app (goodIn_of _ (by decide +kernel)) ggL_law_X6_isSameIdeal
set_option maxRecDepth 20000 in
theorem ggL_law_X7_isSameIdeal : GoodIn wsL_law wsX7_isSameIdeal := goodIn_r _ [556, 457, 458, 5, 459, 72, 73, 74, 504, 505, 506, 507, 50, 246, 247, 248, 249, 49, 180, 181, 182, 669, 670, 671, 672, 673, 674, 675, 676, 677] (by decide +kernel) (by decide +kernel)
set_option maxRecDepth 20000 in
theorem gL_law_X7_isSameIdeal : GoodIn wsL_law (wsV RL 141 RX7 yX7_isSameIdeal wsX7_isSameIdeal) := goodIn_app (goodIn_of _ (by decide +kernel)) ggL_law_X7_isSameIdeal
set_option maxRecDepth 20000 in
theorem ggL_law_X6_fixedVariables : GoodIn wsL_law wsX6_fixedVariables := goodIn_r _ [560, 28, 437, 438, 2, 439, 487, 488, 489, 490, 491, 492, 493, 494, 495, 496, 497, 498, 499, 13, 449, 450, 451, 241, 163, 96, 164, 165, 166, 167, 168, 169, 170, 171, 199, 200, 201, 202, 203, 204, 663, 664, 665, 666, 667, 668] (by decide +kernel) (by decide +kernel)
set_option maxRecDepth 20000 in
theorem gL_law_X6_fixedVariables : GoodIn wsL_law (wsV RL 142 RX6 yX6_fixedVariables wsX6_fixedVariables) := goodIn_app (goodIn_of _ (by decide +kernel)) ggL_law_X6_fixedVariables
set_option maxRecDepth 20000 in
theorem ggL_law_X7_fixedVariables : GoodIn wsL_law wsX7_fixedVariables := goodIn_r _ [564, 49, 457, 458, 5, 459, 72, 73, 74, 504, 505, 506, 507, 50, 246, 247, 248, 249, 180, 181, 182, 136, 137, 138, 669, 670, 671, 672, 673, 674, 675, 676, 677] (by decide +kernel) (by decide +kernel)
set_option maxRecDepth 20000 in
theorem gL_law_X7_fixedVariables : GoodIn wsL_law (wsV RL 145 RX7 yX7_fixedVariables wsX7_fixedVariables) := goodIn_app (goodIn_of _ (by decide +kernel)) ggL_law_X7_fixedVariables
set_option maxRecDepth 20000 in
theorem ggL_law_X6_type : GoodIn wsL_law wsX6_type := goodIn_r _ [568, 27, 569, 570, 571, 26, 572, 44, 43, 663, 664, 665, 666, 667, 668, 682, 683] (by decide +kernel) (by decide +kernel)
set_option maxRecDepth 20000 in
theorem gL_law_X6_type : GoodIn wsL_law (wsV RL 146 RX6 yX6_type wsX6_type) := goodIn_app (goodIn_of _ (by decide +kernel)) ggL_law_X6_type
set_option maxRecDepth 20000 in
theorem ggL_law_X7_type : GoodIn wsL_law wsX7_type := goodIn_r _ [576, 577, 52, 72, 73, 5, 74, 669, 670, 671, 672, 673, 674, 675, 676, 677] (by decide +kernel) (by decide +kernel)
set_option maxRecDepth 20000 in
theorem gL_law_X7_type : GoodIn wsL_law (wsV RL 149 RX7 yX7_type wsX7_type) := goodIn_app (goodIn_of _ (by decide +kernel)) ggL_law_X7_type
set_option maxRecDepth 20000 in
theorem ggL_law_X6_clearText : GoodIn wsL_law wsX6_clearText := goodIn_r _ [581, 27, 582, 583, 584, 26, 585, 44, 663, 664, 665, 666, 667, 668, 682, 683] (by decide +kernel) (by decide +kernel)
set_option maxRecDepth 20000 in
theorem gL_law_X6_clearText : GoodIn wsL_law (wsV RL 150 RX6 yX6_clearText wsX6_clearText) := goodIn_app (goodIn_of _ (by decide +kernel)) ggL_law_X6_clearText
set_option maxRecDepth 20000 in
theorem ggL_law_X7_clearText : GoodIn wsL_law wsX7_clearText := goodIn_r _ [589, 577, 669, 670, 671, 672, 673, 674, 675, 676, 677] (by decide +kernel) (by decide +kernel)
set_option maxRecDepth 20000 in
theorem gL_law_X7_clearText : GoodIn wsL_law (wsV RL 153 RX7 yX7_clearText wsX7_clearText) := goodIn_app (goodIn_of _ (by decide +kernel)) ggL_law_X7_clearText
set_option maxRecDepth 20000 in
theorem ggL_law_X6_fault : GoodIn wsL_law wsX6_fault := goodIn_r _ [593, 27, 28, 594, 595, 596, 26, 597, 44, 43, 598, 599, 600, 663, 664, 665, 666, 667, 668, 682, 683] (by decide +kernel) (by decide +kernel)
set_option maxRecDepth 20000 in
theorem gL_law_X6_fault : GoodIn wsL_law (wsV RL 154 RX6 yX6_fault wsX6_fault) := goodIn_app (goodIn_of _ (by decide +kernel)) ggL_law_X6_fault
set_option maxRecDepth 20000 in
theorem ggL_law_X7_fault : GoodIn wsL_law wsX7_fault := goodIn_r _ [604, 577, 52, 605, 606, 607, 5, 608, 49, 72, 73, 74, 669, 670, 671, 672, 673, 674, 675, 676, 677] (by decide +kernel) (by decide +kernel)
set_option maxRecDepth 20000 in
theorem gL_law_X7_fault : GoodIn wsL_law (wsV RL 157 RX7 yX7_fault wsX7_fault) := goodIn_app (goodIn_of _ (by decide +kernel)) ggL_law_X7_fault
set_option maxRecDepth 20000 in
theorem ggL_law_X6_read : GoodIn wsL_law wsX6_read := goodIn_r _ [612, 27, 28, 87, 88, 2, 89, 594, 595, 596, 26, 597, 44, 43, 598, 599, 600, 613, 614, 615, 616, 617, 95, 96, 97, 98, 99, 100, 101, 19, 13, 102, 103, 104, 18, 105, 33, 32, 106, 107, 108, 109, 110, 111, 112, 113, 114, 115, 116, 663, 664, 665, 666, 667, 668, 682, 683, 678, 679] (by decide +kernel) (by decide +kernel)
set_option maxRecDepth 20000 in
theorem gL_law_X6_read : GoodIn wsL_law (wsV RL 158 RX6 yX6_read wsX6_read) := goodIn_app (goodIn_of _ (by decide +kernel)) ggL_law_X6_read
set_option maxRecDepth 20000 in
theorem ggL_law_X7_read : GoodIn wsL_law wsX7_read := goodIn_r _ [621, 577, 52, 121, 122, 5, 123, 72, 73, 74, 622, 602, 603, 604, 605, 606, 607, 608, 49, 128, 129, 130, 131, 50, 132, 133, 134, 135, 71, 51, 136, 137, 138, 669, 670, 671, 672, 673, 674, 675, 676, 677] (by decide +kernel) (by decide +kernel)
set_option maxRecDepth 20000 in
theorem gL_law_X7_read : GoodIn wsL_law (wsV RL 161 RX7 yX7_read wsX7_read) := goodIn_app (goodIn_of _ (by decide +kernel)) ggL_law_X7_read
set_option maxRecDepth 20000 in
theorem ggL_law_X6_textLength : GoodIn wsL_law wsX6_textLength := goodIn_r _ [626, 13, 87, 88, 2, 89, 627, 628, 629, 630, 631, 290, 96, 291, 632, 633, 634, 635, 324, 325, 326, 327, 328, 329, 636, 111, 112, 113, 114, 115, 116, 663, 664, 665, 666, 667, 668] (by decide +kernel) (by decide +kernel)
set_option maxRecDepth 20000 in
theorem gL_law_X6_textLength : GoodIn wsL_law (wsV RL 162 RX6 yX6_textLength wsX6_textLength) := goodIn_app (goodIn_of _ (by decide +kernel)) ggL_law_X6_textLength
set_option maxRecDepth 20000 in
theorem ggL_law_X7_textLength : GoodIn wsL_law wsX7_textLength := goodIn_r _ [640, 50, 49, 121, 122, 5, 123, 72, 73, 74, 180, 181, 182, 641, 642, 643, 136, 137, 138, 669, 670, 671, 672, 673, 674, 675, 676, 677] (by decide +kernel) (by decide +kernel)
set_option maxRecDepth 20000 in
theorem gL_law_X7_textLength : GoodIn wsL_law (wsV RL 165 RX7 yX7_textLength wsX7_textLength) := goodIn_app (goodIn_of _ (by decide +kernel)) ggL_law_X7_textLength
set_option maxRecDepth 20000 in
theorem ggL_law_X6_textAt : GoodIn wsL_law wsX6_textAt := goodIn_r _ [647, 13, 87, 88, 2, 89, 648, 649, 629, 650, 651, 628, 630, 631, 290, 96, 291, 632, 633, 634, 635, 324, 325, 326, 327, 328, 329, 636, 111, 112, 113, 114, 115, 116, 652, 314, 310, 315, 316, 317, 318, 319, 320, 321, 653, 654, 655, 663, 664, 665, 666, 667, 668] (by decide +kernel) (by decide +kernel)
set_option maxRecDepth 20000 in
theorem gL_law_X6_textAt : GoodIn wsL_law (wsV RL 166 RX6 yX6_textAt wsX6_textAt) := goodIn_app (goodIn_of _ (by decide +kernel)) ggL_law_X6_textAt
set_option maxRecDepth 20000 in
theorem ggL_law_X7_textAt : GoodIn wsL_law wsX7_textAt := goodIn_r _ [659, 50, 121, 122, 5, 123, 72, 73, 74, 409, 410, 411, 412, 49, 180, 181, 182, 413, 414, 415, 416, 136, 137, 138, 641, 642, 643, 660, 661, 662, 669, 670, 671, 672, 673, 674, 675, 676, 677] (by decide +kernel) (by decide +kernel)
set_option maxRecDepth 20000 in
theorem gL_law_X7_textAt : GoodIn wsL_law (wsV RL 169 RX7 yX7_textAt wsX7_textAt) := goodIn_app (goodIn_of _ (by decide +kernel)) ggL_law_X7_textAt
end
