/-! the text as a polynomial -/
/-- the state behind a character: 0 a term is wanted, 1 to 6 a letter, 7 a digit, 8 it may not stand there -/
def sN (n s c : Nat) : Nat := match fn_X5_seenAfter (nI s + (-1)) (nI c) (nI n) with
  | some x => (x + 1).toNatClampNeg
  | none => 9
set_option maxRecDepth 100000 in
theorem sN_ok : ∀ n, n < 7 → ∀ s, s < 8 → ∀ c, c < 127 → sN n s c < 9 ∧ fn_X5_seenAfter (nI s + (-1)) (nI c) (nI n) = some (nI (sN n s c) + (-1)) ∧ fn_X7_behind (yN n) (nI s + (-1)) (nI c) = some (if sN n s c = 8 then -2 else nI (sN n s c) + (-1)) := by decide +kernel
def sQ (n s c : Nat) : Bool := decide (sN n s c = 8) || ((!decide (c = 43) || decide (sN n s c = 0)) && (!decide (c = 49) || decide (s = 0)) && (decide (c = 43) || !decide (sN n s c = 0)) && (decide (c = 43) || decide (c = 48) || decide (c = 49) || (decide (97 ≤ c) && decide (c < 97 + n))))
set_option maxRecDepth 100000 in
theorem sQ_ok : ∀ n, n < 7 → ∀ s, s < 8 → ∀ c, c < 127 → sQ n s c = true := by decide +kernel
theorem sQ_use {n s c : Nat} (hn : n < 7) (hs : s < 8) (hc : c < 127) (h : sN n s c ≠ 8) : (c = 43 → sN n s c = 0) ∧ (c = 49 → s = 0) ∧ (c ≠ 43 → sN n s c ≠ 0) ∧ (c ≠ 43 → c ≠ 48 → c ≠ 49 → 97 ≤ c ∧ c < 97 + n) := by
  have := sQ_ok n hn s hs c hc
  unfold sQ at this
  rw [decide_eq_false h] at this
  simp only [Bool.false_or, Bool.and_eq_true, Bool.or_eq_true, Bool.not_eq_true', decide_eq_false_iff_not, decide_eq_true_eq] at this
  obtain ⟨⟨⟨h1, h2⟩, h3⟩, h4⟩ := this
  refine ⟨fun z => ?_, fun z => ?_, fun z => ?_, fun a b c => ?_⟩
  · rcases h1 with h | h
    · exact absurd z h
    · exact h
  · rcases h2 with h | h
    · exact absurd z h
    · exact h
  · rcases h3 with h | h
    · exact absurd h z
    · exact h
  · rcases h4 with ((h | h) | h) | h
    · exact absurd h a
    · exact absurd h b
    · exact absurd h c
    · exact h
theorem behind_v {w : YS} {n : Nat} (hw : y_n w = nI n) (a b : Int32) : fn_X7_behind w a b = fn_X7_behind (yN n) a b := by
  unfold fn_X7_behind fn_X7_behind_41 fn_X7_behind_59
  rw [hw]
  rfl
theorem m1_eq : ∀ t, t < 9 → (nI t + (-1) = 7 ↔ t = 8) ∧ (nI t + (-1) = -1 ↔ t = 0) ∧ (0 ≤ nI t + (-1) ↔ t ≠ 0) ∧ ¬ nI t + (-1) = -2 := by decide +kernel
/-- the text from i on, with the state s, is of the form -/
def Ok (n : Nat) (cs : Nat → Nat) : Nat → Nat → Nat → Prop
  | 0, _, s => s ≠ 0
  | d + 1, i, s => sN n s (cs i) ≠ 8 ∧ Ok n cs d (i + 1) (sN n s (cs i))
theorem fault_loop {v : XS} {w : YS} {n ln : Nat} (hn : n ≤ 6) (hw : y_n w = nI n) (hxl : x_len v = nI ln) (hyl : y_typed w = nI ln) (hln : ln ≤ 60) (cs : Nat → Nat) (hc : ∀ j, j < ln → x_text v j = nI (cs j) ∧ y_text w j = nI (cs j) ∧ cs j < 127) : ∀ d i f s, i + d = ln → d < f → s < 8 → ∃ r, fn_X5_firstFault_4 v f (nI n) (nI s + (-1)) (nI i) = some r ∧ fn_X7_fault_4 w f (nI s + (-1)) (nI i) = some r ∧ (r = -4 → Ok n cs d i s) := by
  intro d
  induction d with
  | zero =>
    intro i f s h hf hs
    obtain ⟨f, rfl⟩ : ∃ g, f = g + 1 := ⟨f - 1, by omega⟩
    obtain ⟨-, m2, m3, -⟩ := m1_eq s (by omega)
    unfold fn_X5_firstFault_4 fn_X5_firstFault_4_body fn_X7_fault_4 fn_X7_fault_4_body fn_X5_firstFault_44
    rw [hxl, hyl, if_pos (nI_le (by omega) (by omega)), if_pos (nI_le (by omega) (by omega))]
    by_cases c : s = 0
    · rw [if_pos (m2.mpr c), if_neg (fun z => (m3.mp z) c)]
      refine ⟨_, rfl, rfl, fun z => ?_⟩
      exfalso
      have : nI ln < 0 := by rw [z]; decide
      exact nI_pos (by omega) this
    · rw [if_neg (fun z => c (m2.mp z)), if_pos (m3.mpr c)]
      exact ⟨_, rfl, rfl, fun _ => c⟩
  | succ d ih =>
    intro i f s h hf hs
    obtain ⟨f, rfl⟩ : ∃ g, f = g + 1 := ⟨f - 1, by omega⟩
    obtain ⟨c1, c2, c3⟩ := hc i (by omega)
    obtain ⟨t1, t2, t3⟩ := sN_ok n (by omega) s hs (cs i) c3
    obtain ⟨m1, -, -, m4⟩ := m1_eq (sN n s (cs i)) t1
    rw [fn_X5_firstFault_4, fn_X7_fault_4]
    unfold fn_X5_firstFault_4_body fn_X7_fault_4_body
    rw [hxl, hyl, if_neg (nI_ge (by omega) (by omega)), if_neg (nI_ge (by omega) (by omega)), if_neg (show ¬ (60 : Int32) ≤ nI i from nI_ge (b := 60) (by omega) (by omega)), rd_eq (x_text v) (show i < 60 by omega) (by decide), rd_eq (y_text w) (show i < 60 by omega) (by decide), bsm, bsm, c1, c2, t2, behind_v hw, t3, bsm, bsm, nI_1]
    by_cases c : sN n s (cs i) = 8
    · rw [if_pos (m1.mpr c), if_pos c, if_pos rfl]
      refine ⟨_, rfl, rfl, fun z => ?_⟩
      exfalso
      have : nI i < 0 := by rw [z]; decide
      exact nI_pos (by omega) this
    · rw [if_neg (fun z => c (m1.mp z)), if_neg c, if_neg m4]
      obtain ⟨r, e1, e2, e3⟩ := ih (i + 1) f (sN n s (cs i)) (by omega) (by omega) (by omega)
      exact ⟨r, e1, e2, fun z => ⟨c, e3 z⟩⟩
theorem Rl.cs {n kp ln : Nat} {v : XS} {w : YS} (h : Rl n kp ln v w) : ∃ cs : Nat → Nat, ∀ j, j < ln → x_text v j = nI (cs j) ∧ y_text w j = nI (cs j) ∧ cs j < 127 := by
  obtain ⟨⟨h1, h6⟩, hxn, hyn, hreg, hkp, hxk, hyk, hh, hln, hxl, hyl, htx⟩ := h
  refine ⟨fun j => (x_text v j).toNatClampNeg, fun j hj => ?_⟩
  obtain ⟨e, c, hc1, hc2, ec⟩ := htx j hj
  have : (x_text v j).toNatClampNeg = c := by rw [ec, nI_clamp (by omega)]
  show x_text v j = nI (x_text v j).toNatClampNeg ∧ y_text w j = nI (x_text v j).toNatClampNeg ∧ (x_text v j).toNatClampNeg < 127
  rw [this, ← e]
  exact ⟨ec, ec, by omega⟩
theorem fault_ok {n kp ln : Nat} {v : XS} {w : YS} (h : Rl n kp ln v w) : ∃ r cs, (∀ j, j < ln → x_text v j = nI (cs j) ∧ y_text w j = nI (cs j) ∧ cs j < 127) ∧ fn_X5_firstFault v (x_n v) = some r ∧ fn_X7_fault w = some r ∧ (r = -4 → Ok n cs ln 0 0) := by
  obtain ⟨cs, hcs⟩ := h.cs
  obtain ⟨⟨h1, h6⟩, hxn, hyn, hreg, hkp, hxk, hyk, hh, hln, hxl, hyl, htx⟩ := h
  obtain ⟨r, e1, e2, e3⟩ := fault_loop h6 hyn hxl hyl hln cs hcs ln 0 FU 0 (by omega) (by unfold FU; omega) (by decide)
  refine ⟨r, cs, hcs, ?_, ?_, e3⟩
  · unfold fn_X5_firstFault
    rw [hxn]
    exact e1
  · unfold fn_X7_fault
    exact e2
theorem m_fault {n kp ln : Nat} {v : XS} {w : YS} (h : Rl n kp ln v w) : Same1 (fn_X6_fault v) (fn_X7_fault w) := by
  obtain ⟨r, cs, -, e1, e2, -⟩ := fault_ok h
  unfold fn_X6_fault
  rw [e1, e2, bsm]
  exact Same1.of
theorem read_loop {v : XS} {w : YS} {n ln t : Nat} (hn : n ≤ 6) (hxl : x_len v = nI ln) (hyl : y_typed w = nI ln) (hln : ln ≤ 60) (cs : Nat → Nat) (hc : ∀ j, j < ln → x_text v j = nI (cs j) ∧ y_text w j = nI (cs j) ∧ cs j < 127) : ∀ d i f s (acc : Int64) (mo : Nat) (z : Int32), i + d = ln → d + 2 < f → s < 8 → Ok n cs d i s → wf n acc → mo < 2 ^ n → (s = 0 → mo = 0 ∧ z = 0) → ∃ q, fn_X5_polynomial_10 v f acc (nI mo) z (nI i) = some q ∧ fn_X7_read_32 f w (nI t) acc (nI mo) z (nI i) = ((fn_X7_gets w (nI t) q).bind fun x => some (x.1, x.2)) ∧ wf n q := by
  have h64 := p2_le hn
  have z0 : ∀ a : Int64, a ^^^ 0 = a := fun a => by apply bB_ext; intro i _; rw [bB_xor, bB_0, Bool.xor_false]
  intro d
  induction d with
  | zero =>
    intro i f s acc mo z h hf hs hok hacc hmo hz
    obtain ⟨f, rfl⟩ : ∃ g, f = g + 1 + 1 := ⟨f - 2, by omega⟩
    have e : i = ln := by omega
    subst e
    rw [fn_X5_polynomial_10, fn_X7_read_32]
    unfold fn_X5_polynomial_10_body fn_X5_polynomial_102 fn_X7_read_32_body fn_X7_read_62 fn_X7_read_85
    rw [hxl, hyl, if_pos (nI_le (Nat.le_refl _) (by omega)), if_neg (nI_nlt (Nat.le_refl _) (by omega)), if_pos (nI_le (Nat.le_refl _) (by omega)), show fn_X3_ofMonomial (nI mo) = some (lsh 1 (nI mo)) from rfl, bsm, nI_1]
    have fin : ∀ q, fn_X7_read_32 (f + 1) w (nI t) q 0 0 (nI (i + 1)) = ((fn_X7_gets w (nI t) q).bind fun x => some (x.1, x.2)) := by
      intro q
      rw [fn_X7_read_32]
      unfold fn_X7_read_32_body
      rw [hyl, if_pos (nI_lt (by omega) (by omega))]
    rw [fin, fin]
    simp only [if_true]
    by_cases c : z = 0
    · rw [if_pos c, if_pos c]
      exact ⟨_, rfl, rfl, wf_xor hacc (wf_e hn hmo)⟩
    · rw [if_neg c, if_neg c]
      exact ⟨_, rfl, rfl, by rw [z0]; exact hacc⟩
  | succ d ih =>
    intro i f s acc mo z h hf hs hok hacc hmo hz
    obtain ⟨f, rfl⟩ : ∃ g, f = g + 1 := ⟨f - 1, by omega⟩
    obtain ⟨c1, c2, c3⟩ := hc i (by omega)
    obtain ⟨ok1, ok2⟩ := hok
    obtain ⟨t1, -, -⟩ := sN_ok n (by omega) s hs (cs i) c3
    obtain ⟨u1, u2, u3, u4⟩ := sQ_use (by omega) hs c3 ok1
    have ht8 : sN n s (cs i) < 8 := by omega
    rw [fn_X5_polynomial_10, fn_X7_read_32]
    unfold fn_X5_polynomial_10_body fn_X5_polynomial_56 fn_X7_read_32_body fn_X7_read_62 fn_X7_read_85
    rw [hxl, hyl, if_neg (nI_ge (by omega) (by omega)), if_neg (show ¬ (60 : Int32) ≤ nI i from nI_ge (b := 60) (by omega) (by omega)), if_neg (nI_nlt (by omega) (by omega)), if_neg (nI_ge (by omega) (by omega)), rd_eq (x_text v) (show i < 60 by omega) (by decide), rd_eq (y_text w) (show i < 60 by omega) (by decide), bsm, bsm, c1, c2, show fn_X3_ofMonomial (nI mo) = some (lsh 1 (nI mo)) from rfl, bsm, nI_1]
    by_cases k43 : cs i = 43
    · rw [k43, if_pos (show nI 43 = 43 from rfl), if_pos (show nI 43 = 43 from rfl)]
      have ht := u1 k43
      rw [ht] at ok2
      have go := fun a ha => ih (i + 1) f 0 a 0 0 (by omega) (by omega) (by decide) ok2 ha (p2_pos n) (fun _ => ⟨rfl, rfl⟩)
      by_cases c : z = 0
      · rw [if_pos c, if_pos c]
        exact go _ (wf_xor hacc (wf_e hn hmo))
      · rw [if_neg c, if_neg c]
        exact go _ (by rw [z0]; exact hacc)
    · have n43 : ¬ nI (cs i) = 43 := fun e => k43 ((nI_eq (b := 43) (by omega) (by decide)).mp e)
      rw [if_neg n43, if_neg n43]
      have ht := u3 k43
      by_cases k48 : cs i = 48
      · rw [k48, if_pos (show nI 48 = 48 from rfl), if_pos (by decide), if_pos (show nI 48 = 48 from rfl)]
        exact ih (i + 1) f _ acc mo 1 (by omega) (by omega) ht8 ok2 hacc hmo (fun e => absurd e ht)
      · have n48 : ¬ nI (cs i) = 48 := fun e => k48 ((nI_eq (b := 48) (by omega) (by decide)).mp e)
        rw [if_neg n48, if_neg n48]
        by_cases k49 : cs i = 49
        · rw [k49, if_pos (show nI 49 = 49 from rfl), if_pos (by decide)]
          rw [(hz (u2 k49)).2]
          exact ih (i + 1) f _ acc mo 0 (by omega) (by omega) ht8 ok2 hacc hmo (fun e => absurd e ht)
        · have n49 : ¬ nI (cs i) = 49 := fun e => k49 ((nI_eq (b := 49) (by omega) (by decide)).mp e)
          obtain ⟨l1, l2⟩ := u4 k43 k48 k49
          rw [if_neg n49, if_neg (show ¬ nI (cs i) < 97 from nI_nlt (b := 97) l1 (by omega)), show nI (cs i) - 97 = nI (cs i - 97) from pk_sub (b := 97) l1, ish1 _ (by omega), nx_or]
          exact ih (i + 1) f _ acc (mo ||| 2 ^ (cs i - 97)) z (by omega) (by omega) ht8 ok2 hacc (Nat.or_lt_two_pow hmo (Nat.pow_lt_pow_right (by decide) (by omega))) (fun e => absurd e ht)
theorem m_read {n kp ln : Nat} {v : XS} {w : YS} (h : Rl n kp ln v w) (x1 : Int32) : Same2 (fn_X6_read v x1) (fn_X7_read w x1) := by
  have hrel : Rel v w := ⟨n, kp, ln, h⟩
  obtain ⟨r, cs, hcs, e1, e2, e3⟩ := fault_ok h
  obtain ⟨⟨h1, h6⟩, hxn, hyn, hreg, hkp, hxk, hyk, hh, hln, hxl, hyl, htx⟩ := id h
  unfold fn_X6_read fn_X7_read
  rcases reg_c x1 with ⟨a1, b1⟩ | ⟨j1, hj1, ej1, a1, b1⟩
  · simp only [a1, b1, bsm, i00, if_true]
    exact Same2.of hrel
  simp only [a1, b1, bsm, i10, if_false]
  rw [e1, e2, bsm, bsm]
  subst ej1
  by_cases c : r = -4
  · rw [if_pos c, if_pos c]
    obtain ⟨q, q1, q2, q3⟩ := read_loop (t := j1) h6 hxl hyl hln cs hcs ln 0 FU 0 0 0 0 (by omega) (by unfold FU; omega) (by decide) (e3 c) (wf_0 n) (p2_pos n) (fun _ => ⟨rfl, rfl⟩)
    unfold fn_X5_polynomial
    rw [show fn_X5_polynomial_10 v FU 0 0 0 0 = _ from q1, show fn_X7_read_32 FU w (nI j1) 0 0 0 0 = _ from q2, bsm]
    exact put_same h hj1 rfl q3
  · rw [if_neg c, if_neg c]
    exact Same2.of hrel
