/-! fibres, fixed variables, occurring variables, exchange -/
theorem ff_in : ∀ n, n < 7 → ∀ k, k < n → ∀ i, i < 2 ^ n → i.testBit k = false → i + 2 ^ k < 2 ^ n := by decide +kernel
theorem fib_bits {n k : Nat} (hn : n ≤ 6) (hk : k < n) {t : Int64} {i : Nat} (hi : i < 64) : bB (dn k (cz n t)) i = (decide (i < 2 ^ n) && !i.testBit k && !bB t i) ∧ bB (up k (cz n t)) i = (decide (i < 2 ^ n) && !i.testBit k && !bB t (i ^^^ 2 ^ k)) ∧ bB (dn k (al n)) i = (decide (i < 2 ^ n) && !i.testBit k) := by
  have h64 := p2_le hn
  rw [dn_bit (by omega) _ hi, up_bit (by omega) _ hi, dn_bit (by omega) _ hi, cz_bit hn t hi, al_bit n (by omega) i hi]
  refine ⟨?_, ?_, rfl⟩
  · cases decide (i < 2 ^ n) <;> cases i.testBit k <;> cases bB t i <;> rfl
  · cases e : i.testBit k
    · rw [ff_xlo k (by omega) i hi e]
      rcases Nat.lt_or_ge i (2 ^ n) with c | c
      · have := ff_in n (by omega) k hk i c e
        rw [cz_bit hn t (by omega)]
        simp [c, this]
      · rw [cz_wf hn t _ (Nat.le_trans c (Nat.le_add_right _ _))]
        simp [show ¬ i < 2 ^ n by omega]
    · simp
theorem m_fibres {n kp ln : Nat} {v : XS} {w : YS} (h : Rl n kp ln v w) (x1 x2 x3 : Int32) : Same1 (fn_X6_fibres v x1 x2 x3) (fn_X7_fibres w x1 x2 x3) := by
  obtain ⟨⟨h1, h6⟩, hxn, hyn, hreg, hkp, hxk, hyk, hh, hln, hxl, hyl, htx⟩ := id h
  have h64 := p2_le h6
  rcases set_c x1 with ⟨a1, b1⟩ | ⟨j1, hj1, ej1, a1, b1⟩
  · rw [show fn_X6_fibres v x1 x2 x3 = some (-1) by unfold fn_X6_fibres; simp only [a1, bsm, i10, i00, if_true, if_false], show fn_X7_fibres w x1 x2 x3 = some (-1) by unfold fn_X7_fibres; simp only [b1, bsm, i10, i00, if_true, if_false]]
    exact Same1.of
  rcases var_c h1 h6 hxn hyn x2 with ⟨a2, b2⟩ | ⟨j2, hj2, ej2, a2, b2⟩
  · rw [show fn_X6_fibres v x1 x2 x3 = some (-1) by unfold fn_X6_fibres; simp only [a1, a2, bsm, i10, i00, if_true, if_false], show fn_X7_fibres w x1 x2 x3 = some (-1) by unfold fn_X7_fibres; simp only [b1, b2, bsm, i10, i00, if_true, if_false]]
    exact Same1.of
  rcases or_assoc.mpr (pk_ix x3 (n := 3) (by decide)) with c | ⟨j3, hj3, ej3⟩
  · have b3 : fn_X7_in x3 0 2 = some 0 := in_out (N := 3) (by decide) (by decide) c
    rw [show fn_X7_fibres w x1 x2 x3 = some (-1) by unfold fn_X7_fibres; simp only [b1, b2, b3, bsm, i10, i00, if_true, if_false]]
    have : fn_X6_fibres v x1 x2 x3 = some (-1) := by
      unfold fn_X6_fibres
      simp only [a1, a2, bsm, i10, if_false]
      rcases c with c | c
      · rw [if_pos c]
      · by_cases c0 : x3 < 0
        · rw [if_pos c0]
        · rw [if_neg c0, if_neg]
          intro z
          have := Int32.le_trans c z
          exact absurd this (by decide)
    rw [this]
    exact Same1.of
  · have b3 : fn_X7_in x3 0 2 = some 1 := by rw [ej3]; exact in_in (N := 3) hj3 (by decide)
    unfold fn_X6_fibres fn_X7_fibres
    simp only [a1, a2, b1, b2, b3, bsm, i10, if_false]
    subst ej1
    subst ej2
    subst ej3
    rw [if_neg (nI_pos (by omega)), if_pos (show nI j3 ≤ 2 from nI_le (b := 2) (by omega) (by decide))]
    obtain ⟨t, e1, e2, ht⟩ := cz_ok h hj1
    rw [e1, e2, bsm, bsm, lowerHalf_eq (by omega), upperHalf_eq (by omega), bsm, bsm, allPoints_eq h6 hxn, bsm, lowerHalf_eq (by omega), bsm]
    rw [show fn_X7_fibres_39 w FU (nI j2) (nI j3) t 0 0 = _ from fib_loop h6 hyn hj2 hj3 t (2 ^ n) FU 0 (by omega) (by unfold FU; omega)]
    rw [bitCount_eq, bitCount_eq, bitCount_eq, bsm, bsm, bsm]
    have key : ∀ X : Int64, (∀ i, i < 64 → bB X i = (decide (i < 2 ^ n) && fc t j2 j3 i)) → pc X = fb_ct (fc t j2 j3) (2 ^ n) := by
      intro X hX
      rw [← ct_cut h6]
      unfold pc
      exact fb_ct_cong hX
    rcases (show j3 = 0 ∨ j3 = 1 ∨ j3 = 2 by omega) with rfl | rfl | rfl
    · rw [if_neg (by decide), if_neg (by decide), key]
      · exact Same1.of
      · intro i hi
        obtain ⟨f1, f2, f3⟩ := fib_bits h6 hj2 (t := t) hi
        rw [bB_and, bB_not _ hi, bB_or, f1, f2, f3]
        unfold fc zt
        cases decide (i < 2 ^ n) <;> cases i.testBit j2 <;> cases bB t i <;> cases bB t (i ^^^ 2 ^ j2) <;> rfl
    · rw [if_neg (by decide), if_pos (show nI 1 = 1 from rfl), key]
      · exact Same1.of
      · intro i hi
        obtain ⟨f1, f2, f3⟩ := fib_bits h6 hj2 (t := t) hi
        rw [bB_xor, f1, f2]
        unfold fc zt
        cases decide (i < 2 ^ n) <;> cases i.testBit j2 <;> cases bB t i <;> cases bB t (i ^^^ 2 ^ j2) <;> rfl
    · rw [if_pos (show nI 2 = 2 from rfl), key]
      · exact Same1.of
      · intro i hi
        obtain ⟨f1, f2, f3⟩ := fib_bits h6 hj2 (t := t) hi
        rw [bB_and, f1, f2]
        unfold fc zt
        cases decide (i < 2 ^ n) <;> cases i.testBit j2 <;> cases bB t i <;> cases bB t (i ^^^ 2 ^ j2) <;> rfl
-- the union of masks
def oc (p : Nat → Bool) : Nat → Nat
  | 0 => 0
  | m + 1 => if p m then oc p m ||| m else oc p m
theorem oc_bit (p : Nat → Bool) (k : Nat) : ∀ M, (oc p M).testBit k = true ↔ ∃ m, m < M ∧ p m = true ∧ m.testBit k = true := by
  intro M
  induction M with
  | zero => simp [oc]
  | succ M ih =>
    rw [oc]
    cases e : p M
    · simp only [Bool.false_eq_true, if_false]
      rw [ih]
      constructor
      · rintro ⟨m, h1, h2⟩; exact ⟨m, by omega, h2⟩
      · rintro ⟨m, h1, h2, h3⟩
        refine ⟨m, ?_, h2, h3⟩
        rcases Nat.lt_or_ge m M with c | c
        · exact c
        · have : m = M := by omega
          rw [this, e] at h2
          cases h2
    · simp only [if_true]
      rw [Nat.testBit_or, Bool.or_eq_true, ih]
      constructor
      · rintro (⟨m, h1, h2⟩ | h)
        · exact ⟨m, by omega, h2⟩
        · exact ⟨M, by omega, e, h⟩
      · rintro ⟨m, h1, h2, h3⟩
        rcases Nat.lt_or_ge m M with c | c
        · exact Or.inl ⟨m, c, h2, h3⟩
        · have : m = M := by omega
          exact Or.inr (this ▸ h3)
theorem oc_lt {n : Nat} (p : Nat → Bool) : ∀ M, M ≤ 2 ^ n → oc p M < 2 ^ n := by
  intro M
  induction M with
  | zero => intro _; exact p2_pos n
  | succ M ih =>
    intro h
    rw [oc]
    split
    · exact Nat.or_lt_two_pow (ih (by omega)) (by omega)
    · exact ih (by omega)
theorem occurs_loop {w : YS} {n : Nat} (hn : n ≤ 6) (hw : y_n w = nI n) (q : Int64) : ∀ d f m, m + d = 2 ^ n → d < f → fn_X7_occurs_5 w f q (nI (oc (bB q) m)) (nI m) = some (nI (oc (bB q) (2 ^ n))) := by
  have h64 := p2_le hn
  intro d
  induction d with
  | zero =>
    intro f m h hf
    obtain ⟨f, rfl⟩ : ∃ g, f = g + 1 := ⟨f - 1, by omega⟩
    unfold fn_X7_occurs_5 fn_X7_occurs_5_body
    rw [hw, ish1 n (by omega), if_pos (nI_le (by omega) (by omega)), show m = 2 ^ n by omega]
  | succ d ih =>
    intro f m h hf
    obtain ⟨f, rfl⟩ : ∃ g, f = g + 1 := ⟨f - 1, by omega⟩
    have hih := ih f (m + 1) (by omega) (by omega)
    unfold fn_X7_occurs_5 fn_X7_occurs_5_body fn_X7_occurs_32
    rw [hw, ish1 n (by omega), if_neg (nI_ge (by omega) (by omega)), has1_eq q (by omega), bsm, nI_1, nx_or]
    rw [oc] at hih
    cases e : bB q m
    · rw [e] at hih
      simp only [Bool.false_eq_true, if_false, if_true] at hih ⊢
      rw [show nI (oc (bB q) m) ||| 0 = nI (oc (bB q) m) by rw [show (0 : Int32) = nI 0 from rfl, nx_or, Nat.or_zero]]
      exact hih
    · rw [e] at hih
      simp only [if_true, i10, if_false] at hih ⊢
      exact hih
theorem occurs_eq {w : YS} {n : Nat} (hn : n ≤ 6) (hw : y_n w = nI n) (q : Int64) : fn_X7_occurs w q = some (nI (oc (bB q) (2 ^ n))) := by
  unfold fn_X7_occurs
  exact occurs_loop hn hw q (2 ^ n) FU 0 (by omega) (by have := p2_le hn; unfold FU; omega)
theorem ff_mod : ∀ O, O < 64 → ∀ k, k < 6 → (O.testBit k = false → O % 2 ^ (k + 1) = O % 2 ^ k) ∧ (O.testBit k = true → (O % 2 ^ k) ||| 2 ^ k = O % 2 ^ (k + 1)) := by decide +kernel
theorem up_zero {n k : Nat} (hn : n ≤ 6) (hk : k < n) {q : Int64} (hq : wf n q) : up k q = 0 ↔ (oc (bB q) (2 ^ n)).testBit k = false := by
  have h64 := p2_le hn
  constructor
  · intro h
    cases e : (oc (bB q) (2 ^ n)).testBit k
    · rfl
    · obtain ⟨m, h1, h2, h3⟩ := (oc_bit _ _ _).mp e
      have hge := ff_ge k (by omega) m (by omega) h3
      have := up_bit (k := k) (by omega) q (i := m - 2 ^ k) (Nat.lt_of_le_of_lt (Nat.sub_le _ _) (by omega))
      rw [h, bB_0, Nat.sub_add_cancel hge, h2, ff_own k (by omega) m (by omega) h3] at this
      cases this
  · intro h
    apply bB_ext
    intro i hi
    rw [bB_0, up_bit (by omega) q hi]
    cases e : i.testBit k
    · cases e2 : bB q (i + 2 ^ k)
      · rfl
      · exfalso
        have hlt : i + 2 ^ k < 2 ^ n := by
          rcases Nat.lt_or_ge (i + 2 ^ k) (2 ^ n) with c | c
          · exact c
          · rw [hq _ c] at e2; cases e2
        have : (oc (bB q) (2 ^ n)).testBit k = true := (oc_bit _ _ _).mpr ⟨i + 2 ^ k, hlt, e2, by rw [ff_add k (by omega) i hi, e]; rfl⟩
        rw [h] at this
        cases this
    · simp
theorem occurring_loop {v : XS} {n r : Nat} (hn : n ≤ 6) (hv : x_n v = nI n) (hr : r < 8) (hq : wf n (x_regs v r)) : ∀ d k f, k + d = n → d < f → fn_X6_occurring_13 v f (nI r) (nI (oc (bB (x_regs v r)) (2 ^ n) % 2 ^ k)) (nI k) = some (nI (oc (bB (x_regs v r)) (2 ^ n))) := by
  have h64 := p2_le hn
  have hlt := oc_lt (n := n) (bB (x_regs v r)) (2 ^ n) (Nat.le_refl _)
  intro d
  induction d with
  | zero =>
    intro k f h hf
    obtain ⟨f, rfl⟩ : ∃ g, f = g + 1 := ⟨f - 1, by omega⟩
    have : k = n := by omega
    subst this
    unfold fn_X6_occurring_13 fn_X6_occurring_13_body
    rw [hv, if_pos (nI_le (Nat.le_refl _) (by omega)), Nat.mod_eq_of_lt hlt]
  | succ d ih =>
    intro k f h hf
    obtain ⟨f, rfl⟩ : ∃ g, f = g + 1 := ⟨f - 1, by omega⟩
    have hih := ih (k + 1) f (by omega) (by omega)
    unfold fn_X6_occurring_13 fn_X6_occurring_13_body
    rw [hv, if_neg (nI_ge (by omega) (by omega)), rd_eq _ hr (by decide), bsm, upperHalf_eq (by omega), bsm, nI_1, ish1 k (by omega), nx_or]
    have hm := ff_mod _ (Nat.lt_of_lt_of_le hlt h64) k (by omega)
    by_cases c : up k (x_regs v r) = 0
    · rw [if_pos c, ← hm.1 ((up_zero hn (by omega) hq).mp c)]
      exact hih
    · rw [if_neg c, hm.2 (by
        cases e : (oc (bB (x_regs v r)) (2 ^ n)).testBit k
        · exact absurd ((up_zero hn (by omega) hq).mpr e) c
        · rfl)]
      exact hih
theorem m_occurring {n kp ln : Nat} {v : XS} {w : YS} (h : Rl n kp ln v w) (x1 : Int32) : Same1 (fn_X6_occurring v x1) (fn_X7_occurring w x1) := by
  obtain ⟨⟨h1, h6⟩, hxn, hyn, hreg, hkp, hxk, hyk, hh, hln, hxl, hyl, htx⟩ := id h
  unfold fn_X6_occurring fn_X7_occurring
  rcases reg_c x1 with ⟨a1, b1⟩ | ⟨j1, hj1, ej1, a1, b1⟩
  · simp only [a1, b1, bsm, i00, if_true]
    exact Same1.of
  · simp only [a1, b1, bsm, i10, if_false]
    subst ej1
    rw [rd_eq (y_p w) hj1 (by decide), bsm, ← (hreg j1 hj1).1, occurs_eq h6 hyn, bsm]
    have := occurring_loop h6 hxn hj1 (hreg j1 hj1).2 n 0 FU (by omega) (by unfold FU; omega)
    rw [show oc (bB (x_regs v j1)) (2 ^ n) % 2 ^ 0 = 0 by rw [Nat.pow_zero]; exact Nat.mod_one _] at this
    rw [show fn_X6_occurring_13 v FU (nI j1) 0 0 = _ from this]
    exact Same1.of
