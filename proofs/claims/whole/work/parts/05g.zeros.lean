/-! common zeros, elimination, fibres, ideals -/
theorem isIn_eq {S r : Nat} (hS : S < 256) (hr : r < 8) : fn_X6_isIn (nI S) (nI r) = some (if S.testBit r then 1 else 0) := by
  unfold fn_X6_isIn
  rw [isr_set S hS r hr]
  cases S.testBit r
  · rfl
  · rfl
theorem nz_loop {n kp ln : Nat} {v : XS} {w : YS} (h : Rl n kp ln v w) {S : Nat} (hS : S < 256) : ∀ d r f t, r + d = 8 → d < f → wf n t → ∃ t', fn_X6_nonZeros_5 v f (nI S) t (nI r) = some t' ∧ fn_X7_barred_5 w f (nI S) t (nI r) = some t' ∧ wf n t' := by
  obtain ⟨⟨h1, h6⟩, hxn, hyn, hreg, -⟩ := id h
  intro d
  induction d with
  | zero =>
    intro r f t hd hf ht
    obtain ⟨f, rfl⟩ : ∃ g, f = g + 1 := ⟨f - 1, by omega⟩
    unfold fn_X6_nonZeros_5 fn_X6_nonZeros_5_body fn_X7_barred_5 fn_X7_barred_5_body
    rw [if_pos (show (8 : Int32) ≤ nI r from nI_le (a := 8) (by omega) (by omega)), if_pos (show (8 : Int32) ≤ nI r from nI_le (a := 8) (by omega) (by omega))]
    exact ⟨t, rfl, rfl, ht⟩
  | succ d ih =>
    intro r f t hd hf ht
    obtain ⟨f, rfl⟩ : ∃ g, f = g + 1 := ⟨f - 1, by omega⟩
    unfold fn_X6_nonZeros_5 fn_X6_nonZeros_5_body fn_X7_barred_5 fn_X7_barred_5_body fn_X7_barred_38
    have hn8 : ¬ (8 : Int32) ≤ nI r := nI_ge (b := 8) (by omega) (by omega)
    rw [if_neg hn8, if_neg hn8, isIn_eq hS (by omega), isr_set S hS r (by omega), nI_1]
    rw [bsm]
    cases e : S.testBit r
    · simp only [Bool.false_eq_true, if_false, if_true]
      rw [if_neg (show ¬ (0 : Int32) = 1 by decide)]
      rw [show t ||| 0 = t by apply bB_ext; intro i _; rw [bB_or, bB_0, Bool.or_false]]
      exact ih (r + 1) f t (by omega) (by omega) ht
    · simp only [if_true, i10, if_false]
      have hr8 : r < 8 := by omega
      rw [rd_eq (x_regs v) hr8 (by decide), rd_eq (y_p w) hr8 (by decide)]
      rw [bsm, bsm, ← (hreg r hr8).1, hxn, transformed_eq h6, values_eq h6 hyn (hreg r hr8).2, bsm, bsm]
      exact ih (r + 1) f _ (by omega) (by omega) (wf_or ht (tr_wf h6 (hreg r hr8).2 n (Nat.le_refl _)))
theorem nz_ok {n kp ln : Nat} {v : XS} {w : YS} (h : Rl n kp ln v w) {S : Nat} (hS : S < 256) : ∃ t, fn_X6_nonZeros v (nI S) = some t ∧ fn_X7_barred w (nI S) = some t ∧ wf n t := by
  unfold fn_X6_nonZeros fn_X7_barred
  exact nz_loop h hS 8 0 FU 0 (by omega) (by unfold FU; omega) (wf_0 n)
def al (n : Nat) : Int64 := if n < 6 then lsh 1 (nI (2 ^ n)) - 1 else -1
theorem al_bit : ∀ n, n < 7 → ∀ i, i < 64 → bB (al n) i = decide (i < 2 ^ n) := by decide +kernel
theorem al_wf {n : Nat} (hn : n ≤ 6) : wf n (al n) := fun i hi => by
  rcases Nat.lt_or_ge i 64 with c | c
  · rw [al_bit n (by omega) i c]
    simp
    omega
  · exact bB_big c
theorem allPoints_eq {v : XS} {n : Nat} (hn : n ≤ 6) (hv : x_n v = nI n) : fn_X6_allPoints v = some (al n) := by
  unfold fn_X6_allPoints al
  rw [hv, ish1 n (by omega)]
  rcases Nat.lt_or_ge n 6 with c | c
  · rw [if_pos c, if_pos (show nI n < 6 from nI_lt (b := 6) c (by decide))]
  · rw [if_neg (show ¬ nI n < 6 from nI_nlt (b := 6) c (by omega)), if_neg (show ¬ n < 6 by omega)]
def cz (n : Nat) (t : Int64) : Int64 := al n &&& (t ^^^ (-1))
theorem cz_bit {n : Nat} (hn : n ≤ 6) (t : Int64) {i : Nat} (hi : i < 64) : bB (cz n t) i = (decide (i < 2 ^ n) && !bB t i) := by
  unfold cz
  rw [bB_and, al_bit n (by omega) i hi, bB_not t hi]
theorem cz_wf {n : Nat} (hn : n ≤ 6) (t : Int64) : wf n (cz n t) := wf_and (al_wf hn)
theorem cz_ok {n kp ln : Nat} {v : XS} {w : YS} (h : Rl n kp ln v w) {S : Nat} (hS : S < 256) : ∃ t, fn_X6_commonZeros v (nI S) = some (cz n t) ∧ fn_X7_barred w (nI S) = some t ∧ wf n t := by
  obtain ⟨t, e1, e2, e3⟩ := nz_ok h hS
  refine ⟨t, ?_, e2, e3⟩
  unfold fn_X6_commonZeros
  rw [allPoints_eq h.1.2 h.2.1, bsm, e1, bsm]
  rfl
theorem ct_below : ∀ n, n < 7 → fb_ct (fun i => decide (i < 2 ^ n)) 64 = 2 ^ n := by decide +kernel
theorem pc_cz {n : Nat} (hn : n ≤ 6) {t : Int64} (ht : wf n t) : pc (cz n t) + pc t = 2 ^ n := by
  rw [← ct_below n (by omega)]
  unfold pc
  rw [← fb_ct_or (p := bB (cz n t)) (q := bB t)]
  · apply fb_ct_cong
    intro i hi
    rw [cz_bit hn t hi]
    rcases Nat.lt_or_ge i (2 ^ n) with c | c
    · simp [c]
    · rw [ht i c]
      simp [show ¬ i < 2 ^ n by omega]
  · intro i hi
    rw [cz_bit hn t hi]
    rintro ⟨a, b⟩
    rw [b] at a
    simp at a
/-- counting below 2^n -/
theorem ct_cut {n : Nat} (hn : n ≤ 6) (p : Nat → Bool) : fb_ct (fun i => decide (i < 2 ^ n) && p i) 64 = fb_ct p (2 ^ n) := by
  have h64 := p2_le hn
  have hz : fb_ct (fun k => decide (2 ^ n + k < 2 ^ n) && p (2 ^ n + k)) (64 - 2 ^ n) = 0 := fb_ct_zero.mpr (fun i hi => by rw [show decide (2 ^ n + i < 2 ^ n) = false from decide_eq_false (by omega)]; rfl)
  rw [show (64 : Nat) = 2 ^ n + (64 - 2 ^ n) by omega, fb_ct_split, hz, Nat.add_zero]
  apply fb_ct_cong
  intro i hi
  simp [hi]
theorem m_zeros {n kp ln : Nat} {v : XS} {w : YS} (h : Rl n kp ln v w) (x1 : Int32) : Same1 (fn_X6_zeros v x1) (fn_X7_zeros w x1) := by
  have hrel : Rel v w := ⟨n, kp, ln, h⟩
  obtain ⟨⟨h1, h6⟩, hxn, hyn, hreg, hkp, hxk, hyk, hh, hln, hxl, hyl, htx⟩ := id h
  have h64 := p2_le h6
  rcases set_c x1 with ⟨a1, b1⟩ | ⟨j1, hj1, ej1, a1, b1⟩
  · rw [show fn_X6_zeros v x1 = some (-1) by unfold fn_X6_zeros; simp only [a1, bsm, i10, i00, if_true, if_false], show fn_X7_zeros w x1 = some (-1) by unfold fn_X7_zeros; simp only [b1, bsm, i10, i00, if_true, if_false]]
    exact Same1.of
  unfold fn_X6_zeros fn_X7_zeros
  simp only [a1, b1, bsm, i10, if_false]
  subst ej1
  obtain ⟨t, e1, e2, ht⟩ := cz_ok h hj1
  rw [e1, e2, bsm, bsm, bitCount_eq, many_eq, bsm, bsm]
  rw [hyn, ish1 n (by omega)]
  have := pc_cz h6 ht
  rw [pk_sub (by omega), show 2 ^ n - pc t = pc (cz n t) by omega]
  exact Same1.of
theorem zeroAt_hi {v : XS} {n : Nat} (hn : n ≤ 6) (t : Int64) (l : Nat) : ∀ d p f, 2 ^ n ≤ p → p + d = 64 → d < f → fn_X6_zeroAt_25 v f (cz n t) (nI l) (nI p) = some (-4) := by
  intro d
  induction d with
  | zero =>
    intro p f hp h hf
    obtain ⟨f, rfl⟩ : ∃ g, f = g + 1 := ⟨f - 1, by omega⟩
    unfold fn_X6_zeroAt_25 fn_X6_zeroAt_25_body
    rw [if_pos (show (64 : Int32) ≤ nI p from nI_le (a := 64) (by omega) (by omega))]
  | succ d ih =>
    intro p f hp h hf
    obtain ⟨f, rfl⟩ : ∃ g, f = g + 1 := ⟨f - 1, by omega⟩
    unfold fn_X6_zeroAt_25 fn_X6_zeroAt_25_body
    rw [if_neg (show ¬ (64 : Int32) ≤ nI p from nI_ge (b := 64) (by omega) (by omega)), bit_eq _ (by omega), cz_wf hn t p hp, bsm, if_neg (by decide), nI_1]
    exact ih (p + 1) f (by omega) (by omega) (by omega)
theorem zeroAt_lo {v : XS} {w : YS} {n : Nat} (hn : n ≤ 6) (hw : y_n w = nI n) (t : Int64) : ∀ d p l f, p + d = 2 ^ n → 100 + d < f → l < 2 ^ 31 → Same1 (fn_X6_zeroAt_25 v f (cz n t) (nI l) (nI p)) (fn_X7_zeroAt_25 w f t (nI l) (nI p)) := by
  have h64 := p2_le hn
  intro d
  induction d with
  | zero =>
    intro p l f h hf hl
    rw [zeroAt_hi hn t l (64 - p) p f (by omega) (by omega) (by omega)]
    obtain ⟨f, rfl⟩ : ∃ g, f = g + 1 := ⟨f - 1, by omega⟩
    unfold fn_X7_zeroAt_25 fn_X7_zeroAt_25_body
    rw [hw, ish1 n (by omega), if_pos (nI_le (by omega) (by omega))]
    exact Same1.of
  | succ d ih =>
    intro p l f h hf hl
    obtain ⟨f, rfl⟩ : ∃ g, f = g + 1 := ⟨f - 1, by omega⟩
    unfold fn_X6_zeroAt_25 fn_X6_zeroAt_25_body fn_X7_zeroAt_25 fn_X7_zeroAt_25_body
    rw [hw, ish1 n (by omega), if_neg (show ¬ (64 : Int32) ≤ nI p from nI_ge (b := 64) (by omega) (by omega)), if_neg (nI_ge (by omega) (by omega)), bit_eq _ (by omega), has1_eq _ (by omega), cz_bit hn t (by omega), bsm, bsm, nI_1]
    have hp : decide (p < 2 ^ n) = true := decide_eq_true (by omega)
    rw [hp]
    cases e : bB t p
    · simp only [Bool.not_false, Bool.and_self, if_true, Bool.false_eq_true, if_false]
      rcases Nat.eq_zero_or_pos l with c | c
      · subst c
        rw [if_pos (show nI 0 = 0 from rfl)]
        exact Same1.of
      · obtain ⟨l, rfl⟩ : ∃ m, l = m + 1 := ⟨l - 1, by omega⟩
        rw [if_neg (nI_ne0 c hl), if_neg (nI_ne0 c hl), pk_m1]
        exact ih (p + 1) l f (by omega) (by omega) (by omega)
    · simp only [Bool.not_true, Bool.and_false, Bool.false_eq_true, if_false, if_true]
      rw [if_neg (show ¬ (0 : Int32) = 1 by decide), if_neg (show ¬ (1 : Int32) = 0 by decide)]
      exact ih (p + 1) l f (by omega) (by omega) hl
theorem m_zeroAt {n kp ln : Nat} {v : XS} {w : YS} (h : Rl n kp ln v w) (x1 x2 : Int32) : Same1 (fn_X6_zeroAt v x1 x2) (fn_X7_zeroAt w x1 x2) := by
  have hrel : Rel v w := ⟨n, kp, ln, h⟩
  obtain ⟨⟨h1, h6⟩, hxn, hyn, hreg, hkp, hxk, hyk, hh, hln, hxl, hyl, htx⟩ := id h
  have h64 := p2_le h6
  rcases set_c x1 with ⟨a1, b1⟩ | ⟨j1, hj1, ej1, a1, b1⟩
  · rw [show fn_X6_zeroAt v x1 x2 = some (-1) by unfold fn_X6_zeroAt; simp only [a1, bsm, i10, i00, if_true, if_false], show fn_X7_zeroAt w x1 x2 = some (-1) by unfold fn_X7_zeroAt; simp only [b1, bsm, i10, i00, if_true, if_false]]
    exact Same1.of
  by_cases c2 : 0 ≤ x2
  case neg =>
    rw [show fn_X6_zeroAt v x1 x2 = some (-1) by unfold fn_X6_zeroAt; simp only [a1, if_neg c2, bsm, i10, i00, if_true, if_false], show fn_X7_zeroAt w x1 x2 = some (-1) by unfold fn_X7_zeroAt; simp only [b1, if_neg c2, bsm, i10, i00, if_true, if_false]]
    exact Same1.of
  unfold fn_X6_zeroAt fn_X7_zeroAt
  simp only [a1, b1, if_pos c2, bsm, i10, if_false]
  subst ej1
  obtain ⟨t, e1, e2, ht⟩ := cz_ok h hj1
  rw [e1, e2, bsm, bsm]
  obtain ⟨l, hl, rfl⟩ := nI_of (x := x2) (fun z => absurd c2 (Int32.not_le.mpr z))
  exact zeroAt_lo h6 hyn t (2 ^ n) 0 l FU (by omega) (by unfold FU; omega) hl
theorem m_combine {n kp ln : Nat} {v : XS} {w : YS} (h : Rl n kp ln v w) (x1 x2 : Int32) : Same2 (fn_X6_combine v x1 x2) (fn_X7_combine w x1 x2) := by
  have hrel : Rel v w := ⟨n, kp, ln, h⟩
  obtain ⟨⟨h1, h6⟩, hxn, hyn, hreg, hkp, hxk, hyk, hh, hln, hxl, hyl, htx⟩ := id h
  have h64 := p2_le h6
  rcases set_c x1 with ⟨a1, b1⟩ | ⟨j1, hj1, ej1, a1, b1⟩
  · rw [show fn_X6_combine v x1 x2 = some (-1, v) by unfold fn_X6_combine; simp only [a1, bsm, i10, i00, if_true, if_false], show fn_X7_combine w x1 x2 = some (-1, w) by unfold fn_X7_combine; simp only [b1, bsm, i10, i00, if_true, if_false]]
    exact Same2.of hrel
  rcases reg_c x2 with ⟨a2, b2⟩ | ⟨j2, hj2, ej2, a2, b2⟩
  · rw [show fn_X6_combine v x1 x2 = some (-1, v) by unfold fn_X6_combine; simp only [a1, a2, bsm, i10, i00, if_true, if_false], show fn_X7_combine w x1 x2 = some (-1, w) by unfold fn_X7_combine; simp only [b1, b2, bsm, i10, i00, if_true, if_false]]
    exact Same2.of hrel
  unfold fn_X6_combine fn_X7_combine
  simp only [a1, a2, b1, b2, bsm, i10, if_false]
  subst ej1
  subst ej2
  obtain ⟨t, e1, e2, ht⟩ := nz_ok h hj1
  rw [e1, e2, bsm, bsm, hxn, transformed_eq h6, values_eq h6 hyn ht, bsm, bsm]
  exact put_same h hj2 rfl (tr_wf h6 ht n (Nat.le_refl _))
theorem m_isMember {n kp ln : Nat} {v : XS} {w : YS} (h : Rl n kp ln v w) (x1 x2 : Int32) : Same1 (fn_X6_isMember v x1 x2) (fn_X7_isMember w x1 x2) := by
  have hrel : Rel v w := ⟨n, kp, ln, h⟩
  obtain ⟨⟨h1, h6⟩, hxn, hyn, hreg, hkp, hxk, hyk, hh, hln, hxl, hyl, htx⟩ := id h
  have h64 := p2_le h6
  rcases reg_c x1 with ⟨a1, b1⟩ | ⟨j1, hj1, ej1, a1, b1⟩
  · rw [show fn_X6_isMember v x1 x2 = some (-1) by unfold fn_X6_isMember; simp only [a1, bsm, i10, i00, if_true, if_false], show fn_X7_isMember w x1 x2 = some (-1) by unfold fn_X7_isMember; simp only [b1, bsm, i10, i00, if_true, if_false]]
    exact Same1.of
  rcases set_c x2 with ⟨a2, b2⟩ | ⟨j2, hj2, ej2, a2, b2⟩
  · rw [show fn_X6_isMember v x1 x2 = some (-1) by unfold fn_X6_isMember; simp only [a1, a2, bsm, i10, i00, if_true, if_false], show fn_X7_isMember w x1 x2 = some (-1) by unfold fn_X7_isMember; simp only [b1, b2, bsm, i10, i00, if_true, if_false]]
    exact Same1.of
  unfold fn_X6_isMember fn_X7_isMember
  simp only [a1, a2, b1, b2, bsm, i10, if_false]
  subst ej1
  subst ej2
  obtain ⟨t, e1, e2, ht⟩ := cz_ok h hj2
  rw [rd_eq (x_regs v) hj1 (by decide), rd_eq (y_p w) hj1 (by decide), bsm, bsm, ← (hreg j1 hj1).1, hxn, transformed_eq h6, values_eq h6 hyn (hreg j1 hj1).2, bsm, bsm, e1, e2, bsm, bsm]
  have ht2 := tr_wf h6 (hreg j1 hj1).2 n (Nat.le_refl _)
  have e : (tr n (x_regs v j1) &&& cz n t) = (tr n (x_regs v j1) &&& (t ^^^ (-1))) := by
    apply bB_ext
    intro i hi
    rw [bB_and, bB_and, cz_bit h6 t hi, bB_not t hi]
    rcases Nat.lt_or_ge i (2 ^ n) with c | c
    · simp [c]
    · rw [ht2 i c]; rfl
  rw [e]
  by_cases c : (tr n (x_regs v j1) &&& (t ^^^ (-1))) = 0
  · rw [if_pos c]; exact Same1.of
  · rw [if_neg c]; exact Same1.of
theorem m_isSameIdeal {n kp ln : Nat} {v : XS} {w : YS} (h : Rl n kp ln v w) (x1 x2 : Int32) : Same1 (fn_X6_isSameIdeal v x1 x2) (fn_X7_isSameIdeal w x1 x2) := by
  have hrel : Rel v w := ⟨n, kp, ln, h⟩
  obtain ⟨⟨h1, h6⟩, hxn, hyn, hreg, hkp, hxk, hyk, hh, hln, hxl, hyl, htx⟩ := id h
  have h64 := p2_le h6
  rcases set_c x1 with ⟨a1, b1⟩ | ⟨j1, hj1, ej1, a1, b1⟩
  · rw [show fn_X6_isSameIdeal v x1 x2 = some (-1) by unfold fn_X6_isSameIdeal; simp only [a1, bsm, i10, i00, if_true, if_false], show fn_X7_isSameIdeal w x1 x2 = some (-1) by unfold fn_X7_isSameIdeal; simp only [b1, bsm, i10, i00, if_true, if_false]]
    exact Same1.of
  rcases set_c x2 with ⟨a2, b2⟩ | ⟨j2, hj2, ej2, a2, b2⟩
  · rw [show fn_X6_isSameIdeal v x1 x2 = some (-1) by unfold fn_X6_isSameIdeal; simp only [a1, a2, bsm, i10, i00, if_true, if_false], show fn_X7_isSameIdeal w x1 x2 = some (-1) by unfold fn_X7_isSameIdeal; simp only [b1, b2, bsm, i10, i00, if_true, if_false]]
    exact Same1.of
  unfold fn_X6_isSameIdeal fn_X7_isSameIdeal
  simp only [a1, a2, b1, b2, bsm, i10, if_false]
  subst ej1
  subst ej2
  obtain ⟨t, e1, e2, ht⟩ := nz_ok h hj1
  obtain ⟨t', e3, e4, ht'⟩ := nz_ok h hj2
  rw [e1, e2, bsm, bsm, e3, e4]
  simp only [bsm]
  by_cases c : t = t'
  · rw [if_pos c]; exact Same1.of
  · rw [if_neg c]; exact Same1.of
-- elimination
theorem ff_xlo : ∀ k, k < 6 → ∀ i, i < 64 → i.testBit k = false → i ^^^ 2 ^ k = i + 2 ^ k := by decide +kernel
theorem ff_xhi : ∀ k, k < 6 → ∀ i, i < 64 → i.testBit k = true → i ^^^ 2 ^ k = i - 2 ^ k := by decide +kernel
theorem ff_x64 : ∀ k, k < 6 → ∀ i, i < 64 → i ^^^ 2 ^ k < 64 := by decide +kernel
theorem elim_loop {w : YS} {n k r : Nat} (hn : n ≤ 6) (hw : y_n w = nI n) (hk : k < n) (t : Int64) : ∀ d f m b, m + d = 2 ^ n → d < f → ∃ b', (∀ i, i < 64 → bB b' i = (bB b i || (decide (m ≤ i) && decide (i < 2 ^ n) && bB t i && bB t (i ^^^ 2 ^ k)))) ∧ fn_X7_eliminate_37 f w (nI k) (nI r) t b (nI m) = ((fn_X7_values w b').bind fun q => (fn_X7_gets w (nI r) q).bind fun q => some (q.1, q.2)) := by
  have h64 := p2_le hn
  intro d
  induction d with
  | zero =>
    intro f m b h hf
    obtain ⟨f, rfl⟩ : ∃ g, f = g + 1 := ⟨f - 1, by omega⟩
    refine ⟨b, fun i hi => ?_, ?_⟩
    · by_cases c : m ≤ i
      · simp [show ¬ i < 2 ^ n by omega]
      · simp [c]
    · unfold fn_X7_eliminate_37 fn_X7_eliminate_37_body
      rw [hw, ish1 n (by omega), if_pos (nI_le (by omega) (by omega))]
  | succ d ih =>
    intro f m b h hf
    obtain ⟨f, rfl⟩ : ∃ g, f = g + 1 := ⟨f - 1, by omega⟩
    unfold fn_X7_eliminate_37 fn_X7_eliminate_37_body fn_X7_eliminate_81 fn_X7_eliminate_82
    rw [hw, ish1 n (by omega), if_neg (nI_ge (by omega) (by omega)), has1_eq t (by omega), ish1 k (by omega), nx_xor, has1_eq t (ff_x64 k (by omega) m (by omega)), bsm, bsm, nI_1]
    have key : ∀ b1, (∀ i, i < 64 → bB b1 i = (bB b i || (decide (i = m) && bB t m && bB t (m ^^^ 2 ^ k)))) → ∃ b', (∀ i, i < 64 → bB b' i = (bB b i || (decide (m ≤ i) && decide (i < 2 ^ n) && bB t i && bB t (i ^^^ 2 ^ k)))) ∧ fn_X7_eliminate_37 f w (nI k) (nI r) t b1 (nI (m + 1)) = ((fn_X7_values w b').bind fun q => (fn_X7_gets w (nI r) q).bind fun q => some (q.1, q.2)) := by
      intro b1 hb1
      obtain ⟨b', h1, h2⟩ := ih f (m + 1) b1 (by omega) (by omega)
      refine ⟨b', fun i hi => ?_, h2⟩
      rw [h1 i hi, hb1 i hi]
      by_cases c : i = m
      · subst c
        simp [show ¬ i + 1 ≤ i by omega, show i < 2 ^ n by omega]
      · by_cases c2 : m ≤ i
        · simp [c, c2, show m + 1 ≤ i by omega]
        · simp [c, c2, show ¬ m + 1 ≤ i by omega]
    cases e : bB t m
    · simp only [Bool.false_eq_true, if_false, if_true]
      exact key _ (fun i hi => by rw [bB_or, bB_0, e]; simp)
    · simp only [if_true, i10, if_false]
      cases e2 : bB t (m ^^^ 2 ^ k)
      · simp only [Bool.false_eq_true, if_false, if_true]
        exact key _ (fun i hi => by rw [bB_or, bB_0, e2]; simp)
      · simp only [if_true, i10, if_false]
        exact key _ (fun i hi => by rw [bB_or, bB_e (by omega) hi, e, e2]; simp)
theorem m_eliminate {n kp ln : Nat} {v : XS} {w : YS} (h : Rl n kp ln v w) (x1 x2 x3 : Int32) : Same2 (fn_X6_eliminate v x1 x2 x3) (fn_X7_eliminate w x1 x2 x3) := by
  have hrel : Rel v w := ⟨n, kp, ln, h⟩
  obtain ⟨⟨h1, h6⟩, hxn, hyn, hreg, hkp, hxk, hyk, hh, hln, hxl, hyl, htx⟩ := id h
  have h64 := p2_le h6
  rcases set_c x1 with ⟨a1, b1⟩ | ⟨j1, hj1, ej1, a1, b1⟩
  · rw [show fn_X6_eliminate v x1 x2 x3 = some (-1, v) by unfold fn_X6_eliminate; simp only [a1, bsm, i10, i00, if_true, if_false], show fn_X7_eliminate w x1 x2 x3 = some (-1, w) by unfold fn_X7_eliminate; simp only [b1, bsm, i10, i00, if_true, if_false]]
    exact Same2.of hrel
  rcases var_c h1 h6 hxn hyn x2 with ⟨a2, b2⟩ | ⟨j2, hj2, ej2, a2, b2⟩
  · rw [show fn_X6_eliminate v x1 x2 x3 = some (-1, v) by unfold fn_X6_eliminate; simp only [a1, a2, bsm, i10, i00, if_true, if_false], show fn_X7_eliminate w x1 x2 x3 = some (-1, w) by unfold fn_X7_eliminate; simp only [b1, b2, bsm, i10, i00, if_true, if_false]]
    exact Same2.of hrel
  rcases reg_c x3 with ⟨a3, b3⟩ | ⟨j3, hj3, ej3, a3, b3⟩
  · rw [show fn_X6_eliminate v x1 x2 x3 = some (-1, v) by unfold fn_X6_eliminate; simp only [a1, a2, a3, bsm, i10, i00, if_true, if_false], show fn_X7_eliminate w x1 x2 x3 = some (-1, w) by unfold fn_X7_eliminate; simp only [b1, b2, b3, bsm, i10, i00, if_true, if_false]]
    exact Same2.of hrel
  unfold fn_X6_eliminate fn_X7_eliminate
  simp only [a1, a2, a3, b1, b2, b3, bsm, i10, if_false]
  subst ej1
  subst ej2
  subst ej3
  obtain ⟨t, e1, e2, ht⟩ := nz_ok h hj1
  rw [e1, e2, bsm, bsm, lowerHalf_eq (by omega), upperHalf_eq (by omega), bsm, bsm, raised_eq (by omega), bsm, hxn, transformed_eq h6, bsm]
  obtain ⟨b', hb1, hb2⟩ := elim_loop (r := j3) h6 hyn hj2 t (2 ^ n) FU 0 0 (by omega) (by unfold FU; omega)
  rw [show fn_X7_eliminate_37 FU w (nI j2) (nI j3) t 0 0 = _ from hb2]
  have e : b' = ((dn j2 t &&& up j2 t) ||| rz j2 (dn j2 t &&& up j2 t)) := by
    apply bB_ext
    intro i hi
    have k6 : j2 < 6 := by omega
    have li := Nat.lt_of_le_of_lt (Nat.sub_le i (2 ^ j2)) hi
    rw [hb1 i hi, bB_0, bB_or, rz_bit k6 _ hi, bB_and, bB_and, dn_bit k6 t hi, up_bit k6 t hi, dn_bit k6 t li, up_bit k6 t li]
    cases ek : i.testBit j2
    · rw [ff_xlo j2 k6 i hi ek]
      rcases Nat.lt_or_ge i (2 ^ n) with c | c
      · simp [c]
      · rw [ht i c]; simp
    · have hge := ff_ge j2 k6 i hi ek
      rw [ff_xhi j2 k6 i hi ek, ff_own j2 k6 i hi ek, Nat.sub_add_cancel hge]
      rcases Nat.lt_or_ge i (2 ^ n) with c | c
      · simp [c, Bool.and_comm]
      · rw [ht i c]; simp
  have hwf : wf n b' := by
    rw [e]
    refine wf_or (wf_and (dn_wf ht)) (fun i hi => ?_)
    rcases Nat.lt_or_ge i 64 with c | c
    · rw [rz_bit (by omega) _ c]
      cases ek : i.testBit j2
      · rfl
      · rw [wf_and (dn_wf ht) _ (ff_top n (by omega) j2 hj2 i c hi ek)]
        rfl
    · exact bB_big c
  rw [values_eq h6 hyn hwf, bsm, ← e]
  exact put_same h hj3 rfl (tr_wf h6 hwf n (Nat.le_refl _))
-- fibres
def zt (t : Int64) (i : Nat) : Nat := if bB t i then 0 else 1
def fc (t : Int64) (k wt i : Nat) : Bool := !i.testBit k && decide (zt t i + zt t (i ^^^ 2 ^ k) = wt)
theorem fib_loop {w : YS} {n k wt : Nat} (hn : n ≤ 6) (hw : y_n w = nI n) (hk : k < n) (hwt : wt < 3) (t : Int64) : ∀ d f m, m + d = 2 ^ n → d < f → fn_X7_fibres_39 w f (nI k) (nI wt) t (nI (fb_ct (fc t k wt) m)) (nI m) = some (nI (fb_ct (fc t k wt) (2 ^ n))) := by
  have h64 := p2_le hn
  intro d
  induction d with
  | zero =>
    intro f m h hf
    obtain ⟨f, rfl⟩ : ∃ g, f = g + 1 := ⟨f - 1, by omega⟩
    unfold fn_X7_fibres_39 fn_X7_fibres_39_body
    rw [hw, ish1 n (by omega), if_pos (nI_le (by omega) (by omega)), show m = 2 ^ n by omega]
  | succ d ih =>
    intro f m h hf
    obtain ⟨f, rfl⟩ : ∃ g, f = g + 1 := ⟨f - 1, by omega⟩
    have hih := ih f (m + 1) (by omega) (by omega)
    rw [fb_ct_succ] at hih
    unfold fn_X7_fibres_39 fn_X7_fibres_39_body fn_X7_fibres_65 fn_X7_fibres_84 fn_X7_fibres_108 fn_X7_fibres_109
    rw [hw, ish1 n (by omega), if_neg (nI_ge (by omega) (by omega)), has1_eq t (by omega), ish1 k (by omega), nx_xor, has1_eq t (ff_x64 k (by omega) m (by omega)), isr_bit m (by omega) k (by omega)]
    simp only [bsm]
    have e0 : nI (fb_ct (fc t k wt) m) + 0 = nI (fb_ct (fc t k wt) m) := nI_add _ 0
    have e1 : nI (fb_ct (fc t k wt) m) + 1 = nI (fb_ct (fc t k wt) m + 1) := nI_1 _
    rw [e0, e1, nI_1 m]
    unfold fc zt at hih ⊢
    have c0 : ((1 : Int32) + 1 = nI wt) ↔ 2 = wt := nI_eq (a := 2) (by decide) (by omega)
    have c1 : ((1 : Int32) + 0 = nI wt) ↔ 1 = wt := nI_eq (a := 1) (by decide) (by omega)
    have c2 : ((0 : Int32) + 1 = nI wt) ↔ 1 = wt := nI_eq (a := 1) (by decide) (by omega)
    have c3 : ((0 : Int32) + 0 = nI wt) ↔ 0 = wt := nI_eq (a := 0) (by decide) (by omega)
    cases ek : m.testBit k <;> cases et : bB t m <;> cases ex : bB t (m ^^^ 2 ^ k) <;> rw [ek, et, ex] at hih <;> simp only [Bool.false_eq_true, if_false, if_true, i10, i00] at hih ⊢
    all_goals first
      | exact hih
      | (simp only [c0, c1, c2, c3]
         simp at hih
         first
           | exact hih
           | (split
              · rename_i z
                simp [← z] at hih
                exact hih
              · rename_i z
                simp [z] at hih
                exact hih)
           | (split
              · rename_i z
                rw [if_pos (by omega)] at hih
                exact hih
              · rename_i z
                rw [if_neg (by omega)] at hih
                exact hih))
