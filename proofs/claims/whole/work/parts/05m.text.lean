/-! standard texts -/
def wd (m : Nat) : Nat := if m = 0 then 1 else popc m
theorem wd_in : ∀ m, m < 64 → 1 ≤ wd m ∧ wd m ≤ 6 := by decide +kernel
theorem widthOf_eq : ∀ m, m < 64 → fn_X4_widthOf (nI m) = some (nI (wd m)) := by decide +kernel
theorem longOf_eq {m : Nat} (hm : m < 64) : fn_X7_longOf (nI m) = some (nI (wd m)) := by
  unfold fn_X7_longOf wd
  rcases Nat.eq_zero_or_pos m with c | c
  · subst c
    rfl
  · rw [if_neg (nI_ne0 c (by omega)), if_neg (by omega), many32_eq hm, bsm]
def Wt (q : Int64) : Nat → Nat
  | 0 => 0
  | m + 1 => Wt q m + (if bB q m then wd m else 0)
theorem Wt_cut {n : Nat} {q : Int64} (hq : wf n q) : ∀ d, Wt q (2 ^ n + d) = Wt q (2 ^ n) := by
  intro d
  induction d with
  | zero => rfl
  | succ d ih =>
    rw [← Nat.add_assoc, Wt, ih, hq _ (Nat.le_add_right _ _)]
    simp
theorem Wt_0 : ∀ M, Wt 0 M = 0 := by
  intro M
  induction M with
  | zero => rfl
  | succ M ih => rw [Wt, ih, bB_0]; rfl
theorem Wt_rem {m : Nat} (hm : m < 64) (q : Int64) (hb : bB q m = true) : ∀ M, M ≤ 64 → Wt (q ^^^ lsh 1 (nI m)) M + (if m < M then wd m else 0) = Wt q M := by
  intro M
  induction M with
  | zero => intro _; rw [if_neg (by omega)]; rfl
  | succ M ih =>
    intro hM
    have := ih (by omega)
    rw [Wt, Wt, rem_bit hm q hb (by omega)]
    by_cases c : M = m
    · subst c
      have e1 : (if M < M then wd M else 0) = 0 := if_neg (by omega)
      have e2 : (if M < M + 1 then wd M else 0) = wd M := if_pos (by omega)
      rw [e1] at this
      rw [e2, hb]
      simp only [decide_true, Bool.not_true, Bool.and_false, Bool.false_eq_true, if_false, if_true]
      omega
    · have e0 : (bB q M && !decide (M = m)) = bB q M := by simp [c]
      rw [e0]
      by_cases c2 : m < M
      · have e1 : (if m < M then wd m else 0) = wd m := if_pos c2
        have e2 : (if m < M + 1 then wd m else 0) = wd m := if_pos (by omega)
        rw [e1] at this
        rw [e2]
        omega
      · have e1 : (if m < M then wd m else 0) = 0 := if_neg c2
        have e2 : (if m < M + 1 then wd m else 0) = 0 := if_neg (by omega)
        rw [e1] at this
        rw [e2]
        omega
theorem lenX_loop (q : Int64) : ∀ d m f, m + d = 64 → d < f → fn_X4_lengthOf_12 f q (nI (Wt q m)) (nI m) = some (nI (Wt q 64) + nI (pc q) - 1) := by
  intro d
  induction d with
  | zero =>
    intro m f h hf
    obtain ⟨f, rfl⟩ : ∃ g, f = g + 1 := ⟨f - 1, by omega⟩
    unfold fn_X4_lengthOf_12 fn_X4_lengthOf_12_body
    rw [if_pos (show (64 : Int32) ≤ nI m from nI_le (a := 64) (by omega) (by omega)), bitCount_eq, bsm, show m = 64 by omega]
  | succ d ih =>
    intro m f h hf
    obtain ⟨f, rfl⟩ : ∃ g, f = g + 1 := ⟨f - 1, by omega⟩
    have hih := ih (m + 1) f (by omega) (by omega)
    rw [Wt] at hih
    unfold fn_X4_lengthOf_12 fn_X4_lengthOf_12_body
    rw [if_neg (show ¬ (64 : Int32) ≤ nI m from nI_ge (b := 64) (by omega) (by omega)), bit_eq q (by omega), bsm, widthOf_eq m (by omega), bsm, nI_1, nI_add]
    cases e : bB q m
    · rw [e] at hih
      simp only [Bool.false_eq_true, if_false, Nat.add_zero] at hih ⊢
      rw [if_neg (by decide)]
      exact hih
    · rw [e] at hih
      simp only [if_true] at hih ⊢
      exact hih
theorem lengthOf_eq {q : Int64} (h : ¬ q = 0) : fn_X4_lengthOf q = some (nI (Wt q 64) + nI (pc q) - 1) := by
  unfold fn_X4_lengthOf
  rw [if_neg h]
  exact lenX_loop q 64 0 FU (by omega) (by unfold FU; omega)
theorem lenY_loop {w : YS} {n r : Nat} (hn : n ≤ 6) (hw : y_n w = nI n) (hr : r < 8) (c0 : Int32) : ∀ d m f, m + d = 2 ^ n → d < f → fn_X7_textLength_28 w f (nI r) (c0 + nI (Wt (y_p w r) m + fb_ct (bB (y_p w r)) m)) (nI m) = some (c0 + nI (Wt (y_p w r) (2 ^ n) + fb_ct (bB (y_p w r)) (2 ^ n))) := by
  have h64 := p2_le hn
  intro d
  induction d with
  | zero =>
    intro m f h hf
    obtain ⟨f, rfl⟩ : ∃ g, f = g + 1 := ⟨f - 1, by omega⟩
    unfold fn_X7_textLength_28 fn_X7_textLength_28_body
    rw [hw, ish1 n (by omega), if_pos (nI_le (by omega) (by omega)), show m = 2 ^ n by omega]
  | succ d ih =>
    intro m f h hf
    obtain ⟨f, rfl⟩ : ∃ g, f = g + 1 := ⟨f - 1, by omega⟩
    have hih := ih (m + 1) f (by omega) (by omega)
    rw [Wt, fb_ct_succ] at hih
    unfold fn_X7_textLength_28 fn_X7_textLength_28_body fn_X7_textLength_62
    rw [hw, ish1 n (by omega), if_neg (nI_ge (by omega) (by omega)), rd_eq _ hr (by decide), bsm, has1_eq _ (by omega), bsm, longOf_eq (by omega), bsm, nI_1, Int32.add_assoc, Int32.add_assoc]
    cases e : bB (y_p w r) m
    · rw [e] at hih
      simp only [Bool.false_eq_true, if_false, if_true, Nat.add_zero] at hih ⊢
      rw [show nI (Wt (y_p w r) m + fb_ct (bB (y_p w r)) m) + 0 = nI (Wt (y_p w r) m + fb_ct (bB (y_p w r)) m) from nI_add _ 0]
      exact hih
    · rw [e] at hih
      simp only [if_true, i10, if_false] at hih ⊢
      rw [show (1 : Int32) + nI (wd m) = nI (1 + wd m) from nI_add 1 _, nI_add, show Wt (y_p w r) m + fb_ct (bB (y_p w r)) m + (1 + wd m) = Wt (y_p w r) m + wd m + (fb_ct (bB (y_p w r)) m + 1) by omega]
      exact hih
theorem ct_wf {n : Nat} (hn : n ≤ 6) {q : Int64} (hq : wf n q) : fb_ct (bB q) (2 ^ n) = pc q := by
  rw [← ct_cut hn]
  unfold pc
  apply fb_ct_cong
  intro i _
  rcases Nat.lt_or_ge i (2 ^ n) with c | c
  · simp [c]
  · rw [hq i c]; simp
theorem len_eq (a b : Nat) : nI a + nI b - 1 = -1 + nI (a + b) := by
  rw [nI_add, Int32.sub_eq_add_neg, Int32.add_comm]
theorem m_textLength {n kp ln : Nat} {v : XS} {w : YS} (h : Rl n kp ln v w) (x1 : Int32) : Same1 (fn_X6_textLength v x1) (fn_X7_textLength w x1) := by
  obtain ⟨⟨h1, h6⟩, hxn, hyn, hreg, hkp, hxk, hyk, hh, hln, hxl, hyl, htx⟩ := id h
  have h64 := p2_le h6
  unfold fn_X6_textLength fn_X7_textLength fn_X7_textLength_25
  rcases reg_c x1 with ⟨a1, b1⟩ | ⟨j1, hj1, ej1, a1, b1⟩
  · simp only [a1, b1, bsm, i00, if_true]
    exact Same1.of
  simp only [a1, b1, bsm, i10, if_false]
  subst ej1
  have hq := (hreg j1 hj1).2
  rw [rd_eq (x_regs v) hj1 (by decide), rd_eq (y_p w) hj1 (by decide), bsm, bsm]
  have l1 := lenY_loop h6 hyn hj1 1 (2 ^ n) 0 FU (by omega) (by unfold FU; omega)
  have l2 := lenY_loop h6 hyn hj1 (-1) (2 ^ n) 0 FU (by omega) (by unfold FU; omega)
  have e := (hreg j1 hj1).1
  rw [show fn_X7_textLength_28 w FU (nI j1) 1 0 = _ from l1, show fn_X7_textLength_28 w FU (nI j1) (-1) 0 = _ from l2, ← e, ct_wf h6 hq]
  by_cases c : x_regs v j1 = 0
  · rw [if_pos c, c]
    unfold fn_X4_lengthOf
    rw [if_pos rfl, Wt_0, pc_0.mpr rfl]
    exact Same1.of
  · rw [if_neg c, lengthOf_eq c, bsm, len_eq]
    have := Wt_cut hq (64 - 2 ^ n)
    rw [show 2 ^ n + (64 - 2 ^ n) = 64 by omega] at this
    rw [this]
    exact Same1.of
-- textAt
theorem sign_eq : ∀ m, m < 64 → ∀ l, l < 6 → l < wd m → fn_X4_signOf (nI m) (nI l) = fn_X7_letter (nI m) (nI l) ∧ (fn_X7_letter (nI m) (nI l)).isSome = true := by decide +kernel
theorem char_some {l p0 : Nat} (q : Int64) (h0 : p0 < 64) (hb : bB q (tb 0 p0) = true) : ∀ d p f, p + d = p0 → (∀ i, p ≤ i → i < p0 → bB q (tb 0 i) = false) → fn_X4_characterOf_25 (f + d + 1) q (nI l) (nI p) = if nI (wd (tb 0 p0)) < nI l then fn_X4_characterOf_25 f q (nI l - (nI (wd (tb 0 p0)) + 1)) (nI (p0 + 1)) else if nI l = nI (wd (tb 0 p0)) then some 43 else (fn_X4_signOf (nI (tb 0 p0)) (nI l)).bind fun q77 => some q77 := by
  intro d
  induction d with
  | zero =>
    intro p f h hz
    have e : p = p0 := by omega
    subst e
    rw [Nat.add_zero, fn_X4_characterOf_25]
    unfold fn_X4_characterOf_25_body
    rw [if_neg (show ¬ (64 : Int32) ≤ nI p from nI_ge (b := 64) (by omega) (by omega)), show fn_X2_monomialAt 0 (nI p) = _ from monomialAt_eq 0 (by decide) p h0, bsm, bit_eq q (tb_lt 0 p), hb, bsm, widthOf_eq _ (tb_lt 0 p), bsm, nI_1 p]
    simp only [if_true]
  | succ d ih =>
    intro p f h hz
    rw [show f + (d + 1) + 1 = (f + d + 1) + 1 by omega, fn_X4_characterOf_25]
    unfold fn_X4_characterOf_25_body
    rw [if_neg (show ¬ (64 : Int32) ≤ nI p from nI_ge (b := 64) (by omega) (by omega)), show fn_X2_monomialAt 0 (nI p) = _ from monomialAt_eq 0 (by decide) p (by omega), bsm, bit_eq q (tb_lt 0 p), hz p (Nat.le_refl _) (by omega), bsm, nI_1 p]
    rw [if_neg (show ¬ (if false = true then (1 : Int32) else 0) = 1 by decide)]
    exact ih (p + 1) f (by omega) (fun i h1 h2 => hz i (by omega) h2)
theorem textY_0 {w : YS} (f : Nat) (x : Int32) : fn_X7_textAt_46 w (f + 1) x 0 = some (-4) := by
  unfold fn_X7_textAt_46 fn_X7_textAt_46_body
  rw [if_pos rfl]
theorem text_sim {w : YS} {n : Nat} (hn : n ≤ 6) (hw : y_n w = nI n) (Q : Int64) : ∀ d (q : Int64) (p l f f' : Nat), pc q = d → wf n q → p ≤ 64 → (∀ i, i < p → bB q (tb 0 i) = false) → (∀ i, p ≤ i → i < 64 → bB q (tb 0 i) = bB Q (tb 0 i)) → l < 2 ^ 31 → d + 1 < f' → 65 ≤ f + p → (l + 1 < Wt q 64 + d → Same1 (fn_X4_characterOf_25 f Q (nI l) (nI p)) (fn_X7_textAt_46 w f' (nI l) q)) ∧ (Wt q 64 + d ≤ l + 1 → fn_X7_textAt_46 w f' (nI l) q = some (-4)) := by
  have ho : 0 < 3 := by decide
  intro d
  induction d with
  | zero =>
    intro q p l f f' hd hq hp hlo hhi hl hf' hf
    have hq0 := pc_0.mp hd
    subst hq0
    obtain ⟨f', rfl⟩ : ∃ g, f' = g + 1 := ⟨f' - 1, by omega⟩
    rw [Wt_0]
    exact ⟨fun h => absurd h (by omega), fun _ => textY_0 f' _⟩
  | succ d ih =>
    intro q p l f f' hd hq hp hlo hhi hl hf' hf
    have hne : ¬ q = 0 := fun e => by rw [pc_0.mpr e] at hd; omega
    obtain ⟨m, hm⟩ := Ld.ex (o := 0) ho hne
    have hpm : p ≤ ps 0 m := by
      rcases Nat.lt_or_ge (ps 0 m) p with c | c
      · have := hlo _ c
        rw [tb_ps 0 ho m hm.1, hm.2.1] at this
        cases this
      · exact c
    have hps := ps_lt 0 m
    have hQm : bB Q (tb 0 (ps 0 m)) = true := by rw [← hhi _ hpm hps, tb_ps 0 ho m hm.1]; exact hm.2.1
    obtain ⟨f', rfl⟩ : ∃ g, f' = g + 1 := ⟨f' - 1, by omega⟩
    have hX := char_some (l := l) Q hps hQm (ps 0 m - p) p (f - (ps 0 m - p) - 1) (by omega) (fun i h1 h2 => by
      rw [← hhi i h1 (by omega)]
      cases e : bB q (tb 0 i)
      · rfl
      · have := hm.2.2 _ (tb_lt 0 i) e
        rw [ps_tb 0 ho i (by omega)] at this
        omega)
    rw [show f - (ps 0 m - p) - 1 + (ps 0 m - p) + 1 = f by omega, tb_ps 0 ho m hm.1] at hX
    rw [hX]
    have hr := rem_pc hm.1 q hm.2.1
    have hW := Wt_rem hm.1 q hm.2.1 64 (Nat.le_refl _)
    rw [if_pos hm.1] at hW
    have hwd := wd_in m hm.1
    unfold fn_X7_textAt_46 fn_X7_textAt_46_body fn_X7_textAt_102
    rw [if_neg hne, show fn_X7_leads w q 0 = _ from leads_eq hn hw ho hq hm, bsm, longOf_eq hm.1, bsm, bsm, bsm]
    rcases Nat.lt_trichotomy l (wd m) with c | c | c
    · rw [if_neg (nI_nlt (by omega) (by omega)), if_neg (fun z => by
        have := (nI_eq (by omega) (by omega)).mp z
        omega), if_neg (nI_ge c (by omega))]
      obtain ⟨s1, s2⟩ := sign_eq m hm.1 l (by omega) c
      rw [s1]
      refine ⟨fun _ => ?_, fun h => absurd h (by omega)⟩
      obtain ⟨r, er⟩ := Option.isSome_iff_exists.mp s2
      rw [er, bsm]
      exact Same1.of
    · subst c
      rw [if_neg (nI_nlt (by omega) (by omega)), if_pos rfl, if_pos (nI_le (Nat.le_refl _) (by omega)), pk_sub (Nat.le_refl _), Nat.sub_self, if_pos (show nI 0 = 0 from rfl), many_eq, bsm]
      refine ⟨fun h => ?_, fun h => ?_⟩
      · have h2 : 1 < pc q := by
          rcases Nat.lt_or_ge 1 (pc q) with z | z
          · exact z
          · have z0 : pc (q ^^^ lsh 1 (nI m)) = 0 := by omega
            rw [pc_0.mp z0, Wt_0] at hW
            omega
        have := pc_le q
        rw [if_neg (show ¬ nI (pc q) ≤ 1 from nI_ge (a := 1) h2 (by omega))]
        exact Same1.of
      · have z0 : pc (q ^^^ lsh 1 (nI m)) = 0 := by
          rcases Nat.eq_zero_or_pos (pc (q ^^^ lsh 1 (nI m))) with z | z
          · exact z
          · omega
        rw [if_pos (show nI (pc q) ≤ 1 from nI_le (b := 1) (by omega) (by decide)), pc_0.mp z0]
        obtain ⟨f', rfl⟩ : ∃ g, f' = g + 1 := ⟨f' - 1, by omega⟩
        exact textY_0 f' _
    · rw [if_pos (nI_lt c (by omega)), if_pos (nI_le (by omega) (by omega)), pk_sub (by omega), if_neg (nI_ne0 (by omega) (by omega)), sb_m1 (by omega), nI_1, pk_sub (show wd m + 1 ≤ l by omega), show l - wd m - 1 = l - (wd m + 1) by omega]
      have := ih (q ^^^ lsh 1 (nI m)) (ps 0 m + 1) (l - (wd m + 1)) (f - (ps 0 m - p) - 1) f' (by omega) (rem_wf hq hm.2.1 hm.1) (by omega) (fun i hi => by
        rw [rem_bit hm.1 q hm.2.1 (tb_lt 0 i)]
        cases e : bB q (tb 0 i)
        · rfl
        · have h2 := hm.2.2 _ (tb_lt 0 i) e
          rw [ps_tb 0 ho i (by omega)] at h2
          have e3 : i = ps 0 m := by omega
          rw [e3, tb_ps 0 ho m hm.1]
          simp) (fun i h1 h2 => by
        rw [rem_bit hm.1 q hm.2.1 (tb_lt 0 i), hhi i (by omega) h2]
        have : ¬ tb 0 i = m := fun e => by
          have e3 := ps_tb 0 ho i h2
          rw [e] at e3
          omega
        simp [this]) (by omega) (by omega) (by omega)
      exact ⟨fun h => this.1 (by omega), fun h => this.2 (by omega)⟩
theorem Wt_le (q : Int64) : ∀ M, M ≤ 64 → Wt q M ≤ 6 * M := by
  intro M
  induction M with
  | zero => intro _; exact Nat.le_refl _
  | succ M ih =>
    intro h
    have := ih (by omega)
    have := (wd_in M (by omega)).2
    rw [Wt]
    split <;> omega
theorem m_textAt {n kp ln : Nat} {v : XS} {w : YS} (h : Rl n kp ln v w) (x1 x2 : Int32) : Same1 (fn_X6_textAt v x1 x2) (fn_X7_textAt w x1 x2) := by
  obtain ⟨⟨h1, h6⟩, hxn, hyn, hreg, hkp, hxk, hyk, hh, hln, hxl, hyl, htx⟩ := id h
  unfold fn_X6_textAt fn_X7_textAt
  rcases reg_c x1 with ⟨a1, b1⟩ | ⟨j1, hj1, ej1, a1, b1⟩
  · simp only [a1, b1, bsm, i00, if_true]
    exact Same1.of
  simp only [a1, b1, bsm, i10, if_false]
  by_cases c : 0 ≤ x2
  · rw [if_pos c, if_pos c]
    subst ej1
    obtain ⟨l, hl, rfl⟩ := nI_of (x := x2) (fun z => absurd c (Int32.not_le.mpr z))
    rw [rd_eq (x_regs v) hj1 (by decide), rd_eq (y_p w) hj1 (by decide), bsm, bsm, bsm, ← (hreg j1 hj1).1]
    have hq := (hreg j1 hj1).2
    have hpl := pc_le (x_regs v j1)
    unfold fn_X4_characterOf
    by_cases cz0 : x_regs v j1 = 0
    · rw [if_pos cz0, cz0]
      have e0 : fn_X4_lengthOf 0 = some 1 := by unfold fn_X4_lengthOf; rw [if_pos rfl]
      rw [e0, bsm]
      rcases Nat.eq_zero_or_pos l with z | z
      · subst z
        rw [if_pos (by decide), if_pos rfl, if_pos (show nI 0 = 0 from rfl), bsm]
        exact Same1.of
      · rw [if_neg (show ¬ nI l < 1 from nI_nlt (b := 1) (by omega) (by omega)), if_neg (nI_ne0 z hl), bsm]
        exact Same1.of
    · rw [if_neg cz0, lengthOf_eq cz0, bsm, if_neg cz0]
      have hpos : 0 < pc (x_regs v j1) := by
        rcases Nat.eq_zero_or_pos (pc (x_regs v j1)) with z | z
        · exact absurd (pc_0.mp z) cz0
        · exact z
      have hW := Wt_le (x_regs v j1) 64 (Nat.le_refl _)
      have this := text_sim h6 hyn (x_regs v j1) (pc (x_regs v j1)) (x_regs v j1) 0 l FU FU rfl hq (by omega) (fun i hi => by omega) (fun i _ _ => rfl) hl (by unfold FU; omega) (by unfold FU; omega)
      rw [nI_add, show nI (Wt (x_regs v j1) 64 + pc (x_regs v j1)) - 1 = nI (Wt (x_regs v j1) 64 + pc (x_regs v j1) - 1) from pk_sub (b := 1) (by omega)]
      rcases Nat.lt_or_ge l (Wt (x_regs v j1) 64 + pc (x_regs v j1) - 1) with z | z
      · rw [if_pos (nI_lt z (by omega))]
        obtain ⟨r, e1, e2⟩ := this.1 (by omega)
        rw [show fn_X4_characterOf_25 FU (x_regs v j1) (nI l) 0 = _ from e1, bsm]
        exact ⟨r, rfl, e2⟩
      · rw [if_neg (nI_nlt z hl), bsm]
        exact ⟨_, rfl, this.2 (by omega)⟩
  · rw [if_neg c, if_neg c]
    exact Same1.of
