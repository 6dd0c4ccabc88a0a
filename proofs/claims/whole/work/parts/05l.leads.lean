/-! leading monomials; terms by an order; degree -/
def Ld (o : Nat) (q : Int64) (m : Nat) : Prop := m < 64 ∧ bB q m = true ∧ ∀ j, j < 64 → bB q j = true → ps o m ≤ ps o j
theorem Ld.eq {o m m' : Nat} {q : Int64} (ho : o < 3) (h : Ld o q m) (h' : Ld o q m') : m = m' :=
  ps_inj ho h.1 h'.1 (Nat.le_antisymm (h.2.2 m' h'.1 h'.2.1) (h'.2.2 m h.1 h.2.1))
theorem ne0_bit {q : Int64} (h : ¬ q = 0) : ∃ i, i < 64 ∧ bB q i = true := by
  have : 0 < pc q := by
    rcases Nat.eq_zero_or_pos (pc q) with c | c
    · exact absurd (pc_0.mp c) h
    · exact c
  exact fb_ct_pos.mp this
theorem Ld.ex {o : Nat} (ho : o < 3) {q : Int64} (h : ¬ q = 0) : ∃ m, Ld o q m := by
  obtain ⟨i, hi, hb⟩ := ne0_bit h
  obtain ⟨p, ⟨hp, hpb⟩, hmin⟩ := pk_least (fun p => p < 64 ∧ bB q (tb o p) = true) ⟨ps o i, ps_lt o i, by rw [tb_ps o ho i hi]; exact hb⟩
  refine ⟨tb o p, tb_lt o p, hpb, fun j hj hjb => ?_⟩
  rw [ps_tb o ho p hp]
  rcases Nat.lt_or_ge (ps o j) p with c | c
  · exact absurd ⟨ps_lt o j, by rw [tb_ps o ho j hj]; exact hjb⟩ (hmin _ c)
  · exact c
theorem Ld.ne {o m : Nat} {q : Int64} (h : Ld o q m) : ¬ q = 0 := fun e => by
  have := h.2.1
  rw [e, bB_0] at this
  cases this
theorem leads_loop {w : YS} {n o : Nat} (hn : n ≤ 6) (hw : y_n w = nI n) (ho : o < 3) (q : Int64) : ∀ d f m (x : Int32), m + d = 2 ^ n → d < f → ((x = -1 ∧ ∀ j, j < m → bB q j = false) ∨ ∃ b, x = nI b ∧ b < m ∧ bB q b = true ∧ ∀ j, j < m → bB q j = true → ps o b ≤ ps o j) → ∃ x' : Int32, fn_X7_leads_6 w f q (nI o) x (nI m) = some x' ∧ ((x' = -1 ∧ ∀ j, j < 2 ^ n → bB q j = false) ∨ ∃ b, x' = nI b ∧ b < 2 ^ n ∧ bB q b = true ∧ ∀ j, j < 2 ^ n → bB q j = true → ps o b ≤ ps o j) := by
  have h64 := p2_le hn
  intro d
  induction d with
  | zero =>
    intro f m x h hf hi
    obtain ⟨f, rfl⟩ : ∃ g, f = g + 1 := ⟨f - 1, by omega⟩
    have e : m = 2 ^ n := by omega
    refine ⟨x, ?_, by rw [← e]; exact hi⟩
    unfold fn_X7_leads_6 fn_X7_leads_6_body
    rw [hw, ish1 n (by omega), if_pos (nI_le (by omega) (by omega))]
  | succ d ih =>
    intro f m x h hf hi
    obtain ⟨f, rfl⟩ : ∃ g, f = g + 1 := ⟨f - 1, by omega⟩
    unfold fn_X7_leads_6 fn_X7_leads_6_body fn_X7_leads_48
    rw [hw, ish1 n (by omega), if_neg (nI_ge (by omega) (by omega)), has1_eq q (by omega), bsm, nI_1]
    cases e : bB q m
    · simp only [Bool.false_eq_true, if_false, if_true]
      refine ih f (m + 1) x (by omega) (by omega) ?_
      rcases hi with ⟨h1, h2⟩ | ⟨b, h1, h2, h3, h4⟩
      · refine Or.inl ⟨h1, fun j hj => ?_⟩
        rcases Nat.lt_or_ge j m with c | c
        · exact h2 j c
        · rw [show j = m by omega]; exact e
      · refine Or.inr ⟨b, h1, by omega, h3, fun j hj hb => ?_⟩
        rcases Nat.lt_or_ge j m with c | c
        · exact h4 j c hb
        · rw [show j = m by omega, e] at hb; cases hb
    · simp only [if_true, i10, if_false]
      have new : (∀ j, j < m + 1 → bB q j = true → ps o m ≤ ps o j) → ∃ x' : Int32, fn_X7_leads_6 w f q (nI o) (nI m) (nI (m + 1)) = some x' ∧ ((x' = -1 ∧ ∀ j, j < 2 ^ n → bB q j = false) ∨ ∃ b, x' = nI b ∧ b < 2 ^ n ∧ bB q b = true ∧ ∀ j, j < 2 ^ n → bB q j = true → ps o b ≤ ps o j) := fun hm =>
        ih f (m + 1) (nI m) (by omega) (by omega) (Or.inr ⟨m, rfl, by omega, e, hm⟩)
      rcases hi with ⟨h1, h2⟩ | ⟨b, h1, h2, h3, h4⟩
      · rw [h1, if_pos (by decide)]
        refine new (fun j hj hb => ?_)
        rcases Nat.lt_or_ge j m with c | c
        · rw [h2 j c] at hb; cases hb
        · rw [show j = m by omega]; exact Nat.le_refl _
      · rw [h1, if_neg (nI_pos (by omega)), grt_eq hn hw ho (by omega) (by omega), bsm]
        by_cases c : ps o m < ps o b
        · rw [if_pos c, if_neg (by decide)]
          refine new (fun j hj hb => ?_)
          rcases Nat.lt_or_ge j m with c2 | c2
          · have := h4 j c2 hb; omega
          · rw [show j = m by omega]; exact Nat.le_refl _
        · rw [if_neg c, if_pos rfl]
          refine ih f (m + 1) (nI b) (by omega) (by omega) (Or.inr ⟨b, rfl, by omega, h3, fun j hj hb => ?_⟩)
          rcases Nat.lt_or_ge j m with c2 | c2
          · exact h4 j c2 hb
          · rw [show j = m by omega]; omega
theorem leads_0 {w : YS} {n o : Nat} (hn : n ≤ 6) (hw : y_n w = nI n) (ho : o < 3) : fn_X7_leads w 0 (nI o) = some (-1) := by
  unfold fn_X7_leads
  obtain ⟨x, e1, e2⟩ := leads_loop hn hw ho 0 (2 ^ n) FU 0 (-1) (by omega) (by have := p2_le hn; unfold FU; omega) (Or.inl ⟨rfl, fun j hj => by omega⟩)
  rw [show (0 : Int32) = nI 0 from rfl, e1]
  rcases e2 with ⟨e, -⟩ | ⟨b, -, -, e, -⟩
  · rw [e]
  · rw [bB_0] at e; cases e
theorem leads_eq {w : YS} {n o m : Nat} (hn : n ≤ 6) (hw : y_n w = nI n) (ho : o < 3) {q : Int64} (hq : wf n q) (h : Ld o q m) : fn_X7_leads w q (nI o) = some (nI m) := by
  have h64 := p2_le hn
  have lt : ∀ j, bB q j = true → j < 2 ^ n := fun j hj => by
    rcases Nat.lt_or_ge j (2 ^ n) with c | c
    · exact c
    · rw [hq j c] at hj; cases hj
  unfold fn_X7_leads
  obtain ⟨x, e1, e2⟩ := leads_loop hn hw ho q (2 ^ n) FU 0 (-1) (by omega) (by unfold FU; omega) (Or.inl ⟨rfl, fun j hj => by omega⟩)
  rw [show (0 : Int32) = nI 0 from rfl, e1]
  rcases e2 with ⟨-, e⟩ | ⟨b, e, h1, h2, h3⟩
  · have h2 := h.2.1
    rw [e m (lt m h2)] at h2
    cases h2
  · rw [e, Ld.eq ho (show Ld o q b from ⟨by omega, h2, fun j _ hb => h3 j (lt j hb) hb⟩) h]
-- the class: the loop through the places
theorem term_none {o l : Nat} (ho : o < 3) (q : Int64) : ∀ d p f, p + d = 64 → d < f → (∀ i, p ≤ i → i < 64 → bB q (tb o i) = false) → fn_X2_termOf_17 f q (nI o) (nI l) (nI p) = some (-4) := by
  intro d
  induction d with
  | zero =>
    intro p f h hf hz
    obtain ⟨f, rfl⟩ : ∃ g, f = g + 1 := ⟨f - 1, by omega⟩
    unfold fn_X2_termOf_17 fn_X2_termOf_17_body
    rw [if_pos (show (64 : Int32) ≤ nI p from nI_le (a := 64) (by omega) (by omega))]
  | succ d ih =>
    intro p f h hf hz
    obtain ⟨f, rfl⟩ : ∃ g, f = g + 1 := ⟨f - 1, by omega⟩
    unfold fn_X2_termOf_17 fn_X2_termOf_17_body
    rw [if_neg (show ¬ (64 : Int32) ≤ nI p from nI_ge (b := 64) (by omega) (by omega)), monomialAt_eq o ho p (by omega), bsm, bit_eq q (tb_lt o p), hz p (Nat.le_refl _) (by omega), bsm, nI_1]
    rw [if_neg (by decide)]
    exact ih (p + 1) f (by omega) (by omega) (fun i h1 h2 => hz i (by omega) h2)
theorem term_some {o l p0 : Nat} (ho : o < 3) (q : Int64) (h0 : p0 < 64) (hb : bB q (tb o p0) = true) : ∀ d p f, p + d = p0 → (∀ i, p ≤ i → i < p0 → bB q (tb o i) = false) → fn_X2_termOf_17 (f + d + 1) q (nI o) (nI l) (nI p) = if nI l = 0 then some (nI (tb o p0)) else fn_X2_termOf_17 f q (nI o) (nI l + (-1)) (nI (p0 + 1)) := by
  intro d
  induction d with
  | zero =>
    intro p f h hz
    have e : p = p0 := by omega
    subst e
    rw [Nat.add_zero, fn_X2_termOf_17]
    unfold fn_X2_termOf_17_body
    rw [if_neg (show ¬ (64 : Int32) ≤ nI p from nI_ge (b := 64) (by omega) (by omega)), monomialAt_eq o ho p h0, bsm, bit_eq q (tb_lt o p), hb, bsm, nI_1]
    simp only [if_true]
  | succ d ih =>
    intro p f h hz
    rw [show f + (d + 1) + 1 = (f + d + 1) + 1 by omega, fn_X2_termOf_17]
    unfold fn_X2_termOf_17_body
    rw [if_neg (show ¬ (64 : Int32) ≤ nI p from nI_ge (b := 64) (by omega) (by omega)), monomialAt_eq o ho p (by omega), bsm, bit_eq q (tb_lt o p), hz p (Nat.le_refl _) (by omega), bsm, nI_1]
    rw [if_neg (by decide)]
    exact ih (p + 1) f (by omega) (fun i h1 h2 => hz i (by omega) h2)
theorem termOf0_0 {o : Nat} : fn_X2_termOf 0 (nI o) 0 = some (-4) := by
  unfold fn_X2_termOf
  rw [bitCount_eq, bsm, pc_0.mpr rfl, if_neg (by decide)]
theorem termOf0_eq {o m : Nat} (ho : o < 3) {q : Int64} (h : Ld o q m) : fn_X2_termOf q (nI o) 0 = some (nI m) := by
  have hpc : 0 < pc q := by
    rcases Nat.eq_zero_or_pos (pc q) with c | c
    · exact absurd (pc_0.mp c) h.ne
    · exact c
  have := pc_le q
  unfold fn_X2_termOf
  rw [bitCount_eq, bsm, if_pos (show (0 : Int32) < nI (pc q) from nI_lt (a := 0) hpc (by omega))]
  have hps := ps_lt o m
  have := term_some (l := 0) ho q (p0 := ps o m) hps (by rw [tb_ps o ho m h.1]; exact h.2.1) (ps o m) 0 (FU - (ps o m) - 1) (by omega) (fun i _ hi => by
    cases e : bB q (tb o i)
    · rfl
    · have := h.2.2 _ (tb_lt o i) e
      rw [ps_tb o ho i (by omega)] at this
      omega)
  rw [show FU - ps o m - 1 + ps o m + 1 = FU by unfold FU; omega, if_pos (show nI 0 = 0 from rfl), tb_ps o ho m h.1] at this
  exact this
-- taking the leading term away
theorem rem_bit {m : Nat} (hm : m < 64) (q : Int64) (hb : bB q m = true) {i : Nat} (hi : i < 64) : bB (q ^^^ lsh 1 (nI m)) i = (bB q i && !decide (i = m)) := by
  rw [bB_xor, bB_e hm hi]
  by_cases c : i = m
  · subst c; simp [hb]
  · simp [c]
theorem rem_pc {m : Nat} (hm : m < 64) (q : Int64) (hb : bB q m = true) : pc (q ^^^ lsh 1 (nI m)) + 1 = pc q := by
  have := pc_upd (q := q) (r := q ^^^ lsh 1 (nI m)) (k := m) (b := false) hm (fun i hi => by
    rw [rem_bit hm q hb hi]
    by_cases e : i = m <;> simp [e])
  rw [hb] at this
  simpa using this
theorem rem_wf {n m : Nat} {q : Int64} (hq : wf n q) (hb : bB q m = true) (hm : m < 64) : wf n (q ^^^ lsh 1 (nI m)) := fun i hi => by
  rcases Nat.lt_or_ge i 64 with c | c
  · rw [rem_bit hm q hb c, hq i hi]; rfl
  · exact bB_big c
theorem termAt_sim {w : YS} {n o : Nat} (hn : n ≤ 6) (hw : y_n w = nI n) (ho : o < 3) (Q : Int64) {idx : Nat} (hidx : idx < 2 ^ 31) : ∀ d (q : Int64) (p l k f f' : Nat), pc q = d → wf n q → k + l = idx → p ≤ 64 → (∀ i, i < p → bB q (tb o i) = false) → (∀ i, p ≤ i → i < 64 → bB q (tb o i) = bB Q (tb o i)) → d + 1 < f' → 65 ≤ f + p → (l < d → Same1 (fn_X2_termOf_17 f Q (nI o) (nI l) (nI p)) (fn_X7_termAt_31 w f' (nI o) (nI idx) q (nI k))) ∧ (d ≤ l → fn_X7_termAt_31 w f' (nI o) (nI idx) q (nI k) = some (-4)) := by
  intro d
  induction d with
  | zero =>
    intro q p l k f f' hd hq hk hp hlo hhi hf' hf
    refine ⟨fun h => absurd h (by omega), fun _ => ?_⟩
    obtain ⟨f', rfl⟩ : ∃ g, f' = g + 1 := ⟨f' - 1, by omega⟩
    have hq0 := pc_0.mp hd
    unfold fn_X7_termAt_31 fn_X7_termAt_31_body fn_X7_termAt_64
    rw [if_pos hq0]
    split
    · rfl
    · rfl
  | succ d ih =>
    intro q p l k f f' hd hq hk hp hlo hhi hf' hf
    have hne : ¬ q = 0 := fun e => by rw [pc_0.mpr e] at hd; omega
    obtain ⟨m, hm⟩ := Ld.ex ho hne
    have hpm : p ≤ ps o m := by
      rcases Nat.lt_or_ge (ps o m) p with c | c
      · have := hlo _ c
        rw [tb_ps o ho m hm.1, hm.2.1] at this
        cases this
      · exact c
    have hps := ps_lt o m
    have hQm : bB Q (tb o (ps o m)) = true := by rw [← hhi _ hpm hps, tb_ps o ho m hm.1]; exact hm.2.1
    obtain ⟨f', rfl⟩ : ∃ g, f' = g + 1 := ⟨f' - 1, by omega⟩
    have hX := term_some (l := l) ho Q hps hQm (ps o m - p) p (f - (ps o m - p) - 1) (by omega) (fun i h1 h2 => by
      rw [← hhi i h1 (by omega)]
      cases e : bB q (tb o i)
      · rfl
      · have := hm.2.2 _ (tb_lt o i) e
        rw [ps_tb o ho i (by omega)] at this
        omega)
    rw [show f - (ps o m - p) - 1 + (ps o m - p) + 1 = f by omega, tb_ps o ho m hm.1] at hX
    rw [hX]
    unfold fn_X7_termAt_31 fn_X7_termAt_31_body
    rw [leads_eq hn hw ho hq hm, bsm, nI_1]
    rcases Nat.eq_zero_or_pos l with c | c
    · subst c
      refine ⟨fun _ => ?_, fun h => absurd h (by omega)⟩
      rw [if_pos (show nI 0 = 0 from rfl), if_pos (nI_le (by omega) (by omega))]
      unfold fn_X7_termAt_64
      rw [if_neg hne, leads_eq hn hw ho hq hm, bsm]
      exact Same1.of
    · obtain ⟨l, rfl⟩ : ∃ z, l = z + 1 := ⟨l - 1, by omega⟩
      rw [if_neg (nI_ne0 c (by omega)), if_neg (nI_ge (by omega) (by omega)), if_neg hne, pk_m1]
      have hr := rem_pc hm.1 q hm.2.1
      have := ih (q ^^^ lsh 1 (nI m)) (ps o m + 1) l (k + 1) (f - (ps o m - p) - 1) f' (by omega) (rem_wf hq hm.2.1 hm.1) (by omega) (by omega) (fun i hi => by
        rw [rem_bit hm.1 q hm.2.1 (tb_lt o i)]
        cases e : bB q (tb o i)
        · rfl
        · have h2 := hm.2.2 _ (tb_lt o i) e
          rw [ps_tb o ho i (by omega)] at h2
          have e3 : i = ps o m := by omega
          rw [e3, tb_ps o ho m hm.1]
          simp) (fun i h1 h2 => by
        rw [rem_bit hm.1 q hm.2.1 (tb_lt o i), hhi i (by omega) h2]
        have : ¬ tb o i = m := fun e => by
          have e3 := ps_tb o ho i h2
          rw [e] at e3
          omega
        simp [this]) (by omega) (by omega)
      exact ⟨fun h => this.1 (by omega), fun h => this.2 (by omega)⟩
theorem m_termAt {n kp ln : Nat} {v : XS} {w : YS} (h : Rl n kp ln v w) (x1 x2 x3 : Int32) : Same1 (fn_X6_termAt v x1 x2 x3) (fn_X7_termAt w x1 x2 x3) := by
  obtain ⟨⟨h1, h6⟩, hxn, hyn, hreg, hkp, hxk, hyk, hh, hln, hxl, hyl, htx⟩ := id h
  unfold fn_X6_termAt fn_X7_termAt
  rcases reg_c x1 with ⟨a1, b1⟩ | ⟨j1, hj1, ej1, a1, b1⟩
  · simp only [a1, b1, bsm, i00, if_true]
    exact Same1.of
  rcases ord_c x2 with ⟨a2, b2⟩ | ⟨o, ho, ej2, a2, b2⟩
  · simp only [a1, b1, a2, b2, bsm, i10, i00, if_true, if_false]
    exact Same1.of
  simp only [a1, b1, a2, b2, bsm, i10, if_false]
  by_cases c : 0 ≤ x3
  · rw [if_pos c, if_pos c]
    subst ej1
    subst ej2
    obtain ⟨l, hl, rfl⟩ := nI_of (x := x3) (fun z => absurd c (Int32.not_le.mpr z))
    rw [rd_eq (x_regs v) hj1 (by decide), rd_eq (y_p w) hj1 (by decide), bsm, bsm, ← (hreg j1 hj1).1]
    have hq := (hreg j1 hj1).2
    have hpl := pc_le (x_regs v j1)
    have := termAt_sim h6 hyn ho (x_regs v j1) hl (pc (x_regs v j1)) (x_regs v j1) 0 l 0 FU FU rfl hq (by omega) (by omega) (fun i hi => by omega) (fun i _ _ => rfl) (by unfold FU; omega) (by unfold FU; omega)
    unfold fn_X2_termOf
    rw [bitCount_eq, bsm]
    rcases Nat.lt_or_ge l (pc (x_regs v j1)) with c2 | c2
    · rw [if_pos (nI_lt c2 (by omega))]
      obtain ⟨r, e1, e2⟩ := this.1 c2
      rw [show fn_X2_termOf_17 FU (x_regs v j1) (nI o) (nI l) 0 = _ from e1, bsm]
      exact ⟨r, rfl, e2⟩
    · rw [if_neg (nI_nlt c2 hl), bsm]
      exact ⟨_, rfl, this.2 c2⟩
  · rw [if_neg c, if_neg c]
    exact Same1.of
-- degree
theorem deg_loop {w : YS} {n r : Nat} (hn : n ≤ 6) (hw : y_n w = nI n) (hr : r < 8) : ∀ d f m (x : Int32), m + d = 2 ^ n → d < f → ((x = -4 ∧ ∀ j, j < m → bB (y_p w r) j = false) ∨ ∃ b, x = nI (popc b) ∧ b < m ∧ bB (y_p w r) b = true ∧ ∀ j, j < m → bB (y_p w r) j = true → popc j ≤ popc b) → ∃ x' : Int32, fn_X7_degree_14 w f (nI r) x (nI m) = some x' ∧ ((x' = -4 ∧ ∀ j, j < 2 ^ n → bB (y_p w r) j = false) ∨ ∃ b, x' = nI (popc b) ∧ b < 2 ^ n ∧ bB (y_p w r) b = true ∧ ∀ j, j < 2 ^ n → bB (y_p w r) j = true → popc j ≤ popc b) := by
  have h64 := p2_le hn
  intro d
  induction d with
  | zero =>
    intro f m x h hf hi
    obtain ⟨f, rfl⟩ : ∃ g, f = g + 1 := ⟨f - 1, by omega⟩
    have e : m = 2 ^ n := by omega
    refine ⟨x, ?_, by rw [← e]; exact hi⟩
    unfold fn_X7_degree_14 fn_X7_degree_14_body
    rw [hw, ish1 n (by omega), if_pos (nI_le (by omega) (by omega))]
  | succ d ih =>
    intro f m x h hf hi
    obtain ⟨f, rfl⟩ : ∃ g, f = g + 1 := ⟨f - 1, by omega⟩
    have pl := popc_le m
    unfold fn_X7_degree_14 fn_X7_degree_14_body fn_X7_degree_55
    rw [hw, ish1 n (by omega), if_neg (nI_ge (by omega) (by omega)), many32_eq (by omega), bsm, rd_eq _ hr (by decide), bsm, has1_eq _ (by omega), bsm, nI_1]
    cases e : bB (y_p w r) m
    · simp only [Bool.false_eq_true, if_false, if_true]
      refine ih f (m + 1) x (by omega) (by omega) ?_
      rcases hi with ⟨h1, h2⟩ | ⟨b, h1, h2, h3, h4⟩
      · refine Or.inl ⟨h1, fun j hj => ?_⟩
        rcases Nat.lt_or_ge j m with c | c
        · exact h2 j c
        · rw [show j = m by omega]; exact e
      · refine Or.inr ⟨b, h1, by omega, h3, fun j hj hb => ?_⟩
        rcases Nat.lt_or_ge j m with c | c
        · exact h4 j c hb
        · rw [show j = m by omega, e] at hb; cases hb
    · simp only [if_true, i10, if_false]
      rcases hi with ⟨h1, h2⟩ | ⟨b, h1, h2, h3, h4⟩
      · rw [h1, if_neg (fun z => by
          rw [Int32.le_iff_toInt_le, nI_toInt (by omega)] at z
          rw [show (-4 : Int32).toInt = -4 from rfl] at z
          omega)]
        refine ih f (m + 1) _ (by omega) (by omega) (Or.inr ⟨m, rfl, by omega, e, fun j hj hb => ?_⟩)
        rcases Nat.lt_or_ge j m with c | c
        · rw [h2 j c] at hb; cases hb
        · rw [show j = m by omega]; exact Nat.le_refl _
      · have pb := popc_le b
        rw [h1]
        by_cases c : popc m ≤ popc b
        · rw [if_pos (nI_le c (by omega))]
          refine ih f (m + 1) _ (by omega) (by omega) (Or.inr ⟨b, rfl, by omega, h3, fun j hj hb => ?_⟩)
          rcases Nat.lt_or_ge j m with c2 | c2
          · exact h4 j c2 hb
          · rw [show j = m by omega]; exact c
        · rw [if_neg (nI_ge (by omega) (by omega))]
          refine ih f (m + 1) _ (by omega) (by omega) (Or.inr ⟨m, rfl, by omega, e, fun j hj hb => ?_⟩)
          rcases Nat.lt_or_ge j m with c2 | c2
          · have := h4 j c2 hb; omega
          · rw [show j = m by omega]; exact Nat.le_refl _
theorem m_degree {n kp ln : Nat} {v : XS} {w : YS} (h : Rl n kp ln v w) (x1 : Int32) : Same1 (fn_X6_degree v x1) (fn_X7_degree w x1) := by
  obtain ⟨⟨h1, h6⟩, hxn, hyn, hreg, hkp, hxk, hyk, hh, hln, hxl, hyl, htx⟩ := id h
  have h64 := p2_le h6
  unfold fn_X6_degree fn_X7_degree
  rcases reg_c x1 with ⟨a1, b1⟩ | ⟨j1, hj1, ej1, a1, b1⟩
  · simp only [a1, b1, bsm, i00, if_true]
    exact Same1.of
  simp only [a1, b1, bsm, i10, if_false]
  subst ej1
  rw [rd_eq (x_regs v) hj1 (by decide), bsm]
  obtain ⟨x, e1, e2⟩ := deg_loop h6 hyn hj1 (2 ^ n) FU 0 (-4) (by omega) (by unfold FU; omega) (Or.inl ⟨rfl, fun j hj => by omega⟩)
  rw [show fn_X7_degree_14 w FU (nI j1) (-4) 0 = _ from e1]
  have hq := (hreg j1 hj1).2
  rw [← (hreg j1 hj1).1] at e2
  by_cases c : x_regs v j1 = 0
  · rw [c, show fn_X2_termOf 0 1 0 = _ from termOf0_0 (o := 1), bsm, if_neg (by decide)]
    rcases e2 with ⟨e, -⟩ | ⟨b, -, -, e, -⟩
    · rw [e]; exact Same1.of
    · rw [c, bB_0] at e; cases e
  · obtain ⟨m, hm⟩ := Ld.ex (o := 1) (by decide) c
    rw [show fn_X2_termOf (x_regs v j1) 1 0 = _ from termOf0_eq (o := 1) (by decide) hm, bsm, if_pos (nI_pos' (by have := hm.1; omega)), bc32_eq m hm.1, bsm]
    have lt : ∀ j, bB (x_regs v j1) j = true → j < 2 ^ n := fun j hj => by
      rcases Nat.lt_or_ge j (2 ^ n) with c | c
      · exact c
      · rw [hq j c] at hj; cases hj
    rcases e2 with ⟨-, e⟩ | ⟨b, e, q1, q2, q3⟩
    · have := hm.2.1
      rw [e m (lt m this)] at this
      cases this
    · have d1 := q3 m (lt m hm.2.1) hm.2.1
      have d2 := ps_deg m hm.1 b (by omega) (hm.2.2 b (by omega) q2)
      rw [e, show popc b = popc m by omega]
      exact Same1.of
