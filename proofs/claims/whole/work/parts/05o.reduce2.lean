/-! reduction: the class's one pass and the reference's loop -/
def LdX (o : Nat) (q : Int64) (x : Int32) : Prop := (q = 0 ∧ x = -4) ∨ ∃ l, Ld o q l ∧ x = nI l
theorem findLeading_loop {o : Nat} (ho : o < 3) : ∀ d r f (v : XS), r + d = 8 → d < f → ∃ g : Nat → Int32, (∀ j, r ≤ j → j < 8 → LdX o (x_regs v j) (g j)) ∧ (∀ j, j < r → g j = x_lead v j) ∧ fn_X6_findLeading_2 f v (nI o) (nI r) = some (xs_lead v g) := by
  intro d
  induction d with
  | zero =>
    intro r f v h hf
    obtain ⟨f, rfl⟩ : ∃ g, f = g + 1 := ⟨f - 1, by omega⟩
    refine ⟨x_lead v, fun j h1 h2 => by omega, fun j _ => rfl, ?_⟩
    unfold fn_X6_findLeading_2 fn_X6_findLeading_2_body
    rw [if_pos (show (8 : Int32) ≤ nI r from nI_le (a := 8) (by omega) (by omega))]
  | succ d ih =>
    intro r f v h hf
    obtain ⟨f, rfl⟩ : ∃ g, f = g + 1 := ⟨f - 1, by omega⟩
    have hr : r < 8 := by omega
    unfold fn_X6_findLeading_2 fn_X6_findLeading_2_body
    rw [if_neg (show ¬ (8 : Int32) ≤ nI r from nI_ge (b := 8) (by omega) (by omega)), rd_eq _ hr (by decide), bsm, nI_1]
    obtain ⟨x, ex, hx⟩ : ∃ x, fn_X2_termOf (x_regs v r) (nI o) 0 = some x ∧ LdX o (x_regs v r) x := by
      by_cases c : x_regs v r = 0
      · exact ⟨-4, by rw [c]; exact termOf0_0, Or.inl ⟨c, rfl⟩⟩
      · obtain ⟨m, hm⟩ := Ld.ex ho c
        exact ⟨nI m, termOf0_eq ho hm, Or.inr ⟨m, hm, rfl⟩⟩
    rw [ex, bsm, wrI_eq _ _ hr (by decide), bsm]
    obtain ⟨g, h1, h2, h3⟩ := ih (r + 1) f (xs_lead v (upd (x_lead v) r x)) (by omega) (by omega)
    refine ⟨g, fun j a b => ?_, fun j a => ?_, h3⟩
    · rcases Nat.lt_or_ge r j with c | c
      · exact h1 j (by omega) b
      · have : j = r := by omega
        subst this
        rw [h2 j (by omega)]
        show LdX o (x_regs v j) (upd (x_lead v) j x j)
        rw [pk_us]
        exact hx
    · rw [h2 j (by omega)]
      exact pk_un (by omega)
theorem sub0 : ∀ l, l < 64 → ∀ m, m < 64 → (nI l &&& (nI m ^^^ (-1)) = 0 ↔ l &&& m = l) := by decide +kernel
theorem sub1 : ∀ m, m < 64 → ∀ l, l < 64 → nI m &&& (nI l ^^^ (-1)) = nI (m &&& (63 - l)) := by decide +kernel
theorem taker_loop {v : XS} {w : YS} {n o S m : Nat} (hn : n ≤ 6) (hw : y_n w = nI n) (ho : o < 3) (hS : S < 256) (hm : m < 64) (hb : ∀ j, j < 8 → x_regs v j = y_by w j ∧ wf n (x_regs v j)) (hL : ∀ j, j < 8 → LdX o (x_regs v j) (x_lead v j)) : ∀ d r f, r + d = 8 → d < f → (fn_X6_reducerOf_2 v f (nI m) (nI S) (nI r) = some (-4) ∧ fn_X7_taker_3 w f (nI S) (nI o) (nI m) (nI r) = some (-1)) ∨ ∃ r0 l, r0 < 8 ∧ Ld o (x_regs v r0) l ∧ x_lead v r0 = nI l ∧ l &&& m = l ∧ fn_X6_reducerOf_2 v f (nI m) (nI S) (nI r) = some (nI r0) ∧ fn_X7_taker_3 w f (nI S) (nI o) (nI m) (nI r) = some (nI r0) := by
  intro d
  induction d with
  | zero =>
    intro r f h hf
    obtain ⟨f, rfl⟩ : ∃ g, f = g + 1 := ⟨f - 1, by omega⟩
    refine Or.inl ⟨?_, ?_⟩
    · unfold fn_X6_reducerOf_2 fn_X6_reducerOf_2_body
      rw [if_pos (show (8 : Int32) ≤ nI r from nI_le (a := 8) (by omega) (by omega))]
    · unfold fn_X7_taker_3 fn_X7_taker_3_body
      rw [if_pos (show (8 : Int32) ≤ nI r from nI_le (a := 8) (by omega) (by omega))]
  | succ d ih =>
    intro r f h hf
    obtain ⟨f, rfl⟩ : ∃ g, f = g + 1 := ⟨f - 1, by omega⟩
    have hr : r < 8 := by omega
    have hih := ih (r + 1) f (by omega) (by omega)
    obtain ⟨e, hq⟩ := hb r hr
    unfold fn_X6_reducerOf_2 fn_X6_reducerOf_2_body fn_X7_taker_3 fn_X7_taker_3_body
    have n8 : ¬ (8 : Int32) ≤ nI r := nI_ge (b := 8) (by omega) (by omega)
    rw [if_neg n8, if_neg n8, isIn_eq hS hr, isr_set S hS r hr, bsm, rd_eq (x_lead v) hr (by decide), bsm, bsm, rd_eq (y_by w) hr (by decide), bsm, bsm, nI_1, ← e]
    cases eS : S.testBit r
    · simp only [Bool.false_eq_true, if_false, if_true]
      rw [if_neg (show ¬ (0 : Int32) = 1 by decide)]
      exact hih
    · simp only [if_true, i10, if_false]
      rcases hL r hr with ⟨c1, c2⟩ | ⟨l, c1, c2⟩
      · rw [c2, if_pos (by decide), if_pos c1]
        exact hih
      · have hl := c1.1
        rw [c2, if_neg (nI_pos (by omega)), if_neg c1.ne, leads_eq hn hw ho hq c1, bsm]
        by_cases c : nI l &&& (nI m ^^^ (-1)) = 0
        · rw [if_pos c, if_pos c]
          exact Or.inr ⟨r, l, hr, c1, c2, (sub0 l hl m hm).mp c, rfl, rfl⟩
        · rw [if_neg c, if_neg c]
          exact hih
theorem red_loop {v : XS} {w : YS} {n o S t : Nat} (hn : n ≤ 6) (hv : x_n v = nI n) (hw : y_n w = nI n) (ho : o < 3) (hS : S < 256) (hb : ∀ j, j < 8 → x_regs v j = y_by w j ∧ wf n (x_regs v j)) (hL : ∀ j, j < 8 → LdX o (x_regs v j) (x_lead v j)) : ∀ d p f f' (q kept : Int64) (st : Nat), p + d = 64 → d < f → d < f' → wf n q → (∀ i, i < p → bB q (tb o i) = true → bB kept (tb o i) = true) → (∀ i, p ≤ i → i < 64 → bB kept (tb o i) = false) → ∃ q' st', fn_X6_reduce_50 f v (nI S) (nI o) (nI t) q (nI st) (nI p) = ((fn_X6_put v (nI t) q').bind fun z => some (nI st', z.2)) ∧ fn_X7_reduce_75 f' w (nI S) (nI o) (nI t) q kept (nI st) = ((fn_X7_gets w (nI t) q').bind fun z => some (nI st', z.2)) ∧ wf n q' := by
  have h64 := p2_le hn
  intro d
  induction d with
  | zero =>
    intro p f f' q kept st h hf hf' hq hlo hhi
    obtain ⟨f, rfl⟩ : ∃ g, f = g + 1 := ⟨f - 1, by omega⟩
    obtain ⟨f', rfl⟩ : ∃ g, f' = g + 1 := ⟨f' - 1, by omega⟩
    refine ⟨q, st, ?_, ?_, hq⟩
    · unfold fn_X6_reduce_50 fn_X6_reduce_50_body
      rw [if_pos (show (64 : Int32) ≤ nI p from nI_le (a := 64) (by omega) (by omega))]
    · unfold fn_X7_reduce_75 fn_X7_reduce_75_body
      rw [if_pos]
      apply bB_ext
      intro i hi
      rw [bB_0, bB_and, bB_not _ hi]
      cases e : bB q i
      · rfl
      · have := hlo (ps o i) (by have := ps_lt o i; omega) (by rw [tb_ps o ho i hi]; exact e)
        rw [tb_ps o ho i hi] at this
        rw [this]
        rfl
  | succ d ih =>
    intro p f f' q kept st h hf hf' hq hlo hhi
    obtain ⟨f, rfl⟩ : ∃ g, f = g + 1 := ⟨f - 1, by omega⟩
    have hp : p < 64 := by omega
    have hm := tb_lt o p
    have n64 : ¬ (64 : Int32) ≤ nI p := nI_ge (b := 64) (by omega) (by omega)
    have r4 : fn_X6_isRegister (-4) = some 0 := by decide
    rw [fn_X6_reduce_50]
    unfold fn_X6_reduce_50_body fn_X6_reduce_88
    rw [if_neg n64, monomialAt_eq o ho p hp, bsm, bit_eq q hm, bsm, r4, bsm, nI_1 p]
    cases e : bB q (tb o p)
    · simp only [Bool.false_eq_true, if_false, if_true]
      rw [if_neg (show ¬ (0 : Int32) = 1 by decide)]
      refine ih (p + 1) f f' q kept st (by omega) (by omega) (by omega) hq (fun i hi hb2 => ?_) (fun i h1 h2 => hhi i (by omega) h2)
      rcases Nat.lt_or_ge i p with c | c
      · exact hlo i c hb2
      · rw [show i = p by omega, e] at hb2
        cases hb2
    · simp only [if_true]
      have hmn : tb o p < 2 ^ n := by
        rcases Nat.lt_or_ge (tb o p) (2 ^ n) with c | c
        · exact c
        · rw [hq _ c] at e; cases e
      have hkp := hhi p (Nat.le_refl _) hp
      have hbit : bB (q &&& (kept ^^^ (-1))) (tb o p) = true := by rw [bB_and, bB_not _ hm, e, hkp]; rfl
      have hld : Ld o (q &&& (kept ^^^ (-1))) (tb o p) := by
        refine ⟨hm, hbit, fun j hj hjb => ?_⟩
        rw [ps_tb o ho p hp]
        rcases Nat.lt_or_ge (ps o j) p with c | c
        · rw [bB_and, bB_not _ hj] at hjb
          have e1 : bB q j = true := by cases z : bB q j <;> rw [z] at hjb <;> first | rfl | cases hjb
          have := hlo (ps o j) c (by rw [tb_ps o ho j hj]; exact e1)
          rw [tb_ps o ho j hj] at this
          rw [this, e1] at hjb
          cases hjb
        · exact c
      obtain ⟨f', rfl⟩ : ∃ g, f' = g + 1 := ⟨f' - 1, by omega⟩
      rw [fn_X7_reduce_75]
      unfold fn_X7_reduce_75_body
      rw [if_neg hld.ne, leads_eq hn hw ho (wf_and hq) hld, bsm]
      unfold fn_X6_reducerOf fn_X7_taker
      rcases taker_loop hn hw ho hS hm hb hL 8 0 FU (by omega) (by unfold FU; omega) with ⟨a1, a2⟩ | ⟨r0, l, hr0, hl, exl, hsub, a1, a2⟩
      · rw [show fn_X6_reducerOf_2 v FU (nI (tb o p)) (nI S) 0 = _ from a1, show fn_X7_taker_3 w FU (nI S) (nI o) (nI (tb o p)) 0 = _ from a2, bsm, bsm, r4, bsm, if_neg (show ¬ (0 : Int32) ≤ -1 by decide)]
        simp only [if_true]
        refine ih (p + 1) f f' q _ st (by omega) (by omega) (by omega) hq (fun i hi hb2 => ?_) (fun i h1 h2 => ?_)
        · rw [bB_or, bB_e hm (tb_lt o i)]
          rcases Nat.lt_or_ge i p with c | c
          · rw [hlo i c hb2]; rfl
          · rw [show i = p by omega]; simp
        · rw [bB_or, bB_e hm (tb_lt o i), hhi i (by omega) h2]
          have : ¬ tb o i = tb o p := fun z => by
            have e1 := ps_tb o ho i h2
            rw [z, ps_tb o ho p hp] at e1
            omega
          simp [this]
      · obtain ⟨eb, hg⟩ := hb r0 hr0
        have rr : fn_X6_isRegister (nI r0) = some 1 := x_in (N := 8) hr0 (by decide)
        rw [show fn_X6_reducerOf_2 v FU (nI (tb o p)) (nI S) 0 = _ from a1, show fn_X7_taker_3 w FU (nI S) (nI o) (nI (tb o p)) 0 = _ from a2, bsm, bsm, rr, bsm, if_pos (nI_pos' (n := r0) (by omega)), rd_eq (x_lead v) hr0 (by decide), bsm, rd_eq (x_regs v) hr0 (by decide), bsm, rd_eq (y_by w) hr0 (by decide), bsm, ← eb, leads_eq hn hw ho hg hl, bsm, bsm, exl, sub1 _ hm l hl.1]
        rw [show fn_X3_ofMonomial (nI (tb o p &&& (63 - l))) = some (lsh 1 (nI (tb o p &&& (63 - l)))) from rfl, bsm, hv, multiplied_eq hn, bsm]
        have hfl : tb o p &&& (63 - l) < 2 ^ n := Nat.lt_of_le_of_lt Nat.and_le_left hmn
        rw [product1_eq hn hw (wf_e hn hfl) hg, bsm, ml_comm n (x_regs v r0), nI_1 st]
        simp only [i10, if_false]
        refine ih (p + 1) f f' _ kept (st + 1) (by omega) (by omega) (by omega) (wf_xor hq (ml_wf hn _ (wf_e hn hfl))) (fun i hi hb2 => ?_) (fun i h1 h2 => hhi i (by omega) h2)
        have hpp := ps_tb o ho p hp
        rw [bB_xor, step_bit hn ho hmn hg hl hsub (p := i) (by omega), hpp] at hb2
        rcases Nat.lt_or_ge i p with c | c
        · rw [decide_eq_false (by omega), Bool.xor_false] at hb2
          exact hlo i c hb2
        · have ei : i = p := by omega
          rw [ei, e] at hb2
          simp at hb2
theorem redY_copy {x1 x2 x3 x4 : Int32} : ∀ d k f (w : YS), k + d = 8 → d < f → ∃ g : Nat → Int64, (∀ j, k ≤ j → j < 8 → g j = y_p w j) ∧ (∀ j, j < k → g j = y_by w j) ∧ fn_X7_reduce_34 f w x1 x2 x3 x4 (nI k) = ((rd (y_p w) 8 x1).bind fun q66 => fn_X7_reduce_75 FU (ys_by w g) x2 x3 x4 q66 0 0) := by
  intro d
  induction d with
  | zero =>
    intro k f w h hf
    obtain ⟨f, rfl⟩ : ∃ g, f = g + 1 := ⟨f - 1, by omega⟩
    refine ⟨y_by w, fun j h1 h2 => by omega, fun j _ => rfl, ?_⟩
    unfold fn_X7_reduce_34 fn_X7_reduce_34_body
    rw [if_pos (show (8 : Int32) ≤ nI k from nI_le (a := 8) (by omega) (by omega))]
  | succ d ih =>
    intro k f w h hf
    obtain ⟨f, rfl⟩ : ∃ g, f = g + 1 := ⟨f - 1, by omega⟩
    have hk : k < 8 := by omega
    rw [fn_X7_reduce_34]
    unfold fn_X7_reduce_34_body
    rw [if_neg (show ¬ (8 : Int32) ≤ nI k from nI_ge (b := 8) (by omega) (by omega)), rd_eq (y_p w) hk (by decide), bsm, wrL_eq _ _ hk (by decide), bsm, nI_1]
    obtain ⟨g, h1, h2, h3⟩ := ih (k + 1) f (ys_by w (vp_updL (y_by w) k (y_p w k))) (by omega) (by omega)
    refine ⟨g, fun j a b => ?_, fun j a => ?_, h3⟩
    · rcases Nat.lt_or_ge k j with c | c
      · exact h1 j (by omega) b
      · have : j = k := by omega
        subst this
        rw [h2 j (by omega)]
        exact pk_uLs
    · rw [h2 j (by omega)]
      exact pk_uLn (by omega)
theorem m_reduce {n kp ln : Nat} {v : XS} {w : YS} (h : Rl n kp ln v w) (x1 x2 x3 x4 : Int32) : Same2 (fn_X6_reduce v x1 x2 x3 x4) (fn_X7_reduce w x1 x2 x3 x4) := by
  have hrel : Rel v w := ⟨n, kp, ln, h⟩
  obtain ⟨⟨h1, h6⟩, hxn, hyn, hreg, hkp, hxk, hyk, hh, hln, hxl, hyl, htx⟩ := id h
  unfold fn_X6_reduce fn_X7_reduce
  rcases reg_c x1 with ⟨a1, b1⟩ | ⟨j1, hj1, ej1, a1, b1⟩
  · simp only [a1, b1, bsm, i00, if_true]
    exact Same2.of hrel
  rcases set_c x2 with ⟨a2, b2⟩ | ⟨S, hS, ej2, a2, b2⟩
  · simp only [a1, b1, a2, b2, bsm, i10, i00, if_true, if_false]
    exact Same2.of hrel
  rcases ord_c x3 with ⟨a3, b3⟩ | ⟨o, ho, ej3, a3, b3⟩
  · simp only [a1, b1, a2, b2, a3, b3, bsm, i10, i00, if_true, if_false]
    exact Same2.of hrel
  rcases reg_c x4 with ⟨a4, b4⟩ | ⟨j4, hj4, ej4, a4, b4⟩
  · simp only [a1, b1, a2, b2, a3, b3, a4, b4, bsm, i10, i00, if_true, if_false]
    exact Same2.of hrel
  simp only [a1, b1, a2, b2, a3, b3, a4, b4, bsm, i10, if_false]
  subst ej1
  subst ej2
  subst ej3
  subst ej4
  unfold fn_X6_findLeading
  obtain ⟨g, g1, -, g2⟩ := findLeading_loop ho 8 0 FU v (by omega) (by unfold FU; omega)
  rw [show fn_X6_findLeading_2 FU v (nI o) 0 = _ from g2, bsm]
  obtain ⟨gy, y1, -, y2⟩ := redY_copy (x1 := nI j1) (x2 := nI S) (x3 := nI o) (x4 := nI j4) 8 0 FU w (by omega) (by unfold FU; omega)
  rw [show fn_X7_reduce_34 FU w (nI j1) (nI S) (nI o) (nI j4) 0 = _ from y2, rd_eq (y_p w) hj1 (by decide), bsm, show rd (x_regs (xs_lead v g)) 8 (nI j1) = some (x_regs v j1) from rd_eq (x_regs v) hj1 (by decide), bsm, ← (hreg j1 hj1).1]
  obtain ⟨q', st', r1, r2, r3⟩ := red_loop (v := xs_lead v g) (w := ys_by w gy) (t := j4) h6 hxn hyn ho hS (fun j hj => ⟨by rw [show y_by (ys_by w gy) j = gy j from rfl, y1 j (by omega) hj]; exact (hreg j hj).1, (hreg j hj).2⟩) (fun j hj => g1 j (by omega) hj) 64 0 FU FU (x_regs v j1) 0 0 (by omega) (by unfold FU; omega) (by unfold FU; omega) (hreg j1 hj1).2 (fun i hi => by omega) (fun i _ _ => bB_0 _)
  rw [show fn_X6_reduce_50 FU (xs_lead v g) (nI S) (nI o) (nI j4) (x_regs v j1) 0 0 = _ from r1, show fn_X7_reduce_75 FU (ys_by w gy) (nI S) (nI o) (nI j4) (x_regs v j1) 0 0 = _ from r2]
  obtain ⟨v', w', e1, e2, hr⟩ := put_ok (v := xs_lead v g) (w := ys_by w gy) (show Rl n kp ln (xs_lead v g) (ys_by w gy) from h) hj4 r3
  rw [e1, e2, bsm, bsm]
  exact ⟨_, _, _, rfl, rfl, hr⟩
