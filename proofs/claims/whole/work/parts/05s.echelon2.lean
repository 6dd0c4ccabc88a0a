/-! echelon: both sides -/
def EI (n S o : Nat) (u g b : Nat → Int64) (p dn' fr : Nat) : Prop := (∀ r, r < 8 → S.testBit r = true → g r = b (ct S r)) ∧ (∀ r, r < 8 → S.testBit r = false → g r = u r) ∧ (∀ r, r < 8 → wf n (g r)) ∧ (fr ≤ 8 ∧ ct S fr = dn' ∧ (fr < 8 → S.testBit fr = true)) ∧ (∀ r, r < 8 → S.testBit r = true → fr ≤ r → ∀ i, i < p → bB (g r) (tb o i) = false)
theorem ct_le_of {S fr r : Nat} (hr : S.testBit r = true) (h : ct S fr ≤ ct S r) : fr ≤ r := by
  rcases Nat.lt_or_ge r fr with z | z
  · have := ct_lt z hr
    omega
  · exact z
theorem EI.row {n S o p dn' fr k : Nat} {u g b : Nat → Int64} (h : EI n S o u g b p dn' fr) (hk : k < ct S 8) : ∃ r, r < 8 ∧ S.testBit r = true ∧ ct S r = k ∧ g r = b k := by
  obtain ⟨r, h1, h2, h3⟩ := fb_ct_kth (p := S.testBit) (n := 8) hk
  exact ⟨r, h1, h2, h3, by rw [h.1 r h1 h2, show ct S r = k from h3]⟩
theorem ech_end {n kp ln : Nat} {v : XS} {w : YS} (h : Rl n kp ln v w) {S o p dn' fr f : Nat} {g b : Nat → Int64} (hS : S < 256) (ho : o < 3) (hf : 2 ≤ f) (he : EI n S o (y_p w) g b p dn' fr) (hz : ∀ r, r < 8 → S.testBit r = true → fr ≤ r → g r = 0) : ∃ w', fn_X7_echelon_70 f (ys_by w b) (nI S) (nI o) (nI (ct S 8)) (nI dn') 1 = some (nI dn', w') ∧ Rel (xs_regs v g) w' := by
  obtain ⟨⟨h1, h6⟩, hxn, hyn, hreg, hkp, hxk, hyk, hh, hln, hxl, hyl, htx⟩ := id h
  obtain ⟨f, rfl⟩ : ∃ g, f = g + 2 := ⟨f - 2, by omega⟩
  have hct := ct_8 S
  have hdn : dn' ≤ ct S 8 := by
    rw [← he.2.2.2.1.2.1]
    exact ct_mono he.2.2.2.1.1
  have hbw : ∀ k, k < ct S 8 → wf n (b k) := fun k hk => by
    obtain ⟨r, r1, r2, r3, r4⟩ := he.row hk
    rw [← r4]
    exact he.2.2.1 r r1
  have hbz : ∀ k, dn' ≤ k → k < ct S 8 → b k = 0 := fun k h1 hk => by
    obtain ⟨r, r1, r2, r3, r4⟩ := he.row hk
    rw [← r4]
    exact hz r r1 r2 (ct_le_of r2 (by rw [he.2.2.2.1.2.1, r3]; exact h1))
  rw [fn_X7_echelon_70]
  unfold fn_X7_echelon_70_body
  rw [if_neg (show ¬ (1 : Int32) = 0 by decide)]
  rcases best_loop (w := w) (S := S) (dn' := dn') h6 hyn ho hct b hbw (fn_X7_echelon_70 (f + 1)) (ct S 8 - dn') dn' FU (-1) (by omega) (by unfold FU; omega) (Nat.le_refl _) (Or.inl ⟨rfl, fun j a c => by omega⟩) with ⟨e, -⟩ | ⟨b0, l0, -, e2, e3, e4, -⟩
  · rw [e]
    unfold fn_X7_echelon_159
    rw [if_pos rfl, fn_X7_echelon_70]
    unfold fn_X7_echelon_70_body
    rw [if_pos rfl]
    obtain ⟨p', q1, q2⟩ := back_loop (w := w) (S := S) (dn' := dn') hS (by omega) b 8 0 FU (y_p w) (by omega) (by unfold FU; omega)
    refine ⟨_, q1, n, kp, ln, ⟨h1, h6⟩, hxn, hyn, fun j hj => ⟨?_, he.2.2.1 j hj⟩, hkp, hxk, hyk, hh, hln, hxl, hyl, htx⟩
    show g j = p' j
    rw [q2 j]
    cases e : S.testBit j
    · rw [if_neg (fun z => by cases z.2.2)]
      exact he.2.1 j hj e
    · rw [if_pos ⟨Nat.zero_le _, hj, rfl⟩]
      rcases Nat.lt_or_ge (ct S j) dn' with z | z
      · rw [if_pos z]
        exact he.1 j hj e
      · rw [if_neg (by omega)]
        exact hz j hj e (ct_le_of e (by rw [he.2.2.2.1.2.1]; exact z))
  · exact absurd (hbz b0 e2 e3) e4.ne
theorem EI.zero {n S o dn' fr r : Nat} {u g b : Nat → Int64} (ho : o < 3) (h : EI n S o u g b 64 dn' fr) (hr : r < 8) (h1 : S.testBit r = true) (h2 : fr ≤ r) : g r = 0 := by
  apply bB_ext
  intro i hi
  have := h.2.2.2.2 r hr h1 h2 (ps o i) (ps_lt o i)
  rw [tb_ps o ho i hi] at this
  rw [this, bB_0]
theorem EI.low {n S o p dn' fr r l : Nat} {u g b : Nat → Int64} (ho : o < 3) (h : EI n S o u g b p dn' fr) (hr : r < 8) (h1 : S.testBit r = true) (h2 : fr ≤ r) (hl : l < 64) (hb : bB (g r) l = true) : p ≤ ps o l := by
  rcases Nat.lt_or_ge (ps o l) p with z | z
  · have := h.2.2.2.2 r hr h1 h2 (ps o l) z
    rw [tb_ps o ho l hl, hb] at this
    cases this
  · exact z
theorem EI.skip {n S o p dn' fr : Nat} {u g b : Nat → Int64} (h : EI n S o u g b p dn' fr) (hz : ∀ i, fr ≤ i → i < 8 → S.testBit i = true → bB (g i) (tb o p) = false) : EI n S o u g b (p + 1) dn' fr := by
  refine ⟨h.1, h.2.1, h.2.2.1, h.2.2.2.1, fun r h1 h2 h3 i hi => ?_⟩
  rcases Nat.lt_or_ge i p with z | z
  · exact h.2.2.2.2 r h1 h2 h3 i z
  · rw [show i = p by omega]
    exact hz r h3 h1 h2
theorem EI.step {n S o p dn' fr r1 r' : Nat} {u g b g2 b2 : Nat → Int64} (h : EI n S o u g b p dn' fr) (hfr : fr < 8) (hr1 : fr ≤ r1) (hr8 : r1 < 8) (hs : S.testBit r1 = true) (hb : bB (g r1) (tb o p) = true) (hn1 : fr + 1 ≤ r') (hn2 : r' ≤ 8) (hn3 : ct S r' = ct S (fr + 1)) (hn4 : r' < 8 → S.testBit r' = true)
    (hg : ∀ i, g2 i = if 0 ≤ i ∧ i < 8 ∧ i ≠ fr ∧ S.testBit i = true ∧ bB (vp_updL (vp_updL g r1 (g fr)) fr (g r1) i) (tb o p) = true then vp_updL (vp_updL g r1 (g fr)) fr (g r1) i ^^^ vp_updL (vp_updL g r1 (g fr)) fr (g r1) fr else vp_updL (vp_updL g r1 (g fr)) fr (g r1) i)
    (hb2 : ∀ i, b2 i = if 0 ≤ i ∧ i < ct S 8 ∧ i ≠ dn' ∧ bB (vp_updL (vp_updL b (ct S r1) (b dn')) dn' (b (ct S r1)) i) (tb o p) = true then vp_updL (vp_updL b (ct S r1) (b dn')) dn' (b (ct S r1)) i ^^^ b (ct S r1) else vp_updL (vp_updL b (ct S r1) (b dn')) dn' (b (ct S r1)) i) : EI n S o u g2 b2 (p + 1) (dn' + 1) r' := by
  obtain ⟨k1, k2, k3, ⟨k4, k5, k6⟩, k7⟩ := id h
  have hsf := k6 hfr
  have G0 : vp_updL (vp_updL g r1 (g fr)) fr (g r1) fr = g r1 := pk_uLs
  have G1 : ∀ r, r ≠ fr → vp_updL (vp_updL g r1 (g fr)) fr (g r1) r = if r = r1 then g fr else g r := fun r hr => by
    rw [pk_uLn hr]
    by_cases c : r = r1
    · rw [if_pos c, c]; exact pk_uLs
    · rw [if_neg c]; exact pk_uLn c
  have B0 : vp_updL (vp_updL b (ct S r1) (b dn')) dn' (b (ct S r1)) dn' = g r1 := by
    rw [k1 r1 hr8 hs]; exact pk_uLs
  have GB : ∀ r, r < 8 → S.testBit r = true → vp_updL (vp_updL g r1 (g fr)) fr (g r1) r = vp_updL (vp_updL b (ct S r1) (b dn')) dn' (b (ct S r1)) (ct S r) := fun r hr hsr => by
    by_cases c : r = fr
    · rw [c, k5, G0, B0]
    · have c2 : ct S r ≠ dn' := fun z => c (ct_inj hsr hsf (by rw [z, k5]))
      rw [G1 r c, pk_uLn c2]
      by_cases c3 : r = r1
      · rw [if_pos c3, c3, k1 fr hfr hsf, k5]
        exact pk_uLs.symm
      · rw [if_neg c3, k1 r hr hsr]
        exact (pk_uLn (fun z => c3 (ct_inj hsr hs z))).symm
  have hq : b (ct S r1) = g r1 := (k1 r1 hr8 hs).symm
  refine ⟨fun r hr hsr => ?_, fun r hr hsr => ?_, fun r hr => ?_, ⟨hn2, by rw [hn3, ct_s hsf, k5], hn4⟩, fun r hr hsr hge i hi => ?_⟩
  · rw [hg r, hb2 (ct S r), ← GB r hr hsr, G0, hq]
    by_cases c : 0 ≤ r ∧ r < 8 ∧ r ≠ fr ∧ S.testBit r = true ∧ bB (vp_updL (vp_updL g r1 (g fr)) fr (g r1) r) (tb o p) = true
    · rw [if_pos c, if_pos ⟨Nat.zero_le _, ct_lt hr hsr, fun z => c.2.2.1 (ct_inj hsr hsf (by rw [z, k5])), c.2.2.2.2⟩]
    · rw [if_neg c, if_neg (fun z => c ⟨Nat.zero_le _, hr, fun q => z.2.2.1 (by rw [q, k5]), hsr, z.2.2.2⟩)]
  · have c1 : r ≠ fr := fun z => by rw [z, hsf] at hsr; cases hsr
    have c2 : r ≠ r1 := fun z => by rw [z, hs] at hsr; cases hsr
    rw [hg r, if_neg (fun z => by rw [hsr] at z; cases z.2.2.2.1), G1 r c1, if_neg c2]
    exact k2 r hr hsr
  · have w1 : wf n (vp_updL (vp_updL g r1 (g fr)) fr (g r1) r) := by
      by_cases c : r = fr
      · rw [c, G0]; exact k3 r1 hr8
      · rw [G1 r c]
        by_cases c2 : r = r1
        · rw [if_pos c2]; exact k3 fr hfr
        · rw [if_neg c2]; exact k3 r hr
    rw [hg r, G0]
    split
    · exact wf_xor w1 (k3 r1 hr8)
    · exact w1
  · have c1 : r ≠ fr := by omega
    have low : ∀ j, j < p → bB (vp_updL (vp_updL g r1 (g fr)) fr (g r1) r) (tb o j) = false := fun j hj => by
      rw [G1 r c1]
      by_cases c2 : r = r1
      · rw [if_pos c2]; exact k7 fr hfr hsf (Nat.le_refl _) j hj
      · rw [if_neg c2]; exact k7 r hr hsr (by omega) j hj
    rw [hg r, G0]
    by_cases c : 0 ≤ r ∧ r < 8 ∧ r ≠ fr ∧ S.testBit r = true ∧ bB (vp_updL (vp_updL g r1 (g fr)) fr (g r1) r) (tb o p) = true
    · rw [if_pos c, bB_xor]
      rcases Nat.lt_or_ge i p with z | z
      · rw [low i z, k7 r1 hr8 hs hr1 i z]; rfl
      · rw [show i = p by omega, c.2.2.2.2, hb]; rfl
    · rw [if_neg c]
      rcases Nat.lt_or_ge i p with z | z
      · exact low i z
      · rw [show i = p by omega]
        cases e : bB (vp_updL (vp_updL g r1 (g fr)) fr (g r1) r) (tb o p)
        · rfl
        · exact absurd ⟨Nat.zero_le _, hr, c1, hsr, e⟩ c
theorem ech_Y {n kp ln : Nat} {v : XS} {w : YS} (h : Rl n kp ln v w) {S o p dn' fr f r1 : Nat} {g b : Nat → Int64} (ho : o < 3) (hp : p < 64) (he : EI n S o (y_p w) g b p dn' fr) (hfr : fr < 8) (hr1 : fr ≤ r1) (hr8 : r1 < 8) (hs : S.testBit r1 = true) (hb : bB (g r1) (tb o p) = true) (hmin : ∀ i, fr ≤ i → i < r1 → S.testBit i = true → bB (g i) (tb o p) = false) : ∃ b2 : Nat → Int64, fn_X7_echelon_70 (f + 1) (ys_by w b) (nI S) (nI o) (nI (ct S 8)) (nI dn') 1 = fn_X7_echelon_70 f (ys_by w b2) (nI S) (nI o) (nI (ct S 8)) (nI (dn' + 1)) 1 ∧ ∀ i, b2 i = if 0 ≤ i ∧ i < ct S 8 ∧ i ≠ dn' ∧ bB (vp_updL (vp_updL b (ct S r1) (b dn')) dn' (b (ct S r1)) i) (tb o p) = true then vp_updL (vp_updL b (ct S r1) (b dn')) dn' (b (ct S r1)) i ^^^ b (ct S r1) else vp_updL (vp_updL b (ct S r1) (b dn')) dn' (b (ct S r1)) i := by
  obtain ⟨⟨h1, h6⟩, hxn, hyn, hreg, hkp, hxk, hyk, hh, hln, hxl, hyl, htx⟩ := id h
  have hct := ct_8 S
  have hk5 := he.2.2.2.1.2.1
  have hsf := he.2.2.2.1.2.2 hfr
  have hdn : dn' < ct S 8 := by
    rw [← hk5]
    exact ct_lt hfr hsf
  have hk0 : ct S r1 < ct S 8 := ct_lt hr8 hs
  have hd0 : dn' ≤ ct S r1 := by
    rw [← hk5]
    exact ct_mono hr1
  have hbw : ∀ k, k < ct S 8 → wf n (b k) := fun k hk => by
    obtain ⟨r, r1, r2, r3, r4⟩ := he.row hk
    rw [← r4]
    exact he.2.2.1 r r1
  have hq : b (ct S r1) = g r1 := (he.1 r1 hr8 hs).symm
  have hm := tb_lt o p
  have hps := ps_tb o ho p hp
  have hLd : Ld o (b (ct S r1)) (tb o p) := by
    rw [hq]
    refine ⟨hm, hb, fun j hj hbj => ?_⟩
    rw [hps]
    exact he.low ho hr8 hs hr1 hj hbj
  rw [fn_X7_echelon_70]
  unfold fn_X7_echelon_70_body
  rw [if_neg (show ¬ (1 : Int32) = 0 by decide)]
  rcases best_loop (w := w) (S := S) (dn' := dn') h6 hyn ho hct b hbw (fn_X7_echelon_70 f) (ct S 8 - dn') dn' FU (-1) (by omega) (by unfold FU; omega) (Nat.le_refl _) (Or.inl ⟨rfl, fun j a c => by omega⟩) with ⟨-, e⟩ | ⟨b0, l0, e1, e2, e3, e4, e5⟩
  · exact absurd (e _ hd0 hk0) hLd.ne
  · obtain ⟨r0, q1, q2, q3, q4⟩ := he.row e3
    have hfr0 : fr ≤ r0 := ct_le_of q2 (by rw [hk5, q3]; exact e2)
    have a1 := e5 (ct S r1) (tb o p) hd0 hk0 hLd
    rw [hps] at a1
    have a2 := he.low ho q1 q2 hfr0 e4.1 (by rw [q4]; exact e4.2.1)
    have el : l0 = tb o p := ps_inj ho e4.1 hm (by rw [hps]; omega)
    have er : r0 = r1 := by
      rcases Nat.lt_trichotomy r0 r1 with z | z | z
      · have := hmin r0 hfr0 z q2
        rw [q4, ← el, e4.2.1] at this
        cases this
      · exact z
      · have := ct_lt z hs
        have := a1.2 (by omega)
        omega
    have eb : b0 = ct S r1 := by rw [← q3, er]
    rw [e1, eb]
    unfold fn_X7_echelon_159
    rw [if_neg (show ¬ (1 : Int32) = 0 by decide), show rd (y_by (ys_by w b)) 8 (nI (ct S r1)) = some (b (ct S r1)) from rd_eq b (by omega) (by decide), bsm, show rd (y_by (ys_by w b)) 8 (nI dn') = some (b dn') from rd_eq b (by omega) (by decide), bsm, show wrL (y_by (ys_by w b)) 8 (nI (ct S r1)) (b dn') = some (vp_updL b (ct S r1) (b dn')) from wrL_eq b _ (by omega) (by decide), bsm, wrL_eq _ _ (by omega) (by decide), bsm, leads_eq (n := n) (w := ys_by (ys_by w b) (vp_updL (vp_updL b (ct S r1) (b dn')) dn' (b (ct S r1)))) h6 hyn ho (hbw _ hk0) hLd, bsm]
    obtain ⟨b', z1, z2⟩ := clearY_loop (w := w) (R := ct S 8) (dn' := dn') (m := tb o p) (x1 := nI S) (x2 := nI o) (x5 := 1) hct hdn hm (fn_X7_echelon_70 f) (b (ct S r1)) (ct S 8) 0 FU (vp_updL (vp_updL b (ct S r1) (b dn')) dn' (b (ct S r1))) (by omega) (by unfold FU; omega)
    exact ⟨b', z1, z2⟩
theorem ech_loop {n kp ln : Nat} {v : XS} {w : YS} (h : Rl n kp ln v w) {S o : Nat} (hS : S < 256) (ho : o < 3) : ∀ d p f f' dn' fr (g b : Nat → Int64), p + d = 64 → d < f → ct S 8 + 3 ≤ f' + dn' → EI n S o (y_p w) g b p dn' fr → Same2 (fn_X6_echelon_39 f (xs_regs v g) (nI S) (nI o) (nI fr) (nI dn') (nI p)) (fn_X7_echelon_70 f' (ys_by w b) (nI S) (nI o) (nI (ct S 8)) (nI dn') 1) := by
  intro d
  induction d with
  | zero =>
    intro p f f' dn' fr g b hp hf hf' he
    obtain ⟨f, rfl⟩ : ∃ g, f = g + 1 := ⟨f - 1, by omega⟩
    have e : p = 64 := by omega
    subst e
    have hdn : dn' ≤ ct S 8 := by
      rw [← he.2.2.2.1.2.1]
      exact ct_mono he.2.2.2.1.1
    obtain ⟨w', w1, w2⟩ := ech_end (f := f') h hS ho (by omega) he (fun r a1 a2 a3 => he.zero ho a1 a2 a3)
    rw [fn_X6_echelon_39]
    unfold fn_X6_echelon_39_body
    rw [if_pos (by decide)]
    exact ⟨_, _, _, rfl, w1, w2⟩
  | succ d ih =>
    intro p f f' dn' fr g b hp hf hf' he
    obtain ⟨f, rfl⟩ : ∃ g, f = g + 1 := ⟨f - 1, by omega⟩
    have hdn : dn' ≤ ct S 8 := by
      rw [← he.2.2.2.1.2.1]
      exact ct_mono he.2.2.2.1.1
    have hfr8 := he.2.2.2.1.1
    have hp64 : p < 64 := by omega
    rw [fn_X6_echelon_39]
    unfold fn_X6_echelon_39_body
    rw [if_neg (show ¬ (64 : Int32) ≤ nI p from nI_ge (b := 64) hp64 (by omega))]
    rcases Nat.lt_or_ge fr 8 with hfr | hfr
    · rw [if_neg (show ¬ (8 : Int32) ≤ nI fr from nI_ge (b := 8) hfr (by omega)), monomialAt_eq o ho p hp64, bsm]
      unfold fn_X6_bringUp
      rw [show fn_X6_isRegister (nI fr) = some 1 from x_in (N := 8) hfr (by decide), bsm, if_neg (show ¬ (1 : Int32) = 0 by decide)]
      rcases bring_loop (v := v) (S := S) (fr := fr) hS hfr (tb_lt o p) g (8 - fr) fr FU (by omega) (by unfold FU; omega) with ⟨a1, a2⟩ | ⟨r1, a1, a2, a3, a4, a5, a6⟩
      · rw [a1, bsm, if_pos rfl, nI_1 p]
        exact ih (p + 1) f f' dn' fr g b (by omega) (by omega) hf' (he.skip a2)
      · rw [a6, bsm, if_neg (show ¬ (1 : Int32) = 0 by decide)]
        unfold fn_X6_clearElsewhere
        rw [show fn_X6_isRegister (nI fr) = some 1 from x_in (N := 8) hfr (by decide), bsm, if_neg (show ¬ (1 : Int32) = 0 by decide)]
        obtain ⟨g2, c1, c2⟩ := clear_loop (v := v) (S := S) (pv := fr) hS hfr (tb_lt o p) 8 0 FU (vp_updL (vp_updL g r1 (g fr)) fr (g r1)) (by omega) (by unfold FU; omega)
        rw [show fn_X6_clearElsewhere_11 FU (xs_regs v (vp_updL (vp_updL g r1 (g fr)) fr (g r1))) (nI S) (nI fr) (nI (tb o p)) 0 = _ from c1, bsm]
        obtain ⟨r', n1, n2, n3, n4, n5⟩ := nextOf_loop hS (8 - (fr + 1)) (fr + 1) FU (by omega) (by unfold FU; omega)
        unfold fn_X6_nextOf
        rw [nI_1 fr, n1, bsm, nI_1 dn', nI_1 p]
        obtain ⟨f', rfl⟩ : ∃ g, f' = g + 1 := ⟨f' - 1, by omega⟩
        obtain ⟨b2, b3, b4⟩ := ech_Y (f := f') h ho hp64 he hfr a1 a2 a3 a4 a5
        rw [b3]
        exact ih (p + 1) f f' (dn' + 1) r' g2 b2 (by omega) (by omega) (by omega) (he.step hfr a1 a2 a3 a4 n2 n3 n4 n5 c2 b4)
    · rw [if_pos (show (8 : Int32) ≤ nI fr from nI_le (a := 8) hfr (by omega))]
      obtain ⟨w', w1, w2⟩ := ech_end (f := f') h hS ho (by omega) he (fun r a1 a2 a3 => by omega)
      exact ⟨_, _, _, rfl, w1, w2⟩
theorem m_echelon {n kp ln : Nat} {v : XS} {w : YS} (h : Rl n kp ln v w) (x1 x2 : Int32) : Same2 (fn_X6_echelon v x1 x2) (fn_X7_echelon w x1 x2) := by
  have hrel : Rel v w := ⟨n, kp, ln, h⟩
  unfold fn_X6_echelon fn_X7_echelon
  rcases set_c x1 with ⟨a1, b1⟩ | ⟨S, hS, ej1, a1, b1⟩
  · simp only [a1, b1, bsm, i00, if_true]
    exact Same2.of hrel
  rcases ord_c x2 with ⟨a2, b2⟩ | ⟨o, ho, ej2, a2, b2⟩
  · simp only [a1, b1, a2, b2, bsm, i10, i00, if_true, if_false]
    exact Same2.of hrel
  simp only [a1, b1, a2, b2, bsm, i10, if_false]
  subst ej1
  subst ej2
  obtain ⟨v1, w1, kp', e1, e2, hr, ex, ey⟩ := keep_rec h
  rw [e1, e2, bsm, bsm]
  have hreg := hr.2.2.2.1
  obtain ⟨r', n1, n2, n3, n4, n5⟩ := nextOf_loop hS 8 0 FU (by omega) (by unfold FU; omega)
  unfold fn_X6_nextOf
  rw [show fn_X6_nextOf_2 FU (nI S) 0 = _ from n1, bsm]
  obtain ⟨b', t1, -, t3⟩ := take_loop (w := w1) (x2 := nI o) hS 8 0 FU (y_by w1) (by omega) (by unfold FU; omega)
  rw [show fn_X7_echelon_25 FU w1 (nI S) (nI o) 0 0 = _ from t1]
  have hct := ct_8 S
  exact ech_loop hr hS ho 64 0 FU FU 0 r' (x_regs v1) b' (by omega) (by unfold FU; omega) (by unfold FU; omega) ⟨fun r hr1 hs => by rw [t3 r (Nat.zero_le _) hr1 hs]; exact (hreg r hr1).1, fun r hr1 _ => (hreg r hr1).1, fun r hr1 => (hreg r hr1).2, ⟨n3, n4, n5⟩, fun r _ _ _ i hi => by omega⟩
