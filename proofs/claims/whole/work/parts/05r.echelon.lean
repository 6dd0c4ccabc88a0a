/-! echelon forms -/
def ct (S r : Nat) : Nat := fb_ct (S.testBit) r
theorem ct_s {S r : Nat} (h : S.testBit r = true) : ct S (r + 1) = ct S r + 1 := by
  unfold ct
  rw [fb_ct_succ, h]
  rfl
theorem ct_n {S r : Nat} (h : S.testBit r = false) : ct S (r + 1) = ct S r := by
  unfold ct
  rw [fb_ct_succ, h]
  rfl
theorem ct_mono {S a b : Nat} (h : a ≤ b) : ct S a ≤ ct S b := fb_ct_mono _ h
theorem ct_lt {S a b : Nat} (h : a < b) (ha : S.testBit a = true) : ct S a < ct S b := by
  have := ct_mono (S := S) (show a + 1 ≤ b from h)
  rw [ct_s ha] at this
  omega
theorem ct_inj {S a b : Nat} (ha : S.testBit a = true) (hb : S.testBit b = true) (h : ct S a = ct S b) : a = b := fb_ct_kth_one ha hb h
theorem ct_8 (S : Nat) : ct S 8 ≤ 8 := fb_ct_le _ _
theorem ct_ge {S free r : Nat} (hr : S.testBit r = true) : ct S free ≤ ct S r ↔ free ≤ r ∨ ct S free ≤ ct S r := by
  constructor
  · intro h; exact Or.inr h
  · rintro (h | h)
    · exact ct_mono h
    · exact h
theorem nextOf_loop {S : Nat} (hS : S < 256) : ∀ d i f, i + d = 8 → d < f → ∃ r, fn_X6_nextOf_2 f (nI S) (nI i) = some (nI r) ∧ i ≤ r ∧ r ≤ 8 ∧ ct S r = ct S i ∧ (r < 8 → S.testBit r = true) := by
  intro d
  induction d with
  | zero =>
    intro i f h hf
    obtain ⟨f, rfl⟩ : ∃ g, f = g + 1 := ⟨f - 1, by omega⟩
    refine ⟨i, ?_, Nat.le_refl _, by omega, rfl, fun z => by omega⟩
    rw [fn_X6_nextOf_2]
    unfold fn_X6_nextOf_2_body
    rw [if_pos (show (8 : Int32) ≤ nI i from nI_le (a := 8) (by omega) (by omega))]
  | succ d ih =>
    intro i f h hf
    obtain ⟨f, rfl⟩ : ∃ g, f = g + 1 := ⟨f - 1, by omega⟩
    rw [fn_X6_nextOf_2]
    unfold fn_X6_nextOf_2_body
    rw [if_neg (show ¬ (8 : Int32) ≤ nI i from nI_ge (b := 8) (by omega) (by omega)), isIn_eq hS (by omega), bsm, nI_1]
    cases e : S.testBit i
    · simp only [Bool.false_eq_true, if_false, if_true]
      obtain ⟨r, h1, h2, h3, h4, h5⟩ := ih (i + 1) f (by omega) (by omega)
      exact ⟨r, h1, by omega, h3, by rw [h4, ct_n e], h5⟩
    · simp only [if_true, i10, if_false]
      exact ⟨i, rfl, Nat.le_refl _, by omega, rfl, fun _ => e⟩
theorem bring_loop {v : XS} {S fr m : Nat} (hS : S < 256) (hfr : fr < 8) (hm : m < 64) (g : Nat → Int64) : ∀ d r f, r + d = 8 → d < f → (fn_X6_bringUp_12 f (xs_regs v g) (nI S) (nI fr) (nI m) (nI r) = some (0, xs_regs v g) ∧ ∀ i, r ≤ i → i < 8 → S.testBit i = true → bB (g i) m = false) ∨ ∃ r1, r ≤ r1 ∧ r1 < 8 ∧ S.testBit r1 = true ∧ bB (g r1) m = true ∧ (∀ i, r ≤ i → i < r1 → S.testBit i = true → bB (g i) m = false) ∧ fn_X6_bringUp_12 f (xs_regs v g) (nI S) (nI fr) (nI m) (nI r) = some (1, xs_regs v (vp_updL (vp_updL g r1 (g fr)) fr (g r1))) := by
  intro d
  induction d with
  | zero =>
    intro r f h hf
    obtain ⟨f, rfl⟩ : ∃ g, f = g + 1 := ⟨f - 1, by omega⟩
    refine Or.inl ⟨?_, fun i h1 h2 => by omega⟩
    rw [fn_X6_bringUp_12]
    unfold fn_X6_bringUp_12_body
    rw [if_pos (show (8 : Int32) ≤ nI r from nI_le (a := 8) (by omega) (by omega))]
  | succ d ih =>
    intro r f h hf
    obtain ⟨f, rfl⟩ : ∃ g, f = g + 1 := ⟨f - 1, by omega⟩
    have hr : r < 8 := by omega
    have hih := ih (r + 1) f (by omega) (by omega)
    rw [fn_X6_bringUp_12]
    unfold fn_X6_bringUp_12_body
    rw [if_neg (show ¬ (8 : Int32) ≤ nI r from nI_ge (b := 8) (by omega) (by omega)), isIn_eq hS hr, bsm, nI_1, show rd (x_regs (xs_regs v g)) 8 (nI r) = some (g r) from rd_eq g hr (by decide), bsm, bit_eq _ hm, bsm, bsm, show rd (x_regs (xs_regs v g)) 8 (nI fr) = some (g fr) from rd_eq g hfr (by decide), bsm, show wrL (x_regs (xs_regs v g)) 8 (nI r) (g fr) = some (vp_updL g r (g fr)) from wrL_eq g _ hr (by decide), bsm, wrL_eq _ _ hfr (by decide), bsm]
    have skip : (S.testBit r = true → bB (g r) m = false) → (fn_X6_bringUp_12 f (xs_regs v g) (nI S) (nI fr) (nI m) (nI (r + 1)) = some (0, xs_regs v g) ∧ ∀ i, r ≤ i → i < 8 → S.testBit i = true → bB (g i) m = false) ∨ ∃ r1, r ≤ r1 ∧ r1 < 8 ∧ S.testBit r1 = true ∧ bB (g r1) m = true ∧ (∀ i, r ≤ i → i < r1 → S.testBit i = true → bB (g i) m = false) ∧ fn_X6_bringUp_12 f (xs_regs v g) (nI S) (nI fr) (nI m) (nI (r + 1)) = some (1, xs_regs v (vp_updL (vp_updL g r1 (g fr)) fr (g r1))) := by
      intro hr0
      have ext : ∀ (P : Nat → Prop), (∀ i, r + 1 ≤ i → P i → S.testBit i = true → bB (g i) m = false) → ∀ i, r ≤ i → P i → S.testBit i = true → bB (g i) m = false := by
        intro P hP i h1 h2 h3
        rcases Nat.lt_or_ge r i with z | z
        · exact hP i z h2 h3
        · have e : i = r := by omega
          subst e
          exact hr0 h3
      rcases hih with ⟨a, b⟩ | ⟨r1, b1, b2, b3, b4, b5, b6⟩
      · exact Or.inl ⟨a, ext (fun i => i < 8) b⟩
      · exact Or.inr ⟨r1, by omega, b2, b3, b4, ext (fun i => i < r1) b5, b6⟩
    cases e : S.testBit r
    · simp only [Bool.false_eq_true, if_false, if_true]
      exact skip (fun z => by rw [e] at z; cases z)
    · simp only [if_true, i10, if_false]
      cases e2 : bB (g r) m
      · simp only [Bool.false_eq_true, if_false]
        rw [if_neg (show ¬ (0 : Int32) = 1 by decide)]
        exact skip (fun _ => e2)
      · simp only [if_true]
        exact Or.inr ⟨r, Nat.le_refl _, hr, e, e2, fun i h1 h2 => by omega, rfl⟩
theorem clear_loop {v : XS} {S pv m : Nat} (hS : S < 256) (hpv : pv < 8) (hm : m < 64) : ∀ d r f (g : Nat → Int64), r + d = 8 → d < f → ∃ g' : Nat → Int64, fn_X6_clearElsewhere_11 f (xs_regs v g) (nI S) (nI pv) (nI m) (nI r) = some (xs_regs v g') ∧ ∀ i, g' i = if r ≤ i ∧ i < 8 ∧ i ≠ pv ∧ S.testBit i = true ∧ bB (g i) m = true then g i ^^^ g pv else g i := by
  intro d
  induction d with
  | zero =>
    intro r f g h hf
    obtain ⟨f, rfl⟩ : ∃ g, f = g + 1 := ⟨f - 1, by omega⟩
    refine ⟨g, ?_, fun i => by rw [if_neg (by omega)]⟩
    rw [fn_X6_clearElsewhere_11]
    unfold fn_X6_clearElsewhere_11_body
    rw [if_pos (show (8 : Int32) ≤ nI r from nI_le (a := 8) (by omega) (by omega))]
  | succ d ih =>
    intro r f g h hf
    obtain ⟨f, rfl⟩ : ∃ g, f = g + 1 := ⟨f - 1, by omega⟩
    have hr : r < 8 := by omega
    rw [fn_X6_clearElsewhere_11]
    unfold fn_X6_clearElsewhere_11_body
    rw [if_neg (show ¬ (8 : Int32) ≤ nI r from nI_ge (b := 8) (by omega) (by omega)), isIn_eq hS hr, bsm, nI_1, show rd (x_regs (xs_regs v g)) 8 (nI r) = some (g r) from rd_eq g hr (by decide), bsm, bit_eq _ hm, bsm, bsm, show rd (x_regs (xs_regs v g)) 8 (nI pv) = some (g pv) from rd_eq g hpv (by decide), bsm, show wrL (x_regs (xs_regs v g)) 8 (nI r) (g r ^^^ g pv) = some (vp_updL g r (g r ^^^ g pv)) from wrL_eq g _ hr (by decide), bsm]
    have skip : ¬ (r ≠ pv ∧ S.testBit r = true ∧ bB (g r) m = true) → ∃ g' : Nat → Int64, fn_X6_clearElsewhere_11 f (xs_regs v g) (nI S) (nI pv) (nI m) (nI (r + 1)) = some (xs_regs v g') ∧ ∀ i, g' i = if r ≤ i ∧ i < 8 ∧ i ≠ pv ∧ S.testBit i = true ∧ bB (g i) m = true then g i ^^^ g pv else g i := by
      intro hn
      obtain ⟨g', h1, h2⟩ := ih (r + 1) f g (by omega) (by omega)
      refine ⟨g', h1, fun i => ?_⟩
      rw [h2 i]
      by_cases c : i = r
      · subst c
        rw [if_neg (by omega), if_neg (fun z => hn z.2.2)]
      · by_cases c2 : r + 1 ≤ i ∧ i < 8 ∧ i ≠ pv ∧ S.testBit i = true ∧ bB (g i) m = true
        · rw [if_pos c2, if_pos ⟨by omega, c2.2⟩]
        · rw [if_neg c2, if_neg (fun z => c2 ⟨by omega, z.2⟩)]
    by_cases cp : r = pv
    · rw [if_pos (by rw [cp])]
      exact skip (fun z => z.1 cp)
    · rw [if_neg (fun z => cp ((nI_eq (by omega) (by omega)).mp z))]
      cases e : S.testBit r
      · simp only [Bool.false_eq_true, if_false, if_true]
        exact skip (fun z => by rw [e] at z; cases z.2.1)
      · simp only [if_true, i10, if_false]
        cases e2 : bB (g r) m
        · simp only [Bool.false_eq_true, if_false]
          rw [if_neg (show ¬ (0 : Int32) = 1 by decide)]
          exact skip (fun z => by rw [e2] at z; cases z.2.2)
        · simp only [if_true]
          obtain ⟨g', h1, h2⟩ := ih (r + 1) f (vp_updL g r (g r ^^^ g pv)) (by omega) (by omega)
          refine ⟨g', h1, fun i => ?_⟩
          rw [h2 i, pk_uLn (f := g) (fun z => cp z.symm)]
          by_cases c : i = r
          · subst c
            rw [if_neg (by omega), if_pos ⟨Nat.le_refl _, hr, cp, e, e2⟩]
            exact pk_uLs
          · rw [pk_uLn c]
            by_cases c2 : r + 1 ≤ i ∧ i < 8 ∧ i ≠ pv ∧ S.testBit i = true ∧ bB (g i) m = true
            · rw [if_pos c2, if_pos ⟨by omega, c2.2⟩]
            · rw [if_neg c2, if_neg (fun z => c2 ⟨by omega, z.2⟩)]
-- the reference
theorem best_loop {w : YS} {n o S R dn' : Nat} (hn : n ≤ 6) (hw : y_n w = nI n) (ho : o < 3) (hR : R ≤ 8) (b : Nat → Int64) (hb : ∀ k, k < R → wf n (b k)) (k70 : YS → Int32 → Int32 → Int32 → Int32 → Int32 → Option (Int32 × YS)) : ∀ d k f (x : Int32), k + d = R → d < f → dn' ≤ k → ((x = -1 ∧ ∀ j, dn' ≤ j → j < k → b j = 0) ∨ ∃ b0 l0, x = nI b0 ∧ dn' ≤ b0 ∧ b0 < k ∧ Ld o (b b0) l0 ∧ ∀ j l, dn' ≤ j → j < k → Ld o (b j) l → ps o l0 ≤ ps o l ∧ (j < b0 → ps o l0 < ps o l)) → ((fn_X7_echelon_82 k70 f (ys_by w b) (nI S) (nI o) (nI R) (nI dn') x (nI k) = fn_X7_echelon_159 k70 (ys_by w b) (nI S) (nI o) (nI R) (nI dn') (-1) 0 ∧ ∀ j, dn' ≤ j → j < R → b j = 0) ∨ ∃ b0 l0, fn_X7_echelon_82 k70 f (ys_by w b) (nI S) (nI o) (nI R) (nI dn') x (nI k) = fn_X7_echelon_159 k70 (ys_by w b) (nI S) (nI o) (nI R) (nI dn') (nI b0) 1 ∧ dn' ≤ b0 ∧ b0 < R ∧ Ld o (b b0) l0 ∧ ∀ j l, dn' ≤ j → j < R → Ld o (b j) l → ps o l0 ≤ ps o l ∧ (j < b0 → ps o l0 < ps o l)) := by
  have hwb : y_n (ys_by w b) = nI n := hw
  intro d
  induction d with
  | zero =>
    intro k f x h hf hk hi
    obtain ⟨f, rfl⟩ : ∃ g, f = g + 1 := ⟨f - 1, by omega⟩
    have e : k = R := by omega
    subst e
    rw [fn_X7_echelon_82]
    unfold fn_X7_echelon_82_body
    rw [if_pos (nI_le (Nat.le_refl _) (by omega))]
    rcases hi with ⟨h1, h2⟩ | ⟨b0, l0, h1, h2, h3, h4, h5⟩
    · rw [h1, if_pos (by decide)]
      exact Or.inl ⟨rfl, h2⟩
    · rw [h1, if_neg (nI_pos (by omega))]
      exact Or.inr ⟨b0, l0, rfl, h2, h3, h4, h5⟩
  | succ d ih =>
    intro k f x h hf hk hi
    obtain ⟨f, rfl⟩ : ∃ g, f = g + 1 := ⟨f - 1, by omega⟩
    have hkR : k < R := by omega
    have rdb : ∀ j, j < 8 → rd (y_by (ys_by w b)) 8 (nI j) = some (b j) := fun j hj => rd_eq b hj (by decide)
    rw [fn_X7_echelon_82]
    unfold fn_X7_echelon_82_body fn_X7_echelon_139
    rw [if_neg (nI_ge hkR (by omega)), rdb k (by omega), bsm, nI_1]
    by_cases cz : b k = 0
    · rw [cz, leads_0 hn hwb ho, bsm, if_pos (by decide)]
      refine ih (k + 1) f x (by omega) (by omega) (by omega) ?_
      rcases hi with ⟨h1, h2⟩ | ⟨b0, l0, h1, h2, h3, h4, h5⟩
      · refine Or.inl ⟨h1, fun j a c => ?_⟩
        rcases Nat.lt_or_ge j k with z | z
        · exact h2 j a z
        · rw [show j = k by omega]; exact cz
      · refine Or.inr ⟨b0, l0, h1, h2, by omega, h4, fun j l a c hl => ?_⟩
        rcases Nat.lt_or_ge j k with z | z
        · exact h5 j l a z hl
        · rw [show j = k by omega] at hl
          exact absurd cz hl.ne
    · obtain ⟨m, hm⟩ := Ld.ex ho cz
      have hm2 : m < 2 ^ n := by
        rcases Nat.lt_or_ge m (2 ^ n) with z | z
        · exact z
        · have := hm.2.1
          rw [hb k hkR m z] at this
          cases this
      have hm64 := hm.1
      rw [leads_eq hn hwb ho (hb k hkR) hm, bsm, if_neg (nI_pos (by omega))]
      rcases hi with ⟨h1, h2⟩ | ⟨b0, l0, h1, h2, h3, h4, h5⟩
      · rw [h1, if_pos (by decide)]
        refine ih (k + 1) f _ (by omega) (by omega) (by omega) (Or.inr ⟨k, m, rfl, hk, by omega, hm, fun j l a c hl => ?_⟩)
        rcases Nat.lt_or_ge j k with z | z
        · exact absurd (h2 j a z) hl.ne
        · rw [show j = k by omega] at hl
          rw [Ld.eq ho hl hm]
          exact ⟨Nat.le_refl _, fun q => by omega⟩
      · have hl2 : l0 < 2 ^ n := by
          rcases Nat.lt_or_ge l0 (2 ^ n) with z | z
          · exact z
          · have := h4.2.1
            rw [hb b0 (by omega) l0 z] at this
            cases this
        rw [h1, if_neg (nI_pos (by omega)), rdb b0 (by omega), bsm, leads_eq hn hwb ho (hb b0 (by omega)) h4, bsm, grt_eq hn hwb ho hm2 hl2, bsm]
        by_cases c : ps o m < ps o l0
        · rw [if_pos c, if_neg (show ¬ (1 : Int32) = 0 by decide)]
          refine ih (k + 1) f _ (by omega) (by omega) (by omega) (Or.inr ⟨k, m, rfl, hk, by omega, hm, fun j l a c2 hl => ?_⟩)
          rcases Nat.lt_or_ge j k with z | z
          · have := (h5 j l a z hl).1
            exact ⟨by omega, fun _ => by omega⟩
          · rw [show j = k by omega] at hl
            rw [Ld.eq ho hl hm]
            exact ⟨Nat.le_refl _, fun q => by omega⟩
        · rw [if_neg c, if_pos rfl]
          refine ih (k + 1) f _ (by omega) (by omega) (by omega) (Or.inr ⟨b0, l0, rfl, h2, by omega, h4, fun j l a c2 hl => ?_⟩)
          rcases Nat.lt_or_ge j k with z | z
          · exact h5 j l a z hl
          · rw [show j = k by omega] at hl
            rw [Ld.eq ho hl hm]
            exact ⟨by omega, fun q => by omega⟩
theorem clearY_loop {w : YS} {R dn' m : Nat} {x1 x2 x5 : Int32} (hR : R ≤ 8) (hd : dn' < R) (hm : m < 64) (k70 : YS → Int32 → Int32 → Int32 → Int32 → Int32 → Option (Int32 × YS)) (q : Int64) : ∀ d k f (b : Nat → Int64), k + d = R → d < f → ∃ b' : Nat → Int64, fn_X7_echelon_210 k70 f (ys_by w b) x1 x2 (nI R) (nI dn') x5 q (nI m) (nI k) = k70 (ys_by w b') x1 x2 (nI R) (nI (dn' + 1)) x5 ∧ ∀ i, b' i = if k ≤ i ∧ i < R ∧ i ≠ dn' ∧ bB (b i) m = true then b i ^^^ q else b i := by
  have z0 : ∀ a : Int64, a ^^^ 0 = a := fun a => by apply bB_ext; intro i _; rw [bB_xor, bB_0, Bool.xor_false]
  intro d
  induction d with
  | zero =>
    intro k f b h hf
    obtain ⟨f, rfl⟩ : ∃ g, f = g + 1 := ⟨f - 1, by omega⟩
    refine ⟨b, ?_, fun i => by rw [if_neg (by omega)]⟩
    rw [fn_X7_echelon_210]
    unfold fn_X7_echelon_210_body
    rw [if_pos (nI_le (by omega) (by omega)), nI_1]
  | succ d ih =>
    intro k f b h hf
    obtain ⟨f, rfl⟩ : ∃ g, f = g + 1 := ⟨f - 1, by omega⟩
    have hk : k < 8 := by omega
    have upd0 : vp_updL b k (b k) = b := funext fun j => by
      by_cases c : j = k
      · subst c; exact pk_uLs
      · exact pk_uLn c
    rw [fn_X7_echelon_210]
    unfold fn_X7_echelon_210_body fn_X7_echelon_251 fn_X7_echelon_252
    rw [if_neg (nI_ge (by omega) (by omega)), show rd (y_by (ys_by w b)) 8 (nI k) = some (b k) from rd_eq b hk (by decide), bsm, bsm, has1_eq _ hm, bsm, nI_1, z0, show wrL (y_by (ys_by w b)) 8 (nI k) (b k) = some (vp_updL b k (b k)) from wrL_eq b _ hk (by decide), bsm, upd0, show wrL (y_by (ys_by w b)) 8 (nI k) (b k ^^^ q) = some (vp_updL b k (b k ^^^ q)) from wrL_eq b _ hk (by decide), bsm]
    have skip : ¬ (k ≠ dn' ∧ bB (b k) m = true) → ∃ b' : Nat → Int64, fn_X7_echelon_210 k70 f (ys_by w b) x1 x2 (nI R) (nI dn') x5 q (nI m) (nI (k + 1)) = k70 (ys_by w b') x1 x2 (nI R) (nI (dn' + 1)) x5 ∧ ∀ i, b' i = if k ≤ i ∧ i < R ∧ i ≠ dn' ∧ bB (b i) m = true then b i ^^^ q else b i := by
      intro hn
      obtain ⟨b', h1, h2⟩ := ih (k + 1) f b (by omega) (by omega)
      refine ⟨b', h1, fun i => ?_⟩
      rw [h2 i]
      by_cases c : i = k
      · subst c
        rw [if_neg (by omega), if_neg (fun z => hn z.2.2)]
      · by_cases c2 : k + 1 ≤ i ∧ i < R ∧ i ≠ dn' ∧ bB (b i) m = true
        · rw [if_pos c2, if_pos ⟨by omega, c2.2⟩]
        · rw [if_neg c2, if_neg (fun z => c2 ⟨by omega, z.2⟩)]
    by_cases cp : k = dn'
    · rw [if_pos (by rw [cp])]
      exact skip (fun z => z.1 cp)
    · rw [if_neg (fun z => cp ((nI_eq (by omega) (by omega)).mp z))]
      cases e2 : bB (b k) m
      · simp only [Bool.false_eq_true, if_false, if_true]
        exact skip (fun z => by rw [e2] at z; cases z.2)
      · simp only [if_true, i10, if_false]
        obtain ⟨b', h1, h2⟩ := ih (k + 1) f (vp_updL b k (b k ^^^ q)) (by omega) (by omega)
        refine ⟨b', h1, fun i => ?_⟩
        rw [h2 i]
        by_cases c : i = k
        · subst c
          rw [if_neg (by omega), if_pos ⟨Nat.le_refl _, by omega, cp, e2⟩]
          exact pk_uLs
        · rw [pk_uLn c]
          by_cases c2 : k + 1 ≤ i ∧ i < R ∧ i ≠ dn' ∧ bB (b i) m = true
          · rw [if_pos c2, if_pos ⟨by omega, c2.2⟩]
          · rw [if_neg c2, if_neg (fun z => c2 ⟨by omega, z.2⟩)]
theorem back_loop {w : YS} {S dn' : Nat} (hS : S < 256) (hdn : dn' ≤ 8) (b : Nat → Int64) : ∀ d r f (p : Nat → Int64), r + d = 8 → d < f → ∃ p' : Nat → Int64, fn_X7_echelon_272 f (ys_p (ys_by w b) p) (nI S) (nI dn') (nI (ct S r)) (nI r) = some (nI dn', ys_p (ys_by w b) p') ∧ ∀ i, p' i = if r ≤ i ∧ i < 8 ∧ S.testBit i = true then (if ct S i < dn' then b (ct S i) else 0) else p i := by
  intro d
  induction d with
  | zero =>
    intro r f p h hf
    obtain ⟨f, rfl⟩ : ∃ g, f = g + 1 := ⟨f - 1, by omega⟩
    refine ⟨p, ?_, fun i => by rw [if_neg (by omega)]⟩
    rw [fn_X7_echelon_272]
    unfold fn_X7_echelon_272_body
    rw [if_pos (show (8 : Int32) ≤ nI r from nI_le (a := 8) (by omega) (by omega))]
  | succ d ih =>
    intro r f p h hf
    obtain ⟨f, rfl⟩ : ∃ g, f = g + 1 := ⟨f - 1, by omega⟩
    have hr : r < 8 := by omega
    have c8 : ct S r ≤ r := fb_ct_le _ _
    rw [fn_X7_echelon_272]
    unfold fn_X7_echelon_272_body fn_X7_echelon_313
    rw [if_neg (show ¬ (8 : Int32) ≤ nI r from nI_ge (b := 8) (by omega) (by omega)), isr_set S hS r hr, nI_1, nI_1]
    cases e : S.testBit r
    · simp only [Bool.false_eq_true, if_false]
      rw [if_neg (show ¬ (0 : Int32) = 1 by decide)]
      obtain ⟨p', h1, h2⟩ := ih (r + 1) f p (by omega) (by omega)
      rw [ct_n e] at h1
      refine ⟨p', h1, fun i => ?_⟩
      rw [h2 i]
      by_cases c : i = r
      · subst c
        rw [if_neg (by omega), if_neg (fun z => by rw [e] at z; cases z.2.2)]
      · by_cases c2 : r + 1 ≤ i ∧ i < 8 ∧ S.testBit i = true
        · rw [if_pos c2, if_pos (show r ≤ i ∧ i < 8 ∧ S.testBit i = true from ⟨by omega, c2.2⟩)]
        · rw [if_neg c2, if_neg (fun z => c2 ⟨by omega, z.2⟩)]
    · simp only [if_true]
      have fin : ∀ x, x = (if ct S r < dn' then b (ct S r) else 0) → ∃ p' : Nat → Int64, ((wrL (y_p (ys_p (ys_by w b) p)) 8 (nI r) x).bind fun g313 => fn_X7_echelon_272 f (ys_p (ys_p (ys_by w b) p) g313) (nI S) (nI dn') (nI (ct S r + 1)) (nI (r + 1))) = some (nI dn', ys_p (ys_by w b) p') ∧ ∀ i, p' i = if r ≤ i ∧ i < 8 ∧ S.testBit i = true then (if ct S i < dn' then b (ct S i) else 0) else p i := by
        intro x hx
        rw [show wrL (y_p (ys_p (ys_by w b) p)) 8 (nI r) x = some (vp_updL p r x) from wrL_eq p _ hr (by decide), bsm]
        obtain ⟨p', h1, h2⟩ := ih (r + 1) f (vp_updL p r x) (by omega) (by omega)
        rw [ct_s e] at h1
        refine ⟨p', h1, fun i => ?_⟩
        rw [h2 i]
        by_cases c : i = r
        · subst c
          rw [if_neg (by omega), if_pos ⟨Nat.le_refl _, hr, e⟩, ← hx]
          exact pk_uLs
        · by_cases c2 : r + 1 ≤ i ∧ i < 8 ∧ S.testBit i = true
          · rw [if_pos c2, if_pos (show r ≤ i ∧ i < 8 ∧ S.testBit i = true from ⟨by omega, c2.2⟩)]
          · rw [if_neg c2, if_neg (fun z => c2 ⟨by omega, z.2⟩)]
            exact pk_uLn c
      rcases Nat.lt_or_ge (ct S r) dn' with z | z
      · rw [if_neg (nI_ge z (by omega)), show rd (y_by (ys_p (ys_by w b) p)) 8 (nI (ct S r)) = some (b (ct S r)) from rd_eq b (by omega) (by decide), bsm]
        exact fin _ (by rw [if_pos z])
      · rw [if_pos (nI_le z (by omega))]
        exact fin _ (by rw [if_neg (by omega)])
theorem take_loop {w : YS} {S : Nat} {x2 : Int32} (hS : S < 256) : ∀ d r f (b : Nat → Int64), r + d = 8 → d < f → ∃ b' : Nat → Int64, fn_X7_echelon_25 f (ys_by w b) (nI S) x2 (nI (ct S r)) (nI r) = fn_X7_echelon_70 FU (ys_by w b') (nI S) x2 (nI (ct S 8)) 0 1 ∧ (∀ k, k < ct S r → b' k = b k) ∧ (∀ i, r ≤ i → i < 8 → S.testBit i = true → b' (ct S i) = y_p w i) := by
  intro d
  induction d with
  | zero =>
    intro r f b h hf
    obtain ⟨f, rfl⟩ : ∃ g, f = g + 1 := ⟨f - 1, by omega⟩
    have e : r = 8 := by omega
    subst e
    refine ⟨b, ?_, fun _ _ => rfl, fun i h1 h2 => by omega⟩
    rw [fn_X7_echelon_25]
    unfold fn_X7_echelon_25_body
    rw [if_pos (by decide)]
  | succ d ih =>
    intro r f b h hf
    obtain ⟨f, rfl⟩ : ∃ g, f = g + 1 := ⟨f - 1, by omega⟩
    have hr : r < 8 := by omega
    have c8 : ct S r ≤ r := fb_ct_le _ _
    rw [fn_X7_echelon_25]
    unfold fn_X7_echelon_25_body
    rw [if_neg (show ¬ (8 : Int32) ≤ nI r from nI_ge (b := 8) (by omega) (by omega)), isr_set S hS r hr, nI_1, nI_1]
    cases e : S.testBit r
    · simp only [Bool.false_eq_true, if_false]
      rw [if_neg (show ¬ (0 : Int32) = 1 by decide)]
      obtain ⟨b', h1, h2, h3⟩ := ih (r + 1) f b (by omega) (by omega)
      rw [ct_n e] at h1 h2
      refine ⟨b', h1, h2, fun i q1 q2 q3 => ?_⟩
      rcases Nat.lt_or_ge r i with z | z
      · exact h3 i z q2 q3
      · rw [show i = r by omega, e] at q3; cases q3
    · simp only [if_true]
      rw [show rd (y_p (ys_by w b)) 8 (nI r) = some (y_p w r) from rd_eq (y_p w) hr (by decide), bsm, show wrL (y_by (ys_by w b)) 8 (nI (ct S r)) (y_p w r) = some (vp_updL b (ct S r) (y_p w r)) from wrL_eq b _ (by omega) (by decide), bsm]
      obtain ⟨b', h1, h2, h3⟩ := ih (r + 1) f (vp_updL b (ct S r) (y_p w r)) (by omega) (by omega)
      rw [ct_s e] at h1 h2
      refine ⟨b', h1, fun k hk => ?_, fun i q1 q2 q3 => ?_⟩
      · rw [h2 k (by omega)]
        exact pk_uLn (by omega)
      · rcases Nat.lt_or_ge r i with z | z
        · exact h3 i z q2 q3
        · rw [show i = r by omega, h2 _ (by omega)]
          exact pk_uLs
