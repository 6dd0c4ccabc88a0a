/-! fixed variables; exchange of variables -/
theorem ff_neg : ∀ n, n < 7 → ∀ m, m < 2 ^ n → (nI m ^^^ (-1)) &&& (nI (2 ^ n) - 1) = nI (2 ^ n - 1 - m) := by decide +kernel
theorem ff_negb : ∀ n, n < 7 → ∀ m, m < 2 ^ n → ∀ k, k < n → (2 ^ n - 1 - m).testBit k = !m.testBit k := by decide +kernel
/-- the union of the masks' complements -/
def on (n : Nat) (p : Nat → Bool) : Nat → Nat
  | 0 => 0
  | m + 1 => if p m then on n p m ||| (2 ^ n - 1 - m) else on n p m
theorem on_bit {n : Nat} (hn : n ≤ 6) (p : Nat → Bool) {k : Nat} (hk : k < n) : ∀ M, M ≤ 2 ^ n → ((on n p M).testBit k = true ↔ ∃ m, m < M ∧ p m = true ∧ m.testBit k = false) := by
  intro M
  induction M with
  | zero => intro _; simp [on]
  | succ M ih =>
    intro hM
    rw [on]
    cases e : p M
    · simp only [Bool.false_eq_true, if_false]
      rw [ih (by omega)]
      constructor
      · rintro ⟨m, h1, h2⟩; exact ⟨m, by omega, h2⟩
      · rintro ⟨m, h1, h2, h3⟩
        refine ⟨m, ?_, h2, h3⟩
        rcases Nat.lt_or_ge m M with c | c
        · exact c
        · have : m = M := by omega
          rw [this, e] at h2
          cases h2
    · simp only [if_true]
      rw [Nat.testBit_or, Bool.or_eq_true, ih (by omega), ff_negb n (by omega) M (by omega) k hk]
      constructor
      · rintro (⟨m, h1, h2⟩ | h)
        · exact ⟨m, by omega, h2⟩
        · exact ⟨M, by omega, e, by simpa using h⟩
      · rintro ⟨m, h1, h2, h3⟩
        rcases Nat.lt_or_ge m M with c | c
        · exact Or.inl ⟨m, c, h2, h3⟩
        · have : m = M := by omega
          subst this
          exact Or.inr (by rw [h3]; rfl)
theorem on_lt {n : Nat} (p : Nat → Bool) : ∀ M, M ≤ 2 ^ n → on n p M < 2 ^ n := by
  have hp := p2_pos n
  intro M
  induction M with
  | zero => intro _; exact hp
  | succ M ih =>
    intro h
    rw [on]
    split
    · exact Nat.or_lt_two_pow (ih (by omega)) (by omega)
    · exact ih (by omega)
def nt (t : Int64) (i : Nat) : Bool := !bB t i
theorem fix_loop {w : YS} {n : Nat} (hn : n ≤ 6) (hw : y_n w = nI n) (t : Int64) : ∀ d f m, m + d = 2 ^ n → d < f → fn_X7_fixedVariables_24 w f t (nI (oc (nt t) m)) (nI (on n (nt t) m)) (nI m) = (if nI (oc (nt t) (2 ^ n)) = 0 then if nI (on n (nt t) (2 ^ n)) = 0 then some (-4) else fn_X7_fixedVariables_90 w (nI (oc (nt t) (2 ^ n))) (nI (on n (nt t) (2 ^ n))) else fn_X7_fixedVariables_90 w (nI (oc (nt t) (2 ^ n))) (nI (on n (nt t) (2 ^ n)))) := by
  have h64 := p2_le hn
  intro d
  induction d with
  | zero =>
    intro f m h hf
    obtain ⟨f, rfl⟩ : ∃ g, f = g + 1 := ⟨f - 1, by omega⟩
    unfold fn_X7_fixedVariables_24 fn_X7_fixedVariables_24_body
    rw [hw, ish1 n (by omega), if_pos (nI_le (by omega) (by omega)), show m = 2 ^ n by omega]
  | succ d ih =>
    intro f m h hf
    obtain ⟨f, rfl⟩ : ∃ g, f = g + 1 := ⟨f - 1, by omega⟩
    have hih := ih f (m + 1) (by omega) (by omega)
    unfold fn_X7_fixedVariables_24 fn_X7_fixedVariables_24_body
    rw [hw, ish1 n (by omega), if_neg (nI_ge (by omega) (by omega)), has1_eq t (by omega), bsm, ff_neg n (by omega) m (by omega), nx_or, nx_or, nI_1]
    rw [oc, on] at hih
    have e0 : nt t m = !bB t m := rfl
    rw [e0] at hih
    cases e1 : bB t m
    · rw [e1] at hih
      simp only [Bool.false_eq_true, if_false, if_true, Bool.not_false] at hih ⊢
      exact hih
    · rw [e1] at hih
      simp only [if_true, i10, if_false, Bool.not_true, Bool.false_eq_true] at hih ⊢
      exact hih
theorem dn_zero {n k : Nat} (hn : n ≤ 6) (hk : k < n) (t : Int64) : dn k (cz n t) = 0 ↔ (on n (nt t) (2 ^ n)).testBit k = false := by
  have h64 := p2_le hn
  constructor
  · intro h
    cases e : (on n (nt t) (2 ^ n)).testBit k
    · rfl
    · obtain ⟨m, h1, h2, h3⟩ := (on_bit hn _ hk _ (Nat.le_refl _)).mp e
      have := dn_bit (k := k) (by omega) (cz n t) (i := m) (by omega)
      have h2' : bB t m = false := by unfold nt at h2; simpa using h2
      rw [h, bB_0, cz_bit hn t (by omega), h2', h3, decide_eq_true h1] at this
      cases this
  · intro h
    apply bB_ext
    intro i hi
    rw [bB_0, dn_bit (by omega) _ hi, cz_bit hn t hi]
    cases e : i.testBit k
    · cases e2 : bB t i
      · rcases Nat.lt_or_ge i (2 ^ n) with c | c
        · exfalso
          have : (on n (nt t) (2 ^ n)).testBit k = true := (on_bit hn _ hk _ (Nat.le_refl _)).mpr ⟨i, c, by unfold nt; rw [e2]; rfl, e⟩
          rw [h] at this
          cases this
        · simp [show ¬ i < 2 ^ n by omega]
      · simp
    · simp
theorem up_zero2 {n k : Nat} (hn : n ≤ 6) (hk : k < n) (t : Int64) : up k (cz n t) = 0 ↔ (oc (nt t) (2 ^ n)).testBit k = false := by
  have h64 := p2_le hn
  rw [up_zero hn hk (cz_wf hn t)]
  have : ∀ a b : Nat, (∀ k, a.testBit k = true ↔ b.testBit k = true) → a.testBit k = b.testBit k := fun a b h => Bool.eq_iff_iff.mpr (h k)
  rw [this (oc (bB (cz n t)) (2 ^ n)) (oc (nt t) (2 ^ n))]
  intro k
  rw [oc_bit, oc_bit]
  constructor
  · rintro ⟨m, h1, h2, h3⟩
    rw [cz_bit hn t (by omega)] at h2
    refine ⟨m, h1, ?_, h3⟩
    unfold nt
    simpa [h1] using h2
  · rintro ⟨m, h1, h2, h3⟩
    refine ⟨m, h1, ?_, h3⟩
    rw [cz_bit hn t (by omega)]
    unfold nt at h2
    simpa [h1] using h2
def fx (O Z k : Nat) : Bool := !(O &&& Z).testBit k
theorem fixX_loop {v : XS} {n : Nat} (hn : n ≤ 6) (hv : x_n v = nI n) (t : Int64) : ∀ d k f, k + d = n → d < f → fn_X6_fixedVariables_30 v f (cz n t) (nI (fb_ct (fx (oc (nt t) (2 ^ n)) (on n (nt t) (2 ^ n))) k)) (nI k) = some (nI (fb_ct (fx (oc (nt t) (2 ^ n)) (on n (nt t) (2 ^ n))) n)) := by
  intro d
  induction d with
  | zero =>
    intro k f h hf
    obtain ⟨f, rfl⟩ : ∃ g, f = g + 1 := ⟨f - 1, by omega⟩
    unfold fn_X6_fixedVariables_30 fn_X6_fixedVariables_30_body
    rw [hv, if_pos (nI_le (by omega) (by omega)), show k = n by omega]
  | succ d ih =>
    intro k f h hf
    obtain ⟨f, rfl⟩ : ∃ g, f = g + 1 := ⟨f - 1, by omega⟩
    have hih := ih (k + 1) f (by omega) (by omega)
    rw [fb_ct_succ] at hih
    unfold fn_X6_fixedVariables_30 fn_X6_fixedVariables_30_body
    rw [hv, if_neg (nI_ge (by omega) (by omega)), lowerHalf_eq (by omega), bsm, upperHalf_eq (by omega), bsm, nI_1, nI_1]
    have ez : fx (oc (nt t) (2 ^ n)) (on n (nt t) (2 ^ n)) k = !((oc (nt t) (2 ^ n)).testBit k && (on n (nt t) (2 ^ n)).testBit k) := by unfold fx; rw [Nat.testBit_and]
    rw [ez] at hih
    by_cases c1 : dn k (cz n t) = 0
    · rw [if_pos c1]
      rw [(dn_zero hn (by omega) t).mp c1] at hih
      simpa using hih
    · rw [if_neg c1]
      by_cases c2 : up k (cz n t) = 0
      · rw [if_pos c2]
        rw [(up_zero2 hn (by omega) t).mp c2] at hih
        simpa using hih
      · rw [if_neg c2]
        have d1 : (on n (nt t) (2 ^ n)).testBit k = true := by
          cases e : (on n (nt t) (2 ^ n)).testBit k
          · exact absurd ((dn_zero hn (by omega) t).mpr e) c1
          · rfl
        have d2 : (oc (nt t) (2 ^ n)).testBit k = true := by
          cases e : (oc (nt t) (2 ^ n)).testBit k
          · exact absurd ((up_zero2 hn (by omega) t).mpr e) c2
          · rfl
        rw [d1, d2] at hih
        simpa using hih
theorem pc_small {n x : Nat} (hn : n ≤ 6) (hx : x < 2 ^ n) : pc (lN x) = fb_ct (x.testBit) n := by
  unfold pc
  rw [show (64 : Nat) = n + (64 - n) by omega, fb_ct_split]
  have h1 : fb_ct (bB (lN x)) n = fb_ct (x.testBit) n := fb_ct_cong (fun i hi => bB_lN i (by omega))
  have h2 : fb_ct (fun k => bB (lN x) (n + k)) (64 - n) = 0 := fb_ct_zero.mpr (fun i hi => by
    rw [bB_lN _ (by omega)]
    exact Nat.testBit_lt_two_pow (Nat.lt_of_lt_of_le hx (Nat.pow_le_pow_right (by decide) (by omega))))
  rw [h1, h2, Nat.add_zero]
theorem m_fixedVariables {n kp ln : Nat} {v : XS} {w : YS} (h : Rl n kp ln v w) (x1 : Int32) : Same1 (fn_X6_fixedVariables v x1) (fn_X7_fixedVariables w x1) := by
  obtain ⟨⟨h1, h6⟩, hxn, hyn, hreg, hkp, hxk, hyk, hh, hln, hxl, hyl, htx⟩ := id h
  have h64 := p2_le h6
  unfold fn_X6_fixedVariables fn_X7_fixedVariables
  rcases set_c x1 with ⟨a1, b1⟩ | ⟨j1, hj1, ej1, a1, b1⟩
  · simp only [a1, b1, bsm, i00, if_true]
    exact Same1.of
  · simp only [a1, b1, bsm, i10, if_false]
    subst ej1
    obtain ⟨t, e1, e2, ht⟩ := cz_ok h hj1
    rw [e1, e2, bsm, bsm]
    rw [show fn_X7_fixedVariables_24 w FU t 0 0 0 = _ from fix_loop h6 hyn t (2 ^ n) FU 0 (by omega) (by unfold FU; omega)]
    rw [show fn_X6_fixedVariables_30 v FU (cz n t) 0 0 = _ from fixX_loop h6 hxn t n 0 FU (by omega) (by unfold FU; omega)]
    have lo := oc_lt (n := n) (nt t) (2 ^ n) (Nat.le_refl _)
    have lz := on_lt (n := n) (nt t) (2 ^ n) (Nat.le_refl _)
    have key : fn_X7_fixedVariables_90 w (nI (oc (nt t) (2 ^ n))) (nI (on n (nt t) (2 ^ n))) = some (nI (fb_ct (fx (oc (nt t) (2 ^ n)) (on n (nt t) (2 ^ n))) n)) := by
      unfold fn_X7_fixedVariables_90
      have la : oc (nt t) (2 ^ n) &&& on n (nt t) (2 ^ n) < 2 ^ n := Nat.and_lt_two_pow _ lz
      rw [nx_and, nI_l (by omega), many_eq, bsm, hyn, pc_small h6 la]
      have := fb_ct_not ((oc (nt t) (2 ^ n) &&& on n (nt t) (2 ^ n)).testBit) n
      rw [pk_sub (by omega)]
      congr 2
      show n - _ = fb_ct (fun k => !(oc (nt t) (2 ^ n) &&& on n (nt t) (2 ^ n)).testBit k) n
      omega
    by_cases c : cz n t = 0
    · rw [if_pos c]
      have hz : ∀ m, m < 2 ^ n → nt t m = false := by
        intro m hm
        have := cz_bit h6 t (i := m) (by omega)
        rw [c, bB_0, decide_eq_true hm] at this
        unfold nt
        simpa using this.symm
      have z1 : oc (nt t) (2 ^ n) = 0 := by
        apply Nat.eq_of_testBit_eq
        intro k
        rw [Nat.zero_testBit]
        cases e : (oc (nt t) (2 ^ n)).testBit k
        · rfl
        · obtain ⟨m, q1, q2, -⟩ := (oc_bit _ _ _).mp e
          rw [hz m q1] at q2
          cases q2
      have z2 : on n (nt t) (2 ^ n) = 0 := by
        apply Nat.eq_of_testBit_eq
        intro k
        rw [Nat.zero_testBit]
        rcases Nat.lt_or_ge k n with ck | ck
        · cases e : (on n (nt t) (2 ^ n)).testBit k
          · rfl
          · obtain ⟨m, q1, q2, -⟩ := (on_bit h6 _ ck _ (Nat.le_refl _)).mp e
            rw [hz m q1] at q2
            cases q2
        · exact Nat.testBit_lt_two_pow (Nat.lt_of_lt_of_le lz (Nat.pow_le_pow_right (by decide) ck))
      rw [z1, z2, if_pos (show nI 0 = 0 from rfl), if_pos (show nI 0 = 0 from rfl)]
      exact Same1.of
    · rw [if_neg c, key]
      by_cases c1 : nI (oc (nt t) (2 ^ n)) = 0
      · rw [if_pos c1]
        by_cases c2 : nI (on n (nt t) (2 ^ n)) = 0
        · exfalso
          apply c
          have z1 : oc (nt t) (2 ^ n) = 0 := (nI_eq (b := 0) (by omega) (by decide)).mp c1
          have z2 : on n (nt t) (2 ^ n) = 0 := (nI_eq (b := 0) (by omega) (by decide)).mp c2
          have u0 := (up_zero2 h6 (k := 0) (by omega) t).mpr (by rw [z1]; exact Nat.zero_testBit 0)
          have d0 := (dn_zero h6 (k := 0) (by omega) t).mpr (by rw [z2]; exact Nat.zero_testBit 0)
          apply bB_ext
          intro i hi
          cases e : i.testBit 0
          · have := dn_bit (k := 0) (by omega) (cz n t) hi
            rw [d0, bB_0, e] at this
            rw [bB_0]
            simpa using this.symm
          · have hge := ff_ge 0 (by decide) i hi e
            have := up_bit (k := 0) (by omega) (cz n t) (i := i - 2 ^ 0) (Nat.lt_of_le_of_lt (Nat.sub_le _ _) hi)
            rw [u0, bB_0, Nat.sub_add_cancel hge, ff_own 0 (by decide) i hi e] at this
            rw [bB_0]
            simpa using this.symm
        · rw [if_neg c2]
          exact Same1.of
      · rw [if_neg c1]
        exact Same1.of
-- exchange
def sg (x y m : Nat) : Nat := if m.testBit x = m.testBit y then m else m ^^^ 2 ^ x ^^^ 2 ^ y
theorem sg_sym : ∀ x, x < 6 → ∀ y, y < 6 → ∀ m, m < 64 → sg x y m = sg y x m := by decide +kernel
theorem sg_inv : ∀ x, x < 6 → ∀ y, y < 6 → ∀ m, m < 64 → sg x y m < 64 ∧ sg x y (sg x y m) = m := by decide +kernel
theorem sg_n : ∀ n, n < 7 → ∀ x, x < n → ∀ y, y < n → ∀ m, m < 64 → (sg x y m < 2 ^ n ↔ m < 2 ^ n) := by decide +kernel
def xa (lo hi i : Nat) : Bool := decide (2 ^ hi - 2 ^ lo ≤ i) && ((i - (2 ^ hi - 2 ^ lo)).testBit lo && !(i - (2 ^ hi - 2 ^ lo)).testBit hi)
def xb (lo hi i : Nat) : Bool := decide (2 ^ hi - 2 ^ lo + i < 64) && (!(2 ^ hi - 2 ^ lo + i).testBit lo && (2 ^ hi - 2 ^ lo + i).testBit hi)
theorem xa_eq : ∀ lo, lo < 6 → ∀ hi, hi < 6 → ∀ i, i < 64 → lo ≤ hi → xa lo hi i = (!i.testBit lo && i.testBit hi) := by decide +kernel
theorem xb_eq : ∀ lo, lo < 6 → ∀ hi, hi < 6 → ∀ i, i < 64 → lo ≤ hi → xb lo hi i = (i.testBit lo && !i.testBit hi) := by decide +kernel
theorem xs_2 : ∀ lo, lo < 6 → ∀ hi, hi < 6 → ∀ i, i < 64 → lo ≤ hi → (i.testBit lo && !i.testBit hi) = true → sg lo hi i = 2 ^ hi - 2 ^ lo + i := by decide +kernel
theorem xs_3 : ∀ lo, lo < 6 → ∀ hi, hi < 6 → ∀ i, i < 64 → lo ≤ hi → (!i.testBit lo && i.testBit hi) = true → sg lo hi i = i - (2 ^ hi - 2 ^ lo) := by decide +kernel
theorem xg_d : ∀ lo, lo < 6 → ∀ hi, hi < 6 → lo ≤ hi → 2 ^ lo ≤ 2 ^ hi ∧ 2 ^ hi - 2 ^ lo < 64 := by decide +kernel
theorem exchanged_eq {lo hi : Nat} (hlo : lo < 6) (hhi : hi < 6) (hle : lo ≤ hi) (q : Int64) : ∃ r, fn_X3_exchanged q (nI lo) (nI hi) = some r ∧ ∀ i, i < 64 → bB r i = bB q (sg lo hi i) := by
  obtain ⟨hd1, hd2⟩ := xg_d lo hlo hi hhi hle
  have e0 : fn_X3_exchanged q (nI lo) (nI hi) = some ((((q ^^^ ((q &&& (kW lo ^^^ (-1))) &&& kW hi)) ^^^ ((q &&& kW lo) &&& (kW hi ^^^ (-1)))) ||| (lsh ((q &&& (kW lo ^^^ (-1))) &&& kW hi) (nI (2 ^ hi - 2 ^ lo)))) ||| (lus ((q &&& kW lo) &&& (kW hi ^^^ (-1))) (nI (2 ^ hi - 2 ^ lo)))) := by
    unfold fn_X3_exchanged
    rw [without_eq lo hlo, bsm, without_eq hi hhi, bsm, bsm, bsm, ish1 lo (by omega), ish1 hi (by omega), pk_sub hd1]
  refine ⟨_, e0, ?_⟩
  · intro i hi6
    have sub6 : i - (2 ^ hi - 2 ^ lo) < 64 := Nat.lt_of_le_of_lt (Nat.sub_le _ _) hi6
    have low : ∀ j, j < 64 → bB ((q &&& (kW lo ^^^ (-1))) &&& kW hi) j = (bB q j && (j.testBit lo && !j.testBit hi)) := by
      intro j hj
      rw [bB_and, bB_and, bB_not _ hj, kW_bit lo hlo j hj, kW_bit hi hhi j hj, Bool.not_not, Bool.and_assoc]
    have high : ∀ j, j < 64 → bB ((q &&& kW lo) &&& (kW hi ^^^ (-1))) j = (bB q j && (!j.testBit lo && j.testBit hi)) := by
      intro j hj
      rw [bB_and, bB_and, bB_not _ hj, kW_bit lo hlo j hj, kW_bit hi hhi j hj, Bool.not_not, Bool.and_assoc]
    have up2 : bB ((q &&& kW lo) &&& (kW hi ^^^ (-1))) (2 ^ hi - 2 ^ lo + i) = (bB q (2 ^ hi - 2 ^ lo + i) && (decide (2 ^ hi - 2 ^ lo + i < 64) && (!(2 ^ hi - 2 ^ lo + i).testBit lo && (2 ^ hi - 2 ^ lo + i).testBit hi))) := by
      rcases Nat.lt_or_ge (2 ^ hi - 2 ^ lo + i) 64 with c | c
      · rw [high _ c, decide_eq_true c, Bool.true_and]
      · rw [bB_big c, bB_big c, Bool.false_and]
    rw [bB_or, bB_or, bB_xor, bB_xor, bB_lsh hd2 _ hi6, bB_lus hd2 _ hi6, low i hi6, high i hi6, low _ sub6, up2]
    have ea : (decide (2 ^ hi - 2 ^ lo ≤ i) && (bB q (i - (2 ^ hi - 2 ^ lo)) && ((i - (2 ^ hi - 2 ^ lo)).testBit lo && !(i - (2 ^ hi - 2 ^ lo)).testBit hi))) = (bB q (i - (2 ^ hi - 2 ^ lo)) && xa lo hi i) := by
      unfold xa
      cases decide (2 ^ hi - 2 ^ lo ≤ i) <;> cases bB q (i - (2 ^ hi - 2 ^ lo)) <;> rfl
    have eb : (bB q (2 ^ hi - 2 ^ lo + i) && (decide (2 ^ hi - 2 ^ lo + i < 64) && (!(2 ^ hi - 2 ^ lo + i).testBit lo && (2 ^ hi - 2 ^ lo + i).testBit hi))) = (bB q (2 ^ hi - 2 ^ lo + i) && xb lo hi i) := rfl
    rw [ea, eb, xa_eq lo hlo hi hhi i hi6 hle, xb_eq lo hlo hi hhi i hi6 hle]
    cases eL : i.testBit lo <;> cases eH : i.testBit hi
    · rw [show sg lo hi i = i by unfold sg; rw [eL, eH]; rfl]
      cases bB q i <;> cases bB q (i - (2 ^ hi - 2 ^ lo)) <;> cases bB q (2 ^ hi - 2 ^ lo + i) <;> rfl
    · rw [xs_3 lo hlo hi hhi i hi6 hle (by rw [eL, eH]; rfl)]
      cases bB q i <;> cases bB q (i - (2 ^ hi - 2 ^ lo)) <;> cases bB q (2 ^ hi - 2 ^ lo + i) <;> rfl
    · rw [xs_2 lo hlo hi hhi i hi6 hle (by rw [eL, eH]; rfl)]
      cases bB q i <;> cases bB q (i - (2 ^ hi - 2 ^ lo)) <;> cases bB q (2 ^ hi - 2 ^ lo + i) <;> rfl
    · rw [show sg lo hi i = i by unfold sg; rw [eL, eH]; rfl]
      cases bB q i <;> cases bB q (i - (2 ^ hi - 2 ^ lo)) <;> cases bB q (2 ^ hi - 2 ^ lo + i) <;> rfl
theorem exch_loop {w : YS} {n r x y : Nat} (hn : n ≤ 6) (hw : y_n w = nI n) (hr : r < 8) (hx : x < n) (hy : y < n) : ∀ d f m acc, m + d = 2 ^ n → d < f → ∃ acc', (∀ i, i < 64 → bB acc' i = (bB acc i || (decide (m ≤ sg x y i) && decide (sg x y i < 2 ^ n) && bB (y_p w r) (sg x y i)))) ∧ fn_X7_exchange_31 f w (nI r) (nI x) (nI y) acc (nI m) = (fn_X7_gets w (nI r) acc').bind fun q => some (q.1, q.2) := by
  have h64 := p2_le hn
  intro d
  induction d with
  | zero =>
    intro f m acc h hf
    obtain ⟨f, rfl⟩ : ∃ g, f = g + 1 := ⟨f - 1, by omega⟩
    refine ⟨acc, fun i hi => ?_, ?_⟩
    · by_cases c : m ≤ sg x y i
      · simp [show ¬ sg x y i < 2 ^ n by omega]
      · simp [c]
    · unfold fn_X7_exchange_31 fn_X7_exchange_31_body
      rw [hw, ish1 n (by omega), if_pos (nI_le (by omega) (by omega))]
  | succ d ih =>
    intro f m acc h hf
    obtain ⟨f, rfl⟩ : ∃ g, f = g + 1 := ⟨f - 1, by omega⟩
    unfold fn_X7_exchange_31 fn_X7_exchange_31_body fn_X7_exchange_62 fn_X7_exchange_106
    rw [hw, ish1 n (by omega), if_neg (nI_ge (by omega) (by omega)), isr_bit m (by omega) x (by omega), isr_bit m (by omega) y (by omega), rd_eq _ hr (by decide)]
    simp only [bsm]
    rw [has1_eq _ (by omega), ish1 x (by omega), ish1 y (by omega), nx_xor, nx_xor, nI_1]
    simp only [bsm]
    have key : ∀ a1, (∀ i, i < 64 → bB a1 i = (bB acc i || (decide (i = sg x y m) && bB (y_p w r) m))) → ∃ acc', (∀ i, i < 64 → bB acc' i = (bB acc i || (decide (m ≤ sg x y i) && decide (sg x y i < 2 ^ n) && bB (y_p w r) (sg x y i)))) ∧ fn_X7_exchange_31 f w (nI r) (nI x) (nI y) a1 (nI (m + 1)) = (fn_X7_gets w (nI r) acc').bind fun q => some (q.1, q.2) := by
      intro a1 ha1
      obtain ⟨acc', h1, h2⟩ := ih f (m + 1) a1 (by omega) (by omega)
      refine ⟨acc', fun i hi => ?_, h2⟩
      rw [h1 i hi, ha1 i hi]
      by_cases c : sg x y i = m
      · have c1 : i = sg x y m := by rw [← c]; exact (sg_inv x (by omega) y (by omega) i hi).2.symm
        rw [c]
        simp [c1, show ¬ m + 1 ≤ m by omega, show m < 2 ^ n by omega]
      · have c1 : ¬ i = sg x y m := fun z => c (by rw [z]; exact (sg_inv x (by omega) y (by omega) m (by omega)).2)
        by_cases c2 : m ≤ sg x y i
        · simp [c1, c2, show m + 1 ≤ sg x y i by omega]
        · simp [c1, c2, show ¬ m + 1 ≤ sg x y i by omega]
    have hs := (sg_inv x (by omega) y (by omega) m (by omega)).1
    have z0 : ∀ a : Int64, a ||| 0 = a := fun a => by apply bB_ext; intro i _; rw [bB_or, bB_0, Bool.or_false]
    cases eb : bB (y_p w r) m
    · simp only [Bool.false_eq_true, if_false, if_true, ite_self]
      exact key _ (fun i hi => by rw [z0, eb]; simp)
    · simp only [if_true, i10, if_false]
      cases ex : m.testBit x <;> cases ey : m.testBit y
      · simp only [Bool.false_eq_true, if_false, if_true]
        refine key _ (fun i hi => ?_)
        rw [bB_or, bB_e (by omega) hi, eb, show sg x y m = m by unfold sg; rw [ex, ey]; rfl]
        simp
      · simp only [Bool.false_eq_true, if_false, if_true]
        rw [if_neg (show ¬ (0 : Int32) = 1 by decide)]
        have e5 : sg x y m = m ^^^ 2 ^ x ^^^ 2 ^ y := by unfold sg; rw [ex, ey]; rfl
        rw [← e5]
        refine key _ (fun i hi => ?_)
        rw [bB_or, bB_e hs hi, eb]
        simp
      · simp only [Bool.false_eq_true, if_false, if_true]
        rw [if_neg (show ¬ (1 : Int32) = 0 by decide)]
        have e5 : sg x y m = m ^^^ 2 ^ x ^^^ 2 ^ y := by unfold sg; rw [ex, ey]; rfl
        rw [← e5]
        refine key _ (fun i hi => ?_)
        rw [bB_or, bB_e hs hi, eb]
        simp
      · simp only [if_true]
        refine key _ (fun i hi => ?_)
        rw [bB_or, bB_e (by omega) hi, eb, show sg x y m = m by unfold sg; rw [ex, ey]; rfl]
        simp
theorem m_exchange {n kp ln : Nat} {v : XS} {w : YS} (h : Rl n kp ln v w) (x1 x2 x3 : Int32) : Same2 (fn_X6_exchange v x1 x2 x3) (fn_X7_exchange w x1 x2 x3) := by
  have hrel : Rel v w := ⟨n, kp, ln, h⟩
  obtain ⟨⟨h1, h6⟩, hxn, hyn, hreg, hkp, hxk, hyk, hh, hln, hxl, hyl, htx⟩ := id h
  have h64 := p2_le h6
  rcases reg_c x1 with ⟨a1, b1⟩ | ⟨j1, hj1, ej1, a1, b1⟩
  · rw [show fn_X6_exchange v x1 x2 x3 = some (-1, v) by unfold fn_X6_exchange; simp only [a1, bsm, i10, i00, if_true, if_false], show fn_X7_exchange w x1 x2 x3 = some (-1, w) by unfold fn_X7_exchange; simp only [b1, bsm, i10, i00, if_true, if_false]]
    exact Same2.of hrel
  rcases var_c h1 h6 hxn hyn x2 with ⟨a2, b2⟩ | ⟨j2, hj2, ej2, a2, b2⟩
  · rw [show fn_X6_exchange v x1 x2 x3 = some (-1, v) by unfold fn_X6_exchange; simp only [a1, a2, bsm, i10, i00, if_true, if_false], show fn_X7_exchange w x1 x2 x3 = some (-1, w) by unfold fn_X7_exchange; simp only [b1, b2, bsm, i10, i00, if_true, if_false]]
    exact Same2.of hrel
  rcases var_c h1 h6 hxn hyn x3 with ⟨a3, b3⟩ | ⟨j3, hj3, ej3, a3, b3⟩
  · rw [show fn_X6_exchange v x1 x2 x3 = some (-1, v) by unfold fn_X6_exchange; simp only [a1, a2, a3, bsm, i10, i00, if_true, if_false], show fn_X7_exchange w x1 x2 x3 = some (-1, w) by unfold fn_X7_exchange; simp only [b1, b2, b3, bsm, i10, i00, if_true, if_false]]
    exact Same2.of hrel
  unfold fn_X6_exchange fn_X7_exchange
  simp only [a1, a2, a3, b1, b2, b3, bsm, i10, if_false]
  subst ej1
  subst ej2
  subst ej3
  rw [rd_eq (x_regs v) hj1 (by decide), bsm]
  obtain ⟨r, er, hrb⟩ : ∃ r, fn_X3_exchanged (x_regs v j1) (if nI j3 < nI j2 then nI j3 else nI j2) (if nI j2 < nI j3 then nI j3 else nI j2) = some r ∧ ∀ i, i < 64 → bB r i = bB (x_regs v j1) (sg j2 j3 i) := by
    rcases Nat.lt_trichotomy j2 j3 with c | c | c
    · rw [if_neg (nI_nlt (by omega) (by omega)), if_pos (nI_lt c (by omega))]
      exact exchanged_eq (by omega) (by omega) (by omega) _
    · subst c
      rw [if_neg (nI_nlt (by omega) (by omega))]
      exact exchanged_eq (by omega) (by omega) (by omega) _
    · rw [if_pos (nI_lt c (by omega)), if_neg (nI_nlt (by omega) (by omega))]
      obtain ⟨r, e1, e2⟩ := exchanged_eq (lo := j3) (hi := j2) (by omega) (by omega) (by omega) (x_regs v j1)
      exact ⟨r, e1, fun i hi => by rw [e2 i hi, sg_sym j3 (by omega) j2 (by omega) i hi]⟩
  rw [er, bsm]
  obtain ⟨acc', h2, h3⟩ := exch_loop (r := j1) (x := j2) (y := j3) h6 hyn hj1 hj2 hj3 (2 ^ n) FU 0 0 (by omega) (by unfold FU; omega)
  rw [show fn_X7_exchange_31 FU w (nI j1) (nI j2) (nI j3) 0 0 = _ from h3]
  have hq := (hreg j1 hj1).2
  refine put_same h hj1 ?_ ?_
  · apply bB_ext
    intro i hi
    rw [h2 i hi, hrb i hi, bB_0, ← (hreg j1 hj1).1]
    rcases Nat.lt_or_ge (sg j2 j3 i) (2 ^ n) with c | c
    · simp [c]
    · rw [hq _ c]; simp
  · intro i hi
    rcases Nat.lt_or_ge i 64 with c | c
    · rw [hrb i c]
      apply hq
      rcases Nat.lt_or_ge (sg j2 j3 i) (2 ^ n) with c2 | c2
      · have := (sg_n n (by omega) j2 hj2 j3 hj3 i c).mp c2
        omega
      · exact c2
    · exact bB_big c
