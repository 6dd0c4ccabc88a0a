/-! sizes: the polynomials that come from some by halving -/
theorem upz {j : Nat} (hj : j < 6) (q : Int64) : up j q = 0 ↔ ∀ m, m < 64 → m.testBit j = true → bB q m = false := by
  constructor
  · intro h m hm hb
    have hge := ff_ge j hj m hm hb
    have := up_bit hj q (i := m - 2 ^ j) (Nat.lt_of_le_of_lt (Nat.sub_le _ _) hm)
    rw [h, bB_0, Nat.sub_add_cancel hge, ff_own j hj m hm hb] at this
    simpa using this.symm
  · intro h
    apply bB_ext
    intro i hi
    rw [bB_0, up_bit hj q hi]
    cases e : i.testBit j
    · rcases Nat.lt_or_ge (i + 2 ^ j) 64 with c | c
      · rw [h _ c (by rw [ff_add j hj i hi, e]; rfl)]
        rfl
      · rw [bB_big c]; rfl
    · simp
/-- it contains no variable -/
def cst (q : Int64) : Prop := ∀ m, m < 64 → 1 ≤ m → bB q m = false
theorem cstX (q : Int64) : (q &&& (-2)) = 0 ↔ cst q := by
  have hb : ∀ i, i < 64 → bB (-2) i = decide (1 ≤ i) := by decide +kernel
  constructor
  · intro h m hm h1
    have : bB (q &&& (-2)) m = false := by rw [h, bB_0]
    rw [bB_and, hb m hm, decide_eq_true h1, Bool.and_true] at this
    exact this
  · intro h
    apply bB_ext
    intro i hi
    rw [bB_0, bB_and, hb i hi]
    by_cases c : 1 ≤ i
    · rw [h i hi c]; rfl
    · simp [c]
theorem nz_tb : ∀ m, m < 64 → 1 ≤ m → m.testBit 0 = true ∨ m.testBit 1 = true ∨ m.testBit 2 = true ∨ m.testBit 3 = true ∨ m.testBit 4 = true ∨ m.testBit 5 = true := by decide +kernel
theorem cstY {n : Nat} (hn : n ≤ 6) {q : Int64} (hq : wf n q) : oc (bB q) (2 ^ n) = 0 ↔ cst q := by
  have h64 := p2_le hn
  constructor
  · intro h m hm h1
    cases e : bB q m
    · rfl
    · exfalso
      have hlt : m < 2 ^ n := by
        rcases Nat.lt_or_ge m (2 ^ n) with c | c
        · exact c
        · rw [hq m c] at e; cases e
      have key : ∀ k, m.testBit k = true → False := fun k hk => by
        have := (oc_bit (bB q) k (2 ^ n)).mpr ⟨m, hlt, e, hk⟩
        rw [h, Nat.zero_testBit] at this
        cases this
      rcases nz_tb m hm h1 with z | z | z | z | z | z <;> exact key _ z
  · intro h
    apply Nat.eq_of_testBit_eq
    intro k
    rw [Nat.zero_testBit]
    cases e : (oc (bB q) (2 ^ n)).testBit k
    · rfl
    · obtain ⟨m, h1, h2, h3⟩ := (oc_bit _ _ _).mp e
      have : m ≠ 0 := fun z => by rw [z, Nat.zero_testBit] at h3; cases h3
      rw [h m (by omega) (by omega)] at h2
      cases h2
theorem cst_up {q : Int64} : cst q ↔ ∀ j, j < 6 → up j q = 0 := by
  constructor
  · intro h j hj
    rw [upz hj]
    intro m hm hb
    exact h m hm (by
      rcases Nat.eq_zero_or_pos m with z | z
      · rw [z, Nat.zero_testBit] at hb; cases hb
      · exact z)
  · intro h m hm h1
    rcases nz_tb m hm h1 with z | z | z | z | z | z
    · exact (upz (by decide) q).mp (h 0 (by decide)) m hm z
    · exact (upz (by decide) q).mp (h 1 (by decide)) m hm z
    · exact (upz (by decide) q).mp (h 2 (by decide)) m hm z
    · exact (upz (by decide) q).mp (h 3 (by decide)) m hm z
    · exact (upz (by decide) q).mp (h 4 (by decide)) m hm z
    · exact (upz (by decide) q).mp (h 5 (by decide)) m hm z
/-- at most so many come from it, itself included -/
def wg (q : Int64) : Nat := if up 0 q ≠ 0 then 63 else if up 1 q ≠ 0 then 31 else if up 2 q ≠ 0 then 15 else if up 3 q ≠ 0 then 7 else if up 4 q ≠ 0 then 3 else if up 5 q ≠ 0 then 1 else 0
theorem wg_le (q : Int64) : wg q ≤ 63 := by
  unfold wg
  repeat' split
  all_goals omega
theorem wg_pos {q : Int64} (h : ¬ cst q) : 1 ≤ wg q := by
  unfold wg
  by_cases c0 : up 0 q = 0
  · by_cases c1 : up 1 q = 0
    · by_cases c2 : up 2 q = 0
      · by_cases c3 : up 3 q = 0
        · by_cases c4 : up 4 q = 0
          · by_cases c5 : up 5 q = 0
            · exfalso
              apply h
              rw [cst_up]
              intro j hj
              rcases (show j = 0 ∨ j = 1 ∨ j = 2 ∨ j = 3 ∨ j = 4 ∨ j = 5 by omega) with rfl | rfl | rfl | rfl | rfl | rfl <;> assumption
            · simp [c0, c1, c2, c3, c4, c5]
          · simp [c0, c1, c2, c3, c4]
        · simp [c0, c1, c2, c3]
      · simp [c0, c1, c2]
    · simp [c0, c1]
  · simp [c0]
def LV (q : Int64) (k : Nat) : Prop := k < 6 ∧ ¬ up k q = 0 ∧ ∀ j, j < k → up j q = 0
theorem LV.ex {q : Int64} (h : ¬ cst q) : ∃ k, LV q k := by
  have : ∃ k, k < 6 ∧ ¬ up k q = 0 := by
    apply Classical.byContradiction
    intro hn
    apply h
    rw [cst_up]
    intro j hj
    apply Classical.byContradiction
    intro hz
    exact hn ⟨j, hj, hz⟩
  obtain ⟨k, ⟨h1, h2⟩, h3⟩ := pk_least (fun k => k < 6 ∧ ¬ up k q = 0) this
  refine ⟨k, h1, h2, fun j hj => ?_⟩
  apply Classical.byContradiction
  intro hz
  exact h3 j hj ⟨by omega, hz⟩
theorem wg_lv {q : Int64} {k : Nat} (h : LV q k) : wg q = 2 ^ (6 - k) - 1 := by
  obtain ⟨h1, h2, h3⟩ := h
  unfold wg
  rcases (show k = 0 ∨ k = 1 ∨ k = 2 ∨ k = 3 ∨ k = 4 ∨ k = 5 by omega) with rfl | rfl | rfl | rfl | rfl | rfl
  · simp [h2]
  · simp [h2, h3 0 (by decide)]
  · simp [h2, h3 0 (by decide), h3 1 (by decide)]
  · simp [h2, h3 0 (by decide), h3 1 (by decide), h3 2 (by decide)]
  · simp [h2, h3 0 (by decide), h3 1 (by decide), h3 2 (by decide), h3 3 (by decide)]
  · simp [h2, h3 0 (by decide), h3 1 (by decide), h3 2 (by decide), h3 3 (by decide), h3 4 (by decide)]
theorem wg_half {q : Int64} {k : Nat} (hk : k < 6) (h : ∀ j, j ≤ k → up j q = 0) : wg q ≤ 2 ^ (5 - k) - 1 := by
  unfold wg
  rcases (show k = 0 ∨ k = 1 ∨ k = 2 ∨ k = 3 ∨ k = 4 ∨ k = 5 by omega) with rfl | rfl | rfl | rfl | rfl | rfl
  · simp only [h 0 (by decide), ne_eq, not_true_eq_false, if_false]
    repeat' split
    all_goals omega
  · simp only [h 0 (by decide), h 1 (by decide), ne_eq, not_true_eq_false, if_false]
    repeat' split
    all_goals omega
  · simp only [h 0 (by decide), h 1 (by decide), h 2 (by decide), ne_eq, not_true_eq_false, if_false]
    repeat' split
    all_goals omega
  · simp only [h 0 (by decide), h 1 (by decide), h 2 (by decide), h 3 (by decide), ne_eq, not_true_eq_false, if_false]
    repeat' split
    all_goals omega
  · simp only [h 0 (by decide), h 1 (by decide), h 2 (by decide), h 3 (by decide), h 4 (by decide), ne_eq, not_true_eq_false, if_false]
    repeat' split
    all_goals omega
  · simp only [h 0 (by decide), h 1 (by decide), h 2 (by decide), h 3 (by decide), h 4 (by decide), h 5 (by decide), ne_eq, not_true_eq_false, if_false]
    omega
theorem ff_oth : ∀ k, k < 6 → ∀ j, j < 6 → ∀ m, m < 64 → j ≠ k → m.testBit k = false → (m + 2 ^ k).testBit j = m.testBit j := by decide +kernel
theorem half_wg {q : Int64} {k : Nat} (h : LV q k) : wg (up k q) + wg (dn k q) + 1 ≤ wg q := by
  obtain ⟨h1, h2, h3⟩ := id h
  have hu : ∀ j, j ≤ k → up j (up k q) = 0 := by
    intro j hj
    rw [upz (by omega)]
    intro m hm hb
    rw [up_bit h1 q hm]
    cases e : m.testBit k
    · rcases Nat.lt_or_ge (m + 2 ^ k) 64 with c | c
      · rcases Nat.lt_or_ge j k with cj | cj
        · rw [(upz (by omega) q).mp (h3 j cj) _ c (by rw [ff_oth k h1 j (by omega) m hm (by omega) e]; exact hb)]
          rfl
        · rw [show j = k by omega, e] at hb; cases hb
      · rw [bB_big c]; rfl
    · simp
  have hd : ∀ j, j ≤ k → up j (dn k q) = 0 := by
    intro j hj
    rw [upz (by omega)]
    intro m hm hb
    rw [dn_bit h1 q hm]
    rcases Nat.lt_or_ge j k with cj | cj
    · rw [(upz (by omega) q).mp (h3 j cj) m hm hb]; rfl
    · rw [show j = k by omega] at hb
      rw [hb]
      simp
  have e1 := wg_half h1 hu
  have e2 := wg_half h1 hd
  rw [wg_lv h]
  rcases (show k = 0 ∨ k = 1 ∨ k = 2 ∨ k = 3 ∨ k = 4 ∨ k = 5 by omega) with rfl | rfl | rfl | rfl | rfl | rfl <;> simp at e1 e2 ⊢ <;> omega
theorem lowest_loop {q : Int64} {k : Nat} (h : LV q k) : ∀ d j f, j + d = k → d < f → fn_X3_lowestVariable_2 f q (nI j) = some (nI k) := by
  obtain ⟨h1, h2, h3⟩ := h
  intro d
  induction d with
  | zero =>
    intro j f hj hf
    obtain ⟨f, rfl⟩ : ∃ g, f = g + 1 := ⟨f - 1, by omega⟩
    have e : j = k := by omega
    subst e
    rw [fn_X3_lowestVariable_2]
    unfold fn_X3_lowestVariable_2_body
    rw [if_neg (show ¬ (6 : Int32) ≤ nI j from nI_ge (b := 6) (by omega) (by omega)), upperHalf_eq h1, bsm, if_neg h2]
  | succ d ih =>
    intro j f hj hf
    obtain ⟨f, rfl⟩ : ∃ g, f = g + 1 := ⟨f - 1, by omega⟩
    rw [fn_X3_lowestVariable_2]
    unfold fn_X3_lowestVariable_2_body
    rw [if_neg (show ¬ (6 : Int32) ≤ nI j from nI_ge (b := 6) (by omega) (by omega)), upperHalf_eq (by omega), bsm, if_pos (h3 j (by omega)), nI_1]
    exact ih (j + 1) f (by omega) (by omega)
theorem lowest_eq {q : Int64} {k : Nat} (h : LV q k) : fn_X3_lowestVariable q = some (nI k) := by
  unfold fn_X3_lowestVariable
  exact lowest_loop h k 0 FU (by omega) (by have := h.1; unfold FU; omega)
-- noting a polynomial
def FR (n kp ln c : Nat) (v : XS) (w : YS) : Prop := Rl n kp ln v w ∧ x_count v = nI c ∧ y_founds w = nI c ∧ c ≤ 504 ∧ ∀ j, j < c → x_found v j = y_found w j ∧ wf n (x_found v j) ∧ ¬ cst (x_found v j)
theorem known_loop {v : XS} {c : Nat} (hc : x_count v = nI c) (h5 : c ≤ 504) (q : Int64) : ∀ d i f, i + d = c → d < f → fn_X0_isKnown_2 v f q (nI i) = some 1 ∧ (∃ j, i ≤ j ∧ j < c ∧ x_found v j = q) ∨ fn_X0_isKnown_2 v f q (nI i) = some 0 ∧ (∀ j, i ≤ j → j < c → ¬ x_found v j = q) := by
  intro d
  induction d with
  | zero =>
    intro i f h hf
    obtain ⟨f, rfl⟩ : ∃ g, f = g + 1 := ⟨f - 1, by omega⟩
    refine Or.inr ⟨?_, fun j h1 h2 => by omega⟩
    unfold fn_X0_isKnown_2 fn_X0_isKnown_2_body
    rw [hc, if_pos (nI_le (by omega) (by omega))]
  | succ d ih =>
    intro i f h hf
    obtain ⟨f, rfl⟩ : ∃ g, f = g + 1 := ⟨f - 1, by omega⟩
    rw [fn_X0_isKnown_2]
    unfold fn_X0_isKnown_2_body
    rw [hc, if_neg (nI_ge (by omega) (by omega)), if_neg (show ¬ (504 : Int32) ≤ nI i from nI_ge (b := 504) (by omega) (by omega)), rd_eq _ (show i < 504 by omega) (by decide), bsm, nI_1]
    by_cases e : x_found v i = q
    · rw [if_pos e]
      exact Or.inl ⟨rfl, i, Nat.le_refl _, by omega, e⟩
    · rw [if_neg e]
      rcases ih (i + 1) f (by omega) (by omega) with ⟨a, j, b1, b2, b3⟩ | ⟨a, b⟩
      · exact Or.inl ⟨a, j, by omega, b2, b3⟩
      · refine Or.inr ⟨a, fun j h1 h2 => ?_⟩
        rcases Nat.lt_or_ge i j with z | z
        · exact b j (by omega) h2
        · rw [show j = i by omega]; exact e
theorem notes_loop {w : YS} {c : Nat} (hc : y_founds w = nI c) (h5 : c ≤ 504) (q : Int64) : ∀ d i f, i + d = c → d + 1 < f → ((∃ j, i ≤ j ∧ j < c ∧ y_found w j = q) → fn_X7_notes_17 f w q 1 (nI i) = some w) ∧ ((∀ j, i ≤ j → j < c → ¬ y_found w j = q) → fn_X7_notes_17 f w q 1 (nI i) = fn_X7_notes_54 w q 1) := by
  intro d
  induction d with
  | zero =>
    intro i f h hf
    obtain ⟨f, rfl⟩ : ∃ g, f = g + 1 := ⟨f - 1, by omega⟩
    refine ⟨fun ⟨j, h1, h2, _⟩ => by omega, fun _ => ?_⟩
    unfold fn_X7_notes_17 fn_X7_notes_17_body
    rw [hc, if_pos (nI_le (by omega) (by omega))]
  | succ d ih =>
    intro i f h hf
    obtain ⟨f, rfl⟩ : ∃ g, f = g + 1 := ⟨f - 1, by omega⟩
    rw [fn_X7_notes_17]
    unfold fn_X7_notes_17_body
    rw [hc, if_neg (nI_ge (by omega) (by omega)), if_neg (show ¬ (1 : Int32) = 0 by decide), rd_eq _ (show i < 1024 by omega) (by decide), bsm, nI_1]
    by_cases e : y_found w i = q
    · rw [if_pos e]
      refine ⟨fun _ => ?_, fun hn => absurd e (hn i (Nat.le_refl _) (by omega))⟩
      obtain ⟨f, rfl⟩ : ∃ g, f = g + 1 := ⟨f - 1, by omega⟩
      rw [fn_X7_notes_17]
      unfold fn_X7_notes_17_body fn_X7_notes_54
      simp only [if_true, ite_self]
    · rw [if_neg e]
      have := ih (i + 1) f (by omega) (by omega)
      refine ⟨fun ⟨j, h1, h2, h3⟩ => this.1 ⟨j, ?_, h2, h3⟩, fun hn => this.2 (fun j h1 h2 => hn j (by omega) h2)⟩
      rcases Nat.lt_or_ge i j with z | z
      · exact z
      · rw [show j = i by omega] at h3
        exact absurd h3 e
/-- either nothing is noted, or the polynomial, at the end -/
theorem note_ok {n kp ln c : Nat} {v : XS} {w : YS} (h : FR n kp ln c v w) {q : Int64} (hq : wf n q) (hb : c + wg q ≤ 504) : ∃ c' v' w', fn_X0_enter v q = some v' ∧ fn_X7_notes w q = some w' ∧ FR n kp ln c' v' w' ∧ (∀ j, j < c → x_found v' j = x_found v j) ∧ (c' = c ∨ (c' = c + 1 ∧ x_found v' c = q ∧ 1 ≤ wg q)) := by
  obtain ⟨hr, hxc, hyc, h5, hf⟩ := id h
  have h6 := hr.1.2
  have hyn := hr.2.2.1
  have hlt := oc_lt (n := n) (bB q) (2 ^ n) (Nat.le_refl _)
  have h64 := p2_le h6
  unfold fn_X0_enter fn_X7_notes fn_X7_notes_13
  rw [occurs_eq h6 hyn, bsm]
  by_cases cc : cst q
  · rw [if_pos ((cstX q).mpr cc), (cstY h6 hq).mpr cc, if_pos (show nI 0 = 0 from rfl)]
    unfold fn_X0_enter_15
    rw [if_neg (show ¬ (1 : Int32) = 0 by decide)]
    refine ⟨c, v, w, rfl, ?_, h, fun _ _ => rfl, Or.inl rfl⟩
    unfold FU
    rw [fn_X7_notes_17]
    unfold fn_X7_notes_17_body fn_X7_notes_54
    simp only [if_true, ite_self]
  · rw [if_neg (fun z => cc ((cstX q).mp z)), if_neg (show ¬ nI (oc (bB q) (2 ^ n)) = 0 from fun z => cc ((cstY h6 hq).mp ((nI_eq (b := 0) (by omega) (by decide)).mp z)))]
    unfold fn_X0_enter_15 fn_X0_isKnown
    rw [if_pos rfl]
    have hk := known_loop hxc h5 q c 0 FU (by omega) (by unfold FU; omega)
    have hy := notes_loop hyc h5 q c 0 FU (by omega) (by unfold FU; omega)
    rcases hk with ⟨a, j, b1, b2, b3⟩ | ⟨a, b⟩
    · rw [show fn_X0_isKnown_2 v FU q 0 = _ from a, bsm, if_neg (show ¬ (1 : Int32) = 0 by decide)]
      exact ⟨c, v, w, rfl, hy.1 ⟨j, b1, b2, by rw [← (hf j b2).1]; exact b3⟩, h, fun _ _ => rfl, Or.inl rfl⟩
    · have hw1 := wg_pos cc
      have hc4 : c < 504 := by omega
      rw [show fn_X0_isKnown_2 v FU q 0 = _ from a, bsm, if_pos rfl, hxc, if_neg (show ¬ (504 : Int32) ≤ nI c from nI_ge (b := 504) (by omega) (by omega)), wrL_eq _ _ hc4 (by decide), bsm, nI_1]
      have e2 : fn_X7_notes_17 FU w q 1 0 = _ := hy.2 (fun j h1 h2 => by rw [← (hf j h2).1]; exact b j h1 h2)
      rw [e2]
      unfold fn_X7_notes_54
      rw [if_neg (show ¬ (1 : Int32) = 0 by decide), hyc, wrL_eq _ _ (show c < 1024 by omega) (by decide), bsm, nI_1]
      refine ⟨c + 1, _, _, rfl, rfl, ⟨hr, rfl, rfl, by omega, fun j hj => ?_⟩, fun j hj => ?_, Or.inr ⟨rfl, pk_uLs, hw1⟩⟩
      · show vp_updL (x_found v) c q j = vp_updL (y_found w) c q j ∧ wf n (vp_updL (x_found v) c q j) ∧ ¬ cst (vp_updL (x_found v) c q j)
        by_cases z : j = c
        · subst z
          rw [pk_uLs, pk_uLs]
          exact ⟨rfl, hq, cc⟩
        · rw [pk_uLn z, pk_uLn z]
          exact hf j (by omega)
      · exact pk_uLn (by omega)
-- what is left to come
def Sg (f : Nat → Int64) (k : Nat) : Nat → Nat
  | 0 => 0
  | c + 1 => Sg f k c + (if k ≤ c then wg (f c) - 1 else 0)
theorem Sg_cong {f g : Nat → Int64} {k : Nat} : ∀ c, (∀ j, j < c → f j = g j) → Sg f k c = Sg g k c := by
  intro c
  induction c with
  | zero => intro _; rfl
  | succ c ih => intro h; rw [Sg, Sg, ih (fun j hj => h j (by omega)), h c (by omega)]
theorem Sg_pop {f : Nat → Int64} {k : Nat} : ∀ c, k < c → Sg f k c = (wg (f k) - 1) + Sg f (k + 1) c := by
  intro c
  induction c with
  | zero => intro h; omega
  | succ c ih =>
    intro h
    rw [Sg, Sg]
    rcases Nat.lt_or_ge k c with z | z
    · rw [ih z, if_pos (by omega), if_pos (by omega)]
      omega
    · have e : k = c := by omega
      subst e
      have : ∀ c, c ≤ k → ∀ k', k ≤ k' → Sg f k' c = 0 := by
        intro c
        induction c with
        | zero => intro _ _ _; rfl
        | succ c ih2 => intro h1 k' h2; rw [Sg, ih2 (by omega) k' h2, if_neg (by omega)]
      rw [this k (Nat.le_refl _) k (Nat.le_refl _), this k (Nat.le_refl _) (k + 1) (by omega), if_pos (Nat.le_refl _), if_neg (by omega)]
      omega
theorem note_pot {n kp ln c k : Nat} {v : XS} {w : YS} (h : FR n kp ln c v w) (hk : k ≤ c) {q : Int64} (hq : wf n q) {R : Nat} (hb : c + Sg (x_found v) k c + wg q + R ≤ 504) : ∃ c' v' w', fn_X0_enter v q = some v' ∧ fn_X7_notes w q = some w' ∧ FR n kp ln c' v' w' ∧ (∀ j, j < c → x_found v' j = x_found v j) ∧ c ≤ c' ∧ c' + Sg (x_found v') k c' + R ≤ 504 := by
  obtain ⟨c', v', w', e1, e2, e3, e4, e5⟩ := note_ok h hq (by omega)
  refine ⟨c', v', w', e1, e2, e3, e4, by omega, ?_⟩
  rcases e5 with e5 | ⟨e5, e6, e7⟩
  · rw [e5, Sg_cong (g := x_found v) c e4]
    omega
  · rw [e5, Sg, Sg_cong (g := x_found v) c e4, if_pos hk, e6]
    omega
theorem spread_in {n kp ln c k lv : Nat} {v : XS} {w : YS} (h : FR n kp ln c v w) (hk : k < c) (hl : LV (x_found v k) lv) (hln : lv < n) (k2 : YS → Int32 → Option (Int32 × YS)) : ∀ d j f, j + d = lv → d < f → fn_X7_spreads_12 k2 f w (nI k) (nI j) = ((fn_X7_notes w (up lv (x_found v k))).bind fun q47 => (rd (y_found q47) 1024 (nI k)).bind fun q57 => (fn_X7_lower q47 q57 (nI lv)).bind fun q59 => (fn_X7_notes q47 q59).bind fun q62 => k2 q62 (nI (k + 1))) := by
  obtain ⟨hr, hxc, hyc, h5, hf⟩ := id h
  have h6 := hr.1.2
  have hyn := hr.2.2.1
  obtain ⟨f1, f2, f3⟩ := hf k hk
  have hlt := oc_lt (n := n) (bB (x_found v k)) (2 ^ n) (Nat.le_refl _)
  have h64 := p2_le h6
  intro d
  induction d with
  | zero =>
    intro j f hj hff
    obtain ⟨f, rfl⟩ : ∃ g, f = g + 1 := ⟨f - 1, by omega⟩
    have e : j = lv := by omega
    subst e
    rw [fn_X7_spreads_12]
    unfold fn_X7_spreads_12_body
    have hb : (oc (bB (x_found v k)) (2 ^ n)).testBit j = true := by
      cases z : (oc (bB (x_found v k)) (2 ^ n)).testBit j
      · exact absurd ((up_zero h6 hln f2).mpr z) hl.2.1
      · rfl
    rw [rd_eq _ (show k < 1024 by omega) (by decide), bsm, ← f1, occurs_eq h6 hyn, bsm, isr_bit _ (by omega) j (by omega), hb, bsm, upper_eq h6 hyn hln f2, bsm, nI_1 k]
    simp only [if_true]
    rw [if_neg (show ¬ (1 : Int32) = 0 by decide)]
  | succ d ih =>
    intro j f hj hff
    obtain ⟨f, rfl⟩ : ∃ g, f = g + 1 := ⟨f - 1, by omega⟩
    rw [fn_X7_spreads_12]
    unfold fn_X7_spreads_12_body
    have hb : (oc (bB (x_found v k)) (2 ^ n)).testBit j = false := (up_zero h6 (by omega) f2).mp (hl.2.2 j (by omega))
    rw [rd_eq _ (show k < 1024 by omega) (by decide), bsm, ← f1, occurs_eq h6 hyn, bsm, isr_bit _ (by omega) j (by omega), hb, nI_1]
    simp only [Bool.false_eq_true, if_false, if_true]
    exact ih (j + 1) f (by omega) (by omega)
theorem spread_loop {n kp ln : Nat} : ∀ d k c f f' (v : XS) (w : YS), k + d = 504 → d < f → d < f' → FR n kp ln c v w → k ≤ c → c + Sg (x_found v) k c ≤ 504 → ∃ c' v' w', fn_X0_closedCount_2 f v (nI k) = some (nI c', v') ∧ fn_X7_spreads_2 f' w (nI k) = some (nI c', w') ∧ Rel v' w' := by
  intro d
  induction d with
  | zero =>
    intro k c f f' v w h hf hf' hfr hkc hpot
    obtain ⟨f, rfl⟩ : ∃ g, f = g + 1 := ⟨f - 1, by omega⟩
    obtain ⟨f', rfl⟩ : ∃ g, f' = g + 1 := ⟨f' - 1, by omega⟩
    obtain ⟨hr, hxc, hyc, h5, -⟩ := hfr
    rw [fn_X0_closedCount_2, fn_X7_spreads_2]
    unfold fn_X0_closedCount_2_body fn_X7_spreads_2_body
    rw [hxc, hyc, if_pos (nI_le (by omega) (by omega)), if_pos (nI_le (by omega) (by omega))]
    exact ⟨_, _, _, rfl, rfl, n, kp, ln, hr⟩
  | succ d ih =>
    intro k c f f' v w h hf hf' hfr hkc hpot
    obtain ⟨f, rfl⟩ : ∃ g, f = g + 1 := ⟨f - 1, by omega⟩
    obtain ⟨f', rfl⟩ : ∃ g, f' = g + 1 := ⟨f' - 1, by omega⟩
    obtain ⟨hr, hxc, hyc, h5, hfd⟩ := id hfr
    have h6 := hr.1.2
    rw [fn_X0_closedCount_2, fn_X7_spreads_2]
    unfold fn_X0_closedCount_2_body fn_X7_spreads_2_body
    rw [hxc, hyc]
    rcases Nat.lt_or_ge k c with z | z
    · obtain ⟨f1, f2, f3⟩ := hfd k z
      obtain ⟨lv, hlv⟩ := LV.ex f3
      have hln : lv < n := by
        rcases Nat.lt_or_ge lv n with q | q
        · exact q
        · exfalso
          apply hlv.2.1
          rw [upz hlv.1]
          intro m hm hb
          apply f2
          rcases Nat.lt_or_ge m (2 ^ n) with y | y
          · rw [ff_hi n (by omega) lv hlv.1 q m y] at hb
            cases hb
          · exact y
      have hw := half_wg hlv
      have hpop := Sg_pop (f := x_found v) c z
      rw [if_neg (nI_ge z (by omega)), if_neg (nI_ge z (by omega)), if_neg (show ¬ (504 : Int32) ≤ nI k from nI_ge (b := 504) (by omega) (by omega)), rd_eq (x_found v) (show k < 504 by omega) (by decide), bsm, lowest_eq hlv, bsm, bsm, upperHalf_eq hlv.1, bsm]
      rw [show (0 : Int32) = nI 0 from rfl, spread_in hfr z hlv hln (fn_X7_spreads_2 f') lv 0 FU (by omega) (by have := hlv.1; unfold FU; omega)]
      obtain ⟨c1, v1, w1, a1, a2, a3, a4, a5, a6⟩ := note_pot (k := k + 1) hfr (by omega) (up_wf hlv.1 f2) (R := wg (dn lv (x_found v k))) (by omega)
      have f1' := (a3.2.2.2.2 k (by omega)).1
      have hv1 := a4 k z
      rw [a1, a2, bsm, bsm, rd_eq (x_found v1) (show k < 504 by omega) (by decide), rd_eq (y_found w1) (show k < 1024 by omega) (by decide), bsm, bsm, ← f1', hv1, lowerHalf_eq hlv.1, lower_eq h6 a3.1.2.2.1 hln f2, bsm, bsm]
      obtain ⟨c2, v2, w2, b1, b2, b3, b4, b5, b6⟩ := note_pot (k := k + 1) a3 (by omega) (dn_wf (k := lv) f2) (R := 0) (by omega)
      rw [b1, b2, bsm, bsm, nI_1]
      exact ih (k + 1) c2 f f' v2 w2 (by omega) (by omega) (by omega) b3 (by omega) (by omega)
    · rw [if_pos (nI_le z (by omega)), if_pos (nI_le z (by omega))]
      exact ⟨_, _, _, rfl, rfl, n, kp, ln, hr⟩
theorem m_size {n kp ln : Nat} {v : XS} {w : YS} (h : Rl n kp ln v w) (x1 : Int32) : Same2 (fn_X6_size v x1) (fn_X7_size w x1) := by
  have hrel : Rel v w := ⟨n, kp, ln, h⟩
  unfold fn_X6_size fn_X7_size
  rcases reg_c x1 with ⟨a1, b1⟩ | ⟨j1, hj1, ej1, a1, b1⟩
  · simp only [a1, b1, bsm, i00, if_true]
    exact Same2.of hrel
  simp only [a1, b1, bsm, i10, if_false]
  subst ej1
  have hq := h.2.2.2.1 j1 hj1
  unfold fn_X0_forget
  rw [bsm, show rd (x_regs (xs_count v 0)) 8 (nI j1) = some (x_regs v j1) from rd_eq (x_regs v) hj1 (by decide), rd_eq (y_p w) hj1 (by decide), bsm, bsm, ← hq.1]
  have hfr : FR n kp ln 0 (xs_count v 0) (ys_founds w 0) := ⟨h, rfl, rfl, by omega, fun j hj => by omega⟩
  have := wg_le (x_regs v j1)
  obtain ⟨c1, v1, w1, a1, a2, a3, -, -, a6⟩ := note_pot (k := 0) hfr (by omega) hq.2 (R := 0) (by show 0 + 0 + _ + 0 ≤ 504; omega)
  rw [a1, a2, bsm, bsm]
  unfold fn_X0_closedCount fn_X7_spreads
  obtain ⟨c', v', w', e1, e2, e3⟩ := spread_loop (n := n) (kp := kp) (ln := ln) 504 0 c1 FU FU v1 w1 (by omega) (by unfold FU; omega) (by unfold FU; omega) a3 (by omega) (by omega)
  rw [show fn_X0_closedCount_2 FU v1 0 = _ from e1, show fn_X7_spreads_2 FU w1 0 = _ from e2, bsm, bsm]
  exact ⟨_, _, _, rfl, rfl, e3⟩
theorem shared_loop {n kp ln : Nat} : ∀ d r c f (v : XS) (w : YS), r + d = 8 → d < f → FR n kp ln c v w → c + Sg (x_found v) 0 c ≤ 63 * r → Same2 (fn_X6_sharedSize_9 f v (nI r)) (fn_X7_sharedSize_7 f w (nI r)) := by
  intro d
  induction d with
  | zero =>
    intro r c f v w h hf hfr hpot
    obtain ⟨f, rfl⟩ : ∃ g, f = g + 1 := ⟨f - 1, by omega⟩
    rw [fn_X6_sharedSize_9, fn_X7_sharedSize_7]
    unfold fn_X6_sharedSize_9_body fn_X7_sharedSize_7_body fn_X0_closedCount fn_X7_spreads
    have p8 : (8 : Int32) ≤ nI r := nI_le (a := 8) (by omega) (by omega)
    rw [if_pos p8, if_pos p8]
    obtain ⟨c', v', w', e1, e2, e3⟩ := spread_loop (n := n) (kp := kp) (ln := ln) 504 0 c FU FU v w (by omega) (by unfold FU; omega) (by unfold FU; omega) hfr (by omega) (by omega)
    rw [show fn_X0_closedCount_2 FU v 0 = _ from e1, show fn_X7_spreads_2 FU w 0 = _ from e2, bsm, bsm]
    exact ⟨_, _, _, rfl, rfl, e3⟩
  | succ d ih =>
    intro r c f v w h hf hfr hpot
    obtain ⟨f, rfl⟩ : ∃ g, f = g + 1 := ⟨f - 1, by omega⟩
    have hr8 : r < 8 := by omega
    have hq := hfr.1.2.2.2.1 r hr8
    have := wg_le (x_regs v r)
    rw [fn_X6_sharedSize_9, fn_X7_sharedSize_7]
    unfold fn_X6_sharedSize_9_body fn_X7_sharedSize_7_body
    have n8 : ¬ (8 : Int32) ≤ nI r := nI_ge (b := 8) (by omega) (by omega)
    rw [if_neg n8, if_neg n8, rd_eq (x_regs v) hr8 (by decide), rd_eq (y_p w) hr8 (by decide), bsm, bsm, ← hq.1, nI_1]
    obtain ⟨c1, v1, w1, a1, a2, a3, -, -, a6⟩ := note_pot (k := 0) hfr (by omega) hq.2 (R := 504 - 63 * (r + 1)) (by omega)
    rw [a1, a2, bsm, bsm]
    exact ih (r + 1) c1 f v1 w1 (by omega) (by omega) a3 (by omega)
theorem m_sharedSize {n kp ln : Nat} {v : XS} {w : YS} (h : Rl n kp ln v w) : Same2 (fn_X6_sharedSize v) (fn_X7_sharedSize w) := by
  unfold fn_X6_sharedSize fn_X7_sharedSize fn_X0_forget
  rw [bsm]
  have hfr : FR n kp ln 0 (xs_count v 0) (ys_founds w 0) := ⟨h, rfl, rfl, by omega, fun j hj => by omega⟩
  exact shared_loop (n := n) (kp := kp) (ln := ln) 8 0 0 FU (xs_count v 0) (ys_founds w 0) (by omega) (by unfold FU; omega) hfr (by show 0 + 0 ≤ _; omega)
