/-! polynomials: the transform between terms and values, halves, products -/
theorem nx_or (a b : Nat) : nI a ||| nI b = nI (a ||| b) := by
  apply Int32.toBitVec_inj.1
  show BitVec.ofNat 32 a ||| BitVec.ofNat 32 b = BitVec.ofNat 32 (a ||| b)
  apply BitVec.eq_of_getLsbD_eq
  intro i hi
  simp [hi]
theorem nx_and (a b : Nat) : nI a &&& nI b = nI (a &&& b) := by
  apply Int32.toBitVec_inj.1
  show BitVec.ofNat 32 a &&& BitVec.ofNat 32 b = BitVec.ofNat 32 (a &&& b)
  apply BitVec.eq_of_getLsbD_eq
  intro i hi
  simp [hi]
theorem nx_xor (a b : Nat) : nI a ^^^ nI b = nI (a ^^^ b) := by
  apply Int32.toBitVec_inj.1
  show BitVec.ofNat 32 a ^^^ BitVec.ofNat 32 b = BitVec.ofNat 32 (a ^^^ b)
  apply BitVec.eq_of_getLsbD_eq
  intro i hi
  simp [hi]
def wf (n : Nat) (q : Int64) : Prop := ∀ i, 2 ^ n ≤ i → bB q i = false
theorem p2_le {n : Nat} (h : n ≤ 6) : 2 ^ n ≤ 64 := Nat.pow_le_pow_right (n := 2) (by decide) h
theorem p2_pos (n : Nat) : 0 < 2 ^ n := Nat.two_pow_pos n
theorem wf_e {n m : Nat} (hn : n ≤ 6) (hm : m < 2 ^ n) : wf n (lsh 1 (nI m)) := fun i hi => by
  have := p2_le hn
  rcases Nat.lt_or_ge i 64 with h | h
  · rw [bB_e (by omega) h]
    simp
    omega
  · exact bB_big h
theorem wf_0 (n : Nat) : wf n 0 := fun i _ => bB_0 i
theorem wf_xor {n : Nat} {a b : Int64} (ha : wf n a) (hb : wf n b) : wf n (a ^^^ b) := fun i hi => by rw [bB_xor, ha i hi, hb i hi]; rfl
theorem wf_or {n : Nat} {a b : Int64} (ha : wf n a) (hb : wf n b) : wf n (a ||| b) := fun i hi => by rw [bB_or, ha i hi, hb i hi]; rfl
theorem wf_and {n : Nat} {a b : Int64} (ha : wf n a) : wf n (a &&& b) := fun i hi => by rw [bB_and, ha i hi]; rfl
theorem wf_ext {n : Nat} (hn : n ≤ 6) {a b : Int64} (ha : wf n a) (hb : wf n b) (h : ∀ i, i < 2 ^ n → bB a i = bB b i) : a = b := by
  apply bB_ext
  intro i _
  rcases Nat.lt_or_ge i (2 ^ n) with c | c
  · exact h i c
  · rw [ha i c, hb i c]
-- finite facts of masks
theorem ff_sub : ∀ k, k < 6 → ∀ i, i < 64 → (decide (2 ^ k ≤ i) && !(i - 2 ^ k).testBit k) = i.testBit k := by decide +kernel
theorem ff_ge : ∀ k, k < 6 → ∀ i, i < 64 → i.testBit k = true → 2 ^ k ≤ i := by decide +kernel
theorem ff_add : ∀ k, k < 6 → ∀ i, i < 64 → (i + 2 ^ k).testBit k = !i.testBit k := by decide +kernel
theorem ff_top : ∀ n, n < 7 → ∀ k, k < n → ∀ i, i < 64 → 2 ^ n ≤ i → i.testBit k = true → 2 ^ n ≤ i - 2 ^ k := by decide +kernel
theorem ff_com : ∀ j, j < 6 → ∀ k, k < 6 → ∀ i, i < 64 → j ≠ k → i.testBit j = true → (i - 2 ^ j).testBit k = i.testBit k := by decide +kernel
theorem ff_own : ∀ k, k < 6 → ∀ i, i < 64 → i.testBit k = true → (i - 2 ^ k).testBit k = false := by decide +kernel
theorem ff_hi : ∀ n, n < 7 → ∀ k, k < 6 → n ≤ k → ∀ i, i < 2 ^ n → i.testBit k = false := by decide +kernel
-- one step of the transform
def rz (k : Nat) (q : Int64) : Int64 := lsh (q &&& kW k) (nI (2 ^ k))
theorem p2_6 : ∀ k, k < 6 → 2 ^ k < 64 := by decide
theorem rz_bit {k : Nat} (hk : k < 6) (q : Int64) {i : Nat} (hi : i < 64) : bB (rz k q) i = (i.testBit k && bB q (i - 2 ^ k)) := by
  unfold rz
  rw [bB_lsh (p2_6 k hk) _ hi, bB_and]
  have h := ff_sub k hk i hi
  rw [kW_bit k hk (i - 2 ^ k) (Nat.lt_of_le_of_lt (Nat.sub_le _ _) hi)]
  rw [← h]
  cases decide (2 ^ k ≤ i) <;> cases (i - 2 ^ k).testBit k <;> cases bB q (i - 2 ^ k) <;> rfl
theorem raised_eq {k : Nat} (hk : k < 6) (q : Int64) : fn_X3_raised q (nI k) = some (rz k q) := by
  unfold fn_X3_raised
  rw [without_eq k hk, ish1 k (by omega)]
  rfl
def st (k : Nat) (q : Int64) : Int64 := q ^^^ rz k q
theorem st_bit {k : Nat} (hk : k < 6) (q : Int64) {i : Nat} (hi : i < 64) : bB (st k q) i = (bB q i ^^ (i.testBit k && bB q (i - 2 ^ k))) := by
  unfold st
  rw [bB_xor, rz_bit hk q hi]
def tr : Nat → Int64 → Int64
  | 0, q => q
  | k + 1, q => st k (tr k q)
theorem st_wf {n k : Nat} (hn : n ≤ 6) (hk : k < n) {q : Int64} (h : wf n q) : wf n (st k q) := fun i hi => by
  rcases Nat.lt_or_ge i 64 with c | c
  · rw [st_bit (by omega) q c, h i hi]
    cases e : i.testBit k
    · rfl
    · rw [h _ (ff_top n (by omega) k hk i c hi e)]
      rfl
  · exact bB_big c
theorem tr_wf {n : Nat} (hn : n ≤ 6) {q : Int64} (h : wf n q) : ∀ k, k ≤ n → wf n (tr k q) := by
  intro k
  induction k with
  | zero => intro _; exact h
  | succ k ih => intro hk; exact st_wf hn (by omega) (ih (by omega))
theorem transformed_loop {n : Nat} (hn : n ≤ 6) (q : Int64) : ∀ d k f, k + d = n → d < f → fn_X3_transformed_5 f (nI n) (tr k q) (nI k) = some (tr n q) := by
  intro d
  induction d with
  | zero =>
    intro k f h hf
    obtain ⟨f, rfl⟩ : ∃ g, f = g + 1 := ⟨f - 1, by omega⟩
    unfold fn_X3_transformed_5 fn_X3_transformed_5_body
    have : k = n := by omega
    subst this
    rw [if_pos (nI_le (Nat.le_refl _) (by omega))]
  | succ d ih =>
    intro k f h hf
    obtain ⟨f, rfl⟩ : ∃ g, f = g + 1 := ⟨f - 1, by omega⟩
    unfold fn_X3_transformed_5 fn_X3_transformed_5_body
    rw [if_neg (nI_ge (by omega) (by omega)), raised_eq (by omega), nI_1]
    exact ih (k + 1) f (by omega) (by omega)
theorem transformed_eq {n : Nat} (hn : n ≤ 6) (q : Int64) : fn_X3_transformed q (nI n) = some (tr n q) := by
  unfold fn_X3_transformed
  exact transformed_loop hn q n 0 FU (by omega) (by unfold FU; omega)
-- the reference's transform
theorem vals_in {w : YS} {n k : Nat} (hn : n ≤ 6) (hw : y_n w = nI n) (hk : k < n) (k5 : Int64 → Int32 → Option Int64) : ∀ d f m t, m + d = 2 ^ n → d < f → ∃ t', (∀ i, i < 64 → bB t' i = if m ≤ i ∧ i < 2 ^ n ∧ i.testBit k = true then (bB t i ^^ bB t (i - 2 ^ k)) else bB t i) ∧ fn_X7_values_17 w k5 f t (nI k) (nI m) = k5 t' (nI (k + 1)) := by
  have h64 := p2_le hn
  intro d
  induction d with
  | zero =>
    intro f m t h hf
    obtain ⟨f, rfl⟩ : ∃ g, f = g + 1 := ⟨f - 1, by omega⟩
    refine ⟨t, fun i hi => ?_, ?_⟩
    · rw [if_neg (by omega)]
    · unfold fn_X7_values_17 fn_X7_values_17_body
      rw [hw, ish1 n (by omega), if_pos (nI_le (by omega) (by omega)), nI_1]
  | succ d ih =>
    intro f m t h hf
    obtain ⟨f, rfl⟩ : ∃ g, f = g + 1 := ⟨f - 1, by omega⟩
    unfold fn_X7_values_17 fn_X7_values_17_body
    rw [hw, ish1 n (by omega), if_neg (nI_ge (by omega) (by omega)), isr_bit m (by omega) k (by omega), nI_1, ish1 k (by omega)]
    cases e : m.testBit k
    · rw [if_neg (by decide)]
      obtain ⟨t', h1, h2⟩ := ih f (m + 1) t (by omega) (by omega)
      refine ⟨t', fun i hi => ?_, h2⟩
      rw [h1 i hi]
      by_cases c : m = i
      · subst c
        rw [if_neg (by omega), if_neg (by rw [e]; simp)]
      · by_cases c2 : m + 1 ≤ i ∧ i < 2 ^ n ∧ i.testBit k = true
        · rw [if_pos c2, if_pos ⟨by omega, c2.2⟩]
        · rw [if_neg c2, if_neg (fun z => c2 ⟨by omega, z.2⟩)]
    · have hge := ff_ge k (by omega) m (by omega) e
      rw [if_pos (by decide), pk_sub hge, has1_eq t (Nat.lt_of_le_of_lt (Nat.sub_le _ _) (by omega : m < 64))]
      have key : ∀ t1, (∀ i, i < 64 → bB t1 i = if i = m then (bB t m ^^ bB t (m - 2 ^ k)) else bB t i) → ∃ t', (∀ i, i < 64 → bB t' i = if m ≤ i ∧ i < 2 ^ n ∧ i.testBit k = true then (bB t i ^^ bB t (i - 2 ^ k)) else bB t i) ∧ fn_X7_values_17 w k5 f t1 (nI k) (nI (m + 1)) = k5 t' (nI (k + 1)) := by
        intro t1 ht1
        obtain ⟨t', h1, h2⟩ := ih f (m + 1) t1 (by omega) (by omega)
        refine ⟨t', fun i hi => ?_, h2⟩
        rw [h1 i hi]
        by_cases c : i = m
        · subst c
          rw [if_neg (by omega), if_pos ⟨Nat.le_refl _, by omega, e⟩, ht1 i hi, if_pos rfl]
        · by_cases c2 : m + 1 ≤ i ∧ i < 2 ^ n ∧ i.testBit k = true
          · rw [if_pos c2, if_pos ⟨by omega, c2.2⟩, ht1 i hi, if_neg c, ht1 (i - 2 ^ k) (Nat.lt_of_le_of_lt (Nat.sub_le _ _) hi), if_neg (fun z => by
              have := ff_own k (by omega) i hi c2.2.2
              rw [z, e] at this
              cases this)]
          · rw [if_neg c2, if_neg (fun z => c2 ⟨by omega, z.2⟩), ht1 i hi, if_neg c]
      cases e2 : bB t (m - 2 ^ k)
      · simp only [if_false, Bool.false_eq_true, Option.bind_some, if_true]
        exact key t (fun i hi => by
          by_cases c : i = m
          · subst c; rw [if_pos rfl, e2]; cases bB t i <;> rfl
          · rw [if_neg c])
      · simp only [if_true, Option.bind_some]
        rw [if_neg (by decide)]
        exact key _ (fun i hi => by
          rw [bB_xor, bB_e (by omega) hi]
          by_cases c : i = m
          · subst c; rw [if_pos rfl, e2]; simp
          · rw [if_neg c]; simp [c])
theorem vals_step {n k : Nat} (hn : n ≤ 6) (hk : k < n) {t t' : Int64} (hwf : wf n t) (h : ∀ i, i < 64 → bB t' i = if 0 ≤ i ∧ i < 2 ^ n ∧ i.testBit k = true then (bB t i ^^ bB t (i - 2 ^ k)) else bB t i) : t' = st k t := by
  apply bB_ext
  intro i hi
  rw [h i hi, st_bit (by omega) t hi]
  cases e : i.testBit k
  · rw [if_neg (by simp)]
    simp
  · rcases Nat.lt_or_ge i (2 ^ n) with c | c
    · rw [if_pos ⟨by omega, c, rfl⟩]
      simp
    · rw [if_neg (by omega), hwf i c, hwf _ (ff_top n (by omega) k hk i hi c e)]
      rfl
theorem vals_loop {w : YS} {n : Nat} (hn : n ≤ 6) (hw : y_n w = nI n) {q : Int64} (hq : wf n q) : ∀ d k f, k + d = n → d < f → fn_X7_values_5 w f (tr k q) (nI k) = some (tr n q) := by
  have h64 := p2_le hn
  intro d
  induction d with
  | zero =>
    intro k f h hf
    obtain ⟨f, rfl⟩ : ∃ g, f = g + 1 := ⟨f - 1, by omega⟩
    unfold fn_X7_values_5 fn_X7_values_5_body
    have : k = n := by omega
    subst this
    rw [hw, if_pos (nI_le (Nat.le_refl _) (by omega))]
  | succ d ih =>
    intro k f h hf
    obtain ⟨f, rfl⟩ : ∃ g, f = g + 1 := ⟨f - 1, by omega⟩
    unfold fn_X7_values_5 fn_X7_values_5_body
    rw [hw, if_neg (nI_ge (by omega) (by omega))]
    obtain ⟨t', h1, h2⟩ := vals_in hn hw (show k < n by omega) (fn_X7_values_5 w f) (2 ^ n) FU 0 (tr k q) (by omega) (by unfold FU; omega)
    rw [show (0 : Int32) = nI 0 from rfl, h2, vals_step hn (show k < n by omega) (tr_wf hn hq k (by omega)) h1]
    exact ih (k + 1) f (by omega) (by omega)
theorem values_eq {w : YS} {n : Nat} (hn : n ≤ 6) (hw : y_n w = nI n) {q : Int64} (hq : wf n q) : fn_X7_values w q = some (tr n q) := by
  unfold fn_X7_values
  exact vals_loop hn hw hq n 0 FU (by omega) (by unfold FU; omega)
-- halves
def up (k : Nat) (q : Int64) : Int64 := lus q (nI (2 ^ k)) &&& kW k
def dn (k : Nat) (q : Int64) : Int64 := q &&& kW k
theorem up_bit {k : Nat} (hk : k < 6) (q : Int64) {i : Nat} (hi : i < 64) : bB (up k q) i = (bB q (i + 2 ^ k) && !i.testBit k) := by
  unfold up
  rw [bB_and, bB_lus (p2_6 k hk) q hi, kW_bit k hk i hi, Nat.add_comm]
theorem dn_bit {k : Nat} (hk : k < 6) (q : Int64) {i : Nat} (hi : i < 64) : bB (dn k q) i = (bB q i && !i.testBit k) := by
  unfold dn
  rw [bB_and, kW_bit k hk i hi]
theorem upperHalf_eq {k : Nat} (hk : k < 6) (q : Int64) : fn_X3_upperHalf q (nI k) = some (up k q) := by
  unfold fn_X3_upperHalf
  rw [without_eq k hk, ish1 k (by omega)]
  rfl
theorem lowerHalf_eq {k : Nat} (hk : k < 6) (q : Int64) : fn_X3_lowerHalf q (nI k) = some (dn k q) := by
  unfold fn_X3_lowerHalf
  rw [without_eq k hk]
  rfl
theorem up_wf {n k : Nat} (hk : k < 6) {q : Int64} (h : wf n q) : wf n (up k q) := fun i hi => by
  rcases Nat.lt_or_ge i 64 with c | c
  · rw [up_bit hk q c, h _ (Nat.le_trans hi (Nat.le_add_right _ _))]; rfl
  · exact bB_big c
theorem dn_wf {n k : Nat} {q : Int64} (h : wf n q) : wf n (dn k q) := wf_and h
theorem upper_loop {w : YS} {n k : Nat} (hn : n ≤ 6) (hw : y_n w = nI n) (hk : k < n) (q : Int64) : ∀ d f m r, m + d = 2 ^ n → d < f → ∃ r', (∀ i, i < 64 → bB r' i = (bB r i || (decide (m ≤ i + 2 ^ k) && decide (i + 2 ^ k < 2 ^ n) && !i.testBit k && bB q (i + 2 ^ k)))) ∧ fn_X7_upper_6 w f q (nI k) r (nI m) = some r' := by
  have h64 := p2_le hn
  intro d
  induction d with
  | zero =>
    intro f m r h hf
    obtain ⟨f, rfl⟩ : ∃ g, f = g + 1 := ⟨f - 1, by omega⟩
    refine ⟨r, fun i hi => ?_, ?_⟩
    · by_cases c : m ≤ i + 2 ^ k
      · simp [show ¬ i + 2 ^ k < 2 ^ n by omega]
      · simp [c]
    · unfold fn_X7_upper_6 fn_X7_upper_6_body
      rw [hw, ish1 n (by omega), if_pos (nI_le (by omega) (by omega))]
  | succ d ih =>
    intro f m r h hf
    obtain ⟨f, rfl⟩ : ∃ g, f = g + 1 := ⟨f - 1, by omega⟩
    unfold fn_X7_upper_6 fn_X7_upper_6_body fn_X7_upper_49 fn_X7_upper_50
    rw [hw, ish1 n (by omega), if_neg (nI_ge (by omega) (by omega)), has1_eq q (by omega), isr_bit m (by omega) k (by omega), nI_1, ish1 k (by omega)]
    have key : ∀ r1, (∀ i, i < 64 → bB r1 i = (bB r i || (decide (i + 2 ^ k = m) && m.testBit k && bB q m))) → ∃ r', (∀ i, i < 64 → bB r' i = (bB r i || (decide (m ≤ i + 2 ^ k) && decide (i + 2 ^ k < 2 ^ n) && !i.testBit k && bB q (i + 2 ^ k)))) ∧ fn_X7_upper_6 w f q (nI k) r1 (nI (m + 1)) = some r' := by
      intro r1 hr1
      obtain ⟨r', h1, h2⟩ := ih f (m + 1) r1 (by omega) (by omega)
      refine ⟨r', fun i hi => ?_, h2⟩
      rw [h1 i hi, hr1 i hi]
      by_cases c : i + 2 ^ k = m
      · have := ff_add k (by omega) i hi
        rw [c] at this
        rw [c, this]
        simp [show ¬ m + 1 ≤ m by omega, show m < 2 ^ n by omega]
      · by_cases c2 : m ≤ i + 2 ^ k
        · simp [c, c2, show m + 1 ≤ i + 2 ^ k by omega]
        · simp [c, c2, show ¬ m + 1 ≤ i + 2 ^ k by omega]
    cases e : bB q m
    · simp only [Bool.false_eq_true, if_false, Option.bind_some, if_true]
      exact key _ (fun i hi => by rw [bB_or, bB_0, e]; simp)
    · simp only [if_true, Option.bind_some]
      rw [if_neg (by decide)]
      cases e2 : m.testBit k
      · simp only [Bool.false_eq_true, if_false]
        rw [if_neg (by decide)]
        exact key _ (fun i hi => by rw [bB_or, bB_0, e2]; simp)
      · have hge := ff_ge k (by omega) m (by omega) e2
        simp only [if_true]
        rw [pk_sub hge]
        exact key _ (fun i hi => by
          rw [bB_or, bB_e (Nat.lt_of_le_of_lt (Nat.sub_le _ _) (by omega : m < 64)) hi, e, e2]
          congr 1
          simp
          omega)
theorem upper_eq {w : YS} {n k : Nat} (hn : n ≤ 6) (hw : y_n w = nI n) (hk : k < n) {q : Int64} (hq : wf n q) : fn_X7_upper w q (nI k) = some (up k q) := by
  unfold fn_X7_upper
  obtain ⟨r', h1, h2⟩ := upper_loop hn hw hk q (2 ^ n) FU 0 0 (by omega) (by have := p2_le hn; unfold FU; omega)
  rw [show (0 : Int32) = nI 0 from rfl, h2]
  congr 1
  apply bB_ext
  intro i hi
  rw [h1 i hi, up_bit (by omega) q hi, bB_0]
  rcases Nat.lt_or_ge (i + 2 ^ k) (2 ^ n) with c | c
  · simp [c, Bool.and_comm]
  · rw [hq _ c]
    simp
theorem lower_loop {w : YS} {n k : Nat} (hn : n ≤ 6) (hw : y_n w = nI n) (hk : k < n) (q : Int64) : ∀ d f m r, m + d = 2 ^ n → d < f → ∃ r', (∀ i, i < 64 → bB r' i = (bB r i || (decide (m ≤ i) && decide (i < 2 ^ n) && !i.testBit k && bB q i))) ∧ fn_X7_lower_6 w f q (nI k) r (nI m) = some r' := by
  have h64 := p2_le hn
  intro d
  induction d with
  | zero =>
    intro f m r h hf
    obtain ⟨f, rfl⟩ : ∃ g, f = g + 1 := ⟨f - 1, by omega⟩
    refine ⟨r, fun i hi => ?_, ?_⟩
    · by_cases c : m ≤ i
      · simp [show ¬ i < 2 ^ n by omega]
      · simp [c]
    · unfold fn_X7_lower_6 fn_X7_lower_6_body
      rw [hw, ish1 n (by omega), if_pos (nI_le (by omega) (by omega))]
  | succ d ih =>
    intro f m r h hf
    obtain ⟨f, rfl⟩ : ∃ g, f = g + 1 := ⟨f - 1, by omega⟩
    unfold fn_X7_lower_6 fn_X7_lower_6_body fn_X7_lower_44 fn_X7_lower_45
    rw [hw, ish1 n (by omega), if_neg (nI_ge (by omega) (by omega)), has1_eq q (by omega), isr_bit m (by omega) k (by omega), nI_1]
    have key : ∀ r1, (∀ i, i < 64 → bB r1 i = (bB r i || (decide (i = m) && !m.testBit k && bB q m))) → ∃ r', (∀ i, i < 64 → bB r' i = (bB r i || (decide (m ≤ i) && decide (i < 2 ^ n) && !i.testBit k && bB q i))) ∧ fn_X7_lower_6 w f q (nI k) r1 (nI (m + 1)) = some r' := by
      intro r1 hr1
      obtain ⟨r', h1, h2⟩ := ih f (m + 1) r1 (by omega) (by omega)
      refine ⟨r', fun i hi => ?_, h2⟩
      rw [h1 i hi, hr1 i hi]
      by_cases c : i = m
      · subst c
        simp [show ¬ i + 1 ≤ i by omega, show i < 2 ^ n by omega]
      · by_cases c2 : m ≤ i
        · simp [c, c2, show m + 1 ≤ i by omega]
        · simp [c, c2, show ¬ m + 1 ≤ i by omega]
    cases e : bB q m
    · simp only [Bool.false_eq_true, if_false, Option.bind_some, if_true]
      exact key _ (fun i hi => by rw [bB_or, bB_0, e]; simp)
    · simp only [if_true, Option.bind_some]
      rw [if_neg (by decide)]
      cases e2 : m.testBit k
      · simp only [Bool.false_eq_true, if_false, if_true]
        exact key _ (fun i hi => by rw [bB_or, bB_e (by omega) hi, e, e2]; simp)
      · simp only [if_true]
        rw [if_neg (by decide)]
        exact key _ (fun i hi => by rw [bB_or, bB_0, e2]; simp)
theorem lower_eq {w : YS} {n k : Nat} (hn : n ≤ 6) (hw : y_n w = nI n) (hk : k < n) {q : Int64} (hq : wf n q) : fn_X7_lower w q (nI k) = some (dn k q) := by
  unfold fn_X7_lower
  obtain ⟨r', h1, h2⟩ := lower_loop hn hw hk q (2 ^ n) FU 0 0 (by omega) (by have := p2_le hn; unfold FU; omega)
  rw [show (0 : Int32) = nI 0 from rfl, h2]
  congr 1
  apply bB_ext
  intro i hi
  rw [h1 i hi, dn_bit (by omega) q hi, bB_0]
  rcases Nat.lt_or_ge i (2 ^ n) with c | c
  · simp [c, Bool.and_comm]
  · rw [hq _ c]
    simp
