/-! products: the transform is linear, its own inverse, and turns products into 'and' -/
theorem rz_lin {k : Nat} (hk : k < 6) (a b : Int64) : rz k (a ^^^ b) = rz k a ^^^ rz k b := by
  apply bB_ext
  intro i hi
  rw [bB_xor, rz_bit hk _ hi, rz_bit hk _ hi, rz_bit hk _ hi, bB_xor]
  cases i.testBit k <;> simp
theorem st_lin {k : Nat} (hk : k < 6) (a b : Int64) : st k (a ^^^ b) = st k a ^^^ st k b := by
  apply bB_ext
  intro i hi
  rw [bB_xor, st_bit hk _ hi, st_bit hk _ hi, st_bit hk _ hi, bB_xor, bB_xor]
  cases i.testBit k <;> cases bB a i <;> cases bB b i <;> cases bB a (i - 2 ^ k) <;> cases bB b (i - 2 ^ k) <;> rfl
theorem tr_lin (a b : Int64) : ∀ k, k ≤ 6 → tr k (a ^^^ b) = tr k a ^^^ tr k b := by
  intro k
  induction k with
  | zero => intro _; rfl
  | succ k ih => intro hk; show st k (tr k (a ^^^ b)) = _; rw [ih (by omega), st_lin (by omega)]; rfl
theorem tr_z : ∀ k, k ≤ 6 → tr k 0 = 0 := by
  intro k
  induction k with
  | zero => intro _; rfl
  | succ k ih =>
    intro hk
    show st k (tr k 0) = 0
    rw [ih (by omega)]
    apply bB_ext
    intro i hi
    rw [st_bit (by omega) _ hi]
    simp [bB_0]
theorem st_st {k : Nat} (hk : k < 6) (q : Int64) : st k (st k q) = q := by
  apply bB_ext
  intro i hi
  rw [st_bit hk _ hi, st_bit hk _ hi, st_bit hk q (Nat.lt_of_le_of_lt (Nat.sub_le _ _) hi)]
  cases e : i.testBit k
  · simp
  · rw [ff_own k hk i hi e]
    cases bB q i <;> cases bB q (i - 2 ^ k) <;> rfl
theorem st_comm {j k : Nat} (hj : j < 6) (hk : k < 6) (hjk : j ≠ k) (q : Int64) : st j (st k q) = st k (st j q) := by
  apply bB_ext
  intro i hi
  have l1 := Nat.lt_of_le_of_lt (Nat.sub_le i (2 ^ j)) hi
  have l2 := Nat.lt_of_le_of_lt (Nat.sub_le i (2 ^ k)) hi
  rw [st_bit hj (st k q) hi, st_bit hk (st j q) hi, st_bit hk q hi, st_bit hj q hi, st_bit hk q l1, st_bit hj q l2]
  have e3 : i - 2 ^ j - 2 ^ k = i - 2 ^ k - 2 ^ j := Nat.sub_right_comm _ _ _
  rw [e3]
  cases ej : i.testBit j
  · cases ek : i.testBit k
    · simp
    · rw [ff_com k hk j hj i hi hjk.symm ek, ej]
      simp
  · rw [ff_com j hj k hk i hi hjk ej]
    cases ek : i.testBit k
    · simp
    · rw [ff_com k hk j hj i hi hjk.symm ek, ej]
      cases bB q i <;> cases bB q (i - 2 ^ k) <;> cases bB q (i - 2 ^ j) <;> cases bB q (i - 2 ^ k - 2 ^ j) <;> rfl
theorem tr_st {n : Nat} (hn : n < 6) (q : Int64) : ∀ k, k ≤ n → tr k (st n q) = st n (tr k q) := by
  intro k
  induction k with
  | zero => intro _; rfl
  | succ k ih =>
    intro hk
    show st k (tr k (st n q)) = st n (st k (tr k q))
    rw [ih (by omega), st_comm (by omega) hn (by omega)]
theorem tr_inv : ∀ n, n ≤ 6 → ∀ q, tr n (tr n q) = q := by
  intro n
  induction n with
  | zero => intro _ q; rfl
  | succ n ih =>
    intro hn q
    show st n (tr n (st n (tr n q))) = q
    rw [tr_st (by omega) _ n (Nat.le_refl _), st_st (by omega), ih (by omega)]
theorem tr_low {n : Nat} (hn : n ≤ 6) (q : Int64) {x : Nat} (hx : x < 2 ^ n) : ∀ d, n + d ≤ 6 → bB (tr (n + d) q) x = bB (tr n q) x := by
  intro d
  induction d with
  | zero => intro _; rfl
  | succ d ih =>
    intro h
    have := p2_le hn
    show bB (st (n + d) (tr (n + d) q)) x = _
    rw [st_bit (by omega) _ (by omega), ff_hi n (by omega) (n + d) (by omega) (by omega) x hx, ih (by omega)]
    simp
def sb (m x : Nat) : Bool := (m &&& x) == m
set_option maxRecDepth 100000 in
theorem tr_base6 : ∀ m, m < 64 → ∀ x, x < 64 → bB (tr 6 (lsh 1 (nI m))) x = sb m x := by decide +kernel
theorem tr_base {n : Nat} (hn : n ≤ 6) {m x : Nat} (hm : m < 64) (hx : x < 2 ^ n) : bB (tr n (lsh 1 (nI m))) x = sb m x := by
  have := p2_le hn
  rw [← tr_base6 m hm x (by omega), ← tr_low hn _ hx (6 - n) (by omega), show n + (6 - n) = 6 by omega]
theorem sb_iff {m x : Nat} : sb m x = true ↔ ∀ t, m.testBit t = true → x.testBit t = true := by
  unfold sb
  rw [beq_iff_eq]
  constructor
  · intro h t ht
    have : (m &&& x).testBit t = m.testBit t := by rw [h]
    rw [Nat.testBit_and, ht] at this
    simpa using this
  · intro h
    apply Nat.eq_of_testBit_eq
    intro t
    rw [Nat.testBit_and]
    cases e : m.testBit t
    · rfl
    · rw [h t e]; rfl
theorem sb_or (i j x : Nat) : sb (i ||| j) x = (sb i x && sb j x) := by
  rw [Bool.eq_iff_iff, Bool.and_eq_true, sb_iff, sb_iff, sb_iff]
  constructor
  · intro h
    refine ⟨fun t ht => h t ?_, fun t ht => h t ?_⟩
    · rw [Nat.testBit_or, ht]; rfl
    · rw [Nat.testBit_or, ht]; simp
  · rintro ⟨h1, h2⟩ t ht
    rw [Nat.testBit_or, Bool.or_eq_true] at ht
    rcases ht with h | h
    · exact h1 t h
    · exact h2 t h
def px (g : Nat → Bool) (x : Nat) : Nat → Bool
  | 0 => false
  | j + 1 => px g x j ^^ (g j && sb j x)
def gs (q : Int64) : Nat → Int64
  | 0 => 0
  | j + 1 => gs q j ^^^ (if bB q j then lsh 1 (nI j) else 0)
theorem gs_bit (q : Int64) : ∀ j, j ≤ 64 → ∀ i, i < 64 → bB (gs q j) i = (decide (i < j) && bB q i) := by
  intro j
  induction j with
  | zero => intro _ i _; simp [gs, bB_0]
  | succ j ih =>
    intro hj i hi
    rw [gs, bB_xor, ih (by omega) i hi]
    cases e : bB q j
    · simp only [Bool.false_eq_true, if_false, bB_0, Bool.xor_false]
      by_cases c : i = j
      · subst c; simp [e]
      · rcases Nat.lt_or_ge i j with h | h
        · simp [h, show i < j + 1 by omega]
        · simp [show ¬ i < j by omega, show ¬ i < j + 1 by omega]
    · simp only [if_true]
      rw [bB_e (by omega) hi]
      by_cases c : i = j
      · subst c; simp [e]
      · rcases Nat.lt_or_ge i j with h | h
        · simp [h, c, show i < j + 1 by omega]
        · simp [c, show ¬ i < j by omega, show ¬ i < j + 1 by omega]
theorem tr_gs {n : Nat} (hn : n ≤ 6) (q : Int64) {x : Nat} (hx : x < 2 ^ n) : ∀ j, j ≤ 64 → bB (tr n (gs q j)) x = px (bB q) x j := by
  intro j
  induction j with
  | zero => intro _; rw [gs, tr_z n hn, bB_0]; rfl
  | succ j ih =>
    intro hj
    rw [gs, tr_lin _ _ n hn, bB_xor, ih (by omega), px]
    congr 1
    cases e : bB q j
    · simp only [Bool.false_eq_true, if_false]
      rw [tr_z n hn, bB_0]
      rfl
    · simp only [if_true]
      rw [tr_base hn (by omega) hx]
      rfl
theorem tr_px {n : Nat} (hn : n ≤ 6) {q : Int64} (hq : wf n q) {x : Nat} (hx : x < 2 ^ n) : bB (tr n q) x = px (bB q) x (2 ^ n) := by
  have h64 := p2_le hn
  rw [← tr_gs hn q hx (2 ^ n) h64]
  congr 2
  apply bB_ext
  intro i hi
  rw [gs_bit q _ h64 i hi]
  rcases Nat.lt_or_ge i (2 ^ n) with c | c
  · simp [c]
  · rw [hq i c]; simp
/-- the product, by values -/
def ml (n : Nat) (a b : Int64) : Int64 := tr n (tr n a &&& tr n b)
theorem multiplied_eq {n : Nat} (hn : n ≤ 6) (a b : Int64) : fn_X3_multiplied a b (nI n) = some (ml n a b) := by
  unfold fn_X3_multiplied ml
  rw [transformed_eq hn, transformed_eq hn]
  simp only [Option.bind_some]
  rw [transformed_eq hn]
  rfl
theorem ml_wf {n : Nat} (hn : n ≤ 6) {a : Int64} (b : Int64) (ha : wf n a) : wf n (ml n a b) := tr_wf hn (wf_and (tr_wf hn ha n (Nat.le_refl _))) n (Nat.le_refl _)
theorem ml_comm (n : Nat) (a b : Int64) : ml n a b = ml n b a := by
  unfold ml
  congr 1
  apply bB_ext
  intro i _
  rw [bB_and, bB_and, Bool.and_comm]
theorem prod_in {w : YS} {n i : Nat} (hn : n ≤ 6) (hw : y_n w = nI n) (hi : i < 2 ^ n) (a b : Int64) (ha : bB a i = true) (k6 : Int64 → Int64 → Int64 → Int32 → Option Int64) : ∀ d f j acc, j + d = 2 ^ n → d < f → wf n acc → ∃ acc', wf n acc' ∧ (∀ x, x < 2 ^ n → bB (tr n acc') x = (bB (tr n acc) x ^^ (sb i x && (px (bB b) x (2 ^ n) ^^ px (bB b) x j)))) ∧ fn_X7_product1_20 w k6 f a b acc (nI i) (nI j) = k6 a b acc' (nI (i + 1)) := by
  have h64 := p2_le hn
  intro d
  induction d with
  | zero =>
    intro f j acc h hf hacc
    obtain ⟨f, rfl⟩ : ∃ g, f = g + 1 := ⟨f - 1, by omega⟩
    have e : j = 2 ^ n := by omega
    refine ⟨acc, hacc, fun x _ => ?_, ?_⟩
    · rw [e]; simp
    · unfold fn_X7_product1_20 fn_X7_product1_20_body
      rw [hw, ish1 n (by omega), if_pos (nI_le (by omega) (by omega)), nI_1]
  | succ d ih =>
    intro f j acc h hf hacc
    obtain ⟨f, rfl⟩ : ∃ g, f = g + 1 := ⟨f - 1, by omega⟩
    unfold fn_X7_product1_20 fn_X7_product1_20_body fn_X7_product1_62
    rw [hw, ish1 n (by omega), if_neg (nI_ge (by omega) (by omega)), has1_eq a (by omega), ha, has1_eq b (by omega), nI_1, nI_1, nx_or]
    simp only [if_true, Option.bind_some]
    rw [if_neg (by decide)]
    have hor : i ||| j < 2 ^ n := Nat.or_lt_two_pow hi (by omega)
    have key : ∀ e, wf n e → (∀ x, x < 2 ^ n → bB (tr n e) x = (bB b j && (sb i x && sb j x))) → ∃ acc', wf n acc' ∧ (∀ x, x < 2 ^ n → bB (tr n acc') x = (bB (tr n acc) x ^^ (sb i x && (px (bB b) x (2 ^ n) ^^ px (bB b) x j)))) ∧ fn_X7_product1_20 w k6 f a b (acc ^^^ e) (nI i) (nI (j + 1)) = k6 a b acc' (nI (i + 1)) := by
      intro e he hx
      obtain ⟨acc', h1, h2, h3⟩ := ih f (j + 1) (acc ^^^ e) (by omega) (by omega) (wf_xor hacc he)
      refine ⟨acc', h1, fun x hxx => ?_, h3⟩
      rw [h2 x hxx, tr_lin _ _ n hn, bB_xor, hx x hxx, px]
      cases bB (tr n acc) x <;> cases sb i x <;> cases px (bB b) x (2 ^ n) <;> cases px (bB b) x j <;> cases bB b j <;> cases sb j x <;> rfl
    cases e : bB b j
    · simp only [Bool.false_eq_true, if_false, if_true]
      exact key 0 (wf_0 n) (fun x hx => by rw [tr_z n hn, bB_0, e]; rfl)
    · simp only [if_true]
      rw [if_neg (by decide)]
      exact key _ (wf_e hn hor) (fun x hx => by rw [tr_base hn (by omega) hx, sb_or, e]; rfl)
theorem prod_loop {w : YS} {n : Nat} (hn : n ≤ 6) (hw : y_n w = nI n) (a b : Int64) : ∀ d f i acc, i + d = 2 ^ n → d < f → wf n acc → (∀ x, x < 2 ^ n → bB (tr n acc) x = (px (bB a) x i && px (bB b) x (2 ^ n))) → ∃ acc', wf n acc' ∧ (∀ x, x < 2 ^ n → bB (tr n acc') x = (px (bB a) x (2 ^ n) && px (bB b) x (2 ^ n))) ∧ fn_X7_product1_6 w f a b acc (nI i) = some acc' := by
  have h64 := p2_le hn
  have hp := p2_pos n
  intro d
  induction d with
  | zero =>
    intro f i acc h hf hacc hx
    obtain ⟨f, rfl⟩ : ∃ g, f = g + 1 := ⟨f - 1, by omega⟩
    have e : i = 2 ^ n := by omega
    refine ⟨acc, hacc, fun x hxx => ?_, ?_⟩
    · rw [hx x hxx, e]
    · unfold fn_X7_product1_6 fn_X7_product1_6_body
      rw [hw, ish1 n (by omega), if_pos (nI_le (by omega) (by omega))]
  | succ d ih =>
    intro f i acc h hf hacc hx
    obtain ⟨f, rfl⟩ : ∃ g, f = g + 1 := ⟨f - 1, by omega⟩
    unfold fn_X7_product1_6 fn_X7_product1_6_body
    rw [hw, ish1 n (by omega), if_neg (nI_ge (by omega) (by omega)), show (0 : Int32) = nI 0 from rfl]
    cases e : bB a i
    · have : fn_X7_product1_20 w (fn_X7_product1_6 w f) FU a b acc (nI i) (nI 0) = fn_X7_product1_6 w f a b acc (nI (i + 1)) := by
        unfold FU fn_X7_product1_20 fn_X7_product1_20_body
        rw [hw, ish1 n (by omega), if_neg (nI_ge hp (by omega)), has1_eq a (by omega), e, nI_1]
        simp
      rw [this]
      exact ih f (i + 1) acc (by omega) (by omega) hacc (fun x hxx => by rw [hx x hxx, px, e]; simp)
    · obtain ⟨acc', h1, h2, h3⟩ := prod_in hn hw (show i < 2 ^ n by omega) a b e (fn_X7_product1_6 w f) (2 ^ n) FU 0 acc (by omega) (by unfold FU; omega) hacc
      rw [h3]
      exact ih f (i + 1) acc' (by omega) (by omega) h1 (fun x hxx => by
        rw [h2 x hxx, hx x hxx, px, px, e]
        cases px (bB a) x i <;> cases sb i x <;> cases px (bB b) x (2 ^ n) <;> rfl)
theorem product1_eq {w : YS} {n : Nat} (hn : n ≤ 6) (hw : y_n w = nI n) {a b : Int64} (ha : wf n a) (hb : wf n b) : fn_X7_product1 w a b = some (ml n a b) := by
  unfold fn_X7_product1
  obtain ⟨acc, h1, h2, h3⟩ := prod_loop hn hw a b (2 ^ n) FU 0 0 (by omega) (by have := p2_le hn; unfold FU; omega) (wf_0 n) (fun x hx => by rw [tr_z n hn, bB_0]; rfl)
  rw [show (0 : Int32) = nI 0 from rfl, h3]
  congr 1
  rw [← tr_inv n hn acc]
  unfold ml
  congr 1
  apply wf_ext hn (tr_wf hn h1 n (Nat.le_refl _)) (wf_and (tr_wf hn ha n (Nat.le_refl _)))
  intro x hx
  rw [h2 x hx, bB_and, tr_px hn ha hx, tr_px hn hb hx]
