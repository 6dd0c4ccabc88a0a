/-! bits of longs; counts (the families 'lN n to 2^64' of BITS.to-paste and 'counts' of COUNTS.to-paste begin this part) -/
theorem wb_tb (n : Nat) : (lN n).toBitVec = BitVec.ofNat 64 n := rfl
theorem wb_inj {a b : Int64} (h : a.toBitVec = b.toBitVec) : a = b := Int64.toBitVec_inj.mp h
theorem wb_tn {n : Nat} (h : n < 2 ^ 64) : (lN n).toBitVec.toNat = n := by rw [wb_tb, BitVec.toNat_ofNat, Nat.mod_eq_of_lt h]
theorem wb_of (x : Int64) : ∃ n, n < 2 ^ 64 ∧ x = lN n := ⟨x.toBitVec.toNat, x.toBitVec.isLt, wb_inj (by rw [wb_tb]; simp)⟩
theorem wb_of32 (x : Int32) : ∃ n, n < 2 ^ 32 ∧ x = nI n := ⟨x.toBitVec.toNat, x.toBitVec.isLt, Int32.toBitVec_inj.mp (by show _ = BitVec.ofNat 32 _; simp)⟩
theorem wb_c : ∀ k, k < 64 → ((nI k).toInt64 &&& 63) = lN k := by decide +kernel
theorem wb_cu : ∀ k, k < 64 → ((nI k).toInt64.toUInt64 &&& Int64.toUInt64 63) = UInt64.ofNat k := by decide +kernel
theorem wb_sm : ∀ k, k < 64 → (BitVec.ofNat 64 k).smod 64 = BitVec.ofNat 64 k := by decide +kernel
theorem wb_pw {a b : Nat} (h : a ≤ b) : 2 ^ b = 2 ^ a * 2 ^ (b - a) := by rw [← Nat.pow_add]; congr 1; omega
theorem wb_lt2 {a b : Nat} (h : a < b) : 2 ^ a < 2 ^ b := Nat.pow_lt_pow_right (by decide) h
theorem wb_mod (n : Nat) : lN n = lN (n % 2 ^ 64) := wb_inj (by rw [wb_tb, wb_tb]; apply BitVec.eq_of_toNat_eq; rw [BitVec.toNat_ofNat, BitVec.toNat_ofNat, Nat.mod_mod])
theorem wb_shr {n k : Nat} (hn : n < 2 ^ 64) (hk : k < 64) : ((lN n).toUInt64 >>> ((nI k).toInt64.toUInt64 &&& Int64.toUInt64 63)).toInt64 = lN (n / 2 ^ k) := by
  rw [wb_cu k hk]
  apply wb_inj
  apply BitVec.eq_of_toNat_eq
  show ((lN n).toUInt64 >>> UInt64.ofNat k).toNat = (BitVec.ofNat 64 _).toNat
  have h1 : (UInt64.ofNat k).toNat = k := by
    show (BitVec.ofNat 64 k).toNat = k
    rw [BitVec.toNat_ofNat, Nat.mod_eq_of_lt (by omega)]
  have h2 : (lN n).toUInt64.toNat = n := wb_tn hn
  rw [UInt64.toNat_shiftRight, h1, h2, Nat.mod_eq_of_lt hk, Nat.shiftRight_eq_div_pow, BitVec.toNat_ofNat, Nat.mod_eq_of_lt (Nat.lt_of_le_of_lt (Nat.div_le_self _ _) hn)]
theorem wb_shl (n : Nat) {k : Nat} (hk : k < 64) : lN n <<< ((nI k).toInt64 &&& 63) = lN (n * 2 ^ k) := by
  rw [wb_c k hk]
  apply wb_inj
  rw [Int64.toBitVec_shiftLeft, wb_tb, wb_tb, wb_tb, wb_sm k hk]
  apply BitVec.eq_of_toNat_eq
  rw [BitVec.shiftLeft_eq', BitVec.toNat_shiftLeft, BitVec.toNat_ofNat, BitVec.toNat_ofNat, BitVec.toNat_ofNat, Nat.mod_eq_of_lt (show k < 2 ^ 64 by omega), Nat.shiftLeft_eq, Nat.mul_mod, Nat.mod_mod, ← Nat.mul_mod]
theorem wb_and {a b : Nat} (ha : a < 2 ^ 64) (hb : b < 2 ^ 64) : lN a &&& lN b = lN (a &&& b) := by
  apply wb_inj
  rw [Int64.toBitVec_and, wb_tb, wb_tb, wb_tb]
  apply BitVec.eq_of_toNat_eq
  rw [BitVec.toNat_and, BitVec.toNat_ofNat, BitVec.toNat_ofNat, BitVec.toNat_ofNat, Nat.mod_eq_of_lt ha, Nat.mod_eq_of_lt hb, Nat.mod_eq_of_lt (Nat.and_lt_two_pow _ hb)]
theorem wb_or {a b : Nat} (ha : a < 2 ^ 64) (hb : b < 2 ^ 64) : lN a ||| lN b = lN (a ||| b) := by
  apply wb_inj
  rw [Int64.toBitVec_or, wb_tb, wb_tb, wb_tb]
  apply BitVec.eq_of_toNat_eq
  rw [BitVec.toNat_or, BitVec.toNat_ofNat, BitVec.toNat_ofNat, BitVec.toNat_ofNat, Nat.mod_eq_of_lt ha, Nat.mod_eq_of_lt hb, Nat.mod_eq_of_lt (Nat.or_lt_two_pow ha hb)]
theorem wb_mask {n k : Nat} (hn : n < 2 ^ 64) (hk : k < 64) : lN n &&& lN (2 ^ k - 1) = lN (n % 2 ^ k) := by
  rw [wb_and hn (by have := wb_lt2 hk; omega), Nat.and_two_pow_sub_one_eq_mod]
theorem wb_a1 {n : Nat} (hn : n < 2 ^ 64) : lN n &&& 1 = lN (n % 2) := wb_mask (k := 1) hn (by decide)
theorem wb_bit {n k : Nat} (hn : n < 2 ^ 64) (hk : k < 64) : ((lN n).toUInt64 >>> ((nI k).toInt64.toUInt64 &&& Int64.toUInt64 63)).toInt64 &&& 1 = lN (n / 2 ^ k % 2) := by
  rw [wb_shr hn hk, wb_a1 (Nat.lt_of_le_of_lt (Nat.div_le_self _ _) hn)]
def fb_ct (p : Nat → Bool) : Nat → Nat
  | 0 => 0
  | n + 1 => fb_ct p n + (if p n then 1 else 0)
theorem fb_ct_succ (p : Nat → Bool) (n : Nat) : fb_ct p (n + 1) = fb_ct p n + (if p n then 1 else 0) := rfl
theorem fb_ct_le (p : Nat → Bool) : ∀ n, fb_ct p n ≤ n
  | 0 => Nat.le_refl _
  | n + 1 => by
    have h := fb_ct_le p n
    rw [fb_ct_succ]
    split <;> omega
theorem fb_ct_step (p : Nat → Bool) (m : Nat) : ∀ n, fb_ct p m ≤ fb_ct p (m + n)
  | 0 => Nat.le_refl _
  | n + 1 => by
    have h := fb_ct_step p m n
    show fb_ct p m ≤ fb_ct p (m + n + 1)
    rw [fb_ct_succ]
    omega
theorem fb_ct_mono (p : Nat → Bool) {m n : Nat} (h : m ≤ n) : fb_ct p m ≤ fb_ct p n := by
  have := fb_ct_step p m (n - m)
  rwa [Nat.add_sub_cancel' h] at this
theorem fb_ct_cong {p q : Nat → Bool} : ∀ {n : Nat}, (∀ k, k < n → p k = q k) → fb_ct p n = fb_ct q n
  | 0, _ => rfl
  | n + 1, h => by
    rw [fb_ct_succ, fb_ct_succ, fb_ct_cong (fun k hk => h k (by omega)), h n (by omega)]
/-- one place changed -/
theorem fb_ct_out (p : Nat → Bool) (b : Bool) {i n : Nat} (h : n ≤ i) : fb_ct (fun k => if k = i then b else p k) n = fb_ct p n :=
  fb_ct_cong fun k hk => if_neg (by omega)
theorem fb_ct_upd (p : Nat → Bool) (b : Bool) {i : Nat} : ∀ {n : Nat}, i < n → fb_ct (fun k => if k = i then b else p k) n + (if p i then 1 else 0) = fb_ct p n + (if b then 1 else 0)
  | 0, h => absurd h (Nat.not_lt_zero i)
  | n + 1, h => by
    rw [fb_ct_succ, fb_ct_succ]
    rcases Nat.lt_or_ge i n with q | q
    · have := fb_ct_upd p b q
      have e : (if n = i then b else p n) = p n := if_neg (by omega)
      rw [e]
      omega
    · have e : i = n := by omega
      subst e
      rw [fb_ct_out p b (Nat.le_refl _)]
      simp only [if_true]
      omega
theorem fb_ct_sub {p q : Nat → Bool} : ∀ {n : Nat}, (∀ k, k < n → p k = true → q k = true) → fb_ct p n ≤ fb_ct q n
  | 0, _ => Nat.le_refl _
  | n + 1, h => by
    have h1 := fb_ct_sub (n := n) (p := p) (q := q) (fun k hk => h k (by omega))
    have h2 := h n (by omega)
    rw [fb_ct_succ, fb_ct_succ]
    cases hp : p n <;> cases hq : q n <;> simp_all <;> omega
theorem fb_ct_or {p q : Nat → Bool} : ∀ {n : Nat}, (∀ k, k < n → ¬ (p k = true ∧ q k = true)) → fb_ct (fun k => p k || q k) n = fb_ct p n + fb_ct q n
  | 0, _ => rfl
  | n + 1, h => by
    have h1 := fb_ct_or (n := n) (p := p) (q := q) (fun k hk => h k (by omega))
    have h2 := h n (by omega)
    rw [fb_ct_succ, fb_ct_succ, fb_ct_succ, h1]
    cases hp : p n <;> cases hq : q n <;> simp_all <;> omega
theorem fb_ct_not (p : Nat → Bool) : ∀ n, fb_ct p n + fb_ct (fun k => !p k) n = n
  | 0 => rfl
  | n + 1 => by
    have h := fb_ct_not p n
    rw [fb_ct_succ, fb_ct_succ]
    cases p n <;> simp <;> omega
theorem fb_ct_split (p : Nat → Bool) (m : Nat) : ∀ n, fb_ct p (m + n) = fb_ct p m + fb_ct (fun k => p (m + k)) n
  | 0 => rfl
  | n + 1 => by
    have h := fb_ct_split p m n
    show fb_ct p (m + n + 1) = _
    rw [fb_ct_succ, fb_ct_succ, h, Nat.add_assoc]
theorem fb_ct_zero {p : Nat → Bool} : ∀ {n : Nat}, fb_ct p n = 0 ↔ ∀ k, k < n → p k = false
  | 0 => ⟨fun _ k hk => absurd hk (Nat.not_lt_zero k), fun _ => rfl⟩
  | n + 1 => by
    have h := fb_ct_zero (p := p) (n := n)
    rw [fb_ct_succ]
    constructor
    · intro e k hk
      have e1 : fb_ct p n = 0 := by omega
      rcases Nat.lt_or_ge k n with q | q
      · exact h.mp e1 k q
      · have ek : k = n := by omega
        subst ek
        cases hp : p k
        · rfl
        · simp [hp] at e
    · intro a
      rw [h.mpr (fun k hk => a k (by omega)), a n (by omega)]
      rfl
theorem fb_ct_pos {p : Nat → Bool} {n : Nat} : 0 < fb_ct p n ↔ ∃ k, k < n ∧ p k = true := by
  constructor
  · intro h
    refine Classical.byContradiction fun hx => ?_
    have := fb_ct_zero.mpr (fun k hk => by
      cases hp : p k
      · rfl
      · exact absurd ⟨k, hk, hp⟩ hx : ∀ k, k < n → p k = false)
    omega
  · rintro ⟨k, hk, hp⟩
    rcases Nat.eq_zero_or_pos (fb_ct p n) with e | e
    · have := fb_ct_zero.mp e k hk
      rw [this] at hp
      cases hp
    · exact e
theorem fb_ct_all {p : Nat → Bool} {n : Nat} : fb_ct p n = n ↔ ∀ k, k < n → p k = true := by
  have h := fb_ct_not p n
  constructor
  · intro e k hk
    have z : fb_ct (fun k => !p k) n = 0 := by omega
    have := fb_ct_zero.mp z k hk
    cases hp : p k
    · simp [hp] at this
    · rfl
  · intro a
    have z : fb_ct (fun k => !p k) n = 0 := fb_ct_zero.mpr (fun k hk => by simp [a k hk])
    omega
/-- the k-th place with the property -/
theorem fb_ct_kth {p : Nat → Bool} {k : Nat} : ∀ {n : Nat}, k < fb_ct p n → ∃ i, i < n ∧ p i = true ∧ fb_ct p i = k
  | 0, h => absurd h (Nat.not_lt_zero k)
  | n + 1, h => by
    rcases Nat.lt_or_ge k (fb_ct p n) with q | q
    · obtain ⟨i, h1, h2⟩ := fb_ct_kth q
      exact ⟨i, by omega, h2⟩
    · rw [fb_ct_succ] at h
      cases hp : p n
      · simp [hp] at h; omega
      · simp [hp] at h
        exact ⟨n, by omega, hp, by omega⟩
theorem fb_ct_kth_one {p : Nat → Bool} {i j : Nat} (hi : p i = true) (hj : p j = true) (e : fb_ct p i = fb_ct p j) : i = j := by
  have key : ∀ a b : Nat, a < b → p a = true → fb_ct p a < fb_ct p b := by
    intro a b hab ha
    have h := fb_ct_mono p (show a + 1 ≤ b from hab)
    rw [fb_ct_succ, ha] at h
    simp at h
    omega
  rcases Nat.lt_trichotomy i j with q | q | q
  · have := key i j q hi; omega
  · exact q
  · have := key j i q hj; omega
/-! ===== sums over a range: one place changed, parts, bounds ===== -/
/-! own rows -/
def bB (x : Int64) (i : Nat) : Bool := x.toBitVec.getLsbD i
theorem bB_ext {x y : Int64} (h : ∀ i, i < 64 → bB x i = bB y i) : x = y := Int64.toBitVec_inj.mp (BitVec.eq_of_getLsbD_eq (fun i hi => h i hi))
theorem bB_or (x y : Int64) (i : Nat) : bB (x ||| y) i = (bB x i || bB y i) := by unfold bB; rw [Int64.toBitVec_or, BitVec.getLsbD_or]
theorem bB_and (x y : Int64) (i : Nat) : bB (x &&& y) i = (bB x i && bB y i) := by unfold bB; rw [Int64.toBitVec_and, BitVec.getLsbD_and]
theorem bB_xor (x y : Int64) (i : Nat) : bB (x ^^^ y) i = (bB x i ^^ bB y i) := by unfold bB; rw [Int64.toBitVec_xor, BitVec.getLsbD_xor]
theorem bB_big {x : Int64} {i : Nat} (h : 64 ≤ i) : bB x i = false := BitVec.getLsbD_of_ge _ _ h
theorem bB_0 (i : Nat) : bB 0 i = false := BitVec.getLsbD_zero
theorem bB_m1 : ∀ i, i < 64 → bB (-1) i = true := by decide +kernel
theorem bB_1 : ∀ i, i < 64 → bB 1 i = decide (i = 0) := by decide +kernel
theorem bB_not (x : Int64) {i : Nat} (h : i < 64) : bB (x ^^^ (-1)) i = !bB x i := by rw [bB_xor, bB_m1 i h]; cases bB x i <;> rfl
theorem bB_lN {n : Nat} (i : Nat) (h : i < 64) : bB (lN n) i = n.testBit i := by
  show (BitVec.ofNat 64 n).getLsbD i = _
  rw [BitVec.getLsbD_ofNat]
  simp [h]
theorem sl_l : ∀ n, n < 64 → (((nI n).toInt64 &&& 63).toBitVec.smod 64).toNat = n := by decide +kernel
theorem bB_lsh {k : Nat} (hk : k < 64) (x : Int64) {i : Nat} (hi : i < 64) : bB (lsh x (nI k)) i = (decide (k ≤ i) && bB x (i - k)) := by
  unfold bB
  rw [Int64.toBitVec_shiftLeft]
  show (x.toBitVec <<< (((nI k).toInt64 &&& 63).toBitVec.smod 64).toNat).getLsbD i = _
  rw [sl_l k hk, BitVec.getLsbD_shiftLeft]
  rcases Nat.lt_or_ge i k with h | h
  · simp [h, Nat.not_le.mpr h]
  · simp [hi, h, Nat.not_lt.mpr h]
theorem bB_lus {k : Nat} (hk : k < 64) (x : Int64) {i : Nat} (hi : i < 64) : bB (lus x (nI k)) i = bB x (k + i) := by
  obtain ⟨n, hn, rfl⟩ := wb_of x
  unfold lus
  rw [wb_shr hn hk, bB_lN i hi, Nat.testBit_div_two_pow]
  rcases Nat.lt_or_ge (k + i) 64 with h | h
  · rw [bB_lN _ h, Nat.add_comm]
  · rw [bB_big h]
    exact Nat.testBit_lt_two_pow (Nat.lt_of_lt_of_le hn (Nat.pow_le_pow_right (by decide) (by omega)))
theorem bB_lsr0 {k : Nat} (hk : k < 64) (x : Int64) : bB (lsr x (nI k)) 0 = bB x k := by
  unfold bB
  rw [Int64.toBitVec_shiftRight]
  show (x.toBitVec.sshiftRight (((nI k).toInt64 &&& 63).toBitVec.smod 64).toNat).getLsbD 0 = _
  rw [sl_l k hk, BitVec.getLsbD_sshiftRight]
  simp [hk]
theorem bB_e {k : Nat} (hk : k < 64) {i : Nat} (hi : i < 64) : bB (lsh 1 (nI k)) i = decide (i = k) := by
  rw [bB_lsh hk 1 hi]
  rcases Nat.lt_or_ge i k with h | h
  · simp [Nat.not_le.mpr h, show ¬ i = k by omega]
  · rw [bB_1 _ (by omega)]
    simp [h]
    omega
theorem bB_a1 (x : Int64) : x &&& 1 = if bB x 0 then 1 else 0 := by
  apply bB_ext
  intro i hi
  rw [bB_and, bB_1 i hi]
  rcases Nat.eq_zero_or_pos i with h | h
  · subst h
    cases hb : bB x 0
    · simp [bB_0]
    · simp [bB_1 0 (by decide)]
  · have h0 : ¬ i = 0 := by omega
    cases hb : bB x 0
    · simp [bB_0, h0]
    · simp [bB_1 i hi, h0]
theorem has1_eq (q : Int64) {m : Nat} (hm : m < 64) : fn_X7_has1 q (nI m) = some (if bB q m then 1 else 0) := by
  unfold fn_X7_has1
  rw [bB_a1, bB_lsr0 hm]
  cases bB q m <;> simp
theorem bit_eq (q : Int64) {m : Nat} (hm : m < 64) : fn_X3_bit q (nI m) = some (if bB q m then 1 else 0) := by
  unfold fn_X3_bit
  rw [bB_a1, bB_lus hm q (by decide)]
  cases bB q m <;> simp <;> rfl
theorem kW_bit : ∀ k, k < 6 → ∀ i, i < 64 → bB (kW k) i = !i.testBit k := by decide +kernel
theorem without_eq : ∀ k, k < 6 → fn_X3_without (nI k) = some (kW k) := by decide +kernel
theorem ish1 : ∀ n, n < 31 → ish 1 (nI n) = nI (2 ^ n) := by decide +kernel
theorem isr_bit : ∀ m, m < 64 → ∀ v, v < 8 → (isr (nI m) (nI v)) &&& 1 = if m.testBit v then 1 else 0 := by decide +kernel
theorem isr_set : ∀ m, m < 256 → ∀ v, v < 8 → (isr (nI m) (nI v)) &&& 1 = if m.testBit v then 1 else 0 := by decide +kernel
/-- how many terms -/
def pc (q : Int64) : Nat := fb_ct (bB q) 64
theorem pc_le (q : Int64) : pc q ≤ 64 := fb_ct_le _ _
theorem pc_0 {q : Int64} : pc q = 0 ↔ q = 0 := by
  unfold pc
  rw [fb_ct_zero]
  constructor
  · intro h
    apply bB_ext
    intro i hi
    rw [h i hi, bB_0]
  · intro h k _
    rw [h, bB_0]
/-- the lowest bit goes -/
theorem low_bit {x : Nat} (h : 0 < x) : ∃ k m, x = 2 ^ k * (2 * m + 1) := by
  induction x using Nat.strongRecOn with
  | _ x ih =>
    rcases Nat.mod_two_eq_zero_or_one x with e | e
    · obtain ⟨k, m, hk⟩ := ih (x / 2) (by omega) (by omega)
      refine ⟨k + 1, m, ?_⟩
      have : x = 2 * (x / 2) := by omega
      rw [this, hk, Nat.pow_succ]
      rw [Nat.mul_comm (2 ^ k) 2, Nat.mul_assoc]
    · exact ⟨0, x / 2, by omega⟩
theorem drop_low (q : Int64) (h : ¬ q = 0) : ∃ k, k < 64 ∧ bB q k = true ∧ ∀ i, i < 64 → bB (q &&& (q - 1)) i = (bB q i && !decide (i = k)) := by
  obtain ⟨n, hn, rfl⟩ := wb_of q
  have h0 : 0 < n := by
    rcases Nat.eq_zero_or_pos n with e | e
    · subst e; exact absurd rfl h
    · exact e
  obtain ⟨k, m, e⟩ := low_bit h0
  have hp : 0 < 2 ^ k := Nat.two_pow_pos k
  have hk : k < 64 := by
    rcases Nat.lt_or_ge k 64 with h | h
    · exact h
    · have : 2 ^ 64 ≤ 2 ^ k := Nat.pow_le_pow_right (by decide) h
      have h2 : 2 ^ k * 1 ≤ 2 ^ k * (2 * m + 1) := Nat.mul_le_mul_left _ (by omega)
      omega
  have e1 : lN n - 1 = lN (n - 1) := lN_sub (a := n) (b := 1) h0
  have e2 : n = 2 ^ k * (2 * m + 1) + 0 := by omega
  have e3 : n - 1 = 2 ^ k * (2 * m) + (2 ^ k - 1) := by
    rw [e, Nat.mul_add, Nat.mul_one]
    omega
  refine ⟨k, hk, ?_, fun i hi => ?_⟩
  · rw [bB_lN k hk, e2, Nat.testBit_two_pow_mul_add _ hp]
    simp
  · rw [bB_and, e1, bB_lN i hi, bB_lN i hi]
    rw [e3]
    conv => lhs; rw [e2]
    conv => rhs; rw [e2]
    rw [Nat.testBit_two_pow_mul_add _ hp, Nat.testBit_two_pow_mul_add _ (by omega : 2 ^ k - 1 < 2 ^ k)]
    rcases Nat.lt_trichotomy i k with c | c | c
    · simp [c]
    · subst c
      simp
    · have c1 : ¬ i < k := by omega
      have c2 : ¬ i = k := by omega
      simp only [c1, c2, if_false, decide_false, Bool.not_false, Bool.and_true]
      obtain ⟨j, rfl⟩ : ∃ j, i = k + 1 + j := ⟨i - k - 1, by omega⟩
      have e5 : k + 1 + j - k = j + 1 := by omega
      rw [e5, Nat.testBit_succ, Nat.testBit_succ]
      have e6 : (2 * m + 1) / 2 = m := by omega
      have e7 : 2 * m / 2 = m := by omega
      rw [e6, e7, Bool.and_self]
theorem pc_upd {q r : Int64} {k : Nat} {b : Bool} (hk : k < 64) (h : ∀ i, i < 64 → bB r i = if i = k then b else bB q i) : pc r + (if bB q k then 1 else 0) = pc q + (if b then 1 else 0) := by
  unfold pc
  rw [fb_ct_cong (q := fun i => if i = k then b else bB q i) h]
  exact fb_ct_upd _ _ hk
theorem many_loop : ∀ (d f : Nat) (a : Nat) (q : Int64), pc q = d → d < f → fn_X7_many_4 f (nI a) q = some (nI (a + d)) := by
  intro d
  induction d with
  | zero =>
    intro f a q h hf
    obtain ⟨f, rfl⟩ : ∃ g, f = g + 1 := ⟨f - 1, by omega⟩
    unfold fn_X7_many_4 fn_X7_many_4_body
    rw [if_pos (pc_0.mp h)]
    rfl
  | succ d ih =>
    intro f a q h hf
    obtain ⟨f, rfl⟩ : ∃ g, f = g + 1 := ⟨f - 1, by omega⟩
    have hq : ¬ q = 0 := fun e => by rw [pc_0.mpr e] at h; omega
    obtain ⟨k, hk, hb, hd⟩ := drop_low q hq
    unfold fn_X7_many_4 fn_X7_many_4_body
    rw [if_neg hq, nI_1]
    have := pc_upd (q := q) (r := q &&& (q - 1)) (k := k) (b := false) hk (fun i hi => by
      rw [hd i hi]
      by_cases e : i = k <;> simp [e])
    rw [hb] at this
    rw [ih f (a + 1) _ (by simp at this; omega) (by omega)]
    congr 2
    omega
theorem many_eq (q : Int64) : fn_X7_many q = some (nI (pc q)) := by
  unfold fn_X7_many
  have := many_loop (pc q) FU 0 q rfl (by have := pc_le q; unfold FU; omega)
  rw [Nat.zero_add] at this
  exact this
