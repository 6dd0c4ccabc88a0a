/-! Long.bitCount counts the bits: by bytes -/
def rp (c : Nat) : Nat → Nat
  | 0 => 0
  | k + 1 => c + 256 * rp c k
theorem and_split {a b m M : Nat} (ha : a < 256) (hm : m < 256) : (a + 256 * b) &&& (m + 256 * M) = (a &&& m) + 256 * (b &&& M) := by
  have h1 : (a &&& m) < 256 := Nat.and_lt_two_pow (n := 8) a hm
  apply Nat.eq_of_testBit_eq
  intro i
  rw [Nat.testBit_and, show a + 256 * b = 2 ^ 8 * b + a by omega, show m + 256 * M = 2 ^ 8 * M + m by omega, show (a &&& m) + 256 * (b &&& M) = 2 ^ 8 * (b &&& M) + (a &&& m) by omega,
    Nat.testBit_two_pow_mul_add _ (by omega), Nat.testBit_two_pow_mul_add _ (by omega), Nat.testBit_two_pow_mul_add _ (by omega)]
  split
  · rw [Nat.testBit_and]
  · rw [Nat.testBit_and]
def s1 (k x : Nat) : Nat := x - ((x / 2) &&& rp 85 k)
def s2 (k x : Nat) : Nat := (x &&& rp 51 k) + ((x / 4) &&& rp 51 k)
def s3 (k x : Nat) : Nat := (x + x / 16) &&& rp 15 k
def t1 (b : Nat) : Nat := b - ((b / 2) &&& 85)
def t2 (b : Nat) : Nat := (t1 b &&& 51) + ((t1 b / 4) &&& 51)
def t3 (b : Nat) : Nat := (t2 b + t2 b / 16) &&& 15
theorem m85 : ∀ l, l < 256 → ∀ b, b < 2 → ((l / 2 + 128 * b) &&& 85) = ((l / 2) &&& 85) ∧ ((l / 2) &&& 85) ≤ l := by decide +kernel
theorem m51 : ∀ l, l < 256 → ∀ b, b < 4 → ((l / 4 + 64 * b) &&& 51) = ((l / 4) &&& 51) := by decide +kernel
theorem t1_lt : ∀ l, l < 256 → t1 l < 256 := by decide +kernel
theorem t2_ok : ∀ l, l < 256 → t2 l ≤ 68 ∧ t2 l % 16 ≤ 4 := by decide +kernel
theorem t3_ok : ∀ l, l < 256 → t3 l = fb_ct (l.testBit) 8 := by decide +kernel
theorem m15 : ∀ l, l < 73 → ∀ b, b < 5 → ((l + 16 * b) &&& 15) = (l &&& 15) := by decide +kernel
theorem s1_split {k lo hi : Nat} (h : lo < 256) : s1 (k + 1) (lo + 256 * hi) = t1 lo + 256 * s1 k hi := by
  unfold s1 t1
  have e : (lo + 256 * hi) / 2 = (lo / 2 + 128 * (hi % 2)) + 256 * (hi / 2) := by omega
  have hb := m85 lo h (hi % 2) (by omega)
  show lo + 256 * hi - ((lo + 256 * hi) / 2 &&& (85 + 256 * rp 85 k)) = _
  rw [e, and_split (by omega) (by omega), hb.1]
  have h2 : (hi / 2 &&& rp 85 k) ≤ hi := Nat.le_trans Nat.and_le_left (Nat.div_le_self _ _)
  have h3 := hb.2
  omega
theorem s2_split {k lo hi : Nat} (h : lo < 256) : s2 (k + 1) (lo + 256 * hi) = ((lo &&& 51) + ((lo / 4) &&& 51)) + 256 * s2 k hi := by
  unfold s2
  have e : (lo + 256 * hi) / 4 = (lo / 4 + 64 * (hi % 4)) + 256 * (hi / 4) := by omega
  show ((lo + 256 * hi) &&& (51 + 256 * rp 51 k)) + ((lo + 256 * hi) / 4 &&& (51 + 256 * rp 51 k)) = _
  rw [e, and_split h (by omega), and_split (by omega) (by omega), m51 lo h (hi % 4) (by omega)]
  omega
theorem s3_split {k lo hi : Nat} (h : lo ≤ 68) (h2 : hi % 16 ≤ 4) : s3 (k + 1) (lo + 256 * hi) = ((lo + lo / 16) &&& 15) + 256 * s3 k hi := by
  unfold s3
  have e : lo + 256 * hi + (lo + 256 * hi) / 16 = (lo + lo / 16 + 16 * (hi % 16)) + 256 * (hi + hi / 16) := by omega
  show ((lo + 256 * hi + (lo + 256 * hi) / 16) &&& (15 + 256 * rp 15 k)) = _
  rw [e, and_split (by omega) (by omega), m15 (lo + lo / 16) (by omega) (hi % 16) (by omega)]
/-- the bytes' counts side by side -/
def cb : Nat → Nat → Nat
  | 0, _ => 0
  | k + 1, x => fb_ct ((x % 256).testBit) 8 + 256 * cb k (x / 256)
theorem s12_mod (k : Nat) : ∀ x, x < 256 ^ k → s2 k (s1 k x) % 16 ≤ 4 := by
  intro x hx
  cases k with
  | zero =>
    have : x = 0 := by simpa using hx
    subst this
    decide
  | succ k =>
    have e : x = x % 256 + 256 * (x / 256) := by omega
    rw [e, s1_split (by omega), s2_split (t1_lt _ (by omega))]
    have := (t2_ok (x % 256) (by omega)).2
    unfold t2 at this
    omega
theorem s123 : ∀ k x, x < 256 ^ k → s3 k (s2 k (s1 k x)) = cb k x := by
  intro k
  induction k with
  | zero =>
    intro x hx
    have : x = 0 := by simpa using hx
    subst this
    decide
  | succ k ih =>
    intro x hx
    have hx2 : x / 256 < 256 ^ k := by rw [Nat.pow_succ] at hx; omega
    have e : x = x % 256 + 256 * (x / 256) := by omega
    conv => lhs; rw [e]
    have ht := t2_ok (x % 256) (by omega)
    rw [s1_split (by omega), s2_split (t1_lt _ (by omega))]
    show s3 (k + 1) (t2 (x % 256) + _) = _
    rw [s3_split ht.1 (s12_mod k _ hx2), ih _ hx2, cb]
    rw [← t3_ok _ (by omega)]
    rfl
theorem fb_bytes (n : Nat) : ∀ k, fb_ct (n.testBit) (8 * (k + 1)) = fb_ct ((n % 256).testBit) 8 + fb_ct ((n / 256).testBit) (8 * k) := by
  intro k
  rw [show 8 * (k + 1) = 8 + 8 * k by omega, fb_ct_split]
  congr 1
  · apply fb_ct_cong
    intro i hi
    rw [show n % 256 = n % 2 ^ 8 from rfl, Nat.testBit_mod_two_pow]
    simp [hi]
  · apply fb_ct_cong
    intro i hi
    rw [show n / 256 = n / 2 ^ 8 from rfl, Nat.testBit_div_two_pow, Nat.add_comm]
theorem swar_sum {p0 p1 p2 p3 p4 p5 p6 p7 : Nat} (a0 : p0 ≤ 8) (a1 : p1 ≤ 8) (a2 : p2 ≤ 8) (a3 : p3 ≤ 8) (a4 : p4 ≤ 8) (a5 : p5 ≤ 8) (a6 : p6 ≤ 8) (a7 : p7 ≤ 8) : p0 + 256 * (p1 + 256 * (p2 + 256 * (p3 + 256 * (p4 + 256 * (p5 + 256 * (p6 + 256 * (p7 + 256 * 0))))))) < 2 ^ 60 ∧ ∀ w1 w2 w3, w1 = p0 + 256 * (p1 + 256 * (p2 + 256 * (p3 + 256 * (p4 + 256 * (p5 + 256 * (p6 + 256 * (p7 + 256 * 0))))))) + (p0 + 256 * (p1 + 256 * (p2 + 256 * (p3 + 256 * (p4 + 256 * (p5 + 256 * (p6 + 256 * (p7 + 256 * 0)))))))) / 256 → w2 = w1 + w1 / 65536 → w3 = w2 + w2 / 4294967296 → w1 < 2 ^ 61 ∧ w2 < 2 ^ 62 ∧ w3 < 2 ^ 63 ∧ w3 % 128 = p0 + (p1 + (p2 + (p3 + (p4 + (p5 + (p6 + (p7 + 0))))))) := by
  obtain ⟨r7, h7⟩ : ∃ r, r = p7 + 256 * 0 := ⟨_, rfl⟩
  rw [← h7]
  obtain ⟨r6, h6⟩ : ∃ r, r = p6 + 256 * r7 := ⟨_, rfl⟩
  rw [← h6]
  obtain ⟨r5, h5⟩ : ∃ r, r = p5 + 256 * r6 := ⟨_, rfl⟩
  rw [← h5]
  obtain ⟨r4, h4⟩ : ∃ r, r = p4 + 256 * r5 := ⟨_, rfl⟩
  rw [← h4]
  obtain ⟨r3, h3⟩ : ∃ r, r = p3 + 256 * r4 := ⟨_, rfl⟩
  rw [← h3]
  obtain ⟨r2, h2⟩ : ∃ r, r = p2 + 256 * r3 := ⟨_, rfl⟩
  rw [← h2]
  obtain ⟨r1, h1⟩ : ∃ r, r = p1 + 256 * r2 := ⟨_, rfl⟩
  rw [← h1]
  have b7 : r7 ≤ 8 := by omega
  have b6 : r6 ≤ 2056 := by omega
  have b5 : r5 ≤ 526344 := by omega
  have b4 : r4 ≤ 134744072 := by omega
  have b3 : r3 ≤ 34494482440 := by omega
  have b2 : r2 ≤ 8830587504648 := by omega
  have b1 : r1 ≤ 2260630401189896 := by omega
  have c0 : p0 + 256 * r1 ≤ 578721382704613384 := by omega
  refine ⟨by omega, fun w1 w2 w3 e1 e2 e3 => ?_⟩
  have d0 : (p0 + 256 * r1) / 256 = r1 := by omega
  rw [d0] at e1
  have f1 : w1 = (p0 + p1 + 256 * (p1 + p2)) + 65536 * (r2 + r3) := by omega
  have d1 : w1 / 65536 = r2 + r3 := by
    have : p0 + p1 + 256 * (p1 + p2) < 65536 := by omega
    generalize p0 + p1 + 256 * (p1 + p2) = z at *
    omega
  rw [d1] at e2
  have f2 : r2 + r3 = (p2 + p3 + 256 * (p3 + p4)) + 65536 * (r4 + r5) := by omega
  have f3 : r4 + r5 = (p4 + p5 + 256 * (p5 + p6)) + 65536 * (r6 + r7) := by omega
  have d2 : w2 / 4294967296 = r4 + r5 + r6 + r7 := by
    have z1 : p0 + p1 + 256 * (p1 + p2) ≤ 4112 := by omega
    have z2 : p2 + p3 + 256 * (p3 + p4) ≤ 4112 := by omega
    have z3 : p4 + p5 + 256 * (p5 + p6) ≤ 4112 := by omega
    generalize p0 + p1 + 256 * (p1 + p2) = z at *
    generalize p2 + p3 + 256 * (p3 + p4) = z' at *
    generalize p4 + p5 + 256 * (p5 + p6) = z'' at *
    have g : w2 = (z + z' + 65536 * (z' + z'')) + 4294967296 * (r4 + r5 + r6 + r7) := by
      rw [e2, f1]
      omega
    have g2 : z + z' + 65536 * (z' + z'') < 4294967296 := by omega
    generalize z + z' + 65536 * (z' + z'') = y at *
    clear f1 f2 f3 e1 e2 e3 h1 h2 h3 h4 h5 h6 h7
    omega
  rw [d2] at e3
  refine ⟨by omega, by omega, by omega, ?_⟩
  have g3 : w3 = (p0 + (p1 + (p2 + (p3 + (p4 + (p5 + (p6 + p7))))))) + 256 * ((p1 + p2) + 256 * (r2 + r3) + (p3 + p4) + 256 * (r4 + r5) + r5 + r6 + r7) := by
    rw [e3, e2, f1]
    omega
  have g4 : p0 + (p1 + (p2 + (p3 + (p4 + (p5 + (p6 + p7)))))) ≤ 64 := by omega
  rw [g3]
  generalize (p1 + p2) + 256 * (r2 + r3) + (p3 + p4) + 256 * (r4 + r5) + r5 + r6 + r7 = y at *
  have h77 : r7 = p7 := by omega
  clear f1 f2 f3 e1 e2 e3 h1 h2 h3 h4 h5 h6 h7 g3 d0 d1 d2
  omega
theorem swar_n {n : Nat} (hn : n < 2 ^ 64) : ∃ w, w = cb 8 n ∧ w < 2 ^ 60 ∧ ∀ w1 w2 w3, w1 = w + w / 256 → w2 = w1 + w1 / 65536 → w3 = w2 + w2 / 4294967296 → w1 < 2 ^ 61 ∧ w2 < 2 ^ 62 ∧ w3 < 2 ^ 63 ∧ w3 % 128 = fb_ct (n.testBit) 64 := by
  refine ⟨_, rfl, ?_⟩
  rw [show (64 : Nat) = 8 * (7 + 1) from rfl, fb_bytes, show 8 * 7 = 8 * (6 + 1) from rfl, fb_bytes, show 8 * 6 = 8 * (5 + 1) from rfl, fb_bytes, show 8 * 5 = 8 * (4 + 1) from rfl, fb_bytes, show 8 * 4 = 8 * (3 + 1) from rfl, fb_bytes, show 8 * 3 = 8 * (2 + 1) from rfl, fb_bytes, show 8 * 2 = 8 * (1 + 1) from rfl, fb_bytes, show 8 * 1 = 8 * (0 + 1) from rfl, fb_bytes]
  have hl : ∀ m, fb_ct (Nat.testBit m) 8 ≤ 8 := fun m => fb_ct_le _ _
  simp only [cb]
  have h0 : fb_ct (Nat.testBit (n / 256 / 256 / 256 / 256 / 256 / 256 / 256 / 256)) (8 * 0) = 0 := rfl
  rw [h0]
  have a0 := hl (n % 256)
  have a1 := hl (n / 256 % 256)
  have a2 := hl (n / 256 / 256 % 256)
  have a3 := hl (n / 256 / 256 / 256 % 256)
  have a4 := hl (n / 256 / 256 / 256 / 256 % 256)
  have a5 := hl (n / 256 / 256 / 256 / 256 / 256 % 256)
  have a6 := hl (n / 256 / 256 / 256 / 256 / 256 / 256 % 256)
  have a7 := hl (n / 256 / 256 / 256 / 256 / 256 / 256 / 256 % 256)
  generalize fb_ct (Nat.testBit (n % 256)) 8 = p0 at *
  generalize fb_ct (Nat.testBit (n / 256 % 256)) 8 = p1 at *
  generalize fb_ct (Nat.testBit (n / 256 / 256 % 256)) 8 = p2 at *
  generalize fb_ct (Nat.testBit (n / 256 / 256 / 256 % 256)) 8 = p3 at *
  generalize fb_ct (Nat.testBit (n / 256 / 256 / 256 / 256 % 256)) 8 = p4 at *
  generalize fb_ct (Nat.testBit (n / 256 / 256 / 256 / 256 / 256 % 256)) 8 = p5 at *
  generalize fb_ct (Nat.testBit (n / 256 / 256 / 256 / 256 / 256 / 256 % 256)) 8 = p6 at *
  generalize fb_ct (Nat.testBit (n / 256 / 256 / 256 / 256 / 256 / 256 / 256 % 256)) 8 = p7 at *
  clear hn h0 hl
  exact swar_sum a0 a1 a2 a3 a4 a5 a6 a7
theorem lus_lN {n k : Nat} (hn : n < 2 ^ 64) (hk : k < 64) : lus (lN n) (nI k) = lN (n / 2 ^ k) := wb_shr hn hk
theorem rp_lt : rp 85 8 = 6148914691236517205 ∧ rp 51 8 = 3689348814741910323 ∧ rp 15 8 = 1085102592571150095 := by decide
theorem bitCount_eq (q : Int64) : fn_J13_bitCount_95d88 q = some (nI (pc q)) := by
  obtain ⟨n, hn, rfl⟩ := wb_of q
  have hq : pc (lN n) = fb_ct (n.testBit) 64 := by
    unfold pc
    apply fb_ct_cong
    intro i hi
    rw [bB_lN i hi]
  rw [hq]
  obtain ⟨r85, r51, r15⟩ := rp_lt
  have h256 : n < 256 ^ 8 := hn
  have hand : ∀ x, (x &&& 6148914691236517205) ≤ x := fun x => Nat.and_le_left
  have b1 : s1 8 n < 2 ^ 64 := Nat.lt_of_le_of_lt (Nat.sub_le _ _) hn
  have b2a : (s1 8 n &&& 3689348814741910323) ≤ 3689348814741910323 := Nat.and_le_right
  have b2b : (s1 8 n / 4 &&& 3689348814741910323) ≤ 3689348814741910323 := Nat.and_le_right
  have b2 : s2 8 (s1 8 n) < 2 ^ 63 := by unfold s2; rw [r51]; omega
  have b3 : s3 8 (s2 8 (s1 8 n)) < 2 ^ 64 := by unfold s3; rw [r15]; exact Nat.lt_of_le_of_lt Nat.and_le_right (by decide)
  have e1 : (lN n - ((lus (lN n) 1) &&& 6148914691236517205)) = lN (s1 8 n) := by
    rw [show (1 : Int32) = nI 1 from rfl, lus_lN hn (by decide), show (6148914691236517205 : Int64) = lN 6148914691236517205 from rfl, wb_and (Nat.lt_of_le_of_lt (Nat.div_le_self _ _) hn) (by decide), lN_sub (Nat.le_trans (hand _) (Nat.div_le_self _ _))]
    unfold s1
    rw [r85]
  have e2 : ((lN (s1 8 n) &&& 3689348814741910323) + ((lus (lN (s1 8 n)) 2) &&& 3689348814741910323)) = lN (s2 8 (s1 8 n)) := by
    rw [show (2 : Int32) = nI 2 from rfl, lus_lN b1 (by decide), show (3689348814741910323 : Int64) = lN 3689348814741910323 from rfl, wb_and (Nat.lt_of_le_of_lt (Nat.div_le_self _ _) b1) (by decide), wb_and b1 (by decide), lN_add]
    unfold s2
    rw [r51]
  have e3 : ((lN (s2 8 (s1 8 n)) + (lus (lN (s2 8 (s1 8 n))) 4)) &&& 1085102592571150095) = lN (s3 8 (s2 8 (s1 8 n))) := by
    rw [show (4 : Int32) = nI 4 from rfl, lus_lN (by omega) (by decide), lN_add, show (1085102592571150095 : Int64) = lN 1085102592571150095 from rfl, wb_and (by omega) (by decide)]
    unfold s3
    rw [r15]
  rw [s123 8 n h256] at e3
  obtain ⟨w, hw, hw0, hh⟩ := swar_n hn
  rw [← hw] at e3
  obtain ⟨c1, c2, c3, c4⟩ := hh _ _ _ rfl rfl rfl
  unfold fn_J13_bitCount_95d88
  rw [e1, e2, e3]
  rw [show (8 : Int32) = nI 8 from rfl, show (16 : Int32) = nI 16 from rfl, show (32 : Int32) = nI 32 from rfl]
  rw [lus_lN (n := w) (by omega) (by decide), lN_add]
  rw [show w / 2 ^ 8 = w / 256 from rfl]
  rw [lus_lN (n := w + w / 256) (by omega) (by decide), lN_add]
  rw [show (w + w / 256) / 2 ^ 16 = (w + w / 256) / 65536 from rfl]
  rw [lus_lN (n := w + w / 256 + (w + w / 256) / 65536) (by omega) (by decide), lN_add]
  rw [show (w + w / 256 + (w + w / 256) / 65536) / 2 ^ 32 = (w + w / 256 + (w + w / 256) / 65536) / 4294967296 from rfl]
  rw [lN_i, pk_and _ (m := 127) 7 (by decide)]
  congr 2
  rw [← c4]
  show (BitVec.ofNat 32 _).toNat % 128 = _
  rw [BitVec.toNat_ofNat]
  omega
