/-! the law's pure form is true for every script -/
def x_0 : XS := (4, 0, 0, 0, fun _ => 0, fun _ => 0, fun _ => 0, fun _ => 0, fun _ => 0)
def y_0 : YS := (4, 0, 0, 0, fun _ => 0, fun _ => 0, fun _ => 0, fun _ => 0, fun _ => 0)
theorem s2_go {a : Option (Int32 × XS)} {b : Option (Int32 × YS)} {K : XS → YS → Option Int32} (h : Same2 a b) (hK : ∀ v w, Rel v w → K v w = some 1) : (a.bind fun q => b.bind fun r => if q.1 = r.1 then K q.2 r.2 else some 0) = some 1 := by
  obtain ⟨r, v', w', rfl, rfl, hr⟩ := h
  rw [bsm, bsm, if_pos rfl]
  exact hK v' w' hr
theorem s1_go {a b : Option Int32} {K : Option Int32} (h : Same1 a b) (hK : K = some 1) : (a.bind fun q => b.bind fun r => if q = r then K else some 0) = some 1 := by
  obtain ⟨r, rfl, rfl⟩ := h
  rw [bsm, bsm, if_pos rfl]
  exact hK
theorem go_0 (k18 : XS → YS → Int32 → Option Int32) (L : Nat) (xs : Nat → Int32) (v : XS) (w : YS) (x3 : Int32) (y1 y2 y3 y4 : Int32) (r1 : rd xs L (x3 + 1) = some y1) (r2 : rd xs L (x3 + 2) = some y2) (r3 : rd xs L (x3 + 3) = some y3) (r4 : rd xs L (x3 + 4) = some y4) (h : Rel v w) (hK : ∀ v w, Rel v w → k18 v w (x3 + 5) = some 1) : fl_0 k18 L xs v w x3 = some 1 := by
  obtain ⟨n, kp, ln, h0⟩ := id h
  unfold fl_0
  simp only [r1, bsm]
  exact s2_go (K := fun v w => k18 v w (x3 + 5)) (m_reset h0 y1) hK
theorem go_1 (k18 : XS → YS → Int32 → Option Int32) (L : Nat) (xs : Nat → Int32) (v : XS) (w : YS) (x3 : Int32) (y1 y2 y3 y4 : Int32) (r1 : rd xs L (x3 + 1) = some y1) (r2 : rd xs L (x3 + 2) = some y2) (r3 : rd xs L (x3 + 3) = some y3) (r4 : rd xs L (x3 + 4) = some y4) (h : Rel v w) (hK : ∀ v w, Rel v w → k18 v w (x3 + 5) = some 1) : fl_1 k18 L xs v w x3 = some 1 := by
  obtain ⟨n, kp, ln, h0⟩ := id h
  unfold fl_1
  exact s1_go (m_variables h0 ) (hK v w h)
theorem go_2 (k18 : XS → YS → Int32 → Option Int32) (L : Nat) (xs : Nat → Int32) (v : XS) (w : YS) (x3 : Int32) (y1 y2 y3 y4 : Int32) (r1 : rd xs L (x3 + 1) = some y1) (r2 : rd xs L (x3 + 2) = some y2) (r3 : rd xs L (x3 + 3) = some y3) (r4 : rd xs L (x3 + 4) = some y4) (h : Rel v w) (hK : ∀ v w, Rel v w → k18 v w (x3 + 5) = some 1) : fl_2 k18 L xs v w x3 = some 1 := by
  obtain ⟨n, kp, ln, h0⟩ := id h
  unfold fl_2
  simp only [r1, r2, bsm]
  exact s2_go (K := fun v w => k18 v w (x3 + 5)) (m_toggle h0 y1 y2) hK
theorem go_3 (k18 : XS → YS → Int32 → Option Int32) (L : Nat) (xs : Nat → Int32) (v : XS) (w : YS) (x3 : Int32) (y1 y2 y3 y4 : Int32) (r1 : rd xs L (x3 + 1) = some y1) (r2 : rd xs L (x3 + 2) = some y2) (r3 : rd xs L (x3 + 3) = some y3) (r4 : rd xs L (x3 + 4) = some y4) (h : Rel v w) (hK : ∀ v w, Rel v w → k18 v w (x3 + 5) = some 1) : fl_3 k18 L xs v w x3 = some 1 := by
  obtain ⟨n, kp, ln, h0⟩ := id h
  unfold fl_3
  simp only [r1, r2, bsm]
  exact s2_go (K := fun v w => k18 v w (x3 + 5)) (m_copy h0 y1 y2) hK
theorem go_4 (k18 : XS → YS → Int32 → Option Int32) (L : Nat) (xs : Nat → Int32) (v : XS) (w : YS) (x3 : Int32) (y1 y2 y3 y4 : Int32) (r1 : rd xs L (x3 + 1) = some y1) (r2 : rd xs L (x3 + 2) = some y2) (r3 : rd xs L (x3 + 3) = some y3) (r4 : rd xs L (x3 + 4) = some y4) (h : Rel v w) (hK : ∀ v w, Rel v w → k18 v w (x3 + 5) = some 1) : fl_4 k18 L xs v w x3 = some 1 := by
  obtain ⟨n, kp, ln, h0⟩ := id h
  unfold fl_4
  simp only [r1, r2, r3, bsm]
  exact s2_go (K := fun v w => k18 v w (x3 + 5)) (m_sum h0 y1 y2 y3) hK
theorem go_5 (k18 : XS → YS → Int32 → Option Int32) (L : Nat) (xs : Nat → Int32) (v : XS) (w : YS) (x3 : Int32) (y1 y2 y3 y4 : Int32) (r1 : rd xs L (x3 + 1) = some y1) (r2 : rd xs L (x3 + 2) = some y2) (r3 : rd xs L (x3 + 3) = some y3) (r4 : rd xs L (x3 + 4) = some y4) (h : Rel v w) (hK : ∀ v w, Rel v w → k18 v w (x3 + 5) = some 1) : fl_5 k18 L xs v w x3 = some 1 := by
  obtain ⟨n, kp, ln, h0⟩ := id h
  unfold fl_5
  simp only [r1, r2, r3, bsm]
  exact s2_go (K := fun v w => k18 v w (x3 + 5)) (m_product h0 y1 y2 y3) hK
theorem go_6 (k18 : XS → YS → Int32 → Option Int32) (L : Nat) (xs : Nat → Int32) (v : XS) (w : YS) (x3 : Int32) (y1 y2 y3 y4 : Int32) (r1 : rd xs L (x3 + 1) = some y1) (r2 : rd xs L (x3 + 2) = some y2) (r3 : rd xs L (x3 + 3) = some y3) (r4 : rd xs L (x3 + 4) = some y4) (h : Rel v w) (hK : ∀ v w, Rel v w → k18 v w (x3 + 5) = some 1) : fl_6 k18 L xs v w x3 = some 1 := by
  obtain ⟨n, kp, ln, h0⟩ := id h
  unfold fl_6
  simp only [r1, r2, r3, bsm]
  exact s2_go (K := fun v w => k18 v w (x3 + 5)) (m_times h0 y1 y2 y3) hK
theorem go_7 (k18 : XS → YS → Int32 → Option Int32) (L : Nat) (xs : Nat → Int32) (v : XS) (w : YS) (x3 : Int32) (y1 y2 y3 y4 : Int32) (r1 : rd xs L (x3 + 1) = some y1) (r2 : rd xs L (x3 + 2) = some y2) (r3 : rd xs L (x3 + 3) = some y3) (r4 : rd xs L (x3 + 4) = some y4) (h : Rel v w) (hK : ∀ v w, Rel v w → k18 v w (x3 + 5) = some 1) : fl_7 k18 L xs v w x3 = some 1 := by
  obtain ⟨n, kp, ln, h0⟩ := id h
  unfold fl_7
  simp only [r1, r2, r3, r4, bsm]
  exact s2_go (K := fun v w => k18 v w (x3 + 5)) (m_restrict h0 y1 y2 y3 y4) hK
theorem go_8 (k18 : XS → YS → Int32 → Option Int32) (L : Nat) (xs : Nat → Int32) (v : XS) (w : YS) (x3 : Int32) (y1 y2 y3 y4 : Int32) (r1 : rd xs L (x3 + 1) = some y1) (r2 : rd xs L (x3 + 2) = some y2) (r3 : rd xs L (x3 + 3) = some y3) (r4 : rd xs L (x3 + 4) = some y4) (h : Rel v w) (hK : ∀ v w, Rel v w → k18 v w (x3 + 5) = some 1) : fl_8 k18 L xs v w x3 = some 1 := by
  obtain ⟨n, kp, ln, h0⟩ := id h
  unfold fl_8
  simp only [r1, r2, r3, r4, bsm]
  exact s2_go (K := fun v w => k18 v w (x3 + 5)) (m_substitute h0 y1 y2 y3 y4) hK
theorem go_9 (k18 : XS → YS → Int32 → Option Int32) (L : Nat) (xs : Nat → Int32) (v : XS) (w : YS) (x3 : Int32) (y1 y2 y3 y4 : Int32) (r1 : rd xs L (x3 + 1) = some y1) (r2 : rd xs L (x3 + 2) = some y2) (r3 : rd xs L (x3 + 3) = some y3) (r4 : rd xs L (x3 + 4) = some y4) (h : Rel v w) (hK : ∀ v w, Rel v w → k18 v w (x3 + 5) = some 1) : fl_9 k18 L xs v w x3 = some 1 := by
  obtain ⟨n, kp, ln, h0⟩ := id h
  unfold fl_9
  simp only [r1, r2, r3, bsm]
  exact s2_go (K := fun v w => k18 v w (x3 + 5)) (m_derivative h0 y1 y2 y3) hK
theorem go_10 (k18 : XS → YS → Int32 → Option Int32) (L : Nat) (xs : Nat → Int32) (v : XS) (w : YS) (x3 : Int32) (y1 y2 y3 y4 : Int32) (r1 : rd xs L (x3 + 1) = some y1) (r2 : rd xs L (x3 + 2) = some y2) (r3 : rd xs L (x3 + 3) = some y3) (r4 : rd xs L (x3 + 4) = some y4) (h : Rel v w) (hK : ∀ v w, Rel v w → k18 v w (x3 + 5) = some 1) : fl_10 k18 L xs v w x3 = some 1 := by
  obtain ⟨n, kp, ln, h0⟩ := id h
  unfold fl_10
  simp only [r1, r2, bsm]
  exact s2_go (K := fun v w => k18 v w (x3 + 5)) (m_flip h0 y1 y2) hK
theorem go_11 (k18 : XS → YS → Int32 → Option Int32) (L : Nat) (xs : Nat → Int32) (v : XS) (w : YS) (x3 : Int32) (y1 y2 y3 y4 : Int32) (r1 : rd xs L (x3 + 1) = some y1) (r2 : rd xs L (x3 + 2) = some y2) (r3 : rd xs L (x3 + 3) = some y3) (r4 : rd xs L (x3 + 4) = some y4) (h : Rel v w) (hK : ∀ v w, Rel v w → k18 v w (x3 + 5) = some 1) : fl_11 k18 L xs v w x3 = some 1 := by
  obtain ⟨n, kp, ln, h0⟩ := id h
  unfold fl_11
  simp only [r1, r2, r3, bsm]
  exact s2_go (K := fun v w => k18 v w (x3 + 5)) (m_exchange h0 y1 y2 y3) hK
theorem go_12 (k18 : XS → YS → Int32 → Option Int32) (L : Nat) (xs : Nat → Int32) (v : XS) (w : YS) (x3 : Int32) (y1 y2 y3 y4 : Int32) (r1 : rd xs L (x3 + 1) = some y1) (r2 : rd xs L (x3 + 2) = some y2) (r3 : rd xs L (x3 + 3) = some y3) (r4 : rd xs L (x3 + 4) = some y4) (h : Rel v w) (hK : ∀ v w, Rel v w → k18 v w (x3 + 5) = some 1) : fl_12 k18 L xs v w x3 = some 1 := by
  obtain ⟨n, kp, ln, h0⟩ := id h
  unfold fl_12
  exact s2_go (K := fun v w => k18 v w (x3 + 5)) (m_undo h0 ) hK
theorem go_13 (k18 : XS → YS → Int32 → Option Int32) (L : Nat) (xs : Nat → Int32) (v : XS) (w : YS) (x3 : Int32) (y1 y2 y3 y4 : Int32) (r1 : rd xs L (x3 + 1) = some y1) (r2 : rd xs L (x3 + 2) = some y2) (r3 : rd xs L (x3 + 3) = some y3) (r4 : rd xs L (x3 + 4) = some y4) (h : Rel v w) (hK : ∀ v w, Rel v w → k18 v w (x3 + 5) = some 1) : fl_13 k18 L xs v w x3 = some 1 := by
  obtain ⟨n, kp, ln, h0⟩ := id h
  unfold fl_13
  simp only [r1, r2, bsm]
  exact s1_go (m_has h0 y1 y2) (hK v w h)
theorem go_14 (k18 : XS → YS → Int32 → Option Int32) (L : Nat) (xs : Nat → Int32) (v : XS) (w : YS) (x3 : Int32) (y1 y2 y3 y4 : Int32) (r1 : rd xs L (x3 + 1) = some y1) (r2 : rd xs L (x3 + 2) = some y2) (r3 : rd xs L (x3 + 3) = some y3) (r4 : rd xs L (x3 + 4) = some y4) (h : Rel v w) (hK : ∀ v w, Rel v w → k18 v w (x3 + 5) = some 1) : fl_14 k18 L xs v w x3 = some 1 := by
  obtain ⟨n, kp, ln, h0⟩ := id h
  unfold fl_14
  simp only [r1, bsm]
  exact s1_go (m_terms h0 y1) (hK v w h)
theorem go_15 (k18 : XS → YS → Int32 → Option Int32) (L : Nat) (xs : Nat → Int32) (v : XS) (w : YS) (x3 : Int32) (y1 y2 y3 y4 : Int32) (r1 : rd xs L (x3 + 1) = some y1) (r2 : rd xs L (x3 + 2) = some y2) (r3 : rd xs L (x3 + 3) = some y3) (r4 : rd xs L (x3 + 4) = some y4) (h : Rel v w) (hK : ∀ v w, Rel v w → k18 v w (x3 + 5) = some 1) : fl_15 k18 L xs v w x3 = some 1 := by
  obtain ⟨n, kp, ln, h0⟩ := id h
  unfold fl_15
  simp only [r1, bsm]
  exact s1_go (m_degree h0 y1) (hK v w h)
theorem go_16 (k18 : XS → YS → Int32 → Option Int32) (L : Nat) (xs : Nat → Int32) (v : XS) (w : YS) (x3 : Int32) (y1 y2 y3 y4 : Int32) (r1 : rd xs L (x3 + 1) = some y1) (r2 : rd xs L (x3 + 2) = some y2) (r3 : rd xs L (x3 + 3) = some y3) (r4 : rd xs L (x3 + 4) = some y4) (h : Rel v w) (hK : ∀ v w, Rel v w → k18 v w (x3 + 5) = some 1) : fl_16 k18 L xs v w x3 = some 1 := by
  obtain ⟨n, kp, ln, h0⟩ := id h
  unfold fl_16
  simp only [r1, bsm]
  exact s1_go (m_occurring h0 y1) (hK v w h)
theorem go_17 (k18 : XS → YS → Int32 → Option Int32) (L : Nat) (xs : Nat → Int32) (v : XS) (w : YS) (x3 : Int32) (y1 y2 y3 y4 : Int32) (r1 : rd xs L (x3 + 1) = some y1) (r2 : rd xs L (x3 + 2) = some y2) (r3 : rd xs L (x3 + 3) = some y3) (r4 : rd xs L (x3 + 4) = some y4) (h : Rel v w) (hK : ∀ v w, Rel v w → k18 v w (x3 + 5) = some 1) : fl_17 k18 L xs v w x3 = some 1 := by
  obtain ⟨n, kp, ln, h0⟩ := id h
  unfold fl_17
  simp only [r1, bsm]
  exact s2_go (K := fun v w => k18 v w (x3 + 5)) (m_size h0 y1) hK
theorem go_18 (k18 : XS → YS → Int32 → Option Int32) (L : Nat) (xs : Nat → Int32) (v : XS) (w : YS) (x3 : Int32) (y1 y2 y3 y4 : Int32) (r1 : rd xs L (x3 + 1) = some y1) (r2 : rd xs L (x3 + 2) = some y2) (r3 : rd xs L (x3 + 3) = some y3) (r4 : rd xs L (x3 + 4) = some y4) (h : Rel v w) (hK : ∀ v w, Rel v w → k18 v w (x3 + 5) = some 1) : fl_18 k18 L xs v w x3 = some 1 := by
  obtain ⟨n, kp, ln, h0⟩ := id h
  unfold fl_18
  exact s2_go (K := fun v w => k18 v w (x3 + 5)) (m_sharedSize h0 ) hK
theorem go_19 (k18 : XS → YS → Int32 → Option Int32) (L : Nat) (xs : Nat → Int32) (v : XS) (w : YS) (x3 : Int32) (y1 y2 y3 y4 : Int32) (r1 : rd xs L (x3 + 1) = some y1) (r2 : rd xs L (x3 + 2) = some y2) (r3 : rd xs L (x3 + 3) = some y3) (r4 : rd xs L (x3 + 4) = some y4) (h : Rel v w) (hK : ∀ v w, Rel v w → k18 v w (x3 + 5) = some 1) : fl_19 k18 L xs v w x3 = some 1 := by
  obtain ⟨n, kp, ln, h0⟩ := id h
  unfold fl_19
  simp only [r1, r2, r3, bsm]
  exact s1_go (m_termAt h0 y1 y2 y3) (hK v w h)
theorem go_20 (k18 : XS → YS → Int32 → Option Int32) (L : Nat) (xs : Nat → Int32) (v : XS) (w : YS) (x3 : Int32) (y1 y2 y3 y4 : Int32) (r1 : rd xs L (x3 + 1) = some y1) (r2 : rd xs L (x3 + 2) = some y2) (r3 : rd xs L (x3 + 3) = some y3) (r4 : rd xs L (x3 + 4) = some y4) (h : Rel v w) (hK : ∀ v w, Rel v w → k18 v w (x3 + 5) = some 1) : fl_20 k18 L xs v w x3 = some 1 := by
  obtain ⟨n, kp, ln, h0⟩ := id h
  unfold fl_20
  simp only [r1, r2, bsm]
  exact s1_go (m_value h0 y1 y2) (hK v w h)
theorem go_21 (k18 : XS → YS → Int32 → Option Int32) (L : Nat) (xs : Nat → Int32) (v : XS) (w : YS) (x3 : Int32) (y1 y2 y3 y4 : Int32) (r1 : rd xs L (x3 + 1) = some y1) (r2 : rd xs L (x3 + 2) = some y2) (r3 : rd xs L (x3 + 3) = some y3) (r4 : rd xs L (x3 + 4) = some y4) (h : Rel v w) (hK : ∀ v w, Rel v w → k18 v w (x3 + 5) = some 1) : fl_21 k18 L xs v w x3 = some 1 := by
  obtain ⟨n, kp, ln, h0⟩ := id h
  unfold fl_21
  simp only [r1, r2, bsm]
  exact s1_go (m_isSame h0 y1 y2) (hK v w h)
theorem go_22 (k18 : XS → YS → Int32 → Option Int32) (L : Nat) (xs : Nat → Int32) (v : XS) (w : YS) (x3 : Int32) (y1 y2 y3 y4 : Int32) (r1 : rd xs L (x3 + 1) = some y1) (r2 : rd xs L (x3 + 2) = some y2) (r3 : rd xs L (x3 + 3) = some y3) (r4 : rd xs L (x3 + 4) = some y4) (h : Rel v w) (hK : ∀ v w, Rel v w → k18 v w (x3 + 5) = some 1) : fl_22 k18 L xs v w x3 = some 1 := by
  obtain ⟨n, kp, ln, h0⟩ := id h
  unfold fl_22
  simp only [r1, r2, r3, r4, bsm]
  exact s2_go (K := fun v w => k18 v w (x3 + 5)) (m_reduce h0 y1 y2 y3 y4) hK
theorem go_23 (k18 : XS → YS → Int32 → Option Int32) (L : Nat) (xs : Nat → Int32) (v : XS) (w : YS) (x3 : Int32) (y1 y2 y3 y4 : Int32) (r1 : rd xs L (x3 + 1) = some y1) (r2 : rd xs L (x3 + 2) = some y2) (r3 : rd xs L (x3 + 3) = some y3) (r4 : rd xs L (x3 + 4) = some y4) (h : Rel v w) (hK : ∀ v w, Rel v w → k18 v w (x3 + 5) = some 1) : fl_23 k18 L xs v w x3 = some 1 := by
  obtain ⟨n, kp, ln, h0⟩ := id h
  unfold fl_23
  simp only [r1, r2, bsm]
  exact s2_go (K := fun v w => k18 v w (x3 + 5)) (m_echelon h0 y1 y2) hK
theorem go_24 (k18 : XS → YS → Int32 → Option Int32) (L : Nat) (xs : Nat → Int32) (v : XS) (w : YS) (x3 : Int32) (y1 y2 y3 y4 : Int32) (r1 : rd xs L (x3 + 1) = some y1) (r2 : rd xs L (x3 + 2) = some y2) (r3 : rd xs L (x3 + 3) = some y3) (r4 : rd xs L (x3 + 4) = some y4) (h : Rel v w) (hK : ∀ v w, Rel v w → k18 v w (x3 + 5) = some 1) : fl_24 k18 L xs v w x3 = some 1 := by
  obtain ⟨n, kp, ln, h0⟩ := id h
  unfold fl_24
  simp only [r1, bsm]
  exact s1_go (m_zeros h0 y1) (hK v w h)
theorem go_25 (k18 : XS → YS → Int32 → Option Int32) (L : Nat) (xs : Nat → Int32) (v : XS) (w : YS) (x3 : Int32) (y1 y2 y3 y4 : Int32) (r1 : rd xs L (x3 + 1) = some y1) (r2 : rd xs L (x3 + 2) = some y2) (r3 : rd xs L (x3 + 3) = some y3) (r4 : rd xs L (x3 + 4) = some y4) (h : Rel v w) (hK : ∀ v w, Rel v w → k18 v w (x3 + 5) = some 1) : fl_25 k18 L xs v w x3 = some 1 := by
  obtain ⟨n, kp, ln, h0⟩ := id h
  unfold fl_25
  simp only [r1, r2, bsm]
  exact s1_go (m_zeroAt h0 y1 y2) (hK v w h)
theorem go_26 (k18 : XS → YS → Int32 → Option Int32) (L : Nat) (xs : Nat → Int32) (v : XS) (w : YS) (x3 : Int32) (y1 y2 y3 y4 : Int32) (r1 : rd xs L (x3 + 1) = some y1) (r2 : rd xs L (x3 + 2) = some y2) (r3 : rd xs L (x3 + 3) = some y3) (r4 : rd xs L (x3 + 4) = some y4) (h : Rel v w) (hK : ∀ v w, Rel v w → k18 v w (x3 + 5) = some 1) : fl_26 k18 L xs v w x3 = some 1 := by
  obtain ⟨n, kp, ln, h0⟩ := id h
  unfold fl_26
  simp only [r1, r2, bsm]
  exact s2_go (K := fun v w => k18 v w (x3 + 5)) (m_combine h0 y1 y2) hK
theorem go_27 (k18 : XS → YS → Int32 → Option Int32) (L : Nat) (xs : Nat → Int32) (v : XS) (w : YS) (x3 : Int32) (y1 y2 y3 y4 : Int32) (r1 : rd xs L (x3 + 1) = some y1) (r2 : rd xs L (x3 + 2) = some y2) (r3 : rd xs L (x3 + 3) = some y3) (r4 : rd xs L (x3 + 4) = some y4) (h : Rel v w) (hK : ∀ v w, Rel v w → k18 v w (x3 + 5) = some 1) : fl_27 k18 L xs v w x3 = some 1 := by
  obtain ⟨n, kp, ln, h0⟩ := id h
  unfold fl_27
  simp only [r1, r2, r3, bsm]
  exact s2_go (K := fun v w => k18 v w (x3 + 5)) (m_eliminate h0 y1 y2 y3) hK
theorem go_28 (k18 : XS → YS → Int32 → Option Int32) (L : Nat) (xs : Nat → Int32) (v : XS) (w : YS) (x3 : Int32) (y1 y2 y3 y4 : Int32) (r1 : rd xs L (x3 + 1) = some y1) (r2 : rd xs L (x3 + 2) = some y2) (r3 : rd xs L (x3 + 3) = some y3) (r4 : rd xs L (x3 + 4) = some y4) (h : Rel v w) (hK : ∀ v w, Rel v w → k18 v w (x3 + 5) = some 1) : fl_28 k18 L xs v w x3 = some 1 := by
  obtain ⟨n, kp, ln, h0⟩ := id h
  unfold fl_28
  simp only [r1, r2, r3, bsm]
  exact s1_go (m_fibres h0 y1 y2 y3) (hK v w h)
theorem go_29 (k18 : XS → YS → Int32 → Option Int32) (L : Nat) (xs : Nat → Int32) (v : XS) (w : YS) (x3 : Int32) (y1 y2 y3 y4 : Int32) (r1 : rd xs L (x3 + 1) = some y1) (r2 : rd xs L (x3 + 2) = some y2) (r3 : rd xs L (x3 + 3) = some y3) (r4 : rd xs L (x3 + 4) = some y4) (h : Rel v w) (hK : ∀ v w, Rel v w → k18 v w (x3 + 5) = some 1) : fl_29 k18 L xs v w x3 = some 1 := by
  obtain ⟨n, kp, ln, h0⟩ := id h
  unfold fl_29
  simp only [r1, r2, bsm]
  exact s1_go (m_isMember h0 y1 y2) (hK v w h)
theorem go_30 (k18 : XS → YS → Int32 → Option Int32) (L : Nat) (xs : Nat → Int32) (v : XS) (w : YS) (x3 : Int32) (y1 y2 y3 y4 : Int32) (r1 : rd xs L (x3 + 1) = some y1) (r2 : rd xs L (x3 + 2) = some y2) (r3 : rd xs L (x3 + 3) = some y3) (r4 : rd xs L (x3 + 4) = some y4) (h : Rel v w) (hK : ∀ v w, Rel v w → k18 v w (x3 + 5) = some 1) : fl_30 k18 L xs v w x3 = some 1 := by
  obtain ⟨n, kp, ln, h0⟩ := id h
  unfold fl_30
  simp only [r1, r2, bsm]
  exact s1_go (m_isSameIdeal h0 y1 y2) (hK v w h)
theorem go_31 (k18 : XS → YS → Int32 → Option Int32) (L : Nat) (xs : Nat → Int32) (v : XS) (w : YS) (x3 : Int32) (y1 y2 y3 y4 : Int32) (r1 : rd xs L (x3 + 1) = some y1) (r2 : rd xs L (x3 + 2) = some y2) (r3 : rd xs L (x3 + 3) = some y3) (r4 : rd xs L (x3 + 4) = some y4) (h : Rel v w) (hK : ∀ v w, Rel v w → k18 v w (x3 + 5) = some 1) : fl_31 k18 L xs v w x3 = some 1 := by
  obtain ⟨n, kp, ln, h0⟩ := id h
  unfold fl_31
  simp only [r1, bsm]
  exact s1_go (m_fixedVariables h0 y1) (hK v w h)
theorem go_32 (k18 : XS → YS → Int32 → Option Int32) (L : Nat) (xs : Nat → Int32) (v : XS) (w : YS) (x3 : Int32) (y1 y2 y3 y4 : Int32) (r1 : rd xs L (x3 + 1) = some y1) (r2 : rd xs L (x3 + 2) = some y2) (r3 : rd xs L (x3 + 3) = some y3) (r4 : rd xs L (x3 + 4) = some y4) (h : Rel v w) (hK : ∀ v w, Rel v w → k18 v w (x3 + 5) = some 1) : fl_32 k18 L xs v w x3 = some 1 := by
  obtain ⟨n, kp, ln, h0⟩ := id h
  unfold fl_32
  simp only [r1, bsm]
  exact s2_go (K := fun v w => k18 v w (x3 + 5)) (m_type h0 y1) hK
theorem go_33 (k18 : XS → YS → Int32 → Option Int32) (L : Nat) (xs : Nat → Int32) (v : XS) (w : YS) (x3 : Int32) (y1 y2 y3 y4 : Int32) (r1 : rd xs L (x3 + 1) = some y1) (r2 : rd xs L (x3 + 2) = some y2) (r3 : rd xs L (x3 + 3) = some y3) (r4 : rd xs L (x3 + 4) = some y4) (h : Rel v w) (hK : ∀ v w, Rel v w → k18 v w (x3 + 5) = some 1) : fl_33 k18 L xs v w x3 = some 1 := by
  obtain ⟨n, kp, ln, h0⟩ := id h
  unfold fl_33
  exact s2_go (K := fun v w => k18 v w (x3 + 5)) (m_clearText h0 ) hK
theorem go_34 (k18 : XS → YS → Int32 → Option Int32) (L : Nat) (xs : Nat → Int32) (v : XS) (w : YS) (x3 : Int32) (y1 y2 y3 y4 : Int32) (r1 : rd xs L (x3 + 1) = some y1) (r2 : rd xs L (x3 + 2) = some y2) (r3 : rd xs L (x3 + 3) = some y3) (r4 : rd xs L (x3 + 4) = some y4) (h : Rel v w) (hK : ∀ v w, Rel v w → k18 v w (x3 + 5) = some 1) : fl_34 k18 L xs v w x3 = some 1 := by
  obtain ⟨n, kp, ln, h0⟩ := id h
  unfold fl_34
  exact s1_go (m_fault h0 ) (hK v w h)
theorem go_35 (k18 : XS → YS → Int32 → Option Int32) (L : Nat) (xs : Nat → Int32) (v : XS) (w : YS) (x3 : Int32) (y1 y2 y3 y4 : Int32) (r1 : rd xs L (x3 + 1) = some y1) (r2 : rd xs L (x3 + 2) = some y2) (r3 : rd xs L (x3 + 3) = some y3) (r4 : rd xs L (x3 + 4) = some y4) (h : Rel v w) (hK : ∀ v w, Rel v w → k18 v w (x3 + 5) = some 1) : fl_35 k18 L xs v w x3 = some 1 := by
  obtain ⟨n, kp, ln, h0⟩ := id h
  unfold fl_35
  simp only [r1, bsm]
  exact s2_go (K := fun v w => k18 v w (x3 + 5)) (m_read h0 y1) hK
theorem go_36 (k18 : XS → YS → Int32 → Option Int32) (L : Nat) (xs : Nat → Int32) (v : XS) (w : YS) (x3 : Int32) (y1 y2 y3 y4 : Int32) (r1 : rd xs L (x3 + 1) = some y1) (r2 : rd xs L (x3 + 2) = some y2) (r3 : rd xs L (x3 + 3) = some y3) (r4 : rd xs L (x3 + 4) = some y4) (h : Rel v w) (hK : ∀ v w, Rel v w → k18 v w (x3 + 5) = some 1) : fl_36 k18 L xs v w x3 = some 1 := by
  obtain ⟨n, kp, ln, h0⟩ := id h
  unfold fl_36
  simp only [r1, bsm]
  exact s1_go (m_textLength h0 y1) (hK v w h)
theorem go_37 (k18 : XS → YS → Int32 → Option Int32) (L : Nat) (xs : Nat → Int32) (v : XS) (w : YS) (x3 : Int32) (y1 y2 y3 y4 : Int32) (r1 : rd xs L (x3 + 1) = some y1) (r2 : rd xs L (x3 + 2) = some y2) (r3 : rd xs L (x3 + 3) = some y3) (r4 : rd xs L (x3 + 4) = some y4) (h : Rel v w) (hK : ∀ v w, Rel v w → k18 v w (x3 + 5) = some 1) : fl_37 k18 L xs v w x3 = some 1 := by
  obtain ⟨n, kp, ln, h0⟩ := id h
  unfold fl_37
  simp only [r1, r2, bsm]
  exact s1_go (m_textAt h0 y1 y2) (hK v w h)
theorem go_sw (k18 : XS → YS → Int32 → Option Int32) (L : Nat) (xs : Nat → Int32) (v : XS) (w : YS) (x3 : Int32) (y1 y2 y3 y4 : Int32) (r1 : rd xs L (x3 + 1) = some y1) (r2 : rd xs L (x3 + 2) = some y2) (r3 : rd xs L (x3 + 3) = some y3) (r4 : rd xs L (x3 + 4) = some y4) (h : Rel v w) (hK : ∀ v w, Rel v w → k18 v w (x3 + 5) = some 1) (j : Nat) : fl_sw k18 L xs v w x3 j = some 1 := by
  match j with
  | 0 => exact go_0 k18 L xs v w x3 y1 y2 y3 y4 r1 r2 r3 r4 h hK
  | 1 => exact go_1 k18 L xs v w x3 y1 y2 y3 y4 r1 r2 r3 r4 h hK
  | 2 => exact go_2 k18 L xs v w x3 y1 y2 y3 y4 r1 r2 r3 r4 h hK
  | 3 => exact go_3 k18 L xs v w x3 y1 y2 y3 y4 r1 r2 r3 r4 h hK
  | 4 => exact go_4 k18 L xs v w x3 y1 y2 y3 y4 r1 r2 r3 r4 h hK
  | 5 => exact go_5 k18 L xs v w x3 y1 y2 y3 y4 r1 r2 r3 r4 h hK
  | 6 => exact go_6 k18 L xs v w x3 y1 y2 y3 y4 r1 r2 r3 r4 h hK
  | 7 => exact go_7 k18 L xs v w x3 y1 y2 y3 y4 r1 r2 r3 r4 h hK
  | 8 => exact go_8 k18 L xs v w x3 y1 y2 y3 y4 r1 r2 r3 r4 h hK
  | 9 => exact go_9 k18 L xs v w x3 y1 y2 y3 y4 r1 r2 r3 r4 h hK
  | 10 => exact go_10 k18 L xs v w x3 y1 y2 y3 y4 r1 r2 r3 r4 h hK
  | 11 => exact go_11 k18 L xs v w x3 y1 y2 y3 y4 r1 r2 r3 r4 h hK
  | 12 => exact go_12 k18 L xs v w x3 y1 y2 y3 y4 r1 r2 r3 r4 h hK
  | 13 => exact go_13 k18 L xs v w x3 y1 y2 y3 y4 r1 r2 r3 r4 h hK
  | 14 => exact go_14 k18 L xs v w x3 y1 y2 y3 y4 r1 r2 r3 r4 h hK
  | 15 => exact go_15 k18 L xs v w x3 y1 y2 y3 y4 r1 r2 r3 r4 h hK
  | 16 => exact go_16 k18 L xs v w x3 y1 y2 y3 y4 r1 r2 r3 r4 h hK
  | 17 => exact go_17 k18 L xs v w x3 y1 y2 y3 y4 r1 r2 r3 r4 h hK
  | 18 => exact go_18 k18 L xs v w x3 y1 y2 y3 y4 r1 r2 r3 r4 h hK
  | 19 => exact go_19 k18 L xs v w x3 y1 y2 y3 y4 r1 r2 r3 r4 h hK
  | 20 => exact go_20 k18 L xs v w x3 y1 y2 y3 y4 r1 r2 r3 r4 h hK
  | 21 => exact go_21 k18 L xs v w x3 y1 y2 y3 y4 r1 r2 r3 r4 h hK
  | 22 => exact go_22 k18 L xs v w x3 y1 y2 y3 y4 r1 r2 r3 r4 h hK
  | 23 => exact go_23 k18 L xs v w x3 y1 y2 y3 y4 r1 r2 r3 r4 h hK
  | 24 => exact go_24 k18 L xs v w x3 y1 y2 y3 y4 r1 r2 r3 r4 h hK
  | 25 => exact go_25 k18 L xs v w x3 y1 y2 y3 y4 r1 r2 r3 r4 h hK
  | 26 => exact go_26 k18 L xs v w x3 y1 y2 y3 y4 r1 r2 r3 r4 h hK
  | 27 => exact go_27 k18 L xs v w x3 y1 y2 y3 y4 r1 r2 r3 r4 h hK
  | 28 => exact go_28 k18 L xs v w x3 y1 y2 y3 y4 r1 r2 r3 r4 h hK
  | 29 => exact go_29 k18 L xs v w x3 y1 y2 y3 y4 r1 r2 r3 r4 h hK
  | 30 => exact go_30 k18 L xs v w x3 y1 y2 y3 y4 r1 r2 r3 r4 h hK
  | 31 => exact go_31 k18 L xs v w x3 y1 y2 y3 y4 r1 r2 r3 r4 h hK
  | 32 => exact go_32 k18 L xs v w x3 y1 y2 y3 y4 r1 r2 r3 r4 h hK
  | 33 => exact go_33 k18 L xs v w x3 y1 y2 y3 y4 r1 r2 r3 r4 h hK
  | 34 => exact go_34 k18 L xs v w x3 y1 y2 y3 y4 r1 r2 r3 r4 h hK
  | 35 => exact go_35 k18 L xs v w x3 y1 y2 y3 y4 r1 r2 r3 r4 h hK
  | 36 => exact go_36 k18 L xs v w x3 y1 y2 y3 y4 r1 r2 r3 r4 h hK
  | 37 => exact go_37 k18 L xs v w x3 y1 y2 y3 y4 r1 r2 r3 r4 h hK
  | _ + 38 => exact hK v w h
theorem nI_plus {a b : Nat} : nI a + nI b = nI (a + b) := (Int32.ofNat_add a b).symm
theorem go_loop (L : Nat) (xs : Nat → Int32) (hL : L ≤ 2560) : ∀ f i v w, L + 5 ≤ f * 5 + i → i ≤ L → Rel v w → fl_loop L xs f v w (nI i) = some 1 := by
  intro f
  induction f with
  | zero => intro i v w h hi _; omega
  | succ f ih =>
    intro i v w h hi hr
    rw [fl_loop]
    unfold fl_body
    have rdx : ∀ j, i + j < L → rd xs L (nI i + nI j) = some (xs (i + j)) := fun j hj => by
      rw [nI_plus]
      exact rd_eq xs hj (by omega)
    rcases Nat.lt_or_ge L (i + 5) with z | z
    · rw [if_pos]
      rcases Nat.lt_or_ge L 5 with y | y
      · have h1 : nI L - nI 5 < 0 := pk_sneg (by decide) y
        have h2 : ¬ nI i < 0 := nI_pos (by omega)
        rw [Int32.lt_iff_toInt_lt] at *
        show (nI L - nI 5).toInt < _
        rw [Int32.toInt_zero] at *
        omega
      · show nI L - nI 5 < nI i
        rw [pk_sub y]
        exact nI_lt (by omega) (by omega)
    · rw [if_neg]
      · rw [rd_eq xs (by omega) (by omega), bsm]
        exact go_sw _ L xs v w (nI i) _ _ _ _ (rdx 1 (by omega)) (rdx 2 (by omega)) (rdx 3 (by omega)) (rdx 4 (by omega)) hr (fun v w hr => by
          show fl_loop L xs f v w (nI i + nI 5) = some 1
          rw [nI_plus]
          exact ih (i + 5) v w (by omega) (by omega) hr) _
      · show ¬ nI L - nI 5 < nI i
        rw [pk_sub (by omega)]
        exact nI_nlt (by omega) (by omega)
theorem rel_0 : Rel x_0 y_0 := ⟨4, 0, 0, ⟨by decide, by decide⟩, rfl, rfl, fun j _ => ⟨rfl, wf_0 4⟩, by decide, rfl, rfl, fun j hj => by omega, by decide, rfl, rfl, fun j hj => by omega⟩
theorem law_pure (L : Nat) (xs : Nat → Int32) (hL : L ≤ 2560) : fl_loop L xs 600 x_0 y_0 0 = some 1 := go_loop L xs hL 600 0 x_0 y_0 (by omega) (by omega) rel_0
