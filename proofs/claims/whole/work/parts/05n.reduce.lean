/-! reduction -/
/-- the product of a monomial and a polynomial, term by term -/
def sm (f : Nat) (g : Int64) : Nat → Int64
  | 0 => 0
  | j + 1 => sm f g j ^^^ (if bB g j then lsh 1 (nI (f ||| j)) else 0)
theorem or64 {a b : Nat} (ha : a < 64) (hb : b < 64) : a ||| b < 64 := Nat.or_lt_two_pow (n := 6) ha hb
theorem sm_wf {n f : Nat} (hn : n ≤ 6) (hf : f < 2 ^ n) (g : Int64) : ∀ j, j ≤ 2 ^ n → wf n (sm f g j) := by
  intro j
  induction j with
  | zero => intro _; exact wf_0 n
  | succ j ih =>
    intro h
    rw [sm]
    refine wf_xor (ih (by omega)) ?_
    split
    · exact wf_e hn (Nat.or_lt_two_pow hf (by omega))
    · exact wf_0 n
theorem sm_tr {n f : Nat} (hn : n ≤ 6) (hf : f < 2 ^ n) (g : Int64) {x : Nat} (hx : x < 2 ^ n) : ∀ j, j ≤ 2 ^ n → bB (tr n (sm f g j)) x = (sb f x && px (bB g) x j) := by
  have h64 := p2_le hn
  intro j
  induction j with
  | zero => intro _; rw [sm, tr_z n hn, bB_0, px, Bool.and_false]
  | succ j ih =>
    intro h
    rw [sm, tr_lin _ _ n hn, bB_xor, ih (by omega), px]
    cases e : bB g j
    · simp only [Bool.false_eq_true, if_false]
      rw [tr_z n hn, bB_0]
      simp
    · simp only [if_true]
      rw [tr_base hn (or64 (by omega) (by omega)) hx, sb_or]
      cases sb f x <;> cases sb j x <;> cases px (bB g) x j <;> rfl
theorem sm_eq {n f : Nat} (hn : n ≤ 6) (hf : f < 2 ^ n) {g : Int64} (hg : wf n g) : ml n (lsh 1 (nI f)) g = sm f g (2 ^ n) := by
  have h64 := p2_le hn
  rw [← tr_inv n hn (sm f g (2 ^ n))]
  unfold ml
  congr 1
  apply wf_ext hn (wf_and (tr_wf hn (wf_e hn hf) n (Nat.le_refl _))) (tr_wf hn (sm_wf hn hf g _ (Nat.le_refl _)) n (Nat.le_refl _))
  intro x hx
  rw [sm_tr hn hf g hx _ (Nat.le_refl _), bB_and, tr_base hn (by omega) hx, tr_px hn hg hx]
theorem sm_bit {f l : Nat} (hf : f < 64) (g : Int64) {x : Nat} (hx : x < 64) (h : ∀ j, j < 64 → bB g j = true → j ≠ l → f ||| j ≠ x) : ∀ J, J ≤ 64 → bB (sm f g J) x = (decide (l < J) && bB g l && decide (f ||| l = x)) := by
  intro J
  induction J with
  | zero => intro _; rw [sm, bB_0]; simp
  | succ J ih =>
    intro hJ
    rw [sm, bB_xor, ih (by omega)]
    by_cases c : J = l
    · subst c
      cases e : bB g J
      · simp [bB_0]
      · simp only [if_true]
        rw [bB_e (or64 hf (by omega)) hx]
        by_cases c2 : f ||| J = x
        · simp [c2]
        · simp [c2, show ¬ x = f ||| J from fun z => c2 z.symm]
    · have e1 : decide (l < J + 1) = decide (l < J) := by
        by_cases c2 : l < J
        · simp [c2, show l < J + 1 by omega]
        · simp [c2, show ¬ l < J + 1 by omega]
      rw [e1]
      cases e : bB g J
      · simp [bB_0]
      · simp only [if_true]
        rw [bB_e (or64 hf (by omega)) hx, show decide (x = f ||| J) = false from decide_eq_false (fun z => h J (by omega) e c z.symm), Bool.xor_false]
theorem fl_ok : ∀ m, m < 64 → ∀ l, l < 64 → l &&& m = l → (m &&& (63 - l)) &&& l = 0 ∧ (m &&& (63 - l)) ||| l = m := by decide +kernel
/-- a step takes its monomial away and touches only lesser ones -/
theorem step_bit {n o m l : Nat} (hn : n ≤ 6) (ho : o < 3) (hm : m < 2 ^ n) {g : Int64} (hg : wf n g) (hl : Ld o g l) (hsub : l &&& m = l) {p : Nat} (hp : p ≤ ps o m) : bB (ml n (lsh 1 (nI (m &&& (63 - l)))) g) (tb o p) = decide (p = ps o m) := by
  have h64 := p2_le hn
  have hm64 : m < 64 := by omega
  have hll := hl.1
  obtain ⟨f, hf⟩ : ∃ f, f = m &&& (63 - l) := ⟨_, rfl⟩
  rw [← hf]
  have hfm : f < 2 ^ n := by rw [hf]; exact Nat.lt_of_le_of_lt Nat.and_le_left hm
  have hf64 : f < 64 := by omega
  obtain ⟨d1, d2⟩ := fl_ok m hm64 l hll hsub
  rw [← hf] at d1 d2
  have hps := ps_lt o m
  have key : ∀ j, j < 64 → bB g j = true → j ≠ l → ps o m < ps o (f ||| j) := by
    intro j hj hb hne
    have h1 := hl.2.2 j hj hb
    have h2 : ps o l < ps o j := by
      rcases Nat.lt_or_ge (ps o l) (ps o j) with c | c
      · exact c
      · exact absurd (ps_inj ho hj hll (by omega)) hne
    have := ps_mul ho hll hf64 d1 hj h2
    rw [d2] at this
    exact this
  rw [sm_eq hn hfm hg, sm_bit (l := l) hf64 g (tb_lt o p) (fun j hj hb hne z => by
    have := key j hj hb hne
    rw [z, ps_tb o ho p (by omega)] at this
    omega) _ h64]
  have hl2 : l < 2 ^ n := by
    rcases Nat.lt_or_ge l (2 ^ n) with c | c
    · exact c
    · have := hl.2.1
      rw [hg l c] at this
      cases this
  rw [hl.2.1, decide_eq_true hl2, d2]
  by_cases c : p = ps o m
  · rw [c, tb_ps o ho m hm64]
    simp
  · have : ¬ m = tb o p := fun z => c (by rw [z, ps_tb o ho p (by omega)])
    simp [this, c]
