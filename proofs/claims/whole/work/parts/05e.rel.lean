/-! the class's state and the reference's, side by side; arguments; a register gets a polynomial -/
def Rl (n kp ln : Nat) (v : XS) (w : YS) : Prop := (1 ≤ n ∧ n ≤ 6) ∧ x_n v = nI n ∧ y_n w = nI n ∧ (∀ j, j < 8 → x_regs v j = y_p w j ∧ wf n (x_regs v j)) ∧ kp ≤ 6 ∧ x_kept v = nI kp ∧ y_states w = nI kp ∧ (∀ j, j < 8 * kp → x_hist v j = y_was w j ∧ wf n (x_hist v j)) ∧ ln ≤ 60 ∧ x_len v = nI ln ∧ y_typed w = nI ln ∧ (∀ j, j < ln → x_text v j = y_text w j ∧ ∃ c, 32 ≤ c ∧ c ≤ 126 ∧ x_text v j = nI c)
def Rel (v : XS) (w : YS) : Prop := ∃ n kp ln, Rl n kp ln v w
def Same2 (a : Option (Int32 × XS)) (b : Option (Int32 × YS)) : Prop := ∃ r v' w', a = some (r, v') ∧ b = some (r, w') ∧ Rel v' w'
def Same1 (a b : Option Int32) : Prop := ∃ r, a = some r ∧ b = some r
theorem Same2.of {v : XS} {w : YS} {r : Int32} (h : Rel v w) : Same2 (some (r, v)) (some (r, w)) := ⟨r, v, w, rfl, rfl, h⟩
theorem Same1.of {r : Int32} : Same1 (some r) (some r) := ⟨r, rfl, rfl⟩
theorem rd_eq {α : Type} (f : Nat → α) {n i : Nat} (h : i < n) (hn : n < 2 ^ 31) : rd f n (nI i) = some (f i) := by
  unfold rd
  rw [if_neg (nI_in h hn), nI_clamp (by omega)]
theorem wrL_eq (f : Nat → Int64) {n i : Nat} (x : Int64) (h : i < n) (hn : n < 2 ^ 31) : wrL f n (nI i) x = some (vp_updL f i x) := by
  unfold wrL
  rw [if_neg (nI_in h hn), nI_clamp (by omega)]
theorem wrI_eq (f : Nat → Int32) {n i : Nat} (x : Int32) (h : i < n) (hn : n < 2 ^ 31) : wrI f n (nI i) x = some (upd f i x) := by
  unfold wrI
  rw [if_neg (nI_in h hn), nI_clamp (by omega)]
theorem cpL_eq (f g : Nat → Int64) {n0 n1 sp dp n : Nat} (h0 : n0 < 2 ^ 31) (h1 : n1 < 2 ^ 31) (hs : sp + n ≤ n0) (hd : dp + n ≤ n1) : cpL f g n0 n1 (nI sp) (nI dp) (nI n) = some (va_cpy f g sp dp n) := by
  unfold cpL
  rw [nI_clamp (by omega), nI_clamp (by omega), nI_clamp (by omega), if_neg]
  rintro (h | h | h | h | h)
  · exact nI_pos (by omega) h
  · exact nI_pos (by omega) h
  · exact nI_pos (by omega) h
  · omega
  · omega
-- arguments
theorem in_out {x : Int32} {N : Nat} (h1 : 1 ≤ N) (h2 : N < 2 ^ 31) (h : x < 0 ∨ nI N ≤ x) : fn_X7_in x 0 (nI (N - 1)) = some 0 := by
  unfold fn_X7_in
  rcases h with h | h
  · rw [if_pos h]
  · have : nI (N - 1) < x := by
      rw [Int32.lt_iff_toInt_lt, nI_toInt (by omega)]
      rw [Int32.le_iff_toInt_le, nI_toInt h2] at h
      omega
    by_cases h0 : x < 0
    · rw [if_pos h0]
    · rw [if_neg h0, if_pos this]
theorem in_in {j N : Nat} (h : j < N) (h2 : N < 2 ^ 31) : fn_X7_in (nI j) 0 (nI (N - 1)) = some 1 := by
  unfold fn_X7_in
  rw [if_neg (nI_pos (by omega)), if_neg (nI_nlt (by omega) (by omega))]
theorem x_out {α : Type} {x : Int32} {N : Nat} {a b : α} (h : x < 0 ∨ nI N ≤ x) : (if x < 0 then a else if nI N ≤ x then a else b) = a := by
  rcases h with h | h
  · rw [if_pos h]
  · by_cases h0 : x < 0
    · rw [if_pos h0]
    · rw [if_neg h0, if_pos h]
theorem x_in {α : Type} {j N : Nat} {a b : α} (h : j < N) (h2 : N < 2 ^ 31) : (if nI j < 0 then a else if nI N ≤ nI j then a else b) = b := by
  rw [if_neg (nI_pos (by omega)), if_neg (nI_ge h h2)]
theorem reg_c (x : Int32) : (fn_X6_isRegister x = some 0 ∧ fn_X7_isRegister x = some 0) ∨ ∃ j, j < 8 ∧ x = nI j ∧ fn_X6_isRegister x = some 1 ∧ fn_X7_isRegister x = some 1 := by
  have h7 : fn_X7_isRegister x = (fn_X7_in x 0 (nI (8 - 1))).bind fun q4 => (zb q4).bind fun z7 => some z7 := rfl
  rw [h7]
  rcases or_assoc.mpr (pk_ix x (n := 8) (by decide)) with h | ⟨j, hj, rfl⟩
  · refine Or.inl ⟨x_out (N := 8) h, ?_⟩
    rw [in_out (by decide) (by decide) h]
    rfl
  · refine Or.inr ⟨j, hj, rfl, x_in (N := 8) hj (by decide), ?_⟩
    rw [in_in hj (by decide)]
    rfl
theorem set_c (x : Int32) : (fn_X6_isSet x = some 0 ∧ fn_X7_isSet x = some 0) ∨ ∃ j, j < 256 ∧ x = nI j ∧ fn_X6_isSet x = some 1 ∧ fn_X7_isSet x = some 1 := by
  have h7 : fn_X7_isSet x = (fn_X7_in x 0 (nI (256 - 1))).bind fun q4 => (zb q4).bind fun z7 => some z7 := rfl
  rw [h7]
  rcases or_assoc.mpr (pk_ix x (n := 256) (by decide)) with h | ⟨j, hj, rfl⟩
  · refine Or.inl ⟨x_out (N := 256) h, ?_⟩
    rw [in_out (by decide) (by decide) h]
    rfl
  · refine Or.inr ⟨j, hj, rfl, x_in (N := 256) hj (by decide), ?_⟩
    rw [in_in hj (by decide)]
    rfl
theorem ord_c (x : Int32) : (fn_X6_isOrder x = some 0 ∧ fn_X7_isOrder x = some 0) ∨ ∃ j, j < 3 ∧ x = nI j ∧ fn_X6_isOrder x = some 1 ∧ fn_X7_isOrder x = some 1 := by
  have h7 : fn_X7_isOrder x = (fn_X7_in x 0 (nI (3 - 1))).bind fun q4 => (zb q4).bind fun z7 => some z7 := rfl
  rw [h7]
  rcases or_assoc.mpr (pk_ix x (n := 3) (by decide)) with h | ⟨j, hj, rfl⟩
  · refine Or.inl ⟨x_out (N := 3) h, ?_⟩
    rw [in_out (by decide) (by decide) h]
    rfl
  · refine Or.inr ⟨j, hj, rfl, x_in (N := 3) hj (by decide), ?_⟩
    rw [in_in hj (by decide)]
    rfl
theorem var_c {v : XS} {w : YS} {n : Nat} (h1 : 1 ≤ n) (h6 : n ≤ 6) (hv : x_n v = nI n) (hw : y_n w = nI n) (x : Int32) : (fn_X6_isVariable v x = some 0 ∧ fn_X7_isVariable w x = some 0) ∨ ∃ j, j < n ∧ x = nI j ∧ fn_X6_isVariable v x = some 1 ∧ fn_X7_isVariable w x = some 1 := by
  unfold fn_X6_isVariable fn_X7_isVariable
  rw [hv, hw, show (1 : Int32) = nI 1 from rfl, pk_sub h1]
  rcases or_assoc.mpr (pk_ix x (n := n) (by omega)) with h | ⟨j, hj, rfl⟩
  · refine Or.inl ⟨x_out h, ?_⟩
    rw [in_out h1 (by omega) h]
    rfl
  · refine Or.inr ⟨j, hj, rfl, x_in hj (by omega), ?_⟩
    rw [in_in hj (by omega)]
    rfl
theorem msk_c {v : XS} {w : YS} {n : Nat} (h6 : n ≤ 6) (hv : x_n v = nI n) (hw : y_n w = nI n) (x : Int32) : (fn_X6_isMask v x = some 0 ∧ fn_X7_isMask w x = some 0) ∨ ∃ j, j < 2 ^ n ∧ x = nI j ∧ fn_X6_isMask v x = some 1 ∧ fn_X7_isMask w x = some 1 := by
  have h64 := p2_le h6
  have hp := p2_pos n
  unfold fn_X6_isMask fn_X7_isMask
  rw [hv, hw, ish1 n (by omega)]
  have e : nI (2 ^ n) - 1 = nI (2 ^ n - 1) := pk_sub (a := 2 ^ n) (b := 1) hp
  rw [e]
  rcases or_assoc.mpr (pk_ix x (n := 2 ^ n) (by omega)) with h | ⟨j, hj, rfl⟩
  · refine Or.inl ⟨x_out h, ?_⟩
    rw [in_out hp (by omega) h]
    rfl
  · refine Or.inr ⟨j, hj, rfl, x_in hj (by omega), ?_⟩
    rw [in_in hj (by omega)]
    rfl
-- the history
theorem rec_shift : ∀ d k f (w : YS), k + d = 40 → d < f → ∃ g : Nat → Int64, (∀ j, g j = if k ≤ j ∧ j < 40 then y_was w (j + 8) else y_was w j) ∧ fn_X7_records_11 f w (nI k) = fn_X7_records_48 (ys_states (ys_was w g) (y_states w - 1)) := by
  intro d
  induction d with
  | zero =>
    intro k f w h hf
    obtain ⟨f, rfl⟩ : ∃ g, f = g + 1 := ⟨f - 1, by omega⟩
    refine ⟨y_was w, fun j => ?_, ?_⟩
    · rw [if_neg (by omega)]
    · unfold fn_X7_records_11 fn_X7_records_11_body
      rw [if_pos (show (40 : Int32) ≤ nI k from nI_le (a := 40) (by omega) (by omega))]
  | succ d ih =>
    intro k f w h hf
    obtain ⟨f, rfl⟩ : ∃ g, f = g + 1 := ⟨f - 1, by omega⟩
    unfold fn_X7_records_11 fn_X7_records_11_body
    rw [if_neg (show ¬ (40 : Int32) ≤ nI k from nI_ge (b := 40) (by omega) (by omega)), show nI k + 8 = nI (k + 8) from nI_add k 8, rd_eq _ (by omega) (by decide)]
    simp only [Option.bind_some]
    rw [wrL_eq _ _ (by omega) (by decide), nI_1]
    simp only [Option.bind_some]
    obtain ⟨g, h1, h2⟩ := ih (k + 1) f (ys_was w (vp_updL (y_was w) k (y_was w (k + 8)))) (by omega) (by omega)
    refine ⟨g, fun j => ?_, ?_⟩
    · rw [h1 j]
      by_cases c : j = k
      · subst c
        rw [if_neg (by omega), if_pos (by omega)]
        exact pk_uLs
      · by_cases c2 : k + 1 ≤ j ∧ j < 40
        · rw [if_pos c2, if_pos (by omega)]
          exact pk_uLn (by omega)
        · rw [if_neg c2, if_neg (by omega)]
          exact pk_uLn c
    · rw [h2]
theorem rec_put {s : Nat} (hs : s < 6) : ∀ d k f (w : YS), y_states w = nI s → k + d = 8 → d < f → ∃ g : Nat → Int64, (∀ j, g j = if 8 * s + k ≤ j ∧ j < 8 * s + 8 then y_p w (j - 8 * s) else y_was w j) ∧ fn_X7_records_50 f w (nI k) = some (ys_states (ys_was w g) (nI (s + 1))) := by
  intro d
  induction d with
  | zero =>
    intro k f w hw h hf
    obtain ⟨f, rfl⟩ : ∃ g, f = g + 1 := ⟨f - 1, by omega⟩
    refine ⟨y_was w, fun j => ?_, ?_⟩
    · rw [if_neg (by omega)]
    · unfold fn_X7_records_50 fn_X7_records_50_body
      rw [if_pos (show (8 : Int32) ≤ nI k from nI_le (a := 8) (by omega) (by omega)), hw, nI_1]
  | succ d ih =>
    intro k f w hw h hf
    obtain ⟨f, rfl⟩ : ∃ g, f = g + 1 := ⟨f - 1, by omega⟩
    unfold fn_X7_records_50 fn_X7_records_50_body
    rw [if_neg (show ¬ (8 : Int32) ≤ nI k from nI_ge (b := 8) (by omega) (by omega)), rd_eq _ (by omega) (by decide)]
    simp only [Option.bind_some]
    rw [hw, show (8 : Int32) * nI s + nI k = nI (8 * s + k) by rw [show (8 : Int32) = nI 8 from rfl, pk_mul, nI_add], wrL_eq _ _ (by omega) (by decide), nI_1]
    simp only [Option.bind_some]
    obtain ⟨g, h1, h2⟩ := ih (k + 1) f (ys_was w (vp_updL (y_was w) (8 * s + k) (y_p w k))) hw (by omega) (by omega)
    refine ⟨g, fun j => ?_, h2⟩
    rw [h1 j]
    by_cases c : j = 8 * s + k
    · subst c
      rw [if_neg (by omega), if_pos (by omega)]
      rw [show 8 * s + k - 8 * s = k by omega]
      exact pk_uLs
    · by_cases c2 : 8 * s + (k + 1) ≤ j ∧ j < 8 * s + 8
      · rw [if_pos c2, if_pos (by omega)]
      · rw [if_neg c2, if_neg (by omega)]
        exact pk_uLn c
theorem keep_38 {s : Nat} (hs : s < 6) {v : XS} (hv : x_kept v = nI s) : fn_X1_keep_38 v = some (xs_kept (xs_hist v (va_cpy (x_regs v) (x_hist v) 0 (s * 8) 8)) (nI (s + 1))) := by
  unfold fn_X1_keep_38
  rw [hv, show (8 : Int32) = nI 8 from rfl, pk_mul, show (0 : Int32) = nI 0 from rfl, cpL_eq _ _ (by decide) (by decide) (by omega) (by omega), nI_1]
  rfl
theorem keep_rec {n kp ln : Nat} {v : XS} {w : YS} (h : Rl n kp ln v w) : ∃ v' w' kp', fn_X1_keep v = some v' ∧ fn_X7_records w = some w' ∧ Rl n kp' ln v' w' ∧ x_regs v' = x_regs v ∧ y_p w' = y_p w := by
  obtain ⟨hn, hxn, hyn, hreg, hkp, hxk, hyk, hh, hln, hxl, hyl, htx⟩ := h
  unfold fn_X1_keep fn_X7_records
  rw [if_pos rfl, hxk, hyk]
  rcases Nat.lt_or_ge kp 6 with c | c
  · rw [if_pos (show nI kp < 6 from nI_lt (b := 6) c (by decide)), if_neg (fun e => by
      have := (nI_eq (a := kp) (b := 6) (by omega) (by decide)).mp e
      omega)]
    rw [keep_38 c hxk]
    unfold fn_X7_records_48
    obtain ⟨g, h1, h2⟩ := rec_put c 8 0 FU w hyk (by omega) (by unfold FU; omega)
    refine ⟨_, _, kp + 1, rfl, h2, ⟨hn, hxn, hyn, hreg, by omega, rfl, rfl, fun j hj => ?_, hln, hxl, hyl, htx⟩, rfl, rfl⟩
    show va_cpy (x_regs v) (x_hist v) 0 (kp * 8) 8 j = g j ∧ wf n (va_cpy (x_regs v) (x_hist v) 0 (kp * 8) 8 j)
    rw [h1 j]
    by_cases c2 : 8 * kp ≤ j
    · rw [pk_cpy_in (by omega) (by omega), if_pos (by omega)]
      have := hreg (j - kp * 8) (by omega)
      rw [show 0 + (j - kp * 8) = j - kp * 8 by omega, show j - 8 * kp = j - kp * 8 by omega]
      exact this
    · rw [pk_cpy_out (by omega), if_neg (by omega)]
      exact hh j (by omega)
  · have e : kp = 6 := by omega
    subst e
    rw [if_neg (by decide), if_pos (show nI 6 = 6 from rfl), show cpL (x_hist v) (x_hist v) 48 48 8 0 40 = some (va_cpy (x_hist v) (x_hist v) 8 0 40) from cpL_eq (sp := 8) (dp := 0) (n := 40) _ _ (by decide) (by decide) (by decide) (by decide)]
    simp only [Option.bind_some]
    rw [keep_38 (s := 5) (by decide) (v := xs_kept (xs_hist v (va_cpy (x_hist v) (x_hist v) 8 0 40)) 5) rfl]
    obtain ⟨g0, a1, a2⟩ := rec_shift 40 0 FU w (by omega) (by unfold FU; omega)
    rw [show (0 : Int32) = nI 0 from rfl, a2]
    unfold fn_X7_records_48
    obtain ⟨g, h1, h2⟩ := rec_put (s := 5) (by decide) 8 0 FU (ys_states (ys_was w g0) (y_states w - 1)) (by show y_states w - 1 = nI 5; rw [hyk]; rfl) (by omega) (by unfold FU; omega)
    refine ⟨_, _, 6, rfl, h2, ⟨hn, hxn, hyn, hreg, by omega, rfl, rfl, fun j hj => ?_, hln, hxl, hyl, htx⟩, rfl, rfl⟩
    show va_cpy (x_regs v) (va_cpy (x_hist v) (x_hist v) 8 0 40) 0 (5 * 8) 8 j = g j ∧ wf n (va_cpy (x_regs v) (va_cpy (x_hist v) (x_hist v) 8 0 40) 0 (5 * 8) 8 j)
    rw [h1 j]
    by_cases c2 : 40 ≤ j
    · rw [pk_cpy_in (by omega) (by omega), if_pos (by omega)]
      have := hreg (j - 40) (by omega)
      rw [show 0 + (j - 5 * 8) = j - 40 by omega, show j - 8 * 5 = j - 40 by omega]
      exact this
    · rw [pk_cpy_out (by omega), if_neg (by omega), pk_cpy_in (by omega) (by omega)]
      have := hh (j + 8) (by omega)
      show x_hist v (8 + (j - 0)) = g0 j ∧ _
      rw [a1 j, if_pos (by omega), show 8 + (j - 0) = j + 8 by omega]
      exact this
theorem put_ok {n kp ln : Nat} {v : XS} {w : YS} (h : Rl n kp ln v w) {j : Nat} (hj : j < 8) {q : Int64} (hq : wf n q) : ∃ v' w', fn_X6_put v (nI j) q = some (nI (pc q), v') ∧ fn_X7_gets w (nI j) q = some (nI (pc q), w') ∧ Rel v' w' := by
  obtain ⟨v1, w1, kp', e1, e2, hr, ex, ey⟩ := keep_rec h
  unfold fn_X6_put fn_X7_gets fn_X6_put_25
  rw [e1, e2]
  rcases reg_c (nI j) with ⟨b1, -⟩ | ⟨j', hj', -, b1, -⟩
  · exfalso
    rw [show fn_X6_isRegister (nI j) = some 1 from x_in (N := 8) hj (by decide)] at b1
    cases b1
  · rw [b1]
    simp only [Option.bind_some]
    rw [if_neg (by decide), wrL_eq _ _ hj (by decide), wrL_eq _ _ hj (by decide)]
    simp only [Option.bind_some]
    rw [bitCount_eq, many_eq]
    simp only [Option.bind_some]
    refine ⟨_, _, rfl, rfl, n, kp', ln, ?_⟩
    obtain ⟨hn, hxn, hyn, hreg, hkp, hxk, hyk, hh, hln, hxl, hyl, htx⟩ := hr
    refine ⟨hn, hxn, hyn, fun i hi => ?_, hkp, hxk, hyk, hh, hln, hxl, hyl, htx⟩
    show vp_updL (x_regs v1) j q i = vp_updL (y_p w1) j q i ∧ wf n (vp_updL (x_regs v1) j q i)
    by_cases c : i = j
    · subst c
      rw [pk_uLs, pk_uLs]
      exact ⟨rfl, hq⟩
    · rw [pk_uLn c, pk_uLn c]
      exact hreg i hi
