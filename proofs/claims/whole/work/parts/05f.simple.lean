/-! the methods whose two sides say the same of one polynomial -/
theorem i10 : ((1 : Int32) = 0) = False := by simp
theorem i00 : ((0 : Int32) = 0) = True := by simp
theorem bsm' {α β : Type} {o : Option α} {a : α} (h : o = some a) (f : α → Option β) : o.bind f = f a := by
  subst h
  rfl
/-- not by rfl: the kernel then compares nothing of the two sides -/
theorem bsm {α β : Type} (a : α) (f : α → Option β) : (some a).bind f = f a := bsm' rfl f
theorem put_same {n kp ln : Nat} {v : XS} {w : YS} (h : Rl n kp ln v w) {j : Nat} (hj : j < 8) {q q' : Int64} (e : q' = q) (hq : wf n q) : Same2 ((fn_X6_put v (nI j) q).bind fun q => some (q.1, q.2)) ((fn_X7_gets w (nI j) q').bind fun q => some (q.1, q.2)) := by
  subst e
  obtain ⟨v', w', e1, e2, hr⟩ := put_ok h hj hq
  rw [e1, e2]
  exact ⟨_, _, _, rfl, rfl, hr⟩
theorem m_toggle {n kp ln : Nat} {v : XS} {w : YS} (h : Rl n kp ln v w) (x1 x2 : Int32) : Same2 (fn_X6_toggle v x1 x2) (fn_X7_toggle w x1 x2) := by
  have hrel : Rel v w := ⟨n, kp, ln, h⟩
  obtain ⟨⟨h1, h6⟩, hxn, hyn, hreg, hkp, hxk, hyk, hh, hln, hxl, hyl, htx⟩ := id h
  rcases reg_c x1 with ⟨a1, b1⟩ | ⟨j1, hj1, ej1, a1, b1⟩
  · rw [show fn_X6_toggle v x1 x2 = some (-1, v) by unfold fn_X6_toggle; simp only [a1, bsm, i10, i00, if_true, if_false], show fn_X7_toggle w x1 x2 = some (-1, w) by unfold fn_X7_toggle; simp only [b1, bsm, i10, i00, if_true, if_false]]
    exact Same2.of hrel
  rcases msk_c h6 hxn hyn x2 with ⟨a2, b2⟩ | ⟨j2, hj2, ej2, a2, b2⟩
  · rw [show fn_X6_toggle v x1 x2 = some (-1, v) by unfold fn_X6_toggle; simp only [a1, a2, bsm, i10, i00, if_true, if_false], show fn_X7_toggle w x1 x2 = some (-1, w) by unfold fn_X7_toggle; simp only [b1, b2, bsm, i10, i00, if_true, if_false]]
    exact Same2.of hrel
  unfold fn_X6_toggle fn_X7_toggle
  simp only [a1, a2, b1, b2, bsm, i10, if_false]
  subst ej1
  subst ej2
  rw [rd_eq (x_regs v) hj1 (by decide), rd_eq (y_p w) hj1 (by decide)]
  simp only [bsm]
  rw [show fn_X3_ofMonomial (nI j2) = some (lsh 1 (nI j2)) from rfl]
  simp only [bsm]
  exact put_same h hj1 (by rw [(hreg j1 hj1).1]) (wf_xor (hreg j1 hj1).2 (wf_e h6 hj2))
theorem m_copy {n kp ln : Nat} {v : XS} {w : YS} (h : Rl n kp ln v w) (x1 x2 : Int32) : Same2 (fn_X6_copy v x1 x2) (fn_X7_copy w x1 x2) := by
  have hrel : Rel v w := ⟨n, kp, ln, h⟩
  obtain ⟨⟨h1, h6⟩, hxn, hyn, hreg, hkp, hxk, hyk, hh, hln, hxl, hyl, htx⟩ := id h
  rcases reg_c x1 with ⟨a1, b1⟩ | ⟨j1, hj1, ej1, a1, b1⟩
  · rw [show fn_X6_copy v x1 x2 = some (-1, v) by unfold fn_X6_copy; simp only [a1, bsm, i10, i00, if_true, if_false], show fn_X7_copy w x1 x2 = some (-1, w) by unfold fn_X7_copy; simp only [b1, bsm, i10, i00, if_true, if_false]]
    exact Same2.of hrel
  rcases reg_c x2 with ⟨a2, b2⟩ | ⟨j2, hj2, ej2, a2, b2⟩
  · rw [show fn_X6_copy v x1 x2 = some (-1, v) by unfold fn_X6_copy; simp only [a1, a2, bsm, i10, i00, if_true, if_false], show fn_X7_copy w x1 x2 = some (-1, w) by unfold fn_X7_copy; simp only [b1, b2, bsm, i10, i00, if_true, if_false]]
    exact Same2.of hrel
  unfold fn_X6_copy fn_X7_copy
  simp only [a1, a2, b1, b2, bsm, i10, if_false]
  subst ej1
  subst ej2
  rw [rd_eq (x_regs v) hj1 (by decide), rd_eq (y_p w) hj1 (by decide)]
  simp only [bsm]
  exact put_same h hj2 (hreg j1 hj1).1.symm (hreg j1 hj1).2
theorem m_sum {n kp ln : Nat} {v : XS} {w : YS} (h : Rl n kp ln v w) (x1 x2 x3 : Int32) : Same2 (fn_X6_sum v x1 x2 x3) (fn_X7_sum w x1 x2 x3) := by
  have hrel : Rel v w := ⟨n, kp, ln, h⟩
  obtain ⟨⟨h1, h6⟩, hxn, hyn, hreg, hkp, hxk, hyk, hh, hln, hxl, hyl, htx⟩ := id h
  rcases reg_c x1 with ⟨a1, b1⟩ | ⟨j1, hj1, ej1, a1, b1⟩
  · rw [show fn_X6_sum v x1 x2 x3 = some (-1, v) by unfold fn_X6_sum; simp only [a1, bsm, i10, i00, if_true, if_false], show fn_X7_sum w x1 x2 x3 = some (-1, w) by unfold fn_X7_sum; simp only [b1, bsm, i10, i00, if_true, if_false]]
    exact Same2.of hrel
  rcases reg_c x2 with ⟨a2, b2⟩ | ⟨j2, hj2, ej2, a2, b2⟩
  · rw [show fn_X6_sum v x1 x2 x3 = some (-1, v) by unfold fn_X6_sum; simp only [a1, a2, bsm, i10, i00, if_true, if_false], show fn_X7_sum w x1 x2 x3 = some (-1, w) by unfold fn_X7_sum; simp only [b1, b2, bsm, i10, i00, if_true, if_false]]
    exact Same2.of hrel
  rcases reg_c x3 with ⟨a3, b3⟩ | ⟨j3, hj3, ej3, a3, b3⟩
  · rw [show fn_X6_sum v x1 x2 x3 = some (-1, v) by unfold fn_X6_sum; simp only [a1, a2, a3, bsm, i10, i00, if_true, if_false], show fn_X7_sum w x1 x2 x3 = some (-1, w) by unfold fn_X7_sum; simp only [b1, b2, b3, bsm, i10, i00, if_true, if_false]]
    exact Same2.of hrel
  unfold fn_X6_sum fn_X7_sum
  simp only [a1, a2, a3, b1, b2, b3, bsm, i10, if_false]
  subst ej1
  subst ej2
  subst ej3
  rw [rd_eq (x_regs v) hj1 (by decide), rd_eq (y_p w) hj1 (by decide)]
  simp only [bsm]
  rw [rd_eq (x_regs v) hj2 (by decide), rd_eq (y_p w) hj2 (by decide)]
  simp only [bsm]
  exact put_same h hj3 (by rw [(hreg j1 hj1).1, (hreg j2 hj2).1]) (wf_xor (hreg j1 hj1).2 (hreg j2 hj2).2)
theorem m_product {n kp ln : Nat} {v : XS} {w : YS} (h : Rl n kp ln v w) (x1 x2 x3 : Int32) : Same2 (fn_X6_product v x1 x2 x3) (fn_X7_product w x1 x2 x3) := by
  have hrel : Rel v w := ⟨n, kp, ln, h⟩
  obtain ⟨⟨h1, h6⟩, hxn, hyn, hreg, hkp, hxk, hyk, hh, hln, hxl, hyl, htx⟩ := id h
  rcases reg_c x1 with ⟨a1, b1⟩ | ⟨j1, hj1, ej1, a1, b1⟩
  · rw [show fn_X6_product v x1 x2 x3 = some (-1, v) by unfold fn_X6_product; simp only [a1, bsm, i10, i00, if_true, if_false], show fn_X7_product w x1 x2 x3 = some (-1, w) by unfold fn_X7_product; simp only [b1, bsm, i10, i00, if_true, if_false]]
    exact Same2.of hrel
  rcases reg_c x2 with ⟨a2, b2⟩ | ⟨j2, hj2, ej2, a2, b2⟩
  · rw [show fn_X6_product v x1 x2 x3 = some (-1, v) by unfold fn_X6_product; simp only [a1, a2, bsm, i10, i00, if_true, if_false], show fn_X7_product w x1 x2 x3 = some (-1, w) by unfold fn_X7_product; simp only [b1, b2, bsm, i10, i00, if_true, if_false]]
    exact Same2.of hrel
  rcases reg_c x3 with ⟨a3, b3⟩ | ⟨j3, hj3, ej3, a3, b3⟩
  · rw [show fn_X6_product v x1 x2 x3 = some (-1, v) by unfold fn_X6_product; simp only [a1, a2, a3, bsm, i10, i00, if_true, if_false], show fn_X7_product w x1 x2 x3 = some (-1, w) by unfold fn_X7_product; simp only [b1, b2, b3, bsm, i10, i00, if_true, if_false]]
    exact Same2.of hrel
  unfold fn_X6_product fn_X7_product
  simp only [a1, a2, a3, b1, b2, b3, bsm, i10, if_false]
  subst ej1
  subst ej2
  subst ej3
  rw [rd_eq (x_regs v) hj1 (by decide), rd_eq (y_p w) hj1 (by decide)]
  simp only [bsm]
  rw [rd_eq (x_regs v) hj2 (by decide), rd_eq (y_p w) hj2 (by decide)]
  simp only [bsm]
  rw [← (hreg j1 hj1).1, ← (hreg j2 hj2).1]
  rw [hxn]
  rw [multiplied_eq h6, product1_eq h6 hyn (hreg j1 hj1).2 (hreg j2 hj2).2]
  simp only [bsm]
  exact put_same h hj3 rfl (ml_wf h6 _ (hreg j1 hj1).2)
theorem m_times {n kp ln : Nat} {v : XS} {w : YS} (h : Rl n kp ln v w) (x1 x2 x3 : Int32) : Same2 (fn_X6_times v x1 x2 x3) (fn_X7_times w x1 x2 x3) := by
  have hrel : Rel v w := ⟨n, kp, ln, h⟩
  obtain ⟨⟨h1, h6⟩, hxn, hyn, hreg, hkp, hxk, hyk, hh, hln, hxl, hyl, htx⟩ := id h
  rcases reg_c x1 with ⟨a1, b1⟩ | ⟨j1, hj1, ej1, a1, b1⟩
  · rw [show fn_X6_times v x1 x2 x3 = some (-1, v) by unfold fn_X6_times; simp only [a1, bsm, i10, i00, if_true, if_false], show fn_X7_times w x1 x2 x3 = some (-1, w) by unfold fn_X7_times; simp only [b1, bsm, i10, i00, if_true, if_false]]
    exact Same2.of hrel
  rcases msk_c h6 hxn hyn x2 with ⟨a2, b2⟩ | ⟨j2, hj2, ej2, a2, b2⟩
  · rw [show fn_X6_times v x1 x2 x3 = some (-1, v) by unfold fn_X6_times; simp only [a1, a2, bsm, i10, i00, if_true, if_false], show fn_X7_times w x1 x2 x3 = some (-1, w) by unfold fn_X7_times; simp only [b1, b2, bsm, i10, i00, if_true, if_false]]
    exact Same2.of hrel
  rcases reg_c x3 with ⟨a3, b3⟩ | ⟨j3, hj3, ej3, a3, b3⟩
  · rw [show fn_X6_times v x1 x2 x3 = some (-1, v) by unfold fn_X6_times; simp only [a1, a2, a3, bsm, i10, i00, if_true, if_false], show fn_X7_times w x1 x2 x3 = some (-1, w) by unfold fn_X7_times; simp only [b1, b2, b3, bsm, i10, i00, if_true, if_false]]
    exact Same2.of hrel
  unfold fn_X6_times fn_X7_times
  simp only [a1, a2, a3, b1, b2, b3, bsm, i10, if_false]
  subst ej1
  subst ej2
  subst ej3
  rw [rd_eq (x_regs v) hj1 (by decide), rd_eq (y_p w) hj1 (by decide)]
  simp only [bsm]
  rw [show fn_X3_ofMonomial (nI j2) = some (lsh 1 (nI j2)) from rfl]
  simp only [bsm]
  rw [← (hreg j1 hj1).1]
  rw [hxn]
  rw [multiplied_eq h6, product1_eq h6 hyn (hreg j1 hj1).2 (wf_e h6 hj2)]
  simp only [bsm]
  exact put_same h hj3 rfl (ml_wf h6 _ (hreg j1 hj1).2)
theorem m_substitute {n kp ln : Nat} {v : XS} {w : YS} (h : Rl n kp ln v w) (x1 x2 x3 x4 : Int32) : Same2 (fn_X6_substitute v x1 x2 x3 x4) (fn_X7_substitute w x1 x2 x3 x4) := by
  have hrel : Rel v w := ⟨n, kp, ln, h⟩
  obtain ⟨⟨h1, h6⟩, hxn, hyn, hreg, hkp, hxk, hyk, hh, hln, hxl, hyl, htx⟩ := id h
  rcases reg_c x1 with ⟨a1, b1⟩ | ⟨j1, hj1, ej1, a1, b1⟩
  · rw [show fn_X6_substitute v x1 x2 x3 x4 = some (-1, v) by unfold fn_X6_substitute; simp only [a1, bsm, i10, i00, if_true, if_false], show fn_X7_substitute w x1 x2 x3 x4 = some (-1, w) by unfold fn_X7_substitute; simp only [b1, bsm, i10, i00, if_true, if_false]]
    exact Same2.of hrel
  rcases var_c h1 h6 hxn hyn x2 with ⟨a2, b2⟩ | ⟨j2, hj2, ej2, a2, b2⟩
  · rw [show fn_X6_substitute v x1 x2 x3 x4 = some (-1, v) by unfold fn_X6_substitute; simp only [a1, a2, bsm, i10, i00, if_true, if_false], show fn_X7_substitute w x1 x2 x3 x4 = some (-1, w) by unfold fn_X7_substitute; simp only [b1, b2, bsm, i10, i00, if_true, if_false]]
    exact Same2.of hrel
  rcases reg_c x3 with ⟨a3, b3⟩ | ⟨j3, hj3, ej3, a3, b3⟩
  · rw [show fn_X6_substitute v x1 x2 x3 x4 = some (-1, v) by unfold fn_X6_substitute; simp only [a1, a2, a3, bsm, i10, i00, if_true, if_false], show fn_X7_substitute w x1 x2 x3 x4 = some (-1, w) by unfold fn_X7_substitute; simp only [b1, b2, b3, bsm, i10, i00, if_true, if_false]]
    exact Same2.of hrel
  rcases reg_c x4 with ⟨a4, b4⟩ | ⟨j4, hj4, ej4, a4, b4⟩
  · rw [show fn_X6_substitute v x1 x2 x3 x4 = some (-1, v) by unfold fn_X6_substitute; simp only [a1, a2, a3, a4, bsm, i10, i00, if_true, if_false], show fn_X7_substitute w x1 x2 x3 x4 = some (-1, w) by unfold fn_X7_substitute; simp only [b1, b2, b3, b4, bsm, i10, i00, if_true, if_false]]
    exact Same2.of hrel
  unfold fn_X6_substitute fn_X7_substitute
  simp only [a1, a2, a3, a4, b1, b2, b3, b4, bsm, i10, if_false]
  subst ej1
  subst ej2
  subst ej3
  subst ej4
  rw [rd_eq (x_regs v) hj1 (by decide), rd_eq (y_p w) hj1 (by decide)]
  simp only [bsm]
  rw [rd_eq (x_regs v) hj3 (by decide), rd_eq (y_p w) hj3 (by decide)]
  rw [← (hreg j1 hj1).1, ← (hreg j3 hj3).1]
  rw [upperHalf_eq (by omega), lowerHalf_eq (by omega), upper_eq h6 hyn hj2 (hreg j1 hj1).2, lower_eq h6 hyn hj2 (hreg j1 hj1).2]
  simp only [bsm]
  rw [hxn]
  rw [multiplied_eq h6, product1_eq h6 hyn (up_wf (by omega) (hreg j1 hj1).2) (hreg j3 hj3).2]
  simp only [bsm]
  exact put_same h hj4 rfl (wf_xor (dn_wf (hreg j1 hj1).2) (ml_wf h6 _ (up_wf (by omega) (hreg j1 hj1).2)))
theorem m_derivative {n kp ln : Nat} {v : XS} {w : YS} (h : Rl n kp ln v w) (x1 x2 x3 : Int32) : Same2 (fn_X6_derivative v x1 x2 x3) (fn_X7_derivative w x1 x2 x3) := by
  have hrel : Rel v w := ⟨n, kp, ln, h⟩
  obtain ⟨⟨h1, h6⟩, hxn, hyn, hreg, hkp, hxk, hyk, hh, hln, hxl, hyl, htx⟩ := id h
  rcases reg_c x1 with ⟨a1, b1⟩ | ⟨j1, hj1, ej1, a1, b1⟩
  · rw [show fn_X6_derivative v x1 x2 x3 = some (-1, v) by unfold fn_X6_derivative; simp only [a1, bsm, i10, i00, if_true, if_false], show fn_X7_derivative w x1 x2 x3 = some (-1, w) by unfold fn_X7_derivative; simp only [b1, bsm, i10, i00, if_true, if_false]]
    exact Same2.of hrel
  rcases var_c h1 h6 hxn hyn x2 with ⟨a2, b2⟩ | ⟨j2, hj2, ej2, a2, b2⟩
  · rw [show fn_X6_derivative v x1 x2 x3 = some (-1, v) by unfold fn_X6_derivative; simp only [a1, a2, bsm, i10, i00, if_true, if_false], show fn_X7_derivative w x1 x2 x3 = some (-1, w) by unfold fn_X7_derivative; simp only [b1, b2, bsm, i10, i00, if_true, if_false]]
    exact Same2.of hrel
  rcases reg_c x3 with ⟨a3, b3⟩ | ⟨j3, hj3, ej3, a3, b3⟩
  · rw [show fn_X6_derivative v x1 x2 x3 = some (-1, v) by unfold fn_X6_derivative; simp only [a1, a2, a3, bsm, i10, i00, if_true, if_false], show fn_X7_derivative w x1 x2 x3 = some (-1, w) by unfold fn_X7_derivative; simp only [b1, b2, b3, bsm, i10, i00, if_true, if_false]]
    exact Same2.of hrel
  unfold fn_X6_derivative fn_X7_derivative
  simp only [a1, a2, a3, b1, b2, b3, bsm, i10, if_false]
  subst ej1
  subst ej2
  subst ej3
  rw [rd_eq (x_regs v) hj1 (by decide), rd_eq (y_p w) hj1 (by decide)]
  simp only [bsm]
  rw [← (hreg j1 hj1).1]
  rw [upperHalf_eq (by omega), upper_eq h6 hyn hj2 (hreg j1 hj1).2]
  simp only [bsm]
  exact put_same h hj3 rfl (up_wf (by omega) (hreg j1 hj1).2)
theorem m_flip {n kp ln : Nat} {v : XS} {w : YS} (h : Rl n kp ln v w) (x1 x2 : Int32) : Same2 (fn_X6_flip v x1 x2) (fn_X7_flip w x1 x2) := by
  have hrel : Rel v w := ⟨n, kp, ln, h⟩
  obtain ⟨⟨h1, h6⟩, hxn, hyn, hreg, hkp, hxk, hyk, hh, hln, hxl, hyl, htx⟩ := id h
  rcases reg_c x1 with ⟨a1, b1⟩ | ⟨j1, hj1, ej1, a1, b1⟩
  · rw [show fn_X6_flip v x1 x2 = some (-1, v) by unfold fn_X6_flip; simp only [a1, bsm, i10, i00, if_true, if_false], show fn_X7_flip w x1 x2 = some (-1, w) by unfold fn_X7_flip; simp only [b1, bsm, i10, i00, if_true, if_false]]
    exact Same2.of hrel
  rcases msk_c h6 hxn hyn x2 with ⟨a2, b2⟩ | ⟨j2, hj2, ej2, a2, b2⟩
  · rw [show fn_X6_flip v x1 x2 = some (-1, v) by unfold fn_X6_flip; simp only [a1, a2, bsm, i10, i00, if_true, if_false], show fn_X7_flip w x1 x2 = some (-1, w) by unfold fn_X7_flip; simp only [b1, b2, bsm, i10, i00, if_true, if_false]]
    exact Same2.of hrel
  unfold fn_X6_flip fn_X7_flip
  simp only [a1, a2, b1, b2, bsm, i10, if_false]
  subst ej1
  subst ej2
  rw [hxn]
  rw [transformed_eq h6]
  rw [values_eq h6 hyn (wf_e h6 hj2)]
  rw [rd_eq (x_regs v) hj1 (by decide), rd_eq (y_p w) hj1 (by decide)]
  simp only [bsm]
  exact put_same h hj1 (by rw [(hreg j1 hj1).1]) (wf_xor (hreg j1 hj1).2 (tr_wf h6 (wf_e h6 hj2) n (Nat.le_refl _)))
theorem m_has {n kp ln : Nat} {v : XS} {w : YS} (h : Rl n kp ln v w) (x1 x2 : Int32) : Same1 (fn_X6_has v x1 x2) (fn_X7_has w x1 x2) := by
  have hrel : Rel v w := ⟨n, kp, ln, h⟩
  obtain ⟨⟨h1, h6⟩, hxn, hyn, hreg, hkp, hxk, hyk, hh, hln, hxl, hyl, htx⟩ := id h
  rcases reg_c x1 with ⟨a1, b1⟩ | ⟨j1, hj1, ej1, a1, b1⟩
  · rw [show fn_X6_has v x1 x2 = some (-1) by unfold fn_X6_has; simp only [a1, bsm, i10, i00, if_true, if_false], show fn_X7_has w x1 x2 = some (-1) by unfold fn_X7_has; simp only [b1, bsm, i10, i00, if_true, if_false]]
    exact Same1.of
  rcases msk_c h6 hxn hyn x2 with ⟨a2, b2⟩ | ⟨j2, hj2, ej2, a2, b2⟩
  · rw [show fn_X6_has v x1 x2 = some (-1) by unfold fn_X6_has; simp only [a1, a2, bsm, i10, i00, if_true, if_false], show fn_X7_has w x1 x2 = some (-1) by unfold fn_X7_has; simp only [b1, b2, bsm, i10, i00, if_true, if_false]]
    exact Same1.of
  unfold fn_X6_has fn_X7_has
  simp only [a1, a2, b1, b2, bsm, i10, if_false]
  subst ej1
  subst ej2
  have h64 := p2_le h6
  rw [rd_eq (x_regs v) hj1 (by decide), rd_eq (y_p w) hj1 (by decide)]
  simp only [bsm]
  rw [← (hreg j1 hj1).1]
  rw [bit_eq _ (by omega), has1_eq _ (by omega)]
  simp only [bsm]
  cases bB (x_regs v j1) j2
  · exact Same1.of
  · exact Same1.of
theorem m_terms {n kp ln : Nat} {v : XS} {w : YS} (h : Rl n kp ln v w) (x1 : Int32) : Same1 (fn_X6_terms v x1) (fn_X7_terms w x1) := by
  have hrel : Rel v w := ⟨n, kp, ln, h⟩
  obtain ⟨⟨h1, h6⟩, hxn, hyn, hreg, hkp, hxk, hyk, hh, hln, hxl, hyl, htx⟩ := id h
  rcases reg_c x1 with ⟨a1, b1⟩ | ⟨j1, hj1, ej1, a1, b1⟩
  · rw [show fn_X6_terms v x1 = some (-1) by unfold fn_X6_terms; simp only [a1, bsm, i10, i00, if_true, if_false], show fn_X7_terms w x1 = some (-1) by unfold fn_X7_terms; simp only [b1, bsm, i10, i00, if_true, if_false]]
    exact Same1.of
  unfold fn_X6_terms fn_X7_terms
  simp only [a1, b1, bsm, i10, if_false]
  subst ej1
  rw [rd_eq (x_regs v) hj1 (by decide), rd_eq (y_p w) hj1 (by decide)]
  simp only [bsm]
  rw [← (hreg j1 hj1).1]
  rw [bitCount_eq, many_eq]
  exact Same1.of
theorem m_value {n kp ln : Nat} {v : XS} {w : YS} (h : Rl n kp ln v w) (x1 x2 : Int32) : Same1 (fn_X6_value v x1 x2) (fn_X7_value w x1 x2) := by
  have hrel : Rel v w := ⟨n, kp, ln, h⟩
  obtain ⟨⟨h1, h6⟩, hxn, hyn, hreg, hkp, hxk, hyk, hh, hln, hxl, hyl, htx⟩ := id h
  rcases reg_c x1 with ⟨a1, b1⟩ | ⟨j1, hj1, ej1, a1, b1⟩
  · rw [show fn_X6_value v x1 x2 = some (-1) by unfold fn_X6_value; simp only [a1, bsm, i10, i00, if_true, if_false], show fn_X7_value w x1 x2 = some (-1) by unfold fn_X7_value; simp only [b1, bsm, i10, i00, if_true, if_false]]
    exact Same1.of
  rcases msk_c h6 hxn hyn x2 with ⟨a2, b2⟩ | ⟨j2, hj2, ej2, a2, b2⟩
  · rw [show fn_X6_value v x1 x2 = some (-1) by unfold fn_X6_value; simp only [a1, a2, bsm, i10, i00, if_true, if_false], show fn_X7_value w x1 x2 = some (-1) by unfold fn_X7_value; simp only [b1, b2, bsm, i10, i00, if_true, if_false]]
    exact Same1.of
  unfold fn_X6_value fn_X7_value
  simp only [a1, a2, b1, b2, bsm, i10, if_false]
  subst ej1
  subst ej2
  have h64 := p2_le h6
  rw [rd_eq (x_regs v) hj1 (by decide), rd_eq (y_p w) hj1 (by decide)]
  simp only [bsm]
  rw [← (hreg j1 hj1).1]
  rw [hxn]
  rw [transformed_eq h6, values_eq h6 hyn (hreg j1 hj1).2]
  simp only [bsm]
  rw [bit_eq _ (by omega), bB_a1, bB_lsr0 (by omega)]
  simp only [bsm]
  cases bB (tr n (x_regs v j1)) j2
  · exact ⟨_, rfl, rfl⟩
  · exact ⟨_, rfl, rfl⟩
theorem m_isSame {n kp ln : Nat} {v : XS} {w : YS} (h : Rl n kp ln v w) (x1 x2 : Int32) : Same1 (fn_X6_isSame v x1 x2) (fn_X7_isSame w x1 x2) := by
  have hrel : Rel v w := ⟨n, kp, ln, h⟩
  obtain ⟨⟨h1, h6⟩, hxn, hyn, hreg, hkp, hxk, hyk, hh, hln, hxl, hyl, htx⟩ := id h
  rcases reg_c x1 with ⟨a1, b1⟩ | ⟨j1, hj1, ej1, a1, b1⟩
  · rw [show fn_X6_isSame v x1 x2 = some (-1) by unfold fn_X6_isSame; simp only [a1, bsm, i10, i00, if_true, if_false], show fn_X7_isSame w x1 x2 = some (-1) by unfold fn_X7_isSame; simp only [b1, bsm, i10, i00, if_true, if_false]]
    exact Same1.of
  rcases reg_c x2 with ⟨a2, b2⟩ | ⟨j2, hj2, ej2, a2, b2⟩
  · rw [show fn_X6_isSame v x1 x2 = some (-1) by unfold fn_X6_isSame; simp only [a1, a2, bsm, i10, i00, if_true, if_false], show fn_X7_isSame w x1 x2 = some (-1) by unfold fn_X7_isSame; simp only [b1, b2, bsm, i10, i00, if_true, if_false]]
    exact Same1.of
  unfold fn_X6_isSame fn_X7_isSame
  simp only [a1, a2, b1, b2, bsm, i10, if_false]
  subst ej1
  subst ej2
  rw [rd_eq (x_regs v) hj1 (by decide), rd_eq (y_p w) hj1 (by decide)]
  simp only [bsm]
  rw [rd_eq (x_regs v) hj2 (by decide), rd_eq (y_p w) hj2 (by decide)]
  simp only [bsm]
  rw [← (hreg j1 hj1).1, ← (hreg j2 hj2).1]
  by_cases e : x_regs v j1 = x_regs v j2
  · rw [if_pos e]; exact Same1.of
  · rw [if_neg e]; exact Same1.of
theorem m_variables {n kp ln : Nat} {v : XS} {w : YS} (h : Rl n kp ln v w) : Same1 (fn_X6_variables v) (fn_X7_variables w) := by
  unfold fn_X6_variables fn_X7_variables
  rw [h.2.1, h.2.2.1]
  exact Same1.of
theorem m_restrict {n kp ln : Nat} {v : XS} {w : YS} (h : Rl n kp ln v w) (x1 x2 x3 x4 : Int32) : Same2 (fn_X6_restrict v x1 x2 x3 x4) (fn_X7_restrict w x1 x2 x3 x4) := by
  have hrel : Rel v w := ⟨n, kp, ln, h⟩
  obtain ⟨⟨h1, h6⟩, hxn, hyn, hreg, hkp, hxk, hyk, hh, hln, hxl, hyl, htx⟩ := id h
  have hin : (x3 = 0 ∨ x3 = 1) ∧ fn_X7_in x3 0 1 = some 1 ∨ (¬ x3 = 0 ∧ ¬ x3 = 1) ∧ fn_X7_in x3 0 1 = some 0 := by
    rcases or_assoc.mpr (pk_ix x3 (n := 2) (by decide)) with c | ⟨j, hj, rfl⟩
    · refine Or.inr ⟨⟨fun e => ?_, fun e => ?_⟩, in_out (N := 2) (by decide) (by decide) c⟩
      · subst e; rcases c with c | c <;> exact absurd c (by decide)
      · subst e; rcases c with c | c <;> exact absurd c (by decide)
    · refine Or.inl ⟨?_, in_in (N := 2) hj (by decide)⟩
      rcases (show j = 0 ∨ j = 1 by omega) with rfl | rfl
      · exact Or.inl rfl
      · exact Or.inr rfl
  rcases reg_c x1 with ⟨a1, b1⟩ | ⟨j1, hj1, ej1, a1, b1⟩
  · rw [show fn_X6_restrict v x1 x2 x3 x4 = some (-1, v) by unfold fn_X6_restrict; simp only [a1, bsm, i10, i00, if_true, if_false], show fn_X7_restrict w x1 x2 x3 x4 = some (-1, w) by unfold fn_X7_restrict; simp only [b1, bsm, i10, i00, if_true, if_false]]
    exact Same2.of hrel
  rcases var_c h1 h6 hxn hyn x2 with ⟨a2, b2⟩ | ⟨j2, hj2, ej2, a2, b2⟩
  · rw [show fn_X6_restrict v x1 x2 x3 x4 = some (-1, v) by unfold fn_X6_restrict; simp only [a1, a2, bsm, i10, i00, if_true, if_false], show fn_X7_restrict w x1 x2 x3 x4 = some (-1, w) by unfold fn_X7_restrict; simp only [b1, b2, bsm, i10, i00, if_true, if_false]]
    exact Same2.of hrel
  rcases reg_c x4 with ⟨a4, b4⟩ | ⟨j4, hj4, ej4, a4, b4⟩
  · rw [show fn_X6_restrict v x1 x2 x3 x4 = some (-1, v) by unfold fn_X6_restrict; simp only [a1, a2, a4, bsm, i10, i00, if_true, if_false]]
    rcases hin with ⟨-, b3⟩ | ⟨-, b3⟩
    · rw [show fn_X7_restrict w x1 x2 x3 x4 = some (-1, w) by unfold fn_X7_restrict; simp only [b1, b2, b3, b4, bsm, i10, i00, if_true, if_false]]
      exact Same2.of hrel
    · rw [show fn_X7_restrict w x1 x2 x3 x4 = some (-1, w) by unfold fn_X7_restrict; simp only [b1, b2, b3, bsm, i10, i00, if_true, if_false]]
      exact Same2.of hrel
  rcases hin with ⟨a3, b3⟩ | ⟨a3, b3⟩
  · have eX : fn_X6_restrict v x1 x2 x3 x4 = fn_X6_restrict_36 v x1 x2 x3 x4 := by
      unfold fn_X6_restrict
      simp only [a1, a2, a4, bsm, i10, if_false]
      rcases a3 with e | e
      · rw [if_pos e]
      · rw [if_neg (by rw [e]; decide), if_pos e]
    rw [eX]
    unfold fn_X6_restrict_36 fn_X7_restrict fn_X6_restrict_68 fn_X7_restrict_68
    simp only [b1, b2, b3, b4, bsm, i10, if_false]
    subst ej1
    subst ej2
    subst ej4
    rw [rd_eq (x_regs v) hj1 (by decide), rd_eq (y_p w) hj1 (by decide)]
    simp only [bsm]
    rw [← (hreg j1 hj1).1]
    rw [upperHalf_eq (by omega), lowerHalf_eq (by omega), upper_eq h6 hyn hj2 (hreg j1 hj1).2, lower_eq h6 hyn hj2 (hreg j1 hj1).2]
    simp only [bsm]
    by_cases e : x3 = 1
    · rw [if_pos e, if_pos e]
      exact put_same h hj4 rfl (wf_xor (dn_wf (hreg j1 hj1).2) (up_wf (by omega) (hreg j1 hj1).2))
    · rw [if_neg e, if_neg e]
      exact put_same h hj4 (by apply bB_ext; intro i _; rw [bB_xor, bB_0, Bool.xor_false]) (dn_wf (hreg j1 hj1).2)
  · rw [show fn_X6_restrict v x1 x2 x3 x4 = some (-1, v) by unfold fn_X6_restrict; simp only [a1, a2, a4, a3.1, a3.2, bsm, i10, i00, if_true, if_false], show fn_X7_restrict w x1 x2 x3 x4 = some (-1, w) by unfold fn_X7_restrict; simp only [b1, b2, b3, bsm, i10, i00, if_true, if_false]]
    exact Same2.of hrel
-- undo
theorem undo_loop {s : Nat} (hs : s < 6) : ∀ d k f (w : YS), y_states w = nI s → k + d = 8 → d < f → ∃ g : Nat → Int64, (∀ j, g j = if k ≤ j ∧ j < 8 then y_was w (8 * s + j) else y_p w j) ∧ fn_X7_undo_22 f w (nI k) = some (nI s, ys_p w g) := by
  intro d
  induction d with
  | zero =>
    intro k f w hw h hf
    obtain ⟨f, rfl⟩ : ∃ g, f = g + 1 := ⟨f - 1, by omega⟩
    refine ⟨y_p w, fun j => ?_, ?_⟩
    · rw [if_neg (by omega)]
    · unfold fn_X7_undo_22 fn_X7_undo_22_body
      rw [if_pos (show (8 : Int32) ≤ nI k from nI_le (a := 8) (by omega) (by omega)), hw]
  | succ d ih =>
    intro k f w hw h hf
    obtain ⟨f, rfl⟩ : ∃ g, f = g + 1 := ⟨f - 1, by omega⟩
    unfold fn_X7_undo_22 fn_X7_undo_22_body
    rw [if_neg (show ¬ (8 : Int32) ≤ nI k from nI_ge (b := 8) (by omega) (by omega)), hw, show (8 : Int32) * nI s + nI k = nI (8 * s + k) by rw [show (8 : Int32) = nI 8 from rfl, pk_mul, nI_add], rd_eq _ (by omega) (by decide)]
    simp only [bsm]
    rw [wrL_eq _ _ (by omega) (by decide), nI_1]
    simp only [bsm]
    obtain ⟨g, h1, h2⟩ := ih (k + 1) f (ys_p w (vp_updL (y_p w) k (y_was w (8 * s + k)))) hw (by omega) (by omega)
    refine ⟨g, fun j => ?_, h2⟩
    rw [h1 j]
    by_cases c : j = k
    · subst c
      rw [if_neg (by omega), if_pos (by omega)]
      exact pk_uLs
    · by_cases c2 : k + 1 ≤ j ∧ j < 8
      · rw [if_pos c2, if_pos (by omega)]
      · rw [if_neg c2, if_neg (by omega)]
        exact pk_uLn c
theorem m_undo {n kp ln : Nat} {v : XS} {w : YS} (h : Rl n kp ln v w) : Same2 (fn_X6_undo v) (fn_X7_undo w) := by
  have hrel : Rel v w := ⟨n, kp, ln, h⟩
  obtain ⟨⟨h1, h6⟩, hxn, hyn, hreg, hkp, hxk, hyk, hh, hln, hxl, hyl, htx⟩ := id h
  unfold fn_X6_undo fn_X7_undo fn_X1_isEmpty
  rw [hxk, hyk]
  rcases Nat.eq_zero_or_pos kp with c | c
  · subst c
    rw [if_neg (by decide), if_pos (show nI 0 = 0 from rfl)]
    simp only [bsm, i10, if_false]
    exact Same2.of hrel
  · rw [if_pos (show (0 : Int32) < nI kp from nI_lt (a := 0) c (by omega)), if_neg (nI_ne0 c (by omega))]
    simp only [bsm, i00, if_true]
    unfold fn_X1_restore
    obtain ⟨s, rfl⟩ : ∃ s, kp = s + 1 := ⟨kp - 1, by omega⟩
    rw [hxk, if_neg (nI_nle c (by omega)), if_neg (show ¬ (6 : Int32) < nI (s + 1) from nI_nlt (a := 6) (by omega) (by omega)), if_pos rfl, nI_pred]
    rw [show nI s * 8 = nI (s * 8) by rw [show (8 : Int32) = nI 8 from rfl, pk_mul], show cpL (x_hist v) (x_regs v) 48 8 (nI (s * 8)) 0 8 = some (va_cpy (x_hist v) (x_regs v) (s * 8) 0 8) from cpL_eq (sp := s * 8) (dp := 0) (n := 8) _ _ (by decide) (by decide) (by omega) (by omega)]
    simp only [bsm]
    obtain ⟨g, e1, e2⟩ := undo_loop (s := s) (by omega) 8 0 FU (ys_states w (nI s)) rfl (by omega) (by unfold FU; omega)
    rw [show (0 : Int32) = nI 0 from rfl, e2]
    refine ⟨_, _, _, rfl, rfl, n, s, ln, ⟨h1, h6⟩, hxn, hyn, fun j hj => ?_, by omega, rfl, rfl, fun j hj => hh j (by omega), hln, hxl, hyl, htx⟩
    show va_cpy (x_hist v) (x_regs v) (s * 8) 0 8 j = g j ∧ wf n (va_cpy (x_hist v) (x_regs v) (s * 8) 0 8 j)
    rw [pk_cpy_in (by omega) (by omega), e1 j, if_pos (by omega), show s * 8 + (j - 0) = 8 * s + j by omega]
    exact hh _ (by omega)
-- reset
theorem fill_loop : ∀ d k f (v : XS), k + d = 8 → d < f → ∃ g : Nat → Int64, (∀ j, g j = if k ≤ j ∧ j < 8 then 0 else x_regs v j) ∧ fn_J7_fill_d0a16_6 f v 0 (nI k) 8 = some (xs_regs v g) := by
  intro d
  induction d with
  | zero =>
    intro k f v h hf
    obtain ⟨f, rfl⟩ : ∃ g, f = g + 1 := ⟨f - 1, by omega⟩
    refine ⟨x_regs v, fun j => ?_, ?_⟩
    · rw [if_neg (by omega)]
    · unfold fn_J7_fill_d0a16_6 fn_J7_fill_d0a16_6_body
      rw [if_pos (show (8 : Int32) ≤ nI k from nI_le (a := 8) (by omega) (by omega))]
  | succ d ih =>
    intro k f v h hf
    obtain ⟨f, rfl⟩ : ∃ g, f = g + 1 := ⟨f - 1, by omega⟩
    unfold fn_J7_fill_d0a16_6 fn_J7_fill_d0a16_6_body
    rw [if_neg (show ¬ (8 : Int32) ≤ nI k from nI_ge (b := 8) (by omega) (by omega)), wrL_eq _ _ (by omega) (by decide), nI_1]
    simp only [bsm]
    obtain ⟨g, h1, h2⟩ := ih (k + 1) f (xs_regs v (vp_updL (x_regs v) k 0)) (by omega) (by omega)
    refine ⟨g, fun j => ?_, h2⟩
    rw [h1 j]
    by_cases c : j = k
    · subst c
      rw [if_neg (by omega), if_pos (by omega)]
      exact pk_uLs
    · by_cases c2 : k + 1 ≤ j ∧ j < 8
      · rw [if_pos c2, if_pos (by omega)]
      · rw [if_neg c2, if_neg (by omega)]
        exact pk_uLn c
theorem reset_loop (x : Int32) : ∀ d k f (w : YS), k + d = 8 → d < f → ∃ g : Nat → Int64, (∀ j, g j = if k ≤ j ∧ j < 8 then 0 else y_p w j) ∧ fn_X7_reset_29 f w x (nI k) = some (x, ys_p w g) := by
  intro d
  induction d with
  | zero =>
    intro k f w h hf
    obtain ⟨f, rfl⟩ : ∃ g, f = g + 1 := ⟨f - 1, by omega⟩
    refine ⟨y_p w, fun j => ?_, ?_⟩
    · rw [if_neg (by omega)]
    · unfold fn_X7_reset_29 fn_X7_reset_29_body
      rw [if_pos (show (8 : Int32) ≤ nI k from nI_le (a := 8) (by omega) (by omega))]
  | succ d ih =>
    intro k f w h hf
    obtain ⟨f, rfl⟩ : ∃ g, f = g + 1 := ⟨f - 1, by omega⟩
    unfold fn_X7_reset_29 fn_X7_reset_29_body
    rw [if_neg (show ¬ (8 : Int32) ≤ nI k from nI_ge (b := 8) (by omega) (by omega)), wrL_eq _ _ (by omega) (by decide), nI_1]
    simp only [bsm]
    obtain ⟨g, h1, h2⟩ := ih (k + 1) f (ys_p w (vp_updL (y_p w) k 0)) (by omega) (by omega)
    refine ⟨g, fun j => ?_, h2⟩
    rw [h1 j]
    by_cases c : j = k
    · subst c
      rw [if_neg (by omega), if_pos (by omega)]
      exact pk_uLs
    · by_cases c2 : k + 1 ≤ j ∧ j < 8
      · rw [if_pos c2, if_pos (by omega)]
      · rw [if_neg c2, if_neg (by omega)]
        exact pk_uLn c
theorem m_reset {n kp ln : Nat} {v : XS} {w : YS} (h : Rl n kp ln v w) (x1 : Int32) : Same2 (fn_X6_reset v x1) (fn_X7_reset w x1) := by
  have hrel : Rel v w := ⟨n, kp, ln, h⟩
  obtain ⟨⟨h1, h6⟩, hxn, hyn, hreg, hkp, hxk, hyk, hh, hln, hxl, hyl, htx⟩ := id h
  unfold fn_X6_reset fn_X7_reset fn_X7_in
  by_cases c : x1 < 1
  · rw [if_pos c, if_pos c]
    simp only [bsm, i00, if_true]
    exact Same2.of hrel
  · rw [if_neg c, if_neg c]
    by_cases c2 : x1 ≤ 6
    · rw [if_pos c2, if_neg (Int32.not_lt.mpr c2)]
      simp only [bsm, i10, if_false]
      obtain ⟨j, hj, rfl⟩ := nI_of2 (M := 6) (n := 6) rfl (fun z => c (by rw [Int32.lt_iff_toInt_lt] at z ⊢; exact Int.lt_trans z (by decide))) c2
      have hj0 : 1 ≤ j := by
        rcases Nat.eq_zero_or_pos j with e | e
        · subst e; exact absurd (by decide) c
        · exact e
      unfold fn_J7_fill_d0a16 fn_X1_forget
      obtain ⟨g, e1, e2⟩ := fill_loop 8 0 FU (xs_n v (nI j)) (by omega) (by unfold FU; omega)
      obtain ⟨g', e3, e4⟩ := reset_loop (y_n w) 8 0 FU (ys_states (ys_n w (nI j)) 0) (by omega) (by unfold FU; omega)
      rw [show fn_J7_fill_d0a16_6 FU (xs_n v (nI j)) 0 0 8 = _ from e2, show fn_X7_reset_29 FU (ys_states (ys_n w (nI j)) 0) (y_n w) 0 = _ from e4]
      simp only [bsm]
      rw [hxn, hyn]
      refine ⟨_, _, _, rfl, rfl, j, 0, ln, ⟨hj0, hj⟩, rfl, rfl, fun i hi => ?_, by omega, rfl, rfl, fun i hi => by omega, hln, hxl, hyl, htx⟩
      show g i = g' i ∧ wf j (g i)
      rw [e1 i, e3 i, if_pos (by omega), if_pos (by omega)]
      exact ⟨rfl, wf_0 j⟩
    · rw [if_neg c2, if_pos (Int32.not_le.mp c2)]
      simp only [bsm, i00, if_true]
      exact Same2.of hrel
-- texts: type, clearText
theorem ch_ok : ∀ c, c < 127 → vp_nar .char (tch (nI c)) = nI c := by decide +kernel
theorem m_type {n kp ln : Nat} {v : XS} {w : YS} (h : Rl n kp ln v w) (x1 : Int32) : Same2 (fn_X6_type v x1) (fn_X7_type w x1) := by
  have hrel : Rel v w := ⟨n, kp, ln, h⟩
  obtain ⟨⟨h1, h6⟩, hxn, hyn, hreg, hkp, hxk, hyk, hh, hln, hxl, hyl, htx⟩ := id h
  unfold fn_X6_type fn_X7_type fn_X7_in fn_X5_append
  by_cases c : x1 < 32
  · rw [if_pos c, if_pos c]
    simp only [bsm, i00, if_true]
    exact Same2.of hrel
  · rw [if_neg c, if_neg c]
    by_cases c2 : x1 ≤ 126
    · rw [if_pos c2, if_neg (Int32.not_lt.mpr c2), hxl, hyl]
      simp only [bsm, i10, if_false]
      obtain ⟨j, hj, rfl⟩ := nI_of2 (M := 126) (n := 126) rfl (fun z => c (by rw [Int32.lt_iff_toInt_lt] at z ⊢; exact Int.lt_trans z (by decide))) c2
      have hj0 : 32 ≤ j := by
        rcases Nat.lt_or_ge j 32 with e | e
        · exact absurd (show nI j < 32 from nI_lt (b := 32) e (by decide)) c
        · exact e
      rw [if_neg (nI_pos (by omega))]
      rcases Nat.lt_or_ge ln 60 with d | d
      · rw [if_pos (show nI ln < 60 from nI_lt (b := 60) d (by decide)), if_neg (fun e => by
          have := (nI_eq (a := ln) (b := 60) (by omega) (by decide)).mp e
          omega), wrI_eq _ _ d (by decide), wrI_eq _ _ d (by decide), nI_1]
        simp only [bsm]
        refine ⟨_, _, _, rfl, rfl, n, kp, ln + 1, ⟨h1, h6⟩, hxn, hyn, hreg, hkp, hxk, hyk, hh, by omega, rfl, rfl, fun i hi => ?_⟩
        show upd (x_text v) ln (vp_nar .char (tch (nI j))) i = upd (y_text w) ln (vp_nar .char (tch (nI j))) i ∧ ∃ c, 32 ≤ c ∧ c ≤ 126 ∧ upd (x_text v) ln (vp_nar .char (tch (nI j))) i = nI c
        by_cases e : i = ln
        · subst e
          rw [pk_us, pk_us, ch_ok j (by omega)]
          exact ⟨rfl, j, hj0, hj, rfl⟩
        · rw [pk_un e, pk_un e]
          exact htx i (by omega)
      · have e : ln = 60 := by omega
        subst e
        rw [if_neg (by decide), if_pos (show nI 60 = 60 from rfl)]
        simp only [bsm]
        exact Same2.of hrel
    · rw [if_neg c2, if_pos (Int32.not_le.mp c2)]
      simp only [bsm, i00, if_true]
      exact Same2.of hrel
theorem m_clearText {n kp ln : Nat} {v : XS} {w : YS} (h : Rl n kp ln v w) : Same2 (fn_X6_clearText v) (fn_X7_clearText w) := by
  obtain ⟨⟨h1, h6⟩, hxn, hyn, hreg, hkp, hxk, hyk, hh, hln, hxl, hyl, htx⟩ := id h
  unfold fn_X6_clearText fn_X7_clearText fn_X5_empty
  simp only [bsm]
  rw [hxl, hyl]
  exact ⟨_, _, _, rfl, rfl, n, kp, 0, ⟨h1, h6⟩, hxn, hyn, hreg, hkp, hxk, hyk, hh, by omega, rfl, rfl, fun i hi => by omega⟩
