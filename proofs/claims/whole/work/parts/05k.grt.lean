/-! isGreater is the order of the places -/
set_option maxRecDepth 100000 in
theorem grt_1 : ∀ a, a < 64 → ∀ b, b < 64 → fn_X7_isGreater (yN 6) 1 (nI a) (nI b) = some (if ps 1 a < ps 1 b then 1 else 0) := by decide +kernel
set_option maxRecDepth 100000 in
theorem grt_2 : ∀ n, n < 7 → ∀ a, a < 2 ^ n → ∀ b, b < 2 ^ n → fn_X7_isGreater (yN n) 2 (nI a) (nI b) = some (if ps 2 a < ps 2 b then 1 else 0) := by decide +kernel
theorem grt_n {n : Nat} {o : Int32} (ho : ¬ o = 2) (a b : Int32) : fn_X7_isGreater (yN n) o a b = fn_X7_isGreater (yN 6) o a b := by
  unfold fn_X7_isGreater fn_X7_isGreater_45 fn_X7_isGreater_60
  simp only [grt62_v (yN n) (yN 6), if_neg ho]
theorem grt_eq {w : YS} {n o a b : Nat} (hn : n ≤ 6) (hw : y_n w = nI n) (ho : o < 3) (ha : a < 2 ^ n) (hb : b < 2 ^ n) : fn_X7_isGreater w (nI o) (nI a) (nI b) = some (if ps o a < ps o b then 1 else 0) := by
  have h64 := p2_le hn
  rw [grt_v hw]
  rcases (show o = 0 ∨ o = 1 ∨ o = 2 by omega) with rfl | rfl | rfl
  · rw [grt_n (by decide)]
    exact grt_0 a (by omega) b (by omega)
  · rw [grt_n (by decide)]
    exact grt_1 a (by omega) b (by omega)
  · exact grt_2 n (by omega) a ha b hb
