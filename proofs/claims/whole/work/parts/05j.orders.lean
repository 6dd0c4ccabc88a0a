/-! the orders of monomials: places in the tables -/
def tbL (o : Nat) : Nat := match o with
  | 0 => 310346127783739016989682008268892024467839415527743142957983124903907176052408091762461082840301399218222964602879
  | 1 => 310252017301181738932373778499351097617631779471012029968178720374739247235200060206284323246404830575534840674303
  | _ => 310252017301182148083895177672725649615261749148855840400517991692571888189420458030350476817491362697747061733375
def psL (o : Nat) : Nat := match o with
  | 0 => 310346127783739016989682008268892024467839415527743142957983124903907176052408091762461082840301399218222964602879
  | 1 => 58518793935470334693040038518670725563399068467223617364949196006989342322611461378939764594512782329897949048447
  | _ => 58518793962347238491900410353593656026117072882824571916990814749257728777190202151782985219251362984606221184639
/-- the monomial at a place, the place of a monomial -/
def tb (o p : Nat) : Nat := (tbL o >>> (6 * p)) % 64
def ps (o m : Nat) : Nat := (psL o >>> (6 * m)) % 64
theorem tb_ps : ∀ o, o < 3 → ∀ m, m < 64 → tb o (ps o m) = m := by decide +kernel
theorem ps_tb : ∀ o, o < 3 → ∀ p, p < 64 → ps o (tb o p) = p := by decide +kernel
theorem tb_lt (o p : Nat) : tb o p < 64 := Nat.mod_lt _ (by decide)
theorem ps_lt (o m : Nat) : ps o m < 64 := Nat.mod_lt _ (by decide)
theorem ps_inj {o a b : Nat} (ho : o < 3) (ha : a < 64) (hb : b < 64) (h : ps o a = ps o b) : a = b := by rw [← tb_ps o ho a ha, ← tb_ps o ho b hb, h]
theorem monomialAt_eq : ∀ o, o < 3 → ∀ p, p < 64 → fn_X2_monomialAt (nI o) (nI p) = some (nI (tb o p)) := by decide +kernel
def popc (m : Nat) : Nat := fb_ct (m.testBit) 6
theorem bc32_eq : ∀ m, m < 64 → fn_J6_bitCount_0f7a4 (nI m) = some (nI (popc m)) := by decide +kernel
theorem many32_eq {m : Nat} (hm : m < 64) : fn_X7_many (nI m).toInt64 = some (nI (popc m)) := by
  rw [nI_l (by omega), many_eq, pc_small (n := 6) (by decide) hm]
  rfl
theorem popc_le (m : Nat) : popc m ≤ 6 := fb_ct_le _ _
/-- the product of a monomial that has nothing of the leading one keeps the order -/
def pm (o l f : Nat) : Bool := !((f &&& l) == 0) || (List.range 64).all (fun j => !decide (ps o l < ps o j) || decide (ps o (f ||| l) < ps o (f ||| j)))
theorem pm_ok : ∀ o, o < 3 → ∀ l, l < 64 → ∀ f, f < 64 → pm o l f = true := by decide +kernel
theorem ps_mul {o l f j : Nat} (ho : o < 3) (hl : l < 64) (hf : f < 64) (h0 : f &&& l = 0) (hj : j < 64) (h : ps o l < ps o j) : ps o (f ||| l) < ps o (f ||| j) := by
  have := pm_ok o ho l hl f hf
  unfold pm at this
  rw [h0] at this
  simp only [beq_self_eq_true, Bool.not_true, Bool.false_or, List.all_eq_true, List.mem_range] at this
  have := this j hj
  simpa [h] using this
theorem ps_deg : ∀ a, a < 64 → ∀ b, b < 64 → ps 1 a ≤ ps 1 b → popc b ≤ popc a := by decide +kernel
-- isGreater
theorem grt62_v (v v' : YS) : ∀ (f : Nat) (a b c d : Int32), fn_X7_isGreater_62 v f a b c d = fn_X7_isGreater_62 v' f a b c d := by
  intro f
  induction f with
  | zero => intro a b c d; rfl
  | succ f ih =>
    intro a b c d
    unfold fn_X7_isGreater_62 fn_X7_isGreater_62_body fn_X7_isGreater_106
    rw [ih, ih]
def yN (n : Nat) : YS := (nI n, 0, 0, 0, fun _ => 0, fun _ => 0, fun _ => 0, fun _ => 0, fun _ => 0)
theorem grt_v {w : YS} {n : Nat} (hw : y_n w = nI n) (a b c : Int32) : fn_X7_isGreater w a b c = fn_X7_isGreater (yN n) a b c := by
  unfold fn_X7_isGreater fn_X7_isGreater_45 fn_X7_isGreater_60
  rw [hw]
  simp only [grt62_v w (yN n)]
  rfl
set_option maxRecDepth 100000 in
theorem grt_0 : ∀ a, a < 64 → ∀ b, b < 64 → fn_X7_isGreater (yN 6) 0 (nI a) (nI b) = some (if ps 0 a < ps 0 b then 1 else 0) := by decide +kernel
