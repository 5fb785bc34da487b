/-! ===== the model's face, the rest ===== -/
section M6
variable {μ : Me} {m n q : Nat}
/-- one sign of a row's picture -/
def mpi (M : Mg) (n q : Nat) (c : Int32) : Int32 := if 0 ≤ mocc M n c then (if fl1 (M 0 (13 + 6 * (mocc M n c).toNatClampNeg + 1)) = 0 then 97 + mocc M n c else 48 + mocc M n c) else if mpc M q c = 0 then 46 else 95
def mdl (n q r : Nat) (i : Nat) (M : Mg) : Mg := mS M 7 i (mpi M n q (nI (8 * r + i)))
theorem nI8r (r i : Nat) : (8 * nI r) + nI i = nI (8 * r + i) := by rw [show (8 : Int32) = nI 8 from rfl, nI_mul, nI_add]
theorem mocc_in (M : Mg) (n : Nat) (x : Int32) : mocc M n x = -1 ∨ ∃ j, j < n ∧ mocc M n x = nI j ∧ M 0 (13 + 6 * j + 0) = x := by
  rcases ffi_in (p := fun d => M 0 (13 + 6 * d + 0) = x) n 0 with h | ⟨j, -, hj, h, h2⟩
  · exact Or.inl h
  · exact Or.inr ⟨j, by omega, h, h2⟩
theorem m1_neg : ¬ (0 : Int32) ≤ -1 := by decide
theorem l_mdl {r : Nat} (hm : 0 < m) (hn9 : n ≤ 10) (hk9 : q ≤ 4) : ∀ k f i (M : Mg), M 0 0 = nI n → M 0 1 = nI q → i + k = 8 → k < f → FX8_describeRow_L30 f m (nI r) (nI i) (pum μ m M) = rt 8 (pum μ m (mS (fo (mdl n q r) i k M) 11 8 8)) := by
  intro k
  induction k with
  | zero =>
    intro f i M hn hk hi hfuu
    obtain ⟨f, rfl⟩ : ∃ g, f = g + 1 := ⟨f - 1, by omega⟩
    have h1 : (8 : Int32) ≤ nI i := by rw [show i = 8 by omega]; decide
    simp only [FX8_describeRow_L30, FX8_describeRow_B30, FX8_describeRow_B65, w_I0, w_I1, w_I2, w_I3, w_I4, w_R5, w_R6, w_R7, w_R8, w_R9, w_R10, w_R11, w_R12, w_R13, w_R14, w_R15, w_I16, w_I17, w_I18, w_I19, w_I20, w_I21, w_vc, w_a0, w_s0, w_a1, w_s1, w_a2, w_s2, w_a3, w_s3, w_a4, w_s4, w_a5, w_s5, w_a6, w_s6, w_a7, w_s7, w_a8, w_s8, w_a9, w_s9, w_a10, w_s10, w_p0, w_p1, w_p2, w_p3, w_p4, w_p16, w_p17, w_p18, w_p19, w_p20, w_p21, o_0, o_1, o_2, o_3, o_4, o_5, hm, i_0, z_0, i_1, z_1, i_2, z_2, i_3, z_3, i_4, z_4, i_5, z_5, i_6, z_6, i_7, z_7, i_8, z_8, fo, h1, if_true, bnd, rt]
    have e8 : (mS M 11 8 8) 11 8 = 8 := by simp [mS, upd]
    first | done | simp only [e8] | rfl
  | succ k ih =>
    intro f i M hn hk hi hfuu
    obtain ⟨f, rfl⟩ : ∃ g, f = g + 1 := ⟨f - 1, by omega⟩
    have h1 : ¬ (8 : Int32) ≤ nI i := fun h => absurd ((nI_leI (a := 8) (b := i) (by omega) (by omega)).mp h) (by omega)
    have h2_8 : inb (nI i) 8 = true := inb_n (by omega) (by omega)
    have h3 : (nI i).toNatClampNeg = i := nI_clamp (by omega)
    simp only [FX8_describeRow_L30, FX8_describeRow_B30, FX8_describeRow_B65, w_I0, w_I1, w_I2, w_I3, w_I4, w_R5, w_R6, w_R7, w_R8, w_R9, w_R10, w_R11, w_R12, w_R13, w_R14, w_R15, w_I16, w_I17, w_I18, w_I19, w_I20, w_I21, w_vc, w_a0, w_s0, w_a1, w_s1, w_a2, w_s2, w_a3, w_s3, w_a4, w_s4, w_a5, w_s5, w_a6, w_s6, w_a7, w_s7, w_a8, w_s8, w_a9, w_s9, w_a10, w_s10, w_p0, w_p1, w_p2, w_p3, w_p4, w_p16, w_p17, w_p18, w_p19, w_p20, w_p21, o_0, o_1, o_2, o_3, o_4, o_5, hm, i_0, z_0, i_1, z_1, i_2, z_2, i_3, z_3, i_4, z_4, i_5, z_5, i_6, z_6, i_7, z_7, i_8, z_8, nI8r, e_in hm hn hn9, e_ipc hm hk hk9, h1, h2_8, h3, nI_1, if_true, if_false, bnd, rt]
    simp only [fo]
    have h := ih f (i + 1) (mdl n q r i M) (by simpa [mdl, mS] using hn) (by simpa [mdl, mS] using hk) (by omega) (by omega)
    refine Eq.trans ?_ h
    unfold mdl mpi
    rcases mocc_in M n (nI (8 * r + i)) with h8 | ⟨j, hj, h8, -⟩
    · simp only [h8, m1_neg, if_false]
      split <;> rfl
    · have hj9 : j < 10 := by omega
      have hjc : (nI j).toNatClampNeg = j := nI_clamp (by omega)
      have h0 : (0 : Int32) ≤ nI j := nI_pos' (by omega)
      simp only [h8, h0, if_true, hjc, e_flies hm hj9, rt, w_s7, h2_8, h3]
      by_cases g : fl1 (M 0 (13 + 6 * j + 1)) = 0
      · simp only [g, if_true]
        split <;> rfl
      · simp only [g, if_false]
        split <;> rfl
theorem isI07_in {r : Nat} (h : r < 8) : isI (nI r) 0 7 = 1 := isI_in (k := 8) h (by decide) (by decide)
theorem isI07_out {x : Int32} (h : x < 0 ∨ nI 8 ≤ x) : isI x 0 7 = 0 := isI_out h (by decide) (by decide)
theorem e_mdl_out {M : Mg} {x : Int32} (hm : 0 < m) (h : x < 0 ∨ nI 8 ≤ x) : FX8_describeRow m x (pum μ m M) = rt 0 (pum μ m (mF M 1)) := by
  have e1 : ∀ k, (mS M 11 0 k) 11 0 = k := fun k => T0_0
  simp only [FX8_describeRow, FX8_describeRow_B16, e_isIn, isI07_out h, w_I0, w_I1, w_I2, w_I3, w_I4, w_R5, w_R6, w_R7, w_R8, w_R9, w_R10, w_R11, w_R12, w_R13, w_R14, w_R15, w_I16, w_I17, w_I18, w_I19, w_I20, w_I21, w_vc, w_a0, w_s0, w_a1, w_s1, w_a2, w_s2, w_a3, w_s3, w_a4, w_s4, w_a5, w_s5, w_a6, w_s6, w_a7, w_s7, w_a8, w_s8, w_a9, w_s9, w_a10, w_s10, w_p0, w_p1, w_p2, w_p3, w_p4, w_p16, w_p17, w_p18, w_p19, w_p20, w_p21, o_0, o_1, o_2, o_3, o_4, o_5, hm, i_0, z_0, i_1, z_1, i_2, z_2, i_3, z_3, i_4, z_4, i_5, z_5, i_6, z_6, i_7, z_7, i_8, z_8, e1, z10, if_true, if_false, bnd, rt, mF]
theorem e_mdl {M : Mg} {r : Nat} (hm : 0 < m) (hr : r < 8) (hn : M 0 0 = nI n) (hn9 : n ≤ 10) (hk : M 0 1 = nI q) (hk9 : q ≤ 4) : FX8_describeRow m (nI r) (pum μ m M) = rt 8 (pum μ m (mS (fo (mdl n q r) 0 8 (mF M 0)) 11 8 8)) := by
  have e1 : ∀ k, (mS M 11 0 k) 11 0 = k := fun k => T0_0
  have h := l_mdl (μ := μ) (r := r) hm hn9 hk9 8 FU 0 (mF M 0) (T0_v.trans hn) (T0_v.trans hk) (by omega) (by unfold FU; omega)
  simp only [FX8_describeRow, FX8_describeRow_B16, e_isIn, isI07_in hr, w_I0, w_I1, w_I2, w_I3, w_I4, w_R5, w_R6, w_R7, w_R8, w_R9, w_R10, w_R11, w_R12, w_R13, w_R14, w_R15, w_I16, w_I17, w_I18, w_I19, w_I20, w_I21, w_vc, w_a0, w_s0, w_a1, w_s1, w_a2, w_s2, w_a3, w_s3, w_a4, w_s4, w_a5, w_s5, w_a6, w_s6, w_a7, w_s7, w_a8, w_s8, w_a9, w_s9, w_a10, w_s10, w_p0, w_p1, w_p2, w_p3, w_p4, w_p16, w_p17, w_p18, w_p19, w_p20, w_p21, o_0, o_1, o_2, o_3, o_4, o_5, hm, i_0, z_0, i_1, z_1, i_2, z_2, i_3, z_3, i_4, z_4, i_5, z_5, i_6, z_6, i_7, z_7, i_8, z_8, e1, one_ne, if_true, if_false, bnd, rt]
  exact h
/-! means -/
def mmd (M : Mg) (d : Nat) (z : Int32 × Int32) : Int32 × Int32 := if fl1 (M 0 (13 + 6 * d + 1)) = 0 then z else if 0 ≤ M 0 (13 + 6 * d + 4) - 1 then (z.1 + dst (M 0 (13 + 6 * d + 0)) (M 0 (13 + 6 * d + 4) - 1), z.2 + 1) else z
theorem l_mmd {M : Mg} (hm : 0 < m) (hn : M 0 0 = nI n) (hn9 : n ≤ 10) : ∀ k f i (z : Int32 × Int32), i + k = n → k < f → FX8_meanDistance_L6 f m z.1 z.2 (nI i) (pum μ m M) = (if (fo (mmd M) i k z).2 = 0 then FX8_meanDistance_B75 m (fo (mmd M) i k z).1 (fo (mmd M) i k z).2 1 m (pum μ m M) else FX8_meanDistance_B75 m (fo (mmd M) i k z).1 (fo (mmd M) i k z).2 0 m (pum μ m M)) := by
  intro k
  induction k with
  | zero =>
    intro f i z  hi hfuu
    obtain ⟨f, rfl⟩ : ∃ g, f = g + 1 := ⟨f - 1, by omega⟩
    have h1 : nI n ≤ nI i := by rw [show i = n by omega]; exact Int32.le_refl _
    simp only [FX8_meanDistance_L6, FX8_meanDistance_B6, w_I0, w_I1, w_I2, w_I3, w_I4, w_R5, w_R6, w_R7, w_R8, w_R9, w_R10, w_R11, w_R12, w_R13, w_R14, w_R15, w_I16, w_I17, w_I18, w_I19, w_I20, w_I21, w_vc, w_a0, w_s0, w_a1, w_s1, w_a2, w_s2, w_a3, w_s3, w_a4, w_s4, w_a5, w_s5, w_a6, w_s6, w_a7, w_s7, w_a8, w_s8, w_a9, w_s9, w_a10, w_s10, w_p0, w_p1, w_p2, w_p3, w_p4, w_p16, w_p17, w_p18, w_p19, w_p20, w_p21, o_0, o_1, o_2, o_3, o_4, o_5, hm, i_0, z_0, i_1, z_1, i_2, z_2, i_3, z_3, i_4, z_4, i_5, z_5, i_6, z_6, i_7, z_7, i_8, z_8, hn, fo, h1, if_true, bnd, rt]
    all_goals rfl
  | succ k ih =>
    intro f i z  hi hfuu
    obtain ⟨f, rfl⟩ : ∃ g, f = g + 1 := ⟨f - 1, by omega⟩
    have h1 : ¬ nI n ≤ nI i := nI_ge (by omega) (by omega)
    have h2_10 : inb (nI i) 10 = true := inb_n (by omega) (by omega)
    have h3 : (nI i).toNatClampNeg = i := nI_clamp (by omega)
    simp only [FX8_meanDistance_L6, FX8_meanDistance_B6, w_I0, w_I1, w_I2, w_I3, w_I4, w_R5, w_R6, w_R7, w_R8, w_R9, w_R10, w_R11, w_R12, w_R13, w_R14, w_R15, w_I16, w_I17, w_I18, w_I19, w_I20, w_I21, w_vc, w_a0, w_s0, w_a1, w_s1, w_a2, w_s2, w_a3, w_s3, w_a4, w_s4, w_a5, w_s5, w_a6, w_s6, w_a7, w_s7, w_a8, w_s8, w_a9, w_s9, w_a10, w_s10, w_p0, w_p1, w_p2, w_p3, w_p4, w_p16, w_p17, w_p18, w_p19, w_p20, w_p21, o_0, o_1, o_2, o_3, o_4, o_5, hm, i_0, z_0, i_1, z_1, i_2, z_2, i_3, z_3, i_4, z_4, i_5, z_5, i_6, z_6, i_7, z_7, i_8, z_8, hn, e_flies hm (show i < 10 by omega), e_goal hm (show i < 10 by omega), e_far, iv_0 (show i < 10 by omega), cv_0 (show i < 10 by omega), iv_1 (show i < 10 by omega), cv_1 (show i < 10 by omega), iv_2 (show i < 10 by omega), cv_2 (show i < 10 by omega), iv_3 (show i < 10 by omega), cv_3 (show i < 10 by omega), iv_4 (show i < 10 by omega), cv_4 (show i < 10 by omega), iv_5 (show i < 10 by omega), cv_5 (show i < 10 by omega), h1, h2_10, h3, nI_1, if_true, if_false, bnd, rt]
    simp only [fo, mmd]
    by_cases g : fl1 (M 0 (13 + 6 * i + 1)) = 0
    · simp only [g, if_true]
      exact ih f (i + 1) z (by omega) (by omega)
    · simp only [g, if_false]
      by_cases g2 : 0 ≤ M 0 (13 + 6 * i + 4) - 1
      · simp only [g2, if_true]
        exact ih f (i + 1) (z.1 + dst (M 0 (13 + 6 * i + 0)) (M 0 (13 + 6 * i + 4) - 1), z.2 + 1) (by omega) (by omega)
      · simp only [g2, if_false]
        exact ih f (i + 1) z (by omega) (by omega)
def mmD (M : Mg) (n : Nat) : Int32 × Int32 := fo (mmd M) 0 n (0, 0)
theorem e_mmd {M : Mg} (hm : 0 < m) (hn : M 0 0 = nI n) (hn9 : n ≤ 10) : FX8_meanDistance m (pum μ m M) = if (mmD M n).2 = 0 then rt FP.dconst0 (pum μ m (mF M 1)) else gd (nn64 (FP.ddiv (FP.i2d (mmD M n).1) (FP.i2d (mmD M n).2)) = true) (rt (FP.ddiv (FP.i2d (mmD M n).1) (FP.i2d (mmD M n).2)) (pum μ m (mF M 0))) := by
  have e1 : ∀ k, (mS M 11 0 k) 11 0 = k := fun k => T0_0
  have h := l_mmd (μ := μ) hm hn hn9 n FU 0 (0, 0) (by omega) (by unfold FU; omega)
  rw [nI_0] at h
  unfold FX8_meanDistance
  refine Eq.trans h ?_
  simp only [FX8_meanDistance_B75, w_I0, w_I1, w_I2, w_I3, w_I4, w_R5, w_R6, w_R7, w_R8, w_R9, w_R10, w_R11, w_R12, w_R13, w_R14, w_R15, w_I16, w_I17, w_I18, w_I19, w_I20, w_I21, w_vc, w_a0, w_s0, w_a1, w_s1, w_a2, w_s2, w_a3, w_s3, w_a4, w_s4, w_a5, w_s5, w_a6, w_s6, w_a7, w_s7, w_a8, w_s8, w_a9, w_s9, w_a10, w_s10, w_p0, w_p1, w_p2, w_p3, w_p4, w_p16, w_p17, w_p18, w_p19, w_p20, w_p21, o_0, o_1, o_2, o_3, o_4, o_5, hm, i_0, z_0, i_1, z_1, i_2, z_2, i_3, z_3, i_4, z_4, i_5, z_5, i_6, z_6, i_7, z_7, i_8, z_8, e1, z10, if_true, if_false, mmD]
  rfl
theorem l_mcs {M : Mg} (hm : 0 < m) (hn : M 0 0 = nI n) (hn9 : n ≤ 10) : ∀ k f i (a : Int32), i + k = n → k < f → FX8_isConsistent_L9 f m a (nI i) (pum μ m M) = (gd (vp_nar .boolean (fo (fun d a => if mocc M n (M 0 (13 + 6 * d + 0)) = nI d then a &&& 1 else a &&& 0) i k a) = (fo (fun d a => if mocc M n (M 0 (13 + 6 * d + 0)) = nI d then a &&& 1 else a &&& 0) i k a)) (rt (fo (fun d a => if mocc M n (M 0 (13 + 6 * d + 0)) = nI d then a &&& 1 else a &&& 0) i k a) (pum μ m M))) := by
  intro k
  induction k with
  | zero =>
    intro f i a  hi hfuu
    obtain ⟨f, rfl⟩ : ∃ g, f = g + 1 := ⟨f - 1, by omega⟩
    have h1 : nI n ≤ nI i := by rw [show i = n by omega]; exact Int32.le_refl _
    simp only [FX8_isConsistent_L9, FX8_isConsistent_B9, w_I0, w_I1, w_I2, w_I3, w_I4, w_R5, w_R6, w_R7, w_R8, w_R9, w_R10, w_R11, w_R12, w_R13, w_R14, w_R15, w_I16, w_I17, w_I18, w_I19, w_I20, w_I21, w_vc, w_a0, w_s0, w_a1, w_s1, w_a2, w_s2, w_a3, w_s3, w_a4, w_s4, w_a5, w_s5, w_a6, w_s6, w_a7, w_s7, w_a8, w_s8, w_a9, w_s9, w_a10, w_s10, w_p0, w_p1, w_p2, w_p3, w_p4, w_p16, w_p17, w_p18, w_p19, w_p20, w_p21, o_0, o_1, o_2, o_3, o_4, o_5, hm, i_0, z_0, i_1, z_1, i_2, z_2, i_3, z_3, i_4, z_4, i_5, z_5, i_6, z_6, i_7, z_7, i_8, z_8, hn, fo, h1, if_true, bnd, rt]
    all_goals rfl
  | succ k ih =>
    intro f i a  hi hfuu
    obtain ⟨f, rfl⟩ : ∃ g, f = g + 1 := ⟨f - 1, by omega⟩
    have h1 : ¬ nI n ≤ nI i := nI_ge (by omega) (by omega)
    have h2_10 : inb (nI i) 10 = true := inb_n (by omega) (by omega)
    have h3 : (nI i).toNatClampNeg = i := nI_clamp (by omega)
    simp only [FX8_isConsistent_L9, FX8_isConsistent_B9, w_I0, w_I1, w_I2, w_I3, w_I4, w_R5, w_R6, w_R7, w_R8, w_R9, w_R10, w_R11, w_R12, w_R13, w_R14, w_R15, w_I16, w_I17, w_I18, w_I19, w_I20, w_I21, w_vc, w_a0, w_s0, w_a1, w_s1, w_a2, w_s2, w_a3, w_s3, w_a4, w_s4, w_a5, w_s5, w_a6, w_s6, w_a7, w_s7, w_a8, w_s8, w_a9, w_s9, w_a10, w_s10, w_p0, w_p1, w_p2, w_p3, w_p4, w_p16, w_p17, w_p18, w_p19, w_p20, w_p21, o_0, o_1, o_2, o_3, o_4, o_5, hm, i_0, z_0, i_1, z_1, i_2, z_2, i_3, z_3, i_4, z_4, i_5, z_5, i_6, z_6, i_7, z_7, i_8, z_8, hn, e_in hm hn hn9, iv_0 (show i < 10 by omega), cv_0 (show i < 10 by omega), iv_1 (show i < 10 by omega), cv_1 (show i < 10 by omega), iv_2 (show i < 10 by omega), cv_2 (show i < 10 by omega), iv_3 (show i < 10 by omega), cv_3 (show i < 10 by omega), iv_4 (show i < 10 by omega), cv_4 (show i < 10 by omega), iv_5 (show i < 10 by omega), cv_5 (show i < 10 by omega), h1, h2_10, h3, nI_1, if_true, if_false, bnd, rt]
    simp only [fo]
    split <;> exact ih _ _ _ (by omega) (by omega)
theorem mcs_1 {M : Mg} (h : ∀ d, d < n → mocc M n (M 0 (13 + 6 * d + 0)) = nI d) : ∀ k i, i + k ≤ n → fo (fun d (a : Int32) => if mocc M n (M 0 (13 + 6 * d + 0)) = nI d then a &&& 1 else a &&& 0) i k 1 = 1 := by
  intro k
  induction k with
  | zero => intros; rfl
  | succ k ih =>
    intro i hi
    simp only [fo]
    rw [if_pos (h i (by omega))]
    exact ih (i + 1) (by omega)
/-- consistent, where every drone is found in its cell -/
theorem e_mcs {M : Mg} (hm : 0 < m) (hn : M 0 0 = nI n) (hn9 : n ≤ 10) (hc : ∀ d, d < n → mocc M n (M 0 (13 + 6 * d + 0)) = nI d) : FX8_isConsistent m (pum μ m M) = rt 1 (pum μ m (mF M 0)) := by
  have e2 : mocc (mF M 0) n = mocc M n := by
    funext x
    exact ffi_congr (fun d _ _ => by rw [T0_v])
  have h := l_mcs (μ := μ) (M := mF M 0) hm (T0_v.trans hn) hn9 n FU 0 1 (by omega) (by unfold FU; omega)
  rw [mcs_1 (M := mF M 0) (fun d hd => by rw [e2, T0_v]; exact hc d hd) n 0 (by omega)] at h
  simp only [FX8_isConsistent, w_I0, w_I1, w_I2, w_I3, w_I4, w_R5, w_R6, w_R7, w_R8, w_R9, w_R10, w_R11, w_R12, w_R13, w_R14, w_R15, w_I16, w_I17, w_I18, w_I19, w_I20, w_I21, w_vc, w_a0, w_s0, w_a1, w_s1, w_a2, w_s2, w_a3, w_s3, w_a4, w_s4, w_a5, w_s5, w_a6, w_s6, w_a7, w_s7, w_a8, w_s8, w_a9, w_s9, w_a10, w_s10, w_p0, w_p1, w_p2, w_p3, w_p4, w_p16, w_p17, w_p18, w_p19, w_p20, w_p21, o_0, o_1, o_2, o_3, o_4, o_5, hm, i_0, z_0, i_1, z_1, i_2, z_2, i_3, z_3, i_4, z_4, i_5, z_5, i_6, z_6, i_7, z_7, i_8, z_8]
  refine Eq.trans h ?_
  unfold gd
  rw [if_pos nar1]
/-! undo, save, restore -/
theorem l_und {c : Nat} (hm : 0 < m) (hc : c < 8) : ∀ k f i (M : Mg), M 11 1 = nI c → i + k = 117 → k < f → FX8_undo_L37 f m (nI i) (pum μ m M) = rt (nI c) (pum μ m (fo (fun j N => mS N 0 j (N 4 (c * 117 + j))) i k M)) := by
  intro k
  induction k with
  | zero =>
    intro f i M hM hi hfuu
    obtain ⟨f, rfl⟩ : ∃ g, f = g + 1 := ⟨f - 1, by omega⟩
    have h1 : (117 : Int32) ≤ nI i := by rw [show i = 117 by omega]; decide
    simp only [FX8_undo_L37, FX8_undo_B37, w_I0, w_I1, w_I2, w_I3, w_I4, w_R5, w_R6, w_R7, w_R8, w_R9, w_R10, w_R11, w_R12, w_R13, w_R14, w_R15, w_I16, w_I17, w_I18, w_I19, w_I20, w_I21, w_vc, w_a0, w_s0, w_a1, w_s1, w_a2, w_s2, w_a3, w_s3, w_a4, w_s4, w_a5, w_s5, w_a6, w_s6, w_a7, w_s7, w_a8, w_s8, w_a9, w_s9, w_a10, w_s10, w_p0, w_p1, w_p2, w_p3, w_p4, w_p16, w_p17, w_p18, w_p19, w_p20, w_p21, o_0, o_1, o_2, o_3, o_4, o_5, hm, i_0, z_0, i_1, z_1, i_2, z_2, i_3, z_3, i_4, z_4, i_5, z_5, i_6, z_6, i_7, z_7, i_8, z_8, hM, fo, h1, if_true, bnd, rt]
    all_goals rfl
  | succ k ih =>
    intro f i M hM hi hfuu
    obtain ⟨f, rfl⟩ : ∃ g, f = g + 1 := ⟨f - 1, by omega⟩
    have h1 : ¬ (117 : Int32) ≤ nI i := fun h => absurd ((nI_leI (a := 117) (b := i) (by omega) (by omega)).mp h) (by omega)
    have h2_117 : inb (nI i) 117 = true := inb_n (by omega) (by omega)
    have h3 : (nI i).toNatClampNeg = i := nI_clamp (by omega)
    simp only [FX8_undo_L37, FX8_undo_B37, w_I0, w_I1, w_I2, w_I3, w_I4, w_R5, w_R6, w_R7, w_R8, w_R9, w_R10, w_R11, w_R12, w_R13, w_R14, w_R15, w_I16, w_I17, w_I18, w_I19, w_I20, w_I21, w_vc, w_a0, w_s0, w_a1, w_s1, w_a2, w_s2, w_a3, w_s3, w_a4, w_s4, w_a5, w_s5, w_a6, w_s6, w_a7, w_s7, w_a8, w_s8, w_a9, w_s9, w_a10, w_s10, w_p0, w_p1, w_p2, w_p3, w_p4, w_p16, w_p17, w_p18, w_p19, w_p20, w_p21, o_0, o_1, o_2, o_3, o_4, o_5, hm, i_0, z_0, i_1, z_1, i_2, z_2, i_3, z_3, i_4, z_4, i_5, z_5, i_6, z_6, i_7, z_7, i_8, z_8, hM, nI117, iv936 hc (show i < 117 by omega), cv936 hc (show i < 117 by omega), h1, h2_117, h3, nI_1, if_true, if_false, bnd, rt]
    simp only [fo]
    exact ih _ _ _ (by simpa [mS] using hM) (by omega) (by omega)
theorem e_und0 {M : Mg} (hm : 0 < m) (hc : M 11 1 = 0) : FX8_undo m (pum μ m M) = rt 0 (pum μ m (mF M 1)) := by
  have e1 : ∀ k, (mS M 11 0 k) 11 0 = k := fun k => T0_0
  simp only [FX8_undo, FX8_undo_B13, w_I0, w_I1, w_I2, w_I3, w_I4, w_R5, w_R6, w_R7, w_R8, w_R9, w_R10, w_R11, w_R12, w_R13, w_R14, w_R15, w_I16, w_I17, w_I18, w_I19, w_I20, w_I21, w_vc, w_a0, w_s0, w_a1, w_s1, w_a2, w_s2, w_a3, w_s3, w_a4, w_s4, w_a5, w_s5, w_a6, w_s6, w_a7, w_s7, w_a8, w_s8, w_a9, w_s9, w_a10, w_s10, w_p0, w_p1, w_p2, w_p3, w_p4, w_p16, w_p17, w_p18, w_p19, w_p20, w_p21, o_0, o_1, o_2, o_3, o_4, o_5, hm, i_0, z_0, i_1, z_1, i_2, z_2, i_3, z_3, i_4, z_4, i_5, z_5, i_6, z_6, i_7, z_7, i_8, z_8, hc, e1, z10, if_true, if_false, mF]
def mud (c : Nat) (M : Mg) : Mg := fo (fun j N => mS N 0 j (N 4 (c * 117 + j))) 0 117 (mS (mF M 0) 11 1 (nI c))
theorem e_und {M : Mg} {c : Nat} (hm : 0 < m) (hc : M 11 1 = nI (c + 1)) (hc9 : c + 1 ≤ 8) : FX8_undo m (pum μ m M) = rt (nI c) (pum μ m (mud c M)) := by
  have e1 : ∀ k, (mS M 11 0 k) 11 0 = k := fun k => T0_0
  have e2 : (mS M 11 0 0) 11 1 = nI (c + 1) := by simp [mS, upd, hc]
  have hne : ¬ nI (c + 1) = 0 := nI_ne0 (by omega) (by omega)
  have h := l_und (μ := μ) (c := c) hm (by omega) 117 FU 0 (mS (mF M 0) 11 1 (nI c)) (by simp [mS, upd]) (by omega) (by unfold FU; omega)
  rw [nI_0] at h
  simp only [FX8_undo, FX8_undo_B13, w_I0, w_I1, w_I2, w_I3, w_I4, w_R5, w_R6, w_R7, w_R8, w_R9, w_R10, w_R11, w_R12, w_R13, w_R14, w_R15, w_I16, w_I17, w_I18, w_I19, w_I20, w_I21, w_vc, w_a0, w_s0, w_a1, w_s1, w_a2, w_s2, w_a3, w_s3, w_a4, w_s4, w_a5, w_s5, w_a6, w_s6, w_a7, w_s7, w_a8, w_s8, w_a9, w_s9, w_a10, w_s10, w_p0, w_p1, w_p2, w_p3, w_p4, w_p16, w_p17, w_p18, w_p19, w_p20, w_p21, o_0, o_1, o_2, o_3, o_4, o_5, hm, i_0, z_0, i_1, z_1, i_2, z_2, i_3, z_3, i_4, z_4, i_5, z_5, i_6, z_6, i_7, z_7, i_8, z_8, hc, hne, e1, e2, if_true, if_false, nI_pred]
  exact h
theorem e_sav {M : Mg} (hm : 0 < m) : FX8_save m (pum μ m M) = rt (M 0 0) (pum μ m (mS (lay 2 0 (mF M 0)) 11 4 1)) := by
  have e0 : (mS (lay 2 0 (mF M 0)) 11 4 1) 0 0 = M 0 0 := by
    have h := (lay_i (a := 2) (b := 0) (by decide) (M := mF M 0)).2.2 0 (by decide)
    show (if (0 : Nat) = 11 then _ else (lay 2 0 (mF M 0)) 0) 0 = _
    rw [if_neg (by decide), h]
    exact T0_v
  have h := e_lay20 (μ := μ) (M := mF M 0) hm
  simp only [mF] at h e0
  simp only [FX8_save, w_I0, w_I1, w_I2, w_I3, w_I4, w_R5, w_R6, w_R7, w_R8, w_R9, w_R10, w_R11, w_R12, w_R13, w_R14, w_R15, w_I16, w_I17, w_I18, w_I19, w_I20, w_I21, w_vc, w_a0, w_s0, w_a1, w_s1, w_a2, w_s2, w_a3, w_s3, w_a4, w_s4, w_a5, w_s5, w_a6, w_s6, w_a7, w_s7, w_a8, w_s8, w_a9, w_s9, w_a10, w_s10, w_p0, w_p1, w_p2, w_p3, w_p4, w_p16, w_p17, w_p18, w_p19, w_p20, w_p21, o_0, o_1, o_2, o_3, o_4, o_5, hm, i_0, z_0, i_1, z_1, i_2, z_2, i_3, z_3, i_4, z_4, i_5, z_5, i_6, z_6, i_7, z_7, i_8, z_8, h, bnd, rt, e0, if_true, mF]
theorem e_res0 {M : Mg} (hm : 0 < m) (hc : M 11 4 = 0) : FX8_restore m (pum μ m M) = rt 0 (pum μ m (mF M 1)) := by
  have e1 : ∀ k, (mS M 11 0 k) 11 0 = k := fun k => T0_0
  simp only [FX8_restore, FX8_restore_B13, w_I0, w_I1, w_I2, w_I3, w_I4, w_R5, w_R6, w_R7, w_R8, w_R9, w_R10, w_R11, w_R12, w_R13, w_R14, w_R15, w_I16, w_I17, w_I18, w_I19, w_I20, w_I21, w_vc, w_a0, w_s0, w_a1, w_s1, w_a2, w_s2, w_a3, w_s3, w_a4, w_s4, w_a5, w_s5, w_a6, w_s6, w_a7, w_s7, w_a8, w_s8, w_a9, w_s9, w_a10, w_s10, w_p0, w_p1, w_p2, w_p3, w_p4, w_p16, w_p17, w_p18, w_p19, w_p20, w_p21, o_0, o_1, o_2, o_3, o_4, o_5, hm, i_0, z_0, i_1, z_1, i_2, z_2, i_3, z_3, i_4, z_4, i_5, z_5, i_6, z_6, i_7, z_7, i_8, z_8, hc, e1, z10, if_true, if_false, mF]
def mrs (M : Mg) : Mg := mS (lay 0 2 (mF M 0)) 11 1 0
theorem e_res {M : Mg} (hm : 0 < m) (hc : ¬ M 11 4 = 0) : FX8_restore m (pum μ m M) = rt (M 2 0) (pum μ m (mrs M)) := by
  have e1 : ∀ k, (mS M 11 0 k) 11 0 = k := fun k => T0_0
  have e0 : (mrs M) 0 0 = M 2 0 := by
    have h := (lay_i (a := 0) (b := 2) (by decide) (M := mF M 0)).1 0 (by decide)
    unfold mrs
    generalize lay 0 2 (mF M 0) = X at h ⊢
    have e : (mS X 11 1 0) 0 0 = X 0 0 := by simp [mS]
    rw [e, h, T0_r (by decide)]
  have h := e_lay02 (μ := μ) (M := mF M 0) hm
  unfold mrs at e0 ⊢
  simp only [mF] at h e0
  simp only [FX8_restore, FX8_restore_B13, w_I0, w_I1, w_I2, w_I3, w_I4, w_R5, w_R6, w_R7, w_R8, w_R9, w_R10, w_R11, w_R12, w_R13, w_R14, w_R15, w_I16, w_I17, w_I18, w_I19, w_I20, w_I21, w_vc, w_a0, w_s0, w_a1, w_s1, w_a2, w_s2, w_a3, w_s3, w_a4, w_s4, w_a5, w_s5, w_a6, w_s6, w_a7, w_s7, w_a8, w_s8, w_a9, w_s9, w_a10, w_s10, w_p0, w_p1, w_p2, w_p3, w_p4, w_p16, w_p17, w_p18, w_p19, w_p20, w_p21, o_0, o_1, o_2, o_3, o_4, o_5, hm, i_0, z_0, i_1, z_1, i_2, z_2, i_3, z_3, i_4, z_4, i_5, z_5, i_6, z_6, i_7, z_7, i_8, z_8, hc, e1, h, bnd, rt, e0, if_true, if_false, mF]
/-! batteries -/
theorem l_mba {w d : Nat} (hm : 0 < m) (hw : w ≤ 30) (hd9 : d < 10) : ∀ k f i (M : Mg) (a : Int32), WM M n q → i + k = w → k < f → FX8_batteryAfter_L56 f m (nI d) (nI w) a (nI i) (pum μ m M) = rt ((fo (fun _ (z : Mg × Int32) => ((mtk n q z.1).1, z.2 + (mtk n q z.1).2)) i k (M, a)).1 0 (13 + 6 * d + 2)) (pum μ m (lay 0 3 (fo (fun _ (z : Mg × Int32) => ((mtk n q z.1).1, z.2 + (mtk n q z.1).2)) i k (M, a)).1)) := by
  intro k
  induction k with
  | zero =>
    intro f i M a hW hi hfuu
    obtain ⟨f, rfl⟩ : ∃ g, f = g + 1 := ⟨f - 1, by omega⟩
    have h1 : nI w ≤ nI i := by rw [show i = w by omega]; exact Int32.le_refl _
    simp only [FX8_batteryAfter_L56, FX8_batteryAfter_B56, w_I0, w_I1, w_I2, w_I3, w_I4, w_R5, w_R6, w_R7, w_R8, w_R9, w_R10, w_R11, w_R12, w_R13, w_R14, w_R15, w_I16, w_I17, w_I18, w_I19, w_I20, w_I21, w_vc, w_a0, w_s0, w_a1, w_s1, w_a2, w_s2, w_a3, w_s3, w_a4, w_s4, w_a5, w_s5, w_a6, w_s6, w_a7, w_s7, w_a8, w_s8, w_a9, w_s9, w_a10, w_s10, w_p0, w_p1, w_p2, w_p3, w_p4, w_p16, w_p17, w_p18, w_p19, w_p20, w_p21, o_0, o_1, o_2, o_3, o_4, o_5, hm, i_0, z_0, i_1, z_1, i_2, z_2, i_3, z_3, i_4, z_4, i_5, z_5, i_6, z_6, i_7, z_7, i_8, z_8, e_lay03 hm, fo, iv_0 hd9, cv_0 hd9, iv_1 hd9, cv_1 hd9, iv_2 hd9, cv_2 hd9, iv_3 hd9, cv_3 hd9, iv_4 hd9, cv_4 hd9, iv_5 hd9, cv_5 hd9, h1, if_true, bnd, rt]
    all_goals rfl
  | succ k ih =>
    intro f i M a hW hi hfuu
    obtain ⟨f, rfl⟩ : ∃ g, f = g + 1 := ⟨f - 1, by omega⟩
    have h1 : ¬ nI w ≤ nI i := nI_ge (by omega) (by omega)
    have h3 : (nI i).toNatClampNeg = i := nI_clamp (by omega)
    simp only [FX8_batteryAfter_L56, FX8_batteryAfter_B56, w_I0, w_I1, w_I2, w_I3, w_I4, w_R5, w_R6, w_R7, w_R8, w_R9, w_R10, w_R11, w_R12, w_R13, w_R14, w_R15, w_I16, w_I17, w_I18, w_I19, w_I20, w_I21, w_vc, w_a0, w_s0, w_a1, w_s1, w_a2, w_s2, w_a3, w_s3, w_a4, w_s4, w_a5, w_s5, w_a6, w_s6, w_a7, w_s7, w_a8, w_s8, w_a9, w_s9, w_a10, w_s10, w_p0, w_p1, w_p2, w_p3, w_p4, w_p16, w_p17, w_p18, w_p19, w_p20, w_p21, o_0, o_1, o_2, o_3, o_4, o_5, hm, i_0, z_0, i_1, z_1, i_2, z_2, i_3, z_3, i_4, z_4, i_5, z_5, i_6, z_6, i_7, z_7, i_8, z_8, (e_mtk hm hW).1, h1, h3, nI_1, if_true, if_false, bnd, rt]
    simp only [fo]
    exact ih _ _ _ _ (e_mtk (μ := μ) hm hW).2 (by omega) (by omega)
theorem isI030_in {w : Nat} (h : w ≤ 30) : isI (nI w) 0 30 = 1 := isI_in (k := 31) (by omega) (by decide) (by decide)
theorem isI030_out {x : Int32} (h : x < 0 ∨ nI 31 ≤ x) : isI x 0 30 = 0 := isI_out h (by decide) (by decide)
theorem e_mba_out {M : Mg} {x y : Int32} (hm : 0 < m) (hn : M 0 0 = nI n) (hn9 : n ≤ 10) (h : x < 0 ∨ nI n ≤ x) : FX8_batteryAfter m x y (pum μ m M) = rt 0 (pum μ m (mF M 1)) := by
  have e1 : ∀ k, (mS M 11 0 k) 11 0 = k := fun k => T0_0
  simp only [FX8_batteryAfter, FX8_batteryAfter_B28, e_isDr hm, e_drn_out hn hn9 h, w_I0, w_I1, w_I2, w_I3, w_I4, w_R5, w_R6, w_R7, w_R8, w_R9, w_R10, w_R11, w_R12, w_R13, w_R14, w_R15, w_I16, w_I17, w_I18, w_I19, w_I20, w_I21, w_vc, w_a0, w_s0, w_a1, w_s1, w_a2, w_s2, w_a3, w_s3, w_a4, w_s4, w_a5, w_s5, w_a6, w_s6, w_a7, w_s7, w_a8, w_s8, w_a9, w_s9, w_a10, w_s10, w_p0, w_p1, w_p2, w_p3, w_p4, w_p16, w_p17, w_p18, w_p19, w_p20, w_p21, o_0, o_1, o_2, o_3, o_4, o_5, hm, i_0, z_0, i_1, z_1, i_2, z_2, i_3, z_3, i_4, z_4, i_5, z_5, i_6, z_6, i_7, z_7, i_8, z_8, e1, z10, if_true, if_false, bnd, rt, mF]
theorem e_mba_out2 {M : Mg} {d : Nat} {y : Int32} (hm : 0 < m) (hn : M 0 0 = nI n) (hn9 : n ≤ 10) (h : d < n) (hy : y < 0 ∨ nI 31 ≤ y) : FX8_batteryAfter m (nI d) y (pum μ m M) = rt 0 (pum μ m (mF M 2)) := by
  have e1 : ∀ k, (mS M 11 0 k) 11 0 = k := fun k => T0_0
  simp only [FX8_batteryAfter, FX8_batteryAfter_B28, e_isDr hm, e_drn_in hn hn9 h, one_ne, e_isIn, isI030_out hy, w_I0, w_I1, w_I2, w_I3, w_I4, w_R5, w_R6, w_R7, w_R8, w_R9, w_R10, w_R11, w_R12, w_R13, w_R14, w_R15, w_I16, w_I17, w_I18, w_I19, w_I20, w_I21, w_vc, w_a0, w_s0, w_a1, w_s1, w_a2, w_s2, w_a3, w_s3, w_a4, w_s4, w_a5, w_s5, w_a6, w_s6, w_a7, w_s7, w_a8, w_s8, w_a9, w_s9, w_a10, w_s10, w_p0, w_p1, w_p2, w_p3, w_p4, w_p16, w_p17, w_p18, w_p19, w_p20, w_p21, o_0, o_1, o_2, o_3, o_4, o_5, hm, i_0, z_0, i_1, z_1, i_2, z_2, i_3, z_3, i_4, z_4, i_5, z_5, i_6, z_6, i_7, z_7, i_8, z_8, e1, z20, if_true, if_false, bnd, rt, mF]
theorem e_mba {M : Mg} {d w : Nat} (hm : 0 < m) (h : d < n) (hw : w ≤ 30) (hW : WM (lay 3 0 (mF M 0)) n q) : FX8_batteryAfter m (nI d) (nI w) (pum μ m M) = rt ((mpss n q w (lay 3 0 (mF M 0))).1 0 (13 + 6 * d + 2)) (pum μ m (lay 0 3 (mpss n q w (lay 3 0 (mF M 0))).1)) := by
  have e1 : ∀ k, (mS M 11 0 k) 11 0 = k := fun k => T0_0
  have hn9 := hW.2.1
  have hn : M 0 0 = nI n := by
    have h1 := hW.1
    rw [(lay_i (a := 3) (b := 0) (by decide) (M := mF M 0)).2.2 0 (by decide)] at h1
    exact T0_v.symm.trans h1
  have hl := l_mba (μ := μ) (n := n) (q := q) hm hw (show d < 10 by omega) w FU 0 (lay 3 0 (mF M 0)) 0 hW (by omega) (by unfold FU; omega)
  have h2 := e_lay30 (μ := μ) (M := mF M 0) hm
  rw [nI_0] at hl
  simp only [mF] at h2 hl
  simp only [FX8_batteryAfter, FX8_batteryAfter_B28, e_isDr hm, e_drn_in hn hn9 h, one_ne, e_isIn, isI030_in hw, w_I0, w_I1, w_I2, w_I3, w_I4, w_R5, w_R6, w_R7, w_R8, w_R9, w_R10, w_R11, w_R12, w_R13, w_R14, w_R15, w_I16, w_I17, w_I18, w_I19, w_I20, w_I21, w_vc, w_a0, w_s0, w_a1, w_s1, w_a2, w_s2, w_a3, w_s3, w_a4, w_s4, w_a5, w_s5, w_a6, w_s6, w_a7, w_s7, w_a8, w_s8, w_a9, w_s9, w_a10, w_s10, w_p0, w_p1, w_p2, w_p3, w_p4, w_p16, w_p17, w_p18, w_p19, w_p20, w_p21, o_0, o_1, o_2, o_3, o_4, o_5, hm, i_0, z_0, i_1, z_1, i_2, z_2, i_3, z_3, i_4, z_4, i_5, z_5, i_6, z_6, i_7, z_7, i_8, z_8, e1, h2, if_true, if_false, bnd, rt]
  exact hl
theorem l_mbs2 {M : Mg} (hm : 0 < m) (hn : M 0 0 = nI n) (hn9 : n ≤ 10) : ∀ k f i (a : Int32), i + k = n → k < f → FX8_meanBatteryBits_L22 f m a (nI i) (pum μ m M) = (if M 11 0 = 0 then gd (nn32 (FP.fdiv (FP.i2f (fo (fun d a => a + M 0 (13 + 6 * d + 2)) i k a)) (FP.i2f (nI n))) = true) (bnd (FJxf58ca_floatToIntBits_5c35a (FP.fdiv (FP.i2f (fo (fun d a => a + M 0 (13 + 6 * d + 2)) i k a)) (FP.i2f (nI n))) (pum μ m M)) (fun x17 μ16 => rt x17 μ16)) else rt 0 (pum μ m M)) := by
  intro k
  induction k with
  | zero =>
    intro f i a  hi hfuu
    obtain ⟨f, rfl⟩ : ∃ g, f = g + 1 := ⟨f - 1, by omega⟩
    have h1 : nI n ≤ nI i := by rw [show i = n by omega]; exact Int32.le_refl _
    simp only [FX8_meanBatteryBits_L22, FX8_meanBatteryBits_B22, w_I0, w_I1, w_I2, w_I3, w_I4, w_R5, w_R6, w_R7, w_R8, w_R9, w_R10, w_R11, w_R12, w_R13, w_R14, w_R15, w_I16, w_I17, w_I18, w_I19, w_I20, w_I21, w_vc, w_a0, w_s0, w_a1, w_s1, w_a2, w_s2, w_a3, w_s3, w_a4, w_s4, w_a5, w_s5, w_a6, w_s6, w_a7, w_s7, w_a8, w_s8, w_a9, w_s9, w_a10, w_s10, w_p0, w_p1, w_p2, w_p3, w_p4, w_p16, w_p17, w_p18, w_p19, w_p20, w_p21, o_0, o_1, o_2, o_3, o_4, o_5, hm, i_0, z_0, i_1, z_1, i_2, z_2, i_3, z_3, i_4, z_4, i_5, z_5, i_6, z_6, i_7, z_7, i_8, z_8, hn, fo, h1, if_true, bnd, rt]
    all_goals rfl
  | succ k ih =>
    intro f i a  hi hfuu
    obtain ⟨f, rfl⟩ : ∃ g, f = g + 1 := ⟨f - 1, by omega⟩
    have h1 : ¬ nI n ≤ nI i := nI_ge (by omega) (by omega)
    have h2_10 : inb (nI i) 10 = true := inb_n (by omega) (by omega)
    have h3 : (nI i).toNatClampNeg = i := nI_clamp (by omega)
    simp only [FX8_meanBatteryBits_L22, FX8_meanBatteryBits_B22, w_I0, w_I1, w_I2, w_I3, w_I4, w_R5, w_R6, w_R7, w_R8, w_R9, w_R10, w_R11, w_R12, w_R13, w_R14, w_R15, w_I16, w_I17, w_I18, w_I19, w_I20, w_I21, w_vc, w_a0, w_s0, w_a1, w_s1, w_a2, w_s2, w_a3, w_s3, w_a4, w_s4, w_a5, w_s5, w_a6, w_s6, w_a7, w_s7, w_a8, w_s8, w_a9, w_s9, w_a10, w_s10, w_p0, w_p1, w_p2, w_p3, w_p4, w_p16, w_p17, w_p18, w_p19, w_p20, w_p21, o_0, o_1, o_2, o_3, o_4, o_5, hm, i_0, z_0, i_1, z_1, i_2, z_2, i_3, z_3, i_4, z_4, i_5, z_5, i_6, z_6, i_7, z_7, i_8, z_8, hn, iv_0 (show i < 10 by omega), cv_0 (show i < 10 by omega), iv_1 (show i < 10 by omega), cv_1 (show i < 10 by omega), iv_2 (show i < 10 by omega), cv_2 (show i < 10 by omega), iv_3 (show i < 10 by omega), cv_3 (show i < 10 by omega), iv_4 (show i < 10 by omega), cv_4 (show i < 10 by omega), iv_5 (show i < 10 by omega), cv_5 (show i < 10 by omega), h1, h2_10, h3, nI_1, if_true, if_false, bnd, rt]
    simp only [fo]
    exact ih _ _ _ (by omega) (by omega)
end M6
