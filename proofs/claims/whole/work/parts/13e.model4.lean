/-! ===== the model's face ===== -/
section M5
variable {μ : Me} {m n q : Nat}
theorem T0_0 {M : Mg} {k : Int32} : (mF M k) 11 0 = k := by simp [mF, mS, upd]
theorem T0_v {M : Mg} {k : Int32} {j : Nat} : (mF M k) 0 j = M 0 j := by simp [mF, mS]
theorem T0_r {M : Mg} {k : Int32} {r : Nat} (h : ¬ r = 11) : (mF M k) r = M r := by simp [mF, mS, h]
theorem T0_s {M : Mg} {k : Int32} {j : Nat} (h : ¬ j = 0) : (mF M k) 11 j = M 11 j := by simp [mF, mS, upd, h]
theorem z10 : ¬ (1 : Int32) = 0 := by decide
theorem z20 : ¬ (2 : Int32) = 0 := by decide
theorem l_mps {w : Nat} (hm : 0 < m) (hw : w ≤ 30) : ∀ k f i (M : Mg) (a : Int32), WM M n q → i + k = w → k < f → FX8_passes_L20 f m (nI w) a (nI i) (pum μ m M) = rt (fo (fun _ (z : Mg × Int32) => ((mtk n q z.1).1, z.2 + (mtk n q z.1).2)) i k (M, a)).2 (pum μ m (fo (fun _ (z : Mg × Int32) => ((mtk n q z.1).1, z.2 + (mtk n q z.1).2)) i k (M, a)).1) ∧ WM (fo (fun _ (z : Mg × Int32) => ((mtk n q z.1).1, z.2 + (mtk n q z.1).2)) i k (M, a)).1 n q := by
  intro k
  induction k with
  | zero =>
    intro f i M a hW hi hfuu
    obtain ⟨f, rfl⟩ : ∃ g, f = g + 1 := ⟨f - 1, by omega⟩
    have h1 : nI w ≤ nI i := by rw [show i = w by omega]; exact Int32.le_refl _
    simp only [FX8_passes_L20, FX8_passes_B20, w_I0, w_I1, w_I2, w_I3, w_I4, w_R5, w_R6, w_R7, w_R8, w_R9, w_R10, w_R11, w_R12, w_R13, w_R14, w_R15, w_I16, w_I17, w_I18, w_I19, w_I20, w_I21, w_vc, w_a0, w_s0, w_a1, w_s1, w_a2, w_s2, w_a3, w_s3, w_a4, w_s4, w_a5, w_s5, w_a6, w_s6, w_a7, w_s7, w_a8, w_s8, w_a9, w_s9, w_a10, w_s10, w_p0, w_p1, w_p2, w_p3, w_p4, w_p16, w_p17, w_p18, w_p19, w_p20, w_p21, o_0, o_1, o_2, o_3, o_4, o_5, hm, i_0, z_0, i_1, z_1, i_2, z_2, i_3, z_3, i_4, z_4, i_5, z_5, i_6, z_6, i_7, z_7, i_8, z_8, h1, if_true, bnd, rt]
    exact ⟨rfl, hW⟩
  | succ k ih =>
    intro f i M a hW hi hfuu
    obtain ⟨f, rfl⟩ : ∃ g, f = g + 1 := ⟨f - 1, by omega⟩
    have h1 : ¬ nI w ≤ nI i := nI_ge (by omega) (by omega)
    have h3 : (nI i).toNatClampNeg = i := nI_clamp (by omega)
    simp only [FX8_passes_L20, FX8_passes_B20, w_I0, w_I1, w_I2, w_I3, w_I4, w_R5, w_R6, w_R7, w_R8, w_R9, w_R10, w_R11, w_R12, w_R13, w_R14, w_R15, w_I16, w_I17, w_I18, w_I19, w_I20, w_I21, w_vc, w_a0, w_s0, w_a1, w_s1, w_a2, w_s2, w_a3, w_s3, w_a4, w_s4, w_a5, w_s5, w_a6, w_s6, w_a7, w_s7, w_a8, w_s8, w_a9, w_s9, w_a10, w_s10, w_p0, w_p1, w_p2, w_p3, w_p4, w_p16, w_p17, w_p18, w_p19, w_p20, w_p21, o_0, o_1, o_2, o_3, o_4, o_5, hm, i_0, z_0, i_1, z_1, i_2, z_2, i_3, z_3, i_4, z_4, i_5, z_5, i_6, z_6, i_7, z_7, i_8, z_8, (e_mtk hm hW).1, h1, h3, nI_1, if_true, if_false, bnd, rt]
    simp only [fo]
    exact ih _ _ _ _ (e_mtk (μ := μ) hm hW).2 (by omega) (by omega)
def mpss (n q k : Nat) (M : Mg) : Mg × Int32 := fo (fun _ (z : Mg × Int32) => ((mtk n q z.1).1, z.2 + (mtk n q z.1).2)) 0 k (M, 0)
theorem isI130_out {x : Int32} (h : x < 1 ∨ ¬ x ≤ 30) : isI x 1 30 = 0 := by
  unfold isI
  split
  · rfl
  · rename_i h1
    rw [if_pos (Int32.not_le.mp (h.resolve_left h1))]
theorem isI130_in {w : Nat} (h0 : 0 < w) (h : w ≤ 30) : isI (nI w) 1 30 = 1 := by
  have h1 : ¬ nI w < 1 := fun e => absurd ((nI_ltI (a := w) (b := 1) (by omega) (by omega)).mp e) (by omega)
  have h2 : ¬ 30 < nI w := fun e => absurd ((nI_ltI (a := 30) (b := w) (by omega) (by omega)).mp e) (by omega)
  unfold isI
  rw [if_neg h1, if_neg h2]
theorem e_mps_out {M : Mg} {x : Int32} (hm : 0 < m) (h : x < 1 ∨ ¬ x ≤ 30) : FX8_passes m x (pum μ m M) = rt 0 (pum μ m (mF M 1)) := by
  simp only [FX8_passes, e_isIn, isI130_out h, e_fail hm, w_I0, w_I1, w_I2, w_I3, w_I4, w_R5, w_R6, w_R7, w_R8, w_R9, w_R10, w_R11, w_R12, w_R13, w_R14, w_R15, w_I16, w_I17, w_I18, w_I19, w_I20, w_I21, w_vc, w_a0, w_s0, w_a1, w_s1, w_a2, w_s2, w_a3, w_s3, w_a4, w_s4, w_a5, w_s5, w_a6, w_s6, w_a7, w_s7, w_a8, w_s8, w_a9, w_s9, w_a10, w_s10, w_p0, w_p1, w_p2, w_p3, w_p4, w_p16, w_p17, w_p18, w_p19, w_p20, w_p21, o_0, o_1, o_2, o_3, o_4, o_5, hm, i_0, z_0, i_1, z_1, i_2, z_2, i_3, z_3, i_4, z_4, i_5, z_5, i_6, z_6, i_7, z_7, i_8, z_8, if_true, bnd, rt, mF]
theorem e_mps {M : Mg} {w : Nat} (hm : 0 < m) (hw0 : 0 < w) (hw : w ≤ 30) (hW : WM M n q) : FX8_passes m (nI w) (pum μ m M) = rt (mpss n q w M).2 (pum μ m (mpss n q w M).1) ∧ WM (mpss n q w M).1 n q := by
  have h := l_mps (μ := μ) hm hw w FU 0 M 0 hW (by omega) (by unfold FU; omega)
  refine ⟨?_, h.2⟩
  have h1 := h.1
  rw [nI_0] at h1
  simp only [FX8_passes, e_isIn, isI130_in hw0 hw, one_ne, if_false, bnd, rt]
  exact h1
/-! rows copied whole -/
def lay (a b : Nat) (M : Mg) : Mg := fo (fun j N => mS N a j (N b j)) 0 117 M
theorem lay_i {a b : Nat} (hab : a ≠ b) {M : Mg} : (∀ j, j < 117 → (lay a b M) a j = M b j) ∧ (∀ j, 117 ≤ j → (lay a b M) a j = M a j) ∧ (∀ r, r ≠ a → (lay a b M) r = M r) := by
  have h := fo_inv (P := fun i (N : Mg) => (∀ j, j < i → N a j = M b j) ∧ (∀ j, i ≤ j → N a j = M a j) ∧ (∀ r, r ≠ a → N r = M r)) (f := fun j N => mS N a j (N b j)) (k := 117) (i := 0) (a := M) ⟨fun j hj => absurd hj (Nat.not_lt_zero j), fun _ _ => rfl, fun _ _ => rfl⟩ (fun d N _ hd hN => by
    obtain ⟨h1, h2, h3⟩ := hN
    refine ⟨fun j hj => ?_, fun j hj => ?_, fun r hr => ?_⟩
    · by_cases hjd : j = d
      · subst hjd
        simp only [mS, upd, if_true]
        rw [h3 b (Ne.symm hab)]
      · simp only [mS, upd, hjd, if_false, if_true]
        exact h1 j (by omega)
    · have hjd : ¬ j = d := by omega
      simp only [mS, upd, hjd, if_false, if_true]
      exact h2 j (by omega)
    · simp only [mS, hr, if_false]
      exact h3 r hr)
  exact h
theorem l_lay10 (hm : 0 < m) : ∀ k f i (M : Mg), i + k = 117 → k < f → FX8_lays_L2 f (m + 2) (m + 1) (nI i) (pum μ m M) = rt () (pum μ m (fo (fun j N => mS N 1 j (N 0 j)) i k M)) := by
  intro k
  induction k with
  | zero =>
    intro f i M  hi hfuu
    obtain ⟨f, rfl⟩ : ∃ g, f = g + 1 := ⟨f - 1, by omega⟩
    have h1 : (117 : Int32) ≤ nI i := by rw [show i = 117 by omega]; decide
    simp only [FX8_lays_L2, FX8_lays_B2, w_I0, w_I1, w_I2, w_I3, w_I4, w_R5, w_R6, w_R7, w_R8, w_R9, w_R10, w_R11, w_R12, w_R13, w_R14, w_R15, w_I16, w_I17, w_I18, w_I19, w_I20, w_I21, w_vc, w_a0, w_s0, w_a1, w_s1, w_a2, w_s2, w_a3, w_s3, w_a4, w_s4, w_a5, w_s5, w_a6, w_s6, w_a7, w_s7, w_a8, w_s8, w_a9, w_s9, w_a10, w_s10, w_p0, w_p1, w_p2, w_p3, w_p4, w_p16, w_p17, w_p18, w_p19, w_p20, w_p21, o_0, o_1, o_2, o_3, o_4, o_5, hm, i_0, z_0, i_1, z_1, i_2, z_2, i_3, z_3, i_4, z_4, i_5, z_5, i_6, z_6, i_7, z_7, i_8, z_8, h1, if_true, bnd, rt]
    rfl
  | succ k ih =>
    intro f i M  hi hfuu
    obtain ⟨f, rfl⟩ : ∃ g, f = g + 1 := ⟨f - 1, by omega⟩
    have h1 : ¬ (117 : Int32) ≤ nI i := fun h => absurd ((nI_leI (a := 117) (b := i) (by omega) (by omega)).mp h) (by omega)
    have h2_117 : inb (nI i) 117 = true := inb_n (by omega) (by omega)
    have h3 : (nI i).toNatClampNeg = i := nI_clamp (by omega)
    simp only [FX8_lays_L2, FX8_lays_B2, w_I0, w_I1, w_I2, w_I3, w_I4, w_R5, w_R6, w_R7, w_R8, w_R9, w_R10, w_R11, w_R12, w_R13, w_R14, w_R15, w_I16, w_I17, w_I18, w_I19, w_I20, w_I21, w_vc, w_a0, w_s0, w_a1, w_s1, w_a2, w_s2, w_a3, w_s3, w_a4, w_s4, w_a5, w_s5, w_a6, w_s6, w_a7, w_s7, w_a8, w_s8, w_a9, w_s9, w_a10, w_s10, w_p0, w_p1, w_p2, w_p3, w_p4, w_p16, w_p17, w_p18, w_p19, w_p20, w_p21, o_0, o_1, o_2, o_3, o_4, o_5, hm, i_0, z_0, i_1, z_1, i_2, z_2, i_3, z_3, i_4, z_4, i_5, z_5, i_6, z_6, i_7, z_7, i_8, z_8, h1, h2_117, h3, nI_1, if_true, if_false, bnd, rt]
    simp only [fo]
    exact ih _ _ _ (by omega) (by omega)
theorem e_lay10 {M : Mg} (hm : 0 < m) : FX8_lays (m + 2) (m + 1) (pum μ m M) = rt () (pum μ m (lay 1 0 M)) := l_lay10 hm 117 FU 0 M (by omega) (by unfold FU; omega)
theorem l_lay01 (hm : 0 < m) : ∀ k f i (M : Mg), i + k = 117 → k < f → FX8_lays_L2 f (m + 1) (m + 2) (nI i) (pum μ m M) = rt () (pum μ m (fo (fun j N => mS N 0 j (N 1 j)) i k M)) := by
  intro k
  induction k with
  | zero =>
    intro f i M  hi hfuu
    obtain ⟨f, rfl⟩ : ∃ g, f = g + 1 := ⟨f - 1, by omega⟩
    have h1 : (117 : Int32) ≤ nI i := by rw [show i = 117 by omega]; decide
    simp only [FX8_lays_L2, FX8_lays_B2, w_I0, w_I1, w_I2, w_I3, w_I4, w_R5, w_R6, w_R7, w_R8, w_R9, w_R10, w_R11, w_R12, w_R13, w_R14, w_R15, w_I16, w_I17, w_I18, w_I19, w_I20, w_I21, w_vc, w_a0, w_s0, w_a1, w_s1, w_a2, w_s2, w_a3, w_s3, w_a4, w_s4, w_a5, w_s5, w_a6, w_s6, w_a7, w_s7, w_a8, w_s8, w_a9, w_s9, w_a10, w_s10, w_p0, w_p1, w_p2, w_p3, w_p4, w_p16, w_p17, w_p18, w_p19, w_p20, w_p21, o_0, o_1, o_2, o_3, o_4, o_5, hm, i_0, z_0, i_1, z_1, i_2, z_2, i_3, z_3, i_4, z_4, i_5, z_5, i_6, z_6, i_7, z_7, i_8, z_8, h1, if_true, bnd, rt]
    rfl
  | succ k ih =>
    intro f i M  hi hfuu
    obtain ⟨f, rfl⟩ : ∃ g, f = g + 1 := ⟨f - 1, by omega⟩
    have h1 : ¬ (117 : Int32) ≤ nI i := fun h => absurd ((nI_leI (a := 117) (b := i) (by omega) (by omega)).mp h) (by omega)
    have h2_117 : inb (nI i) 117 = true := inb_n (by omega) (by omega)
    have h3 : (nI i).toNatClampNeg = i := nI_clamp (by omega)
    simp only [FX8_lays_L2, FX8_lays_B2, w_I0, w_I1, w_I2, w_I3, w_I4, w_R5, w_R6, w_R7, w_R8, w_R9, w_R10, w_R11, w_R12, w_R13, w_R14, w_R15, w_I16, w_I17, w_I18, w_I19, w_I20, w_I21, w_vc, w_a0, w_s0, w_a1, w_s1, w_a2, w_s2, w_a3, w_s3, w_a4, w_s4, w_a5, w_s5, w_a6, w_s6, w_a7, w_s7, w_a8, w_s8, w_a9, w_s9, w_a10, w_s10, w_p0, w_p1, w_p2, w_p3, w_p4, w_p16, w_p17, w_p18, w_p19, w_p20, w_p21, o_0, o_1, o_2, o_3, o_4, o_5, hm, i_0, z_0, i_1, z_1, i_2, z_2, i_3, z_3, i_4, z_4, i_5, z_5, i_6, z_6, i_7, z_7, i_8, z_8, h1, h2_117, h3, nI_1, if_true, if_false, bnd, rt]
    simp only [fo]
    exact ih _ _ _ (by omega) (by omega)
theorem e_lay01 {M : Mg} (hm : 0 < m) : FX8_lays (m + 1) (m + 2) (pum μ m M) = rt () (pum μ m (lay 0 1 M)) := l_lay01 hm 117 FU 0 M (by omega) (by unfold FU; omega)
theorem l_lay30 (hm : 0 < m) : ∀ k f i (M : Mg), i + k = 117 → k < f → FX8_lays_L2 f (m + 4) (m + 1) (nI i) (pum μ m M) = rt () (pum μ m (fo (fun j N => mS N 3 j (N 0 j)) i k M)) := by
  intro k
  induction k with
  | zero =>
    intro f i M  hi hfuu
    obtain ⟨f, rfl⟩ : ∃ g, f = g + 1 := ⟨f - 1, by omega⟩
    have h1 : (117 : Int32) ≤ nI i := by rw [show i = 117 by omega]; decide
    simp only [FX8_lays_L2, FX8_lays_B2, w_I0, w_I1, w_I2, w_I3, w_I4, w_R5, w_R6, w_R7, w_R8, w_R9, w_R10, w_R11, w_R12, w_R13, w_R14, w_R15, w_I16, w_I17, w_I18, w_I19, w_I20, w_I21, w_vc, w_a0, w_s0, w_a1, w_s1, w_a2, w_s2, w_a3, w_s3, w_a4, w_s4, w_a5, w_s5, w_a6, w_s6, w_a7, w_s7, w_a8, w_s8, w_a9, w_s9, w_a10, w_s10, w_p0, w_p1, w_p2, w_p3, w_p4, w_p16, w_p17, w_p18, w_p19, w_p20, w_p21, o_0, o_1, o_2, o_3, o_4, o_5, hm, i_0, z_0, i_1, z_1, i_2, z_2, i_3, z_3, i_4, z_4, i_5, z_5, i_6, z_6, i_7, z_7, i_8, z_8, h1, if_true, bnd, rt]
    rfl
  | succ k ih =>
    intro f i M  hi hfuu
    obtain ⟨f, rfl⟩ : ∃ g, f = g + 1 := ⟨f - 1, by omega⟩
    have h1 : ¬ (117 : Int32) ≤ nI i := fun h => absurd ((nI_leI (a := 117) (b := i) (by omega) (by omega)).mp h) (by omega)
    have h2_117 : inb (nI i) 117 = true := inb_n (by omega) (by omega)
    have h3 : (nI i).toNatClampNeg = i := nI_clamp (by omega)
    simp only [FX8_lays_L2, FX8_lays_B2, w_I0, w_I1, w_I2, w_I3, w_I4, w_R5, w_R6, w_R7, w_R8, w_R9, w_R10, w_R11, w_R12, w_R13, w_R14, w_R15, w_I16, w_I17, w_I18, w_I19, w_I20, w_I21, w_vc, w_a0, w_s0, w_a1, w_s1, w_a2, w_s2, w_a3, w_s3, w_a4, w_s4, w_a5, w_s5, w_a6, w_s6, w_a7, w_s7, w_a8, w_s8, w_a9, w_s9, w_a10, w_s10, w_p0, w_p1, w_p2, w_p3, w_p4, w_p16, w_p17, w_p18, w_p19, w_p20, w_p21, o_0, o_1, o_2, o_3, o_4, o_5, hm, i_0, z_0, i_1, z_1, i_2, z_2, i_3, z_3, i_4, z_4, i_5, z_5, i_6, z_6, i_7, z_7, i_8, z_8, h1, h2_117, h3, nI_1, if_true, if_false, bnd, rt]
    simp only [fo]
    exact ih _ _ _ (by omega) (by omega)
theorem e_lay30 {M : Mg} (hm : 0 < m) : FX8_lays (m + 4) (m + 1) (pum μ m M) = rt () (pum μ m (lay 3 0 M)) := l_lay30 hm 117 FU 0 M (by omega) (by unfold FU; omega)
theorem l_lay03 (hm : 0 < m) : ∀ k f i (M : Mg), i + k = 117 → k < f → FX8_lays_L2 f (m + 1) (m + 4) (nI i) (pum μ m M) = rt () (pum μ m (fo (fun j N => mS N 0 j (N 3 j)) i k M)) := by
  intro k
  induction k with
  | zero =>
    intro f i M  hi hfuu
    obtain ⟨f, rfl⟩ : ∃ g, f = g + 1 := ⟨f - 1, by omega⟩
    have h1 : (117 : Int32) ≤ nI i := by rw [show i = 117 by omega]; decide
    simp only [FX8_lays_L2, FX8_lays_B2, w_I0, w_I1, w_I2, w_I3, w_I4, w_R5, w_R6, w_R7, w_R8, w_R9, w_R10, w_R11, w_R12, w_R13, w_R14, w_R15, w_I16, w_I17, w_I18, w_I19, w_I20, w_I21, w_vc, w_a0, w_s0, w_a1, w_s1, w_a2, w_s2, w_a3, w_s3, w_a4, w_s4, w_a5, w_s5, w_a6, w_s6, w_a7, w_s7, w_a8, w_s8, w_a9, w_s9, w_a10, w_s10, w_p0, w_p1, w_p2, w_p3, w_p4, w_p16, w_p17, w_p18, w_p19, w_p20, w_p21, o_0, o_1, o_2, o_3, o_4, o_5, hm, i_0, z_0, i_1, z_1, i_2, z_2, i_3, z_3, i_4, z_4, i_5, z_5, i_6, z_6, i_7, z_7, i_8, z_8, h1, if_true, bnd, rt]
    rfl
  | succ k ih =>
    intro f i M  hi hfuu
    obtain ⟨f, rfl⟩ : ∃ g, f = g + 1 := ⟨f - 1, by omega⟩
    have h1 : ¬ (117 : Int32) ≤ nI i := fun h => absurd ((nI_leI (a := 117) (b := i) (by omega) (by omega)).mp h) (by omega)
    have h2_117 : inb (nI i) 117 = true := inb_n (by omega) (by omega)
    have h3 : (nI i).toNatClampNeg = i := nI_clamp (by omega)
    simp only [FX8_lays_L2, FX8_lays_B2, w_I0, w_I1, w_I2, w_I3, w_I4, w_R5, w_R6, w_R7, w_R8, w_R9, w_R10, w_R11, w_R12, w_R13, w_R14, w_R15, w_I16, w_I17, w_I18, w_I19, w_I20, w_I21, w_vc, w_a0, w_s0, w_a1, w_s1, w_a2, w_s2, w_a3, w_s3, w_a4, w_s4, w_a5, w_s5, w_a6, w_s6, w_a7, w_s7, w_a8, w_s8, w_a9, w_s9, w_a10, w_s10, w_p0, w_p1, w_p2, w_p3, w_p4, w_p16, w_p17, w_p18, w_p19, w_p20, w_p21, o_0, o_1, o_2, o_3, o_4, o_5, hm, i_0, z_0, i_1, z_1, i_2, z_2, i_3, z_3, i_4, z_4, i_5, z_5, i_6, z_6, i_7, z_7, i_8, z_8, h1, h2_117, h3, nI_1, if_true, if_false, bnd, rt]
    simp only [fo]
    exact ih _ _ _ (by omega) (by omega)
theorem e_lay03 {M : Mg} (hm : 0 < m) : FX8_lays (m + 1) (m + 4) (pum μ m M) = rt () (pum μ m (lay 0 3 M)) := l_lay03 hm 117 FU 0 M (by omega) (by unfold FU; omega)
theorem l_lay20 (hm : 0 < m) : ∀ k f i (M : Mg), i + k = 117 → k < f → FX8_lays_L2 f (m + 3) (m + 1) (nI i) (pum μ m M) = rt () (pum μ m (fo (fun j N => mS N 2 j (N 0 j)) i k M)) := by
  intro k
  induction k with
  | zero =>
    intro f i M  hi hfuu
    obtain ⟨f, rfl⟩ : ∃ g, f = g + 1 := ⟨f - 1, by omega⟩
    have h1 : (117 : Int32) ≤ nI i := by rw [show i = 117 by omega]; decide
    simp only [FX8_lays_L2, FX8_lays_B2, w_I0, w_I1, w_I2, w_I3, w_I4, w_R5, w_R6, w_R7, w_R8, w_R9, w_R10, w_R11, w_R12, w_R13, w_R14, w_R15, w_I16, w_I17, w_I18, w_I19, w_I20, w_I21, w_vc, w_a0, w_s0, w_a1, w_s1, w_a2, w_s2, w_a3, w_s3, w_a4, w_s4, w_a5, w_s5, w_a6, w_s6, w_a7, w_s7, w_a8, w_s8, w_a9, w_s9, w_a10, w_s10, w_p0, w_p1, w_p2, w_p3, w_p4, w_p16, w_p17, w_p18, w_p19, w_p20, w_p21, o_0, o_1, o_2, o_3, o_4, o_5, hm, i_0, z_0, i_1, z_1, i_2, z_2, i_3, z_3, i_4, z_4, i_5, z_5, i_6, z_6, i_7, z_7, i_8, z_8, h1, if_true, bnd, rt]
    rfl
  | succ k ih =>
    intro f i M  hi hfuu
    obtain ⟨f, rfl⟩ : ∃ g, f = g + 1 := ⟨f - 1, by omega⟩
    have h1 : ¬ (117 : Int32) ≤ nI i := fun h => absurd ((nI_leI (a := 117) (b := i) (by omega) (by omega)).mp h) (by omega)
    have h2_117 : inb (nI i) 117 = true := inb_n (by omega) (by omega)
    have h3 : (nI i).toNatClampNeg = i := nI_clamp (by omega)
    simp only [FX8_lays_L2, FX8_lays_B2, w_I0, w_I1, w_I2, w_I3, w_I4, w_R5, w_R6, w_R7, w_R8, w_R9, w_R10, w_R11, w_R12, w_R13, w_R14, w_R15, w_I16, w_I17, w_I18, w_I19, w_I20, w_I21, w_vc, w_a0, w_s0, w_a1, w_s1, w_a2, w_s2, w_a3, w_s3, w_a4, w_s4, w_a5, w_s5, w_a6, w_s6, w_a7, w_s7, w_a8, w_s8, w_a9, w_s9, w_a10, w_s10, w_p0, w_p1, w_p2, w_p3, w_p4, w_p16, w_p17, w_p18, w_p19, w_p20, w_p21, o_0, o_1, o_2, o_3, o_4, o_5, hm, i_0, z_0, i_1, z_1, i_2, z_2, i_3, z_3, i_4, z_4, i_5, z_5, i_6, z_6, i_7, z_7, i_8, z_8, h1, h2_117, h3, nI_1, if_true, if_false, bnd, rt]
    simp only [fo]
    exact ih _ _ _ (by omega) (by omega)
theorem e_lay20 {M : Mg} (hm : 0 < m) : FX8_lays (m + 3) (m + 1) (pum μ m M) = rt () (pum μ m (lay 2 0 M)) := l_lay20 hm 117 FU 0 M (by omega) (by unfold FU; omega)
theorem l_lay02 (hm : 0 < m) : ∀ k f i (M : Mg), i + k = 117 → k < f → FX8_lays_L2 f (m + 1) (m + 3) (nI i) (pum μ m M) = rt () (pum μ m (fo (fun j N => mS N 0 j (N 2 j)) i k M)) := by
  intro k
  induction k with
  | zero =>
    intro f i M  hi hfuu
    obtain ⟨f, rfl⟩ : ∃ g, f = g + 1 := ⟨f - 1, by omega⟩
    have h1 : (117 : Int32) ≤ nI i := by rw [show i = 117 by omega]; decide
    simp only [FX8_lays_L2, FX8_lays_B2, w_I0, w_I1, w_I2, w_I3, w_I4, w_R5, w_R6, w_R7, w_R8, w_R9, w_R10, w_R11, w_R12, w_R13, w_R14, w_R15, w_I16, w_I17, w_I18, w_I19, w_I20, w_I21, w_vc, w_a0, w_s0, w_a1, w_s1, w_a2, w_s2, w_a3, w_s3, w_a4, w_s4, w_a5, w_s5, w_a6, w_s6, w_a7, w_s7, w_a8, w_s8, w_a9, w_s9, w_a10, w_s10, w_p0, w_p1, w_p2, w_p3, w_p4, w_p16, w_p17, w_p18, w_p19, w_p20, w_p21, o_0, o_1, o_2, o_3, o_4, o_5, hm, i_0, z_0, i_1, z_1, i_2, z_2, i_3, z_3, i_4, z_4, i_5, z_5, i_6, z_6, i_7, z_7, i_8, z_8, h1, if_true, bnd, rt]
    rfl
  | succ k ih =>
    intro f i M  hi hfuu
    obtain ⟨f, rfl⟩ : ∃ g, f = g + 1 := ⟨f - 1, by omega⟩
    have h1 : ¬ (117 : Int32) ≤ nI i := fun h => absurd ((nI_leI (a := 117) (b := i) (by omega) (by omega)).mp h) (by omega)
    have h2_117 : inb (nI i) 117 = true := inb_n (by omega) (by omega)
    have h3 : (nI i).toNatClampNeg = i := nI_clamp (by omega)
    simp only [FX8_lays_L2, FX8_lays_B2, w_I0, w_I1, w_I2, w_I3, w_I4, w_R5, w_R6, w_R7, w_R8, w_R9, w_R10, w_R11, w_R12, w_R13, w_R14, w_R15, w_I16, w_I17, w_I18, w_I19, w_I20, w_I21, w_vc, w_a0, w_s0, w_a1, w_s1, w_a2, w_s2, w_a3, w_s3, w_a4, w_s4, w_a5, w_s5, w_a6, w_s6, w_a7, w_s7, w_a8, w_s8, w_a9, w_s9, w_a10, w_s10, w_p0, w_p1, w_p2, w_p3, w_p4, w_p16, w_p17, w_p18, w_p19, w_p20, w_p21, o_0, o_1, o_2, o_3, o_4, o_5, hm, i_0, z_0, i_1, z_1, i_2, z_2, i_3, z_3, i_4, z_4, i_5, z_5, i_6, z_6, i_7, z_7, i_8, z_8, h1, h2_117, h3, nI_1, if_true, if_false, bnd, rt]
    simp only [fo]
    exact ih _ _ _ (by omega) (by omega)
theorem e_lay02 {M : Mg} (hm : 0 < m) : FX8_lays (m + 1) (m + 3) (pum μ m M) = rt () (pum μ m (lay 0 2 M)) := l_lay02 hm 117 FU 0 M (by omega) (by unfold FU; omega)
theorem e_begins {M : Mg} (hm : 0 < m) : FX8_begins m (pum μ m M) = rt () (pum μ m (lay 1 0 (mF M 0))) := by
  simp only [FX8_begins, w_I0, w_I1, w_I2, w_I3, w_I4, w_R5, w_R6, w_R7, w_R8, w_R9, w_R10, w_R11, w_R12, w_R13, w_R14, w_R15, w_I16, w_I17, w_I18, w_I19, w_I20, w_I21, w_vc, w_a0, w_s0, w_a1, w_s1, w_a2, w_s2, w_a3, w_s3, w_a4, w_s4, w_a5, w_s5, w_a6, w_s6, w_a7, w_s7, w_a8, w_s8, w_a9, w_s9, w_a10, w_s10, w_p0, w_p1, w_p2, w_p3, w_p4, w_p16, w_p17, w_p18, w_p19, w_p20, w_p21, o_0, o_1, o_2, o_3, o_4, o_5, hm, i_0, z_0, i_1, z_1, i_2, z_2, i_3, z_3, i_4, z_4, i_5, z_5, i_6, z_6, i_7, z_7, i_8, z_8, e_lay10 hm, bnd, rt, mF]
/-! ends -/
theorem e_ends_no {M : Mg} {x : Int32} (hm : 0 < m) (ht : ¬ M 11 0 = 0) : FX8_ends m x (pum μ m M) = rt 0 (pum μ m (lay 0 1 M)) := by
  simp only [FX8_ends, w_I0, w_I1, w_I2, w_I3, w_I4, w_R5, w_R6, w_R7, w_R8, w_R9, w_R10, w_R11, w_R12, w_R13, w_R14, w_R15, w_I16, w_I17, w_I18, w_I19, w_I20, w_I21, w_vc, w_a0, w_s0, w_a1, w_s1, w_a2, w_s2, w_a3, w_s3, w_a4, w_s4, w_a5, w_s5, w_a6, w_s6, w_a7, w_s7, w_a8, w_s8, w_a9, w_s9, w_a10, w_s10, w_p0, w_p1, w_p2, w_p3, w_p4, w_p16, w_p17, w_p18, w_p19, w_p20, w_p21, o_0, o_1, o_2, o_3, o_4, o_5, hm, i_0, z_0, i_1, z_1, i_2, z_2, i_3, z_3, i_4, z_4, i_5, z_5, i_6, z_6, i_7, z_7, i_8, z_8, ht, if_false, e_lay01 hm, bnd, rt]
theorem iv936 {c i : Nat} (h : c < 8) (hi : i < 117) : inb (nI (c * 117 + i)) 936 = true := inb_n (by omega) (by omega)
theorem cv936 {c i : Nat} (h : c < 8) (hi : i < 117) : (nI (c * 117 + i)).toNatClampNeg = c * 117 + i := nI_clamp (by omega)
theorem nI117 (c i : Nat) : (nI c * 117) + nI i = nI (c * 117 + i) := by rw [show (117 : Int32) = nI 117 from rfl, nI_mul, nI_add]
/-- the state before is kept as change c -/
def app (c : Nat) (M : Mg) : Mg := mS (fo (fun j N => mS N 4 (c * 117 + j) (N 1 j)) 0 117 M) 11 1 (nI (c + 1))
theorem l_app {x : Int32} {c : Nat} (hm : 0 < m) (hc : c < 8) : ∀ k f i (M : Mg), M 11 1 = nI c → i + k = 117 → k < f → FX8_ends_L71 f m x (nI i) (pum μ m M) = rt x (pum μ m (mS (fo (fun j N => mS N 4 (c * 117 + j) (N 1 j)) i k M) 11 1 (nI (c + 1)))) := by
  intro k
  induction k with
  | zero =>
    intro f i M hM hi hfuu
    obtain ⟨f, rfl⟩ : ∃ g, f = g + 1 := ⟨f - 1, by omega⟩
    have h1 : (117 : Int32) ≤ nI i := by rw [show i = 117 by omega]; decide
    simp only [FX8_ends_L71, FX8_ends_B71, w_I0, w_I1, w_I2, w_I3, w_I4, w_R5, w_R6, w_R7, w_R8, w_R9, w_R10, w_R11, w_R12, w_R13, w_R14, w_R15, w_I16, w_I17, w_I18, w_I19, w_I20, w_I21, w_vc, w_a0, w_s0, w_a1, w_s1, w_a2, w_s2, w_a3, w_s3, w_a4, w_s4, w_a5, w_s5, w_a6, w_s6, w_a7, w_s7, w_a8, w_s8, w_a9, w_s9, w_a10, w_s10, w_p0, w_p1, w_p2, w_p3, w_p4, w_p16, w_p17, w_p18, w_p19, w_p20, w_p21, o_0, o_1, o_2, o_3, o_4, o_5, hm, i_0, z_0, i_1, z_1, i_2, z_2, i_3, z_3, i_4, z_4, i_5, z_5, i_6, z_6, i_7, z_7, i_8, z_8, hM, nI_1, h1, if_true, bnd, rt]
    rfl
  | succ k ih =>
    intro f i M hM hi hfuu
    obtain ⟨f, rfl⟩ : ∃ g, f = g + 1 := ⟨f - 1, by omega⟩
    have h1 : ¬ (117 : Int32) ≤ nI i := fun h => absurd ((nI_leI (a := 117) (b := i) (by omega) (by omega)).mp h) (by omega)
    have h2_117 : inb (nI i) 117 = true := inb_n (by omega) (by omega)
    have h3 : (nI i).toNatClampNeg = i := nI_clamp (by omega)
    simp only [FX8_ends_L71, FX8_ends_B71, w_I0, w_I1, w_I2, w_I3, w_I4, w_R5, w_R6, w_R7, w_R8, w_R9, w_R10, w_R11, w_R12, w_R13, w_R14, w_R15, w_I16, w_I17, w_I18, w_I19, w_I20, w_I21, w_vc, w_a0, w_s0, w_a1, w_s1, w_a2, w_s2, w_a3, w_s3, w_a4, w_s4, w_a5, w_s5, w_a6, w_s6, w_a7, w_s7, w_a8, w_s8, w_a9, w_s9, w_a10, w_s10, w_p0, w_p1, w_p2, w_p3, w_p4, w_p16, w_p17, w_p18, w_p19, w_p20, w_p21, o_0, o_1, o_2, o_3, o_4, o_5, hm, i_0, z_0, i_1, z_1, i_2, z_2, i_3, z_3, i_4, z_4, i_5, z_5, i_6, z_6, i_7, z_7, i_8, z_8, hM, nI117, iv936 hc (show i < 117 by omega), cv936 hc (show i < 117 by omega), h1, h2_117, h3, nI_1, if_true, if_false, bnd, rt]
    simp only [fo]
    exact ih _ _ _ (by simpa [mS] using hM) (by omega) (by omega)
theorem nIp117 (i : Nat) : nI i + 117 = nI (i + 117) := nI_add i 117
theorem iv936b {i : Nat} (hi : i < 819) : inb (nI (i + 117)) 936 = true := inb_n (by omega) (by omega)
theorem cv936b {i : Nat} (hi : i < 819) : (nI (i + 117)).toNatClampNeg = i + 117 := nI_clamp (by omega)
/-- the oldest change goes -/
def sft (M : Mg) : Mg := mS (fo (fun j N => mS N 4 j (N 4 (j + 117))) 0 819 M) 11 1 7
theorem l_sft {x : Int32} (hm : 0 < m) : ∀ k f i (M : Mg), M 11 1 = 8 → i + k = 819 → k < f → FX8_ends_L31 f m x (nI i) (pum μ m M) = FX8_ends_L71 FU m x 0 (pum μ m (mS (fo (fun j N => mS N 4 j (N 4 (j + 117))) i k M) 11 1 7)) := by
  intro k
  induction k with
  | zero =>
    intro f i M hM hi hfuu
    obtain ⟨f, rfl⟩ : ∃ g, f = g + 1 := ⟨f - 1, by omega⟩
    have h1 : (819 : Int32) ≤ nI i := by rw [show i = 819 by omega]; decide
    simp only [FX8_ends_L31, FX8_ends_B31, w_I0, w_I1, w_I2, w_I3, w_I4, w_R5, w_R6, w_R7, w_R8, w_R9, w_R10, w_R11, w_R12, w_R13, w_R14, w_R15, w_I16, w_I17, w_I18, w_I19, w_I20, w_I21, w_vc, w_a0, w_s0, w_a1, w_s1, w_a2, w_s2, w_a3, w_s3, w_a4, w_s4, w_a5, w_s5, w_a6, w_s6, w_a7, w_s7, w_a8, w_s8, w_a9, w_s9, w_a10, w_s10, w_p0, w_p1, w_p2, w_p3, w_p4, w_p16, w_p17, w_p18, w_p19, w_p20, w_p21, o_0, o_1, o_2, o_3, o_4, o_5, hm, i_0, z_0, i_1, z_1, i_2, z_2, i_3, z_3, i_4, z_4, i_5, z_5, i_6, z_6, i_7, z_7, i_8, z_8, hM, h1, if_true, bnd, rt]
    rfl
  | succ k ih =>
    intro f i M hM hi hfuu
    obtain ⟨f, rfl⟩ : ∃ g, f = g + 1 := ⟨f - 1, by omega⟩
    have h1 : ¬ (819 : Int32) ≤ nI i := fun h => absurd ((nI_leI (a := 819) (b := i) (by omega) (by omega)).mp h) (by omega)
    have h2_936 : inb (nI i) 936 = true := inb_n (by omega) (by omega)
    have h3 : (nI i).toNatClampNeg = i := nI_clamp (by omega)
    simp only [FX8_ends_L31, FX8_ends_B31, w_I0, w_I1, w_I2, w_I3, w_I4, w_R5, w_R6, w_R7, w_R8, w_R9, w_R10, w_R11, w_R12, w_R13, w_R14, w_R15, w_I16, w_I17, w_I18, w_I19, w_I20, w_I21, w_vc, w_a0, w_s0, w_a1, w_s1, w_a2, w_s2, w_a3, w_s3, w_a4, w_s4, w_a5, w_s5, w_a6, w_s6, w_a7, w_s7, w_a8, w_s8, w_a9, w_s9, w_a10, w_s10, w_p0, w_p1, w_p2, w_p3, w_p4, w_p16, w_p17, w_p18, w_p19, w_p20, w_p21, o_0, o_1, o_2, o_3, o_4, o_5, hm, i_0, z_0, i_1, z_1, i_2, z_2, i_3, z_3, i_4, z_4, i_5, z_5, i_6, z_6, i_7, z_7, i_8, z_8, nIp117, iv936b (show i < 819 by omega), cv936b (show i < 819 by omega), h1, h2_936, h3, nI_1, if_true, if_false, bnd, rt]
    simp only [fo]
    exact ih _ _ _ (by simpa [mS] using hM) (by omega) (by omega)
def end1 (c : Nat) (M : Mg) : Mg := if c = 8 then app 7 (sft M) else app c M
theorem e_ends {M : Mg} {x : Int32} {c : Nat} (hm : 0 < m) (ht : M 11 0 = 0) (hc : M 11 1 = nI c) (hc9 : c ≤ 8) : FX8_ends m x (pum μ m M) = rt x (pum μ m (end1 c M)) := by
  have h8 : nI c = 8 ↔ c = 8 := nI_eq (a := c) (b := 8) (by omega) (by omega)
  simp only [FX8_ends, w_I0, w_I1, w_I2, w_I3, w_I4, w_R5, w_R6, w_R7, w_R8, w_R9, w_R10, w_R11, w_R12, w_R13, w_R14, w_R15, w_I16, w_I17, w_I18, w_I19, w_I20, w_I21, w_vc, w_a0, w_s0, w_a1, w_s1, w_a2, w_s2, w_a3, w_s3, w_a4, w_s4, w_a5, w_s5, w_a6, w_s6, w_a7, w_s7, w_a8, w_s8, w_a9, w_s9, w_a10, w_s10, w_p0, w_p1, w_p2, w_p3, w_p4, w_p16, w_p17, w_p18, w_p19, w_p20, w_p21, o_0, o_1, o_2, o_3, o_4, o_5, hm, i_0, z_0, i_1, z_1, i_2, z_2, i_3, z_3, i_4, z_4, i_5, z_5, i_6, z_6, i_7, z_7, i_8, z_8, ht, hc, h8, if_true, end1]
  by_cases a : c = 8
  · simp only [a, if_true]
    have h1 := l_sft (μ := μ) (x := x) hm 819 FU 0 M (by rw [hc, a]; rfl) (by omega) (by unfold FU; omega)
    rw [nI_0] at h1
    rw [h1]
    have h2 := l_app (μ := μ) (x := x) (c := 7) hm (by omega) 117 FU 0 (sft M) (by simp [sft, mS, upd]; rfl) (by omega) (by unfold FU; omega)
    exact h2
  · simp only [a, if_false]
    exact l_app (μ := μ) (x := x) (c := c) hm (by omega) 117 FU 0 M hc (by omega) (by unfold FU; omega)
/-! cues -/
theorem e_addsCue_out {M : Mg} {x y z : Int32} (hm : 0 < m) (hn : M 0 0 = nI n) (hn9 : n ≤ 10) (h : x < 0 ∨ nI n ≤ x) : FX8_addsCue m x y z (pum μ m M) = rt 0 (pum μ m (mF M 1)) := by
  simp only [FX8_addsCue, e_isDr hm, e_drn_out hn hn9 h, w_I0, w_I1, w_I2, w_I3, w_I4, w_R5, w_R6, w_R7, w_R8, w_R9, w_R10, w_R11, w_R12, w_R13, w_R14, w_R15, w_I16, w_I17, w_I18, w_I19, w_I20, w_I21, w_vc, w_a0, w_s0, w_a1, w_s1, w_a2, w_s2, w_a3, w_s3, w_a4, w_s4, w_a5, w_s5, w_a6, w_s6, w_a7, w_s7, w_a8, w_s8, w_a9, w_s9, w_a10, w_s10, w_p0, w_p1, w_p2, w_p3, w_p4, w_p16, w_p17, w_p18, w_p19, w_p20, w_p21, o_0, o_1, o_2, o_3, o_4, o_5, hm, i_0, z_0, i_1, z_1, i_2, z_2, i_3, z_3, i_4, z_4, i_5, z_5, i_6, z_6, i_7, z_7, i_8, z_8, e_fail hm, if_true, bnd, rt, mF]
def mcq (M : Mg) (c d : Nat) (y z : Int32) : Mg := mS (mS (mS (mS M 0 (81 + 3 * c) (nI d)) 0 (81 + 3 * c + 1) y) 0 (81 + 3 * c + 2) z) 0 8 (nI (c + 1))
theorem e_addsCue {M : Mg} {d c : Nat} {y z : Int32} (hm : 0 < m) (hn : M 0 0 = nI n) (hn9 : n ≤ 10) (h : d < n) (hc : M 0 8 = nI c) (hc9 : c ≤ 12) : FX8_addsCue m (nI d) y z (pum μ m M) = if y ≤ M 0 3 ∨ 999 < y ∨ isI z 0 7 = 0 then rt 0 (pum μ m (mF M 2)) else if c = 12 then rt 0 (pum μ m (mF M 3)) else rt (nI (c + 1)) (pum μ m (mcq M c d y z)) := by
  have h4 : nI c = 12 ↔ c = 12 := nI_eq (a := c) (b := 12) (by omega) (by omega)
  simp only [FX8_addsCue, FX8_addsCue_B41, e_isDr hm, e_drn_in hn hn9 h, one_ne, e_isIn, w_I0, w_I1, w_I2, w_I3, w_I4, w_R5, w_R6, w_R7, w_R8, w_R9, w_R10, w_R11, w_R12, w_R13, w_R14, w_R15, w_I16, w_I17, w_I18, w_I19, w_I20, w_I21, w_vc, w_a0, w_s0, w_a1, w_s1, w_a2, w_s2, w_a3, w_s3, w_a4, w_s4, w_a5, w_s5, w_a6, w_s6, w_a7, w_s7, w_a8, w_s8, w_a9, w_s9, w_a10, w_s10, w_p0, w_p1, w_p2, w_p3, w_p4, w_p16, w_p17, w_p18, w_p19, w_p20, w_p21, o_0, o_1, o_2, o_3, o_4, o_5, hm, i_0, z_0, i_1, z_1, i_2, z_2, i_3, z_3, i_4, z_4, i_5, z_5, i_6, z_6, i_7, z_7, i_8, z_8, e_fail hm, hc, h4, if_true, if_false, bnd, rt, mF]
  by_cases a1 : y ≤ M 0 3
  · simp only [a1, if_true, true_or]
  · by_cases a2 : 999 < y
    · simp only [a1, a2, if_true, if_false, true_or, or_true]
    · by_cases a3 : isI z 0 7 = 0
      · simp only [a1, a2, a3, if_true, if_false, or_true]
      · simp only [a1, a2, a3, if_false, or_self]
        by_cases a4 : c = 12
        · simp only [a4, if_true]
        · have hc12 : c < 12 := by omega
          have e8 : ∀ (N : Mg) w t, w < 3 → (mS N 0 (81 + 3 * c + w) t) 0 8 = N 0 8 := fun N w t hw => by
            have : ¬ 8 = 81 + 3 * c + w := by omega
            simp only [mS, upd, this, if_false, if_true]
          have e80 : ∀ (N : Mg) t, (mS N 0 (81 + 3 * c) t) 0 8 = N 0 8 := fun N t => e8 N 0 t (by omega)
          have e88 : ∀ (N : Mg) t, (mS N 0 8 t) 0 8 = t := fun N t => by simp [mS, upd]
          simp only [a4, if_false, nI81, nIp1, nIp2, iv81a hc12, cv81a hc12, iv81 hc12 (show 1 < 3 by omega), cv81 hc12 (show 1 < 3 by omega), iv81 hc12 (show 2 < 3 by omega), cv81 hc12 (show 2 < 3 by omega), if_true, w_I0, w_I1, w_I2, w_I3, w_I4, w_R5, w_R6, w_R7, w_R8, w_R9, w_R10, w_R11, w_R12, w_R13, w_R14, w_R15, w_I16, w_I17, w_I18, w_I19, w_I20, w_I21, w_vc, w_a0, w_s0, w_a1, w_s1, w_a2, w_s2, w_a3, w_s3, w_a4, w_s4, w_a5, w_s5, w_a6, w_s6, w_a7, w_s7, w_a8, w_s8, w_a9, w_s9, w_a10, w_s10, w_p0, w_p1, w_p2, w_p3, w_p4, w_p16, w_p17, w_p18, w_p19, w_p20, w_p21, o_0, o_1, o_2, o_3, o_4, o_5, hm, i_0, z_0, i_1, z_1, i_2, z_2, i_3, z_3, i_4, z_4, i_5, z_5, i_6, z_6, i_7, z_7, i_8, z_8, e8 _ 1 _ (by omega), e8 _ 2 _ (by omega), e80, e88, hc, mcq]
/-! what is told -/
theorem e_tells_out {M : Mg} {x w : Int32} (hm : 0 < m) (hn : M 0 0 = nI n) (hn9 : n ≤ 10) (h : x < 0 ∨ nI n ≤ x) : FX8_tells m x w (pum μ m M) = rt 0 (pum μ m (mF M 1)) := by
  have e1 : ∀ k, (mS M 11 0 k) 11 0 = k := fun k => T0_0
  simp only [FX8_tells, FX8_tells_B14, e_isDr hm, e_drn_out hn hn9 h, w_I0, w_I1, w_I2, w_I3, w_I4, w_R5, w_R6, w_R7, w_R8, w_R9, w_R10, w_R11, w_R12, w_R13, w_R14, w_R15, w_I16, w_I17, w_I18, w_I19, w_I20, w_I21, w_vc, w_a0, w_s0, w_a1, w_s1, w_a2, w_s2, w_a3, w_s3, w_a4, w_s4, w_a5, w_s5, w_a6, w_s6, w_a7, w_s7, w_a8, w_s8, w_a9, w_s9, w_a10, w_s10, w_p0, w_p1, w_p2, w_p3, w_p4, w_p16, w_p17, w_p18, w_p19, w_p20, w_p21, o_0, o_1, o_2, o_3, o_4, o_5, hm, i_0, z_0, i_1, z_1, i_2, z_2, i_3, z_3, i_4, z_4, i_5, z_5, i_6, z_6, i_7, z_7, i_8, z_8, e1, z10, if_true, if_false, bnd, rt, mF]
theorem e_tells0 {M : Mg} {d : Nat} (hm : 0 < m) (hn : M 0 0 = nI n) (hn9 : n ≤ 10) (h : d < n) : FX8_tells m (nI d) 0 (pum μ m M) = rt (M 0 (13 + 6 * d + 0)) (pum μ m (mF M 0)) := by
  have e1 : ∀ k, (mS M 11 0 k) 11 0 = k := fun k => T0_0
  have e2 : ∀ k j, (mS M 11 0 k) 0 j = M 0 j := fun k j => T0_v
  have hd9 : d < 10 := by omega
  simp only [FX8_tells, FX8_tells_B14, e_isDr hm, e_drn_in hn hn9 h, w_I0, w_I1, w_I2, w_I3, w_I4, w_R5, w_R6, w_R7, w_R8, w_R9, w_R10, w_R11, w_R12, w_R13, w_R14, w_R15, w_I16, w_I17, w_I18, w_I19, w_I20, w_I21, w_vc, w_a0, w_s0, w_a1, w_s1, w_a2, w_s2, w_a3, w_s3, w_a4, w_s4, w_a5, w_s5, w_a6, w_s6, w_a7, w_s7, w_a8, w_s8, w_a9, w_s9, w_a10, w_s10, w_p0, w_p1, w_p2, w_p3, w_p4, w_p16, w_p17, w_p18, w_p19, w_p20, w_p21, o_0, o_1, o_2, o_3, o_4, o_5, hm, i_0, z_0, i_1, z_1, i_2, z_2, i_3, z_3, i_4, z_4, i_5, z_5, i_6, z_6, i_7, z_7, i_8, z_8, iv_0 hd9, cv_0 hd9, iv_1 hd9, cv_1 hd9, iv_2 hd9, cv_2 hd9, iv_3 hd9, cv_3 hd9, iv_4 hd9, cv_4 hd9, iv_5 hd9, cv_5 hd9, e1, e2, z10, if_true, if_false, bnd, rt, mF]
theorem e_tells1 {M : Mg} {d : Nat} (hm : 0 < m) (hn : M 0 0 = nI n) (hn9 : n ≤ 10) (h : d < n) : FX8_tells m (nI d) 1 (pum μ m M) = rt (M 0 (13 + 6 * d + 1)) (pum μ m (mF M 0)) := by
  have e1 : ∀ k, (mS M 11 0 k) 11 0 = k := fun k => T0_0
  have e2 : ∀ k j, (mS M 11 0 k) 0 j = M 0 j := fun k j => T0_v
  have hd9 : d < 10 := by omega
  simp only [FX8_tells, FX8_tells_B14, e_isDr hm, e_drn_in hn hn9 h, w_I0, w_I1, w_I2, w_I3, w_I4, w_R5, w_R6, w_R7, w_R8, w_R9, w_R10, w_R11, w_R12, w_R13, w_R14, w_R15, w_I16, w_I17, w_I18, w_I19, w_I20, w_I21, w_vc, w_a0, w_s0, w_a1, w_s1, w_a2, w_s2, w_a3, w_s3, w_a4, w_s4, w_a5, w_s5, w_a6, w_s6, w_a7, w_s7, w_a8, w_s8, w_a9, w_s9, w_a10, w_s10, w_p0, w_p1, w_p2, w_p3, w_p4, w_p16, w_p17, w_p18, w_p19, w_p20, w_p21, o_0, o_1, o_2, o_3, o_4, o_5, hm, i_0, z_0, i_1, z_1, i_2, z_2, i_3, z_3, i_4, z_4, i_5, z_5, i_6, z_6, i_7, z_7, i_8, z_8, iv_0 hd9, cv_0 hd9, iv_1 hd9, cv_1 hd9, iv_2 hd9, cv_2 hd9, iv_3 hd9, cv_3 hd9, iv_4 hd9, cv_4 hd9, iv_5 hd9, cv_5 hd9, e1, e2, z10, if_true, if_false, bnd, rt, mF]
theorem e_tells2 {M : Mg} {d : Nat} (hm : 0 < m) (hn : M 0 0 = nI n) (hn9 : n ≤ 10) (h : d < n) : FX8_tells m (nI d) 2 (pum μ m M) = rt (M 0 (13 + 6 * d + 2)) (pum μ m (mF M 0)) := by
  have e1 : ∀ k, (mS M 11 0 k) 11 0 = k := fun k => T0_0
  have e2 : ∀ k j, (mS M 11 0 k) 0 j = M 0 j := fun k j => T0_v
  have hd9 : d < 10 := by omega
  simp only [FX8_tells, FX8_tells_B14, e_isDr hm, e_drn_in hn hn9 h, w_I0, w_I1, w_I2, w_I3, w_I4, w_R5, w_R6, w_R7, w_R8, w_R9, w_R10, w_R11, w_R12, w_R13, w_R14, w_R15, w_I16, w_I17, w_I18, w_I19, w_I20, w_I21, w_vc, w_a0, w_s0, w_a1, w_s1, w_a2, w_s2, w_a3, w_s3, w_a4, w_s4, w_a5, w_s5, w_a6, w_s6, w_a7, w_s7, w_a8, w_s8, w_a9, w_s9, w_a10, w_s10, w_p0, w_p1, w_p2, w_p3, w_p4, w_p16, w_p17, w_p18, w_p19, w_p20, w_p21, o_0, o_1, o_2, o_3, o_4, o_5, hm, i_0, z_0, i_1, z_1, i_2, z_2, i_3, z_3, i_4, z_4, i_5, z_5, i_6, z_6, i_7, z_7, i_8, z_8, iv_0 hd9, cv_0 hd9, iv_1 hd9, cv_1 hd9, iv_2 hd9, cv_2 hd9, iv_3 hd9, cv_3 hd9, iv_4 hd9, cv_4 hd9, iv_5 hd9, cv_5 hd9, e1, e2, z10, if_true, if_false, bnd, rt, mF]
theorem e_tells3 {M : Mg} {d : Nat} (hm : 0 < m) (hn : M 0 0 = nI n) (hn9 : n ≤ 10) (h : d < n) : FX8_tells m (nI d) 3 (pum μ m M) = rt (M 0 (13 + 6 * d + 3)) (pum μ m (mF M 0)) := by
  have e1 : ∀ k, (mS M 11 0 k) 11 0 = k := fun k => T0_0
  have e2 : ∀ k j, (mS M 11 0 k) 0 j = M 0 j := fun k j => T0_v
  have hd9 : d < 10 := by omega
  simp only [FX8_tells, FX8_tells_B14, e_isDr hm, e_drn_in hn hn9 h, w_I0, w_I1, w_I2, w_I3, w_I4, w_R5, w_R6, w_R7, w_R8, w_R9, w_R10, w_R11, w_R12, w_R13, w_R14, w_R15, w_I16, w_I17, w_I18, w_I19, w_I20, w_I21, w_vc, w_a0, w_s0, w_a1, w_s1, w_a2, w_s2, w_a3, w_s3, w_a4, w_s4, w_a5, w_s5, w_a6, w_s6, w_a7, w_s7, w_a8, w_s8, w_a9, w_s9, w_a10, w_s10, w_p0, w_p1, w_p2, w_p3, w_p4, w_p16, w_p17, w_p18, w_p19, w_p20, w_p21, o_0, o_1, o_2, o_3, o_4, o_5, hm, i_0, z_0, i_1, z_1, i_2, z_2, i_3, z_3, i_4, z_4, i_5, z_5, i_6, z_6, i_7, z_7, i_8, z_8, iv_0 hd9, cv_0 hd9, iv_1 hd9, cv_1 hd9, iv_2 hd9, cv_2 hd9, iv_3 hd9, cv_3 hd9, iv_4 hd9, cv_4 hd9, iv_5 hd9, cv_5 hd9, e1, e2, z10, if_true, if_false, bnd, rt, mF]
theorem e_tells4 {M : Mg} {d : Nat} (hm : 0 < m) (hn : M 0 0 = nI n) (hn9 : n ≤ 10) (h : d < n) : FX8_tells m (nI d) 4 (pum μ m M) = rt (M 0 (13 + 6 * d + 4)) (pum μ m (mF M 0)) := by
  have e1 : ∀ k, (mS M 11 0 k) 11 0 = k := fun k => T0_0
  have e2 : ∀ k j, (mS M 11 0 k) 0 j = M 0 j := fun k j => T0_v
  have hd9 : d < 10 := by omega
  simp only [FX8_tells, FX8_tells_B14, e_isDr hm, e_drn_in hn hn9 h, w_I0, w_I1, w_I2, w_I3, w_I4, w_R5, w_R6, w_R7, w_R8, w_R9, w_R10, w_R11, w_R12, w_R13, w_R14, w_R15, w_I16, w_I17, w_I18, w_I19, w_I20, w_I21, w_vc, w_a0, w_s0, w_a1, w_s1, w_a2, w_s2, w_a3, w_s3, w_a4, w_s4, w_a5, w_s5, w_a6, w_s6, w_a7, w_s7, w_a8, w_s8, w_a9, w_s9, w_a10, w_s10, w_p0, w_p1, w_p2, w_p3, w_p4, w_p16, w_p17, w_p18, w_p19, w_p20, w_p21, o_0, o_1, o_2, o_3, o_4, o_5, hm, i_0, z_0, i_1, z_1, i_2, z_2, i_3, z_3, i_4, z_4, i_5, z_5, i_6, z_6, i_7, z_7, i_8, z_8, iv_0 hd9, cv_0 hd9, iv_1 hd9, cv_1 hd9, iv_2 hd9, cv_2 hd9, iv_3 hd9, cv_3 hd9, iv_4 hd9, cv_4 hd9, iv_5 hd9, cv_5 hd9, e1, e2, z10, if_true, if_false, bnd, rt, mF]
theorem e_tells5 {M : Mg} {d : Nat} (hm : 0 < m) (hn : M 0 0 = nI n) (hn9 : n ≤ 10) (h : d < n) : FX8_tells m (nI d) 5 (pum μ m M) = rt (M 0 (13 + 6 * d + 5)) (pum μ m (mF M 0)) := by
  have e1 : ∀ k, (mS M 11 0 k) 11 0 = k := fun k => T0_0
  have e2 : ∀ k j, (mS M 11 0 k) 0 j = M 0 j := fun k j => T0_v
  have hd9 : d < 10 := by omega
  simp only [FX8_tells, FX8_tells_B14, e_isDr hm, e_drn_in hn hn9 h, w_I0, w_I1, w_I2, w_I3, w_I4, w_R5, w_R6, w_R7, w_R8, w_R9, w_R10, w_R11, w_R12, w_R13, w_R14, w_R15, w_I16, w_I17, w_I18, w_I19, w_I20, w_I21, w_vc, w_a0, w_s0, w_a1, w_s1, w_a2, w_s2, w_a3, w_s3, w_a4, w_s4, w_a5, w_s5, w_a6, w_s6, w_a7, w_s7, w_a8, w_s8, w_a9, w_s9, w_a10, w_s10, w_p0, w_p1, w_p2, w_p3, w_p4, w_p16, w_p17, w_p18, w_p19, w_p20, w_p21, o_0, o_1, o_2, o_3, o_4, o_5, hm, i_0, z_0, i_1, z_1, i_2, z_2, i_3, z_3, i_4, z_4, i_5, z_5, i_6, z_6, i_7, z_7, i_8, z_8, iv_0 hd9, cv_0 hd9, iv_1 hd9, cv_1 hd9, iv_2 hd9, cv_2 hd9, iv_3 hd9, cv_3 hd9, iv_4 hd9, cv_4 hd9, iv_5 hd9, cv_5 hd9, e1, e2, z10, if_true, if_false, bnd, rt, mF]
theorem l_mct {M : Mg} (hm : 0 < m) (hc : M 0 8 = nI q) (hc9 : q ≤ 12) : ∀ k f i (a : Int32), i + k = q → k < f → FX8_nextCueTime_L29 f m a (nI i) (pum μ m M) = (if M 11 0 = 0 then rt (fo (fun d a => if a ≤ M 0 (81 + 3 * d + 1) then a else M 0 (81 + 3 * d + 1)) i k a) (pum μ m M) else rt 0 (pum μ m M)) := by
  intro k
  induction k with
  | zero =>
    intro f i a  hi hfuu
    obtain ⟨f, rfl⟩ : ∃ g, f = g + 1 := ⟨f - 1, by omega⟩
    have h1 : nI q ≤ nI i := by rw [show i = q by omega]; exact Int32.le_refl _
    simp only [FX8_nextCueTime_L29, FX8_nextCueTime_B29, w_I0, w_I1, w_I2, w_I3, w_I4, w_R5, w_R6, w_R7, w_R8, w_R9, w_R10, w_R11, w_R12, w_R13, w_R14, w_R15, w_I16, w_I17, w_I18, w_I19, w_I20, w_I21, w_vc, w_a0, w_s0, w_a1, w_s1, w_a2, w_s2, w_a3, w_s3, w_a4, w_s4, w_a5, w_s5, w_a6, w_s6, w_a7, w_s7, w_a8, w_s8, w_a9, w_s9, w_a10, w_s10, w_p0, w_p1, w_p2, w_p3, w_p4, w_p16, w_p17, w_p18, w_p19, w_p20, w_p21, o_0, o_1, o_2, o_3, o_4, o_5, hm, i_0, z_0, i_1, z_1, i_2, z_2, i_3, z_3, i_4, z_4, i_5, z_5, i_6, z_6, i_7, z_7, i_8, z_8, hc, fo, h1, if_true, bnd, rt]
    all_goals rfl
  | succ k ih =>
    intro f i a  hi hfuu
    obtain ⟨f, rfl⟩ : ∃ g, f = g + 1 := ⟨f - 1, by omega⟩
    have h1 : ¬ nI q ≤ nI i := nI_ge (by omega) (by omega)
    have h3 : (nI i).toNatClampNeg = i := nI_clamp (by omega)
    simp only [FX8_nextCueTime_L29, FX8_nextCueTime_B29, w_I0, w_I1, w_I2, w_I3, w_I4, w_R5, w_R6, w_R7, w_R8, w_R9, w_R10, w_R11, w_R12, w_R13, w_R14, w_R15, w_I16, w_I17, w_I18, w_I19, w_I20, w_I21, w_vc, w_a0, w_s0, w_a1, w_s1, w_a2, w_s2, w_a3, w_s3, w_a4, w_s4, w_a5, w_s5, w_a6, w_s6, w_a7, w_s7, w_a8, w_s8, w_a9, w_s9, w_a10, w_s10, w_p0, w_p1, w_p2, w_p3, w_p4, w_p16, w_p17, w_p18, w_p19, w_p20, w_p21, o_0, o_1, o_2, o_3, o_4, o_5, hm, i_0, z_0, i_1, z_1, i_2, z_2, i_3, z_3, i_4, z_4, i_5, z_5, i_6, z_6, i_7, z_7, i_8, z_8, hc, nI81, nIp1, iv81 (show i < 12 by omega) (show 1 < 3 by omega), cv81 (show i < 12 by omega) (show 1 < 3 by omega), h1, h3, nI_1, if_true, if_false, bnd, rt]
    simp only [fo]
    by_cases g : a ≤ M 0 (81 + 3 * i + 1)
    · simp only [g, if_true]
      exact ih _ _ _ (by omega) (by omega)
    · simp only [g, if_false]
      exact ih _ _ _ (by omega) (by omega)
theorem i82 : inb 82 117 = true := by decide
theorem z82 : (82 : Int32).toNatClampNeg = 82 := by decide
theorem e_mct0 {M : Mg} (hm : 0 < m) (hc : M 0 8 = nI 0) : FX8_nextCueTime m (pum μ m M) = rt 0 (pum μ m (mF M 1)) := by
  have e1 : ∀ k, (mS M 11 0 k) 11 0 = k := fun k => T0_0
  have e2 : ∀ k j, (mS M 11 0 k) 0 j = M 0 j := fun k j => T0_v
  obtain ⟨g, hg⟩ : ∃ g, FU = g + 1 := ⟨4095, rfl⟩
  have h01 : (0 : Int32) ≤ 1 := by decide
  simp only [FX8_nextCueTime, FX8_nextCueTime_B16, hg, FX8_nextCueTime_L29, FX8_nextCueTime_B29, w_I0, w_I1, w_I2, w_I3, w_I4, w_R5, w_R6, w_R7, w_R8, w_R9, w_R10, w_R11, w_R12, w_R13, w_R14, w_R15, w_I16, w_I17, w_I18, w_I19, w_I20, w_I21, w_vc, w_a0, w_s0, w_a1, w_s1, w_a2, w_s2, w_a3, w_s3, w_a4, w_s4, w_a5, w_s5, w_a6, w_s6, w_a7, w_s7, w_a8, w_s8, w_a9, w_s9, w_a10, w_s10, w_p0, w_p1, w_p2, w_p3, w_p4, w_p16, w_p17, w_p18, w_p19, w_p20, w_p21, o_0, o_1, o_2, o_3, o_4, o_5, hm, i_0, z_0, i_1, z_1, i_2, z_2, i_3, z_3, i_4, z_4, i_5, z_5, i_6, z_6, i_7, z_7, i_8, z_8, e1, e2, hc, nI_0, i82, z82, z10, h01, if_true, if_false]
  rfl
theorem e_mct {M : Mg} {c : Nat} (hm : 0 < m) (hc : M 0 8 = nI (c + 1)) (hc9 : c + 1 ≤ 12) : FX8_nextCueTime m (pum μ m M) = rt (fo (fun d a => if a ≤ M 0 (81 + 3 * d + 1) then a else M 0 (81 + 3 * d + 1)) 1 c (M 0 82)) (pum μ m (mF M 0)) := by
  have e1 : ∀ k, (mS M 11 0 k) 11 0 = k := fun k => T0_0
  have e2 : ∀ k j, (mS M 11 0 k) 0 j = M 0 j := fun k j => T0_v
  have hne : ¬ nI (c + 1) = 0 := nI_ne0 (by omega) (by omega)
  have hl := l_mct (μ := μ) (M := mS M 11 0 0) (q := c + 1) hm ((e2 0 8).trans hc) hc9 c FU 1 (M 0 82) (by omega) (by unfold FU; omega)
  simp only [e1, e2, if_true] at hl
  simp only [FX8_nextCueTime, FX8_nextCueTime_B16, w_I0, w_I1, w_I2, w_I3, w_I4, w_R5, w_R6, w_R7, w_R8, w_R9, w_R10, w_R11, w_R12, w_R13, w_R14, w_R15, w_I16, w_I17, w_I18, w_I19, w_I20, w_I21, w_vc, w_a0, w_s0, w_a1, w_s1, w_a2, w_s2, w_a3, w_s3, w_a4, w_s4, w_a5, w_s5, w_a6, w_s6, w_a7, w_s7, w_a8, w_s8, w_a9, w_s9, w_a10, w_s10, w_p0, w_p1, w_p2, w_p3, w_p4, w_p16, w_p17, w_p18, w_p19, w_p20, w_p21, o_0, o_1, o_2, o_3, o_4, o_5, hm, i_0, z_0, i_1, z_1, i_2, z_2, i_3, z_3, i_4, z_4, i_5, z_5, i_6, z_6, i_7, z_7, i_8, z_8, e1, e2, hc, hne, i82, z82, if_true, if_false]
  exact hl
/-! conflicts -/
theorem l_mcf2 {M : Mg} {d : Nat} {k9 : Nat → Int32 → Int32 → Me → Rs Int32} (hm : 0 < m) (hd : d < 10) : ∀ k f i (a : Int32), i + k = d → k < f → FX8_conflictCount_L32 k9 f m a (nI d) (nI i) (pum μ m M) = k9 m (fo (fun o a => if mwa M o = 0 then a else if mwi M o = mwi M d then a + 1 else a) i k a) (nI (d + 1)) (pum μ m M) := by
  intro k
  induction k with
  | zero =>
    intro f i a  hi hfuu
    obtain ⟨f, rfl⟩ : ∃ g, f = g + 1 := ⟨f - 1, by omega⟩
    have h1 : nI d ≤ nI i := by rw [show i = d by omega]; exact Int32.le_refl _
    simp only [FX8_conflictCount_L32, FX8_conflictCount_B32, w_I0, w_I1, w_I2, w_I3, w_I4, w_R5, w_R6, w_R7, w_R8, w_R9, w_R10, w_R11, w_R12, w_R13, w_R14, w_R15, w_I16, w_I17, w_I18, w_I19, w_I20, w_I21, w_vc, w_a0, w_s0, w_a1, w_s1, w_a2, w_s2, w_a3, w_s3, w_a4, w_s4, w_a5, w_s5, w_a6, w_s6, w_a7, w_s7, w_a8, w_s8, w_a9, w_s9, w_a10, w_s10, w_p0, w_p1, w_p2, w_p3, w_p4, w_p16, w_p17, w_p18, w_p19, w_p20, w_p21, o_0, o_1, o_2, o_3, o_4, o_5, hm, i_0, z_0, i_1, z_1, i_2, z_2, i_3, z_3, i_4, z_4, i_5, z_5, i_6, z_6, i_7, z_7, i_8, z_8, nI_1, h1, if_true, bnd, rt]
    rfl
  | succ k ih =>
    intro f i a  hi hfuu
    obtain ⟨f, rfl⟩ : ∃ g, f = g + 1 := ⟨f - 1, by omega⟩
    have h1 : ¬ nI d ≤ nI i := nI_ge (by omega) (by omega)
    have h3 : (nI i).toNatClampNeg = i := nI_clamp (by omega)
    simp only [FX8_conflictCount_L32, FX8_conflictCount_B32, w_I0, w_I1, w_I2, w_I3, w_I4, w_R5, w_R6, w_R7, w_R8, w_R9, w_R10, w_R11, w_R12, w_R13, w_R14, w_R15, w_I16, w_I17, w_I18, w_I19, w_I20, w_I21, w_vc, w_a0, w_s0, w_a1, w_s1, w_a2, w_s2, w_a3, w_s3, w_a4, w_s4, w_a5, w_s5, w_a6, w_s6, w_a7, w_s7, w_a8, w_s8, w_a9, w_s9, w_a10, w_s10, w_p0, w_p1, w_p2, w_p3, w_p4, w_p16, w_p17, w_p18, w_p19, w_p20, w_p21, o_0, o_1, o_2, o_3, o_4, o_5, hm, i_0, z_0, i_1, z_1, i_2, z_2, i_3, z_3, i_4, z_4, i_5, z_5, i_6, z_6, i_7, z_7, i_8, z_8, Int32.add_zero, e_mwa hm (show i < 10 by omega), e_mwi hm (show i < 10 by omega), e_mwi hm hd, h1, h3, nI_1, if_true, if_false, bnd, rt]
    simp only [fo]
    by_cases g : mwa M i = 0
    · simp only [g, if_true]
      exact ih _ _ _ (by omega) (by omega)
    · simp only [g, if_false]
      by_cases g2 : mwi M i = mwi M d
      · simp only [g2, if_true]
        exact ih _ _ _ (by omega) (by omega)
      · simp only [g2, if_false]
        exact ih _ _ _ (by omega) (by omega)
theorem l_mcf {M : Mg} (hm : 0 < m) (hn : M 0 0 = nI n) (hn9 : n ≤ 10) : ∀ k f i (a : Int32), i + k = n → k < f → FX8_conflictCount_L9 f m a (nI i) (pum μ m M) = rt (fo (fun d a => if mwa M d = 0 then a else fo (fun o a => if mwa M o = 0 then a else if mwi M o = mwi M d then a + 1 else a) 0 d a) i k a) (pum μ m M) := by
  intro k
  induction k with
  | zero =>
    intro f i a  hi hfuu
    obtain ⟨f, rfl⟩ : ∃ g, f = g + 1 := ⟨f - 1, by omega⟩
    have h1 : nI n ≤ nI i := by rw [show i = n by omega]; exact Int32.le_refl _
    simp only [FX8_conflictCount_L9, FX8_conflictCount_B9, w_I0, w_I1, w_I2, w_I3, w_I4, w_R5, w_R6, w_R7, w_R8, w_R9, w_R10, w_R11, w_R12, w_R13, w_R14, w_R15, w_I16, w_I17, w_I18, w_I19, w_I20, w_I21, w_vc, w_a0, w_s0, w_a1, w_s1, w_a2, w_s2, w_a3, w_s3, w_a4, w_s4, w_a5, w_s5, w_a6, w_s6, w_a7, w_s7, w_a8, w_s8, w_a9, w_s9, w_a10, w_s10, w_p0, w_p1, w_p2, w_p3, w_p4, w_p16, w_p17, w_p18, w_p19, w_p20, w_p21, o_0, o_1, o_2, o_3, o_4, o_5, hm, i_0, z_0, i_1, z_1, i_2, z_2, i_3, z_3, i_4, z_4, i_5, z_5, i_6, z_6, i_7, z_7, i_8, z_8, hn, h1, if_true, bnd, rt]
    rfl
  | succ k ih =>
    intro f i a  hi hfuu
    obtain ⟨f, rfl⟩ : ∃ g, f = g + 1 := ⟨f - 1, by omega⟩
    have h1 : ¬ nI n ≤ nI i := nI_ge (by omega) (by omega)
    have h3 : (nI i).toNatClampNeg = i := nI_clamp (by omega)
    simp only [FX8_conflictCount_L9, FX8_conflictCount_B9, w_I0, w_I1, w_I2, w_I3, w_I4, w_R5, w_R6, w_R7, w_R8, w_R9, w_R10, w_R11, w_R12, w_R13, w_R14, w_R15, w_I16, w_I17, w_I18, w_I19, w_I20, w_I21, w_vc, w_a0, w_s0, w_a1, w_s1, w_a2, w_s2, w_a3, w_s3, w_a4, w_s4, w_a5, w_s5, w_a6, w_s6, w_a7, w_s7, w_a8, w_s8, w_a9, w_s9, w_a10, w_s10, w_p0, w_p1, w_p2, w_p3, w_p4, w_p16, w_p17, w_p18, w_p19, w_p20, w_p21, o_0, o_1, o_2, o_3, o_4, o_5, hm, i_0, z_0, i_1, z_1, i_2, z_2, i_3, z_3, i_4, z_4, i_5, z_5, i_6, z_6, i_7, z_7, i_8, z_8, hn, e_mwa hm (show i < 10 by omega), h1, h3, nI_1, if_true, if_false, bnd, rt]
    simp only [fo]
    by_cases g : mwa M i = 0
    · simp only [g, if_true]
      exact ih _ _ _ (by omega) (by omega)
    · simp only [g, if_false]
      rw [show (0 : Int32) = nI 0 from nI_0.symm, l_mcf2 hm (show i < 10 by omega) i FU 0 a (by omega) (by unfold FU; omega)]
      exact ih _ _ _ (by omega) (by omega)
def mcf (M : Mg) (n : Nat) : Int32 := fo (fun d a => if mwa M d = 0 then a else fo (fun o a => if mwa M o = 0 then a else if mwi M o = mwi M d then a + 1 else a) 0 d a) 0 n 0
theorem e_mcf {M : Mg} (hm : 0 < m) (hn : M 0 0 = nI n) (hn9 : n ≤ 10) : FX8_conflictCount m (pum μ m M) = rt (mcf (mF M 0) n) (pum μ m (mF M 0)) := by
  have h := l_mcf (μ := μ) (M := mF M 0) hm (T0_v.trans hn) hn9 n FU 0 0 (by omega) (by unfold FU; omega)
  simp only [FX8_conflictCount, w_I0, w_I1, w_I2, w_I3, w_I4, w_R5, w_R6, w_R7, w_R8, w_R9, w_R10, w_R11, w_R12, w_R13, w_R14, w_R15, w_I16, w_I17, w_I18, w_I19, w_I20, w_I21, w_vc, w_a0, w_s0, w_a1, w_s1, w_a2, w_s2, w_a3, w_s3, w_a4, w_s4, w_a5, w_s5, w_a6, w_s6, w_a7, w_s7, w_a8, w_s8, w_a9, w_s9, w_a10, w_s10, w_p0, w_p1, w_p2, w_p3, w_p4, w_p16, w_p17, w_p18, w_p19, w_p20, w_p21, o_0, o_1, o_2, o_3, o_4, o_5, hm, i_0, z_0, i_1, z_1, i_2, z_2, i_3, z_3, i_4, z_4, i_5, z_5, i_6, z_6, i_7, z_7, i_8, z_8]
  exact h
/-! ranks -/
def mby (M : Mg) (d o : Nat) : Int32 := if M 0 (13 + 6 * d + 2) - M 0 (13 + 6 * o + 2) = 0 then M 0 (13 + 6 * o + 1) - M 0 (13 + 6 * d + 1) else M 0 (13 + 6 * d + 2) - M 0 (13 + 6 * o + 2)
def mr1 (M : Mg) (d o : Nat) (a : Int32) : Int32 := if 0 < mby M d o then a + 1 else if mby M d o = 0 then (if d ≤ o then a else a + 1) else a
theorem l_mr2 {M : Mg} {d : Nat} {x : Int32} {k7 : Nat → Int32 → Int32 → Me → Rs Int32} (hm : 0 < m) (hd : d < 10) (hn : M 0 0 = nI n) (hn9 : n ≤ 10) : ∀ k f i (a : Int32), i + k = n → k < f → FX8_droneAtRank_L22 k7 f m x (nI d) a (nI i) (pum μ m M) = (if fo (mr1 M d) i k a = x then rt (nI d) (pum μ m M) else k7 m x (nI (d + 1)) (pum μ m M)) := by
  intro k
  induction k with
  | zero =>
    intro f i a  hi hfuu
    obtain ⟨f, rfl⟩ : ∃ g, f = g + 1 := ⟨f - 1, by omega⟩
    have h1 : nI n ≤ nI i := by rw [show i = n by omega]; exact Int32.le_refl _
    simp only [FX8_droneAtRank_L22, FX8_droneAtRank_B22, FX8_droneAtRank_B89, FX8_droneAtRank_B108, w_I0, w_I1, w_I2, w_I3, w_I4, w_R5, w_R6, w_R7, w_R8, w_R9, w_R10, w_R11, w_R12, w_R13, w_R14, w_R15, w_I16, w_I17, w_I18, w_I19, w_I20, w_I21, w_vc, w_a0, w_s0, w_a1, w_s1, w_a2, w_s2, w_a3, w_s3, w_a4, w_s4, w_a5, w_s5, w_a6, w_s6, w_a7, w_s7, w_a8, w_s8, w_a9, w_s9, w_a10, w_s10, w_p0, w_p1, w_p2, w_p3, w_p4, w_p16, w_p17, w_p18, w_p19, w_p20, w_p21, o_0, o_1, o_2, o_3, o_4, o_5, hm, i_0, z_0, i_1, z_1, i_2, z_2, i_3, z_3, i_4, z_4, i_5, z_5, i_6, z_6, i_7, z_7, i_8, z_8, hn, nI_1, fo, h1, if_true, bnd, rt]
    all_goals rfl
  | succ k ih =>
    intro f i a  hi hfuu
    obtain ⟨f, rfl⟩ : ∃ g, f = g + 1 := ⟨f - 1, by omega⟩
    have h1 : ¬ nI n ≤ nI i := nI_ge (by omega) (by omega)
    have h3 : (nI i).toNatClampNeg = i := nI_clamp (by omega)
    simp only [FX8_droneAtRank_L22, FX8_droneAtRank_B22, FX8_droneAtRank_B89, FX8_droneAtRank_B108, w_I0, w_I1, w_I2, w_I3, w_I4, w_R5, w_R6, w_R7, w_R8, w_R9, w_R10, w_R11, w_R12, w_R13, w_R14, w_R15, w_I16, w_I17, w_I18, w_I19, w_I20, w_I21, w_vc, w_a0, w_s0, w_a1, w_s1, w_a2, w_s2, w_a3, w_s3, w_a4, w_s4, w_a5, w_s5, w_a6, w_s6, w_a7, w_s7, w_a8, w_s8, w_a9, w_s9, w_a10, w_s10, w_p0, w_p1, w_p2, w_p3, w_p4, w_p16, w_p17, w_p18, w_p19, w_p20, w_p21, o_0, o_1, o_2, o_3, o_4, o_5, hm, i_0, z_0, i_1, z_1, i_2, z_2, i_3, z_3, i_4, z_4, i_5, z_5, i_6, z_6, i_7, z_7, i_8, z_8, hn, Int32.add_zero, nI_leI (show d < 2 ^ 31 by omega) (show i < 2 ^ 31 by omega), iv_0 hd, cv_0 hd, iv_1 hd, cv_1 hd, iv_2 hd, cv_2 hd, iv_3 hd, cv_3 hd, iv_4 hd, cv_4 hd, iv_5 hd, cv_5 hd, iv_0 (show i < 10 by omega), cv_0 (show i < 10 by omega), iv_1 (show i < 10 by omega), cv_1 (show i < 10 by omega), iv_2 (show i < 10 by omega), cv_2 (show i < 10 by omega), iv_3 (show i < 10 by omega), cv_3 (show i < 10 by omega), iv_4 (show i < 10 by omega), cv_4 (show i < 10 by omega), iv_5 (show i < 10 by omega), cv_5 (show i < 10 by omega), h1, h3, nI_1, if_true, if_false, bnd, rt]
    simp only [fo, mr1, mby]
    by_cases g : M 0 (13 + 6 * d + 2) - M 0 (13 + 6 * i + 2) = 0
    · simp only [g, if_true]
      by_cases g2 : 0 < M 0 (13 + 6 * i + 1) - M 0 (13 + 6 * d + 1)
      · simp only [g2, if_true]
        exact ih _ _ _ (by omega) (by omega)
      · simp only [g2, if_false]
        by_cases g3 : M 0 (13 + 6 * i + 1) - M 0 (13 + 6 * d + 1) = 0
        · simp only [g3, if_true]
          by_cases g4 : d ≤ i
          · simp only [g4, if_true]
            exact ih _ _ _ (by omega) (by omega)
          · simp only [g4, if_false]
            exact ih _ _ _ (by omega) (by omega)
        · simp only [g3, if_false]
          exact ih _ _ _ (by omega) (by omega)
    · simp only [g, if_false]
      by_cases g2 : 0 < M 0 (13 + 6 * d + 2) - M 0 (13 + 6 * i + 2)
      · simp only [g2, if_true]
        exact ih _ _ _ (by omega) (by omega)
      · simp only [g2, if_false]
        exact ih _ _ _ (by omega) (by omega)
theorem l_mr {M : Mg} {x : Int32} (hm : 0 < m) (hn : M 0 0 = nI n) (hn9 : n ≤ 10) : ∀ k f i , i + k = n → k < f → FX8_droneAtRank_L7 f m x (nI i) (pum μ m M) = (if ffi (fun d => fo (mr1 M d) 0 n (0 : Int32) = x) i k = -1 then rt 0 (pum μ m (mF M 1)) else rt (ffi (fun d => fo (mr1 M d) 0 n (0 : Int32) = x) i k) (pum μ m M)) := by
  intro k
  induction k with
  | zero =>
    intro f i   hi hfuu
    obtain ⟨f, rfl⟩ : ∃ g, f = g + 1 := ⟨f - 1, by omega⟩
    have h1 : nI n ≤ nI i := by rw [show i = n by omega]; exact Int32.le_refl _
    simp only [FX8_droneAtRank_L7, FX8_droneAtRank_B7, w_I0, w_I1, w_I2, w_I3, w_I4, w_R5, w_R6, w_R7, w_R8, w_R9, w_R10, w_R11, w_R12, w_R13, w_R14, w_R15, w_I16, w_I17, w_I18, w_I19, w_I20, w_I21, w_vc, w_a0, w_s0, w_a1, w_s1, w_a2, w_s2, w_a3, w_s3, w_a4, w_s4, w_a5, w_s5, w_a6, w_s6, w_a7, w_s7, w_a8, w_s8, w_a9, w_s9, w_a10, w_s10, w_p0, w_p1, w_p2, w_p3, w_p4, w_p16, w_p17, w_p18, w_p19, w_p20, w_p21, o_0, o_1, o_2, o_3, o_4, o_5, hm, i_0, z_0, i_1, z_1, i_2, z_2, i_3, z_3, i_4, z_4, i_5, z_5, i_6, z_6, i_7, z_7, i_8, z_8, hn, e_fail hm, ffi, mF, h1, if_true, bnd, rt]
    all_goals rfl
  | succ k ih =>
    intro f i   hi hfuu
    obtain ⟨f, rfl⟩ : ∃ g, f = g + 1 := ⟨f - 1, by omega⟩
    have h1 : ¬ nI n ≤ nI i := nI_ge (by omega) (by omega)
    have h3 : (nI i).toNatClampNeg = i := nI_clamp (by omega)
    simp only [FX8_droneAtRank_L7, FX8_droneAtRank_B7, w_I0, w_I1, w_I2, w_I3, w_I4, w_R5, w_R6, w_R7, w_R8, w_R9, w_R10, w_R11, w_R12, w_R13, w_R14, w_R15, w_I16, w_I17, w_I18, w_I19, w_I20, w_I21, w_vc, w_a0, w_s0, w_a1, w_s1, w_a2, w_s2, w_a3, w_s3, w_a4, w_s4, w_a5, w_s5, w_a6, w_s6, w_a7, w_s7, w_a8, w_s8, w_a9, w_s9, w_a10, w_s10, w_p0, w_p1, w_p2, w_p3, w_p4, w_p16, w_p17, w_p18, w_p19, w_p20, w_p21, o_0, o_1, o_2, o_3, o_4, o_5, hm, i_0, z_0, i_1, z_1, i_2, z_2, i_3, z_3, i_4, z_4, i_5, z_5, i_6, z_6, i_7, z_7, i_8, z_8, hn, h1, h3, nI_1, if_true, if_false, bnd, rt]
    have h2 := l_mr2 (μ := μ) (M := M) (x := x) (k7 := FX8_droneAtRank_L7 f) hm (show i < 10 by omega) hn hn9 n FU 0 0 (by omega) (by unfold FU; omega)
    rw [nI_0] at h2
    rw [h2]
    simp only [ffi]
    by_cases g : fo (mr1 M i) 0 n 0 = x
    · simp only [g, if_true, m1_ne (show i < 2 ^ 31 by omega), if_false]
      rfl
    · simp only [g, if_false]
      exact ih f (i + 1) (by omega) (by omega)
theorem e_mr {M : Mg} {x : Int32} (hm : 0 < m) (hn : M 0 0 = nI n) (hn9 : n ≤ 10) : FX8_droneAtRank m x (pum μ m M) = if ffi (fun d => fo (mr1 (mF M 0) d) 0 n (0 : Int32) = x) 0 n = -1 then rt 0 (pum μ m (mF (mF M 0) 1)) else rt (ffi (fun d => fo (mr1 (mF M 0) d) 0 n (0 : Int32) = x) 0 n) (pum μ m (mF M 0)) := by
  have h := l_mr (μ := μ) (M := mF M 0) (x := x) hm (T0_v.trans hn) hn9 n FU 0 (by omega) (by unfold FU; omega)
  simp only [FX8_droneAtRank, w_I0, w_I1, w_I2, w_I3, w_I4, w_R5, w_R6, w_R7, w_R8, w_R9, w_R10, w_R11, w_R12, w_R13, w_R14, w_R15, w_I16, w_I17, w_I18, w_I19, w_I20, w_I21, w_vc, w_a0, w_s0, w_a1, w_s1, w_a2, w_s2, w_a3, w_s3, w_a4, w_s4, w_a5, w_s5, w_a6, w_s6, w_a7, w_s7, w_a8, w_s8, w_a9, w_s9, w_a10, w_s10, w_p0, w_p1, w_p2, w_p3, w_p4, w_p16, w_p17, w_p18, w_p19, w_p20, w_p21, o_0, o_1, o_2, o_3, o_4, o_5, hm, i_0, z_0, i_1, z_1, i_2, z_2, i_3, z_3, i_4, z_4, i_5, z_5, i_6, z_6, i_7, z_7, i_8, z_8]
  exact h
end M5
