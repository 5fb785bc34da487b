/-! ===== the model's tick ===== -/
theorem nI81 (i : Nat) : (81 : Int32) + 3 * nI i = nI (81 + 3 * i) := by rw [show (3 : Int32) = nI 3 from rfl, nI_mul]; exact nI_add 81 (3 * i)
theorem nIp1 (a : Nat) : nI a + 1 = nI (a + 1) := nI_1 a
theorem nIp2 (a : Nat) : nI a + 2 = nI (a + 2) := nI_add a 2
theorem iv81 {i w : Nat} (h : i < 12) (hw : w < 3) : inb (nI (81 + 3 * i + w)) 117 = true := inb_n (by omega) (by omega)
theorem cv81 {i w : Nat} (h : i < 12) (hw : w < 3) : (nI (81 + 3 * i + w)).toNatClampNeg = 81 + 3 * i + w := nI_clamp (by omega)
theorem iv81a {i : Nat} (h : i < 12) : inb (nI (81 + 3 * i)) 117 = true := inb_n (by omega) (by omega)
theorem cv81a {i : Nat} (h : i < 12) : (nI (81 + 3 * i)).toNatClampNeg = 81 + 3 * i := nI_clamp (by omega)
section M4
variable {μ : Me} {m n q : Nat}
/-- a cue is carried from place d to place j -/
def mcy (j d : Nat) (w : Nat) (M : Mg) : Mg := mS M 0 (81 + 3 * j + w) (M 0 (81 + 3 * d + w))
theorem l_mcy {j d : Nat} {k4 : Nat → Int32 → Int32 → Me → Rs Unit} (hm : 0 < m) (hj : j < 12) (hd : d < 12) : ∀ k f i (M : Mg), i + k = 3 → k < f → FX8_cues_L76 k4 f m (nI j) (nI d) (nI (81 + 3 * d)) (nI (81 + 3 * j)) (nI i) (pum μ m M) = k4 m (nI (j + 1)) (nI (d + 1)) (pum μ m (fo (mcy j d) i k M)) := by
  intro k
  induction k with
  | zero =>
    intro f i M  hi hfuu
    obtain ⟨f, rfl⟩ : ∃ g, f = g + 1 := ⟨f - 1, by omega⟩
    have h1 : (3 : Int32) ≤ nI i := by rw [show i = 3 by omega]; decide
    simp only [FX8_cues_L76, FX8_cues_B76, w_I0, w_I1, w_I2, w_I3, w_I4, w_R5, w_R6, w_R7, w_R8, w_R9, w_R10, w_R11, w_R12, w_R13, w_R14, w_R15, w_I16, w_I17, w_I18, w_I19, w_I20, w_I21, w_vc, w_a0, w_s0, w_a1, w_s1, w_a2, w_s2, w_a3, w_s3, w_a4, w_s4, w_a5, w_s5, w_a6, w_s6, w_a7, w_s7, w_a8, w_s8, w_a9, w_s9, w_a10, w_s10, w_p0, w_p1, w_p2, w_p3, w_p4, w_p16, w_p17, w_p18, w_p19, w_p20, w_p21, o_0, o_1, o_2, o_3, o_4, o_5, hm, i_0, z_0, i_1, z_1, i_2, z_2, i_3, z_3, i_4, z_4, i_5, z_5, i_6, z_6, i_7, z_7, i_8, z_8, nI_1, h1, if_true, bnd, rt]
    rfl
  | succ k ih =>
    intro f i M  hi hfuu
    obtain ⟨f, rfl⟩ : ∃ g, f = g + 1 := ⟨f - 1, by omega⟩
    have h1 : ¬ (3 : Int32) ≤ nI i := fun h => absurd ((nI_leI (a := 3) (b := i) (by omega) (by omega)).mp h) (by omega)
    have h3 : (nI i).toNatClampNeg = i := nI_clamp (by omega)
    simp only [FX8_cues_L76, FX8_cues_B76, w_I0, w_I1, w_I2, w_I3, w_I4, w_R5, w_R6, w_R7, w_R8, w_R9, w_R10, w_R11, w_R12, w_R13, w_R14, w_R15, w_I16, w_I17, w_I18, w_I19, w_I20, w_I21, w_vc, w_a0, w_s0, w_a1, w_s1, w_a2, w_s2, w_a3, w_s3, w_a4, w_s4, w_a5, w_s5, w_a6, w_s6, w_a7, w_s7, w_a8, w_s8, w_a9, w_s9, w_a10, w_s10, w_p0, w_p1, w_p2, w_p3, w_p4, w_p16, w_p17, w_p18, w_p19, w_p20, w_p21, o_0, o_1, o_2, o_3, o_4, o_5, hm, i_0, z_0, i_1, z_1, i_2, z_2, i_3, z_3, i_4, z_4, i_5, z_5, i_6, z_6, i_7, z_7, i_8, z_8, nI_add, iv81 hj (show i < 3 by omega), cv81 hj (show i < 3 by omega), iv81 hd (show i < 3 by omega), cv81 hd (show i < 3 by omega), h1, h3, nI_1, if_true, if_false, bnd, rt]
    simp only [fo]
    have h := ih f (i + 1) (mcy j d i M) (by omega) (by omega)
    refine Eq.trans ?_ h
    rfl
theorem l_mze (hm : 0 < m) : ∀ k f i (M : Mg), i + k = 117 → k < f → FX8_cues_L131 f m (nI i) (pum μ m M) = rt () (pum μ m (fo (fun k M => mS M 0 k 0) i k M)) := by
  intro k
  induction k with
  | zero =>
    intro f i M  hi hfuu
    obtain ⟨f, rfl⟩ : ∃ g, f = g + 1 := ⟨f - 1, by omega⟩
    have h1 : (117 : Int32) ≤ nI i := by rw [show i = 117 by omega]; decide
    simp only [FX8_cues_L131, FX8_cues_B131, w_I0, w_I1, w_I2, w_I3, w_I4, w_R5, w_R6, w_R7, w_R8, w_R9, w_R10, w_R11, w_R12, w_R13, w_R14, w_R15, w_I16, w_I17, w_I18, w_I19, w_I20, w_I21, w_vc, w_a0, w_s0, w_a1, w_s1, w_a2, w_s2, w_a3, w_s3, w_a4, w_s4, w_a5, w_s5, w_a6, w_s6, w_a7, w_s7, w_a8, w_s8, w_a9, w_s9, w_a10, w_s10, w_p0, w_p1, w_p2, w_p3, w_p4, w_p16, w_p17, w_p18, w_p19, w_p20, w_p21, o_0, o_1, o_2, o_3, o_4, o_5, hm, i_0, z_0, i_1, z_1, i_2, z_2, i_3, z_3, i_4, z_4, i_5, z_5, i_6, z_6, i_7, z_7, i_8, z_8, h1, if_true, bnd, rt]
    rfl
  | succ k ih =>
    intro f i M  hi hfuu
    obtain ⟨f, rfl⟩ : ∃ g, f = g + 1 := ⟨f - 1, by omega⟩
    have h1 : ¬ (117 : Int32) ≤ nI i := fun h => absurd ((nI_leI (a := 117) (b := i) (by omega) (by omega)).mp h) (by omega)
    have h2_117 : inb (nI i) 117 = true := inb_n (by omega) (by omega)
    have h3 : (nI i).toNatClampNeg = i := nI_clamp (by omega)
    simp only [FX8_cues_L131, FX8_cues_B131, w_I0, w_I1, w_I2, w_I3, w_I4, w_R5, w_R6, w_R7, w_R8, w_R9, w_R10, w_R11, w_R12, w_R13, w_R14, w_R15, w_I16, w_I17, w_I18, w_I19, w_I20, w_I21, w_vc, w_a0, w_s0, w_a1, w_s1, w_a2, w_s2, w_a3, w_s3, w_a4, w_s4, w_a5, w_s5, w_a6, w_s6, w_a7, w_s7, w_a8, w_s8, w_a9, w_s9, w_a10, w_s10, w_p0, w_p1, w_p2, w_p3, w_p4, w_p16, w_p17, w_p18, w_p19, w_p20, w_p21, o_0, o_1, o_2, o_3, o_4, o_5, hm, i_0, z_0, i_1, z_1, i_2, z_2, i_3, z_3, i_4, z_4, i_5, z_5, i_6, z_6, i_7, z_7, i_8, z_8, h1, h2_117, h3, nI_1, if_true, if_false, bnd, rt]
    simp only [fo]
    exact ih _ _ _ (by omega) (by omega)
/-- a cue's turn -/
def mfi (d : Nat) (z : Mg × Nat) : Mg × Nat := if z.1 0 (81 + 3 * d + 1) = z.1 0 3 then (mS z.1 0 (13 + 6 * (z.1 0 (81 + 3 * d)).toNatClampNeg + 3) (z.1 0 (81 + 3 * d + 2)), z.2) else (fo (mcy z.2 d) 0 3 z.1, z.2 + 1)
def mce (z : Mg × Nat) : Mg := fo (fun k M => mS M 0 k 0) (81 + 3 * z.2) (117 - (81 + 3 * z.2)) (mS z.1 0 8 (nI z.2))
/-- what a cue's turn leaves -/
theorem mcy_c {j d : Nat} {M : Mg} : ∀ {p : Nat}, (p < 81 + 3 * j ∨ 84 + 3 * j ≤ p) → (fo (mcy j d) 0 3 M) 0 p = M 0 p := by
  intro p hp
  have h1 : ¬ p = 81 + 3 * j + 0 := by omega
  have h2 : ¬ p = 81 + 3 * j + 1 := by omega
  have h3 : ¬ p = 81 + 3 * j + 2 := by omega
  simp only [fo, mcy, mS, upd, if_true]
  simp [h1, h2, h3]
  intro h; omega
theorem mcy_r {j d r : Nat} {M : Mg} (hr : ¬ r = 0) : (fo (mcy j d) 0 3 M) r = M r := by
  simp [fo, mcy, mS, hr]
/-- the cue stands in its new place -/
theorem mcy_in {j d : Nat} {M : Mg} (h : j ≤ d) : ∀ w, w < 3 → (fo (mcy j d) 0 3 M) 0 (81 + 3 * j + w) = M 0 (81 + 3 * d + w) := by
  intro w hw
  by_cases hjd : j = d
  · subst hjd
    rcases (show w = 0 ∨ w = 1 ∨ w = 2 by omega) with e | e | e <;> subst e <;> simp [fo, mcy, mS, upd]
  · rcases (show w = 0 ∨ w = 1 ∨ w = 2 by omega) with e | e | e <;> subst e
    · have a1 : ¬ 81 + 3 * j + 0 = 81 + 3 * j + 1 := by omega
      have a2 : ¬ 81 + 3 * j + 0 = 81 + 3 * j + 2 := by omega
      simp [fo, mcy, mS, upd]
    · have a1 : ¬ 81 + 3 * d + 1 = 81 + 3 * j := by omega
      simp [fo, mcy, mS, upd, a1]
    · have a1 : ¬ 81 + 3 * d + 2 = 81 + 3 * j := by omega
      have a2 : ¬ 81 + 3 * d + 2 = 81 + 3 * j + 1 := by omega
      simp [fo, mcy, mS, upd, a1, a2]
theorem l_mfi (hm : 0 < m) (hn9 : n ≤ 10) (hq9 : q ≤ 12) : ∀ k f i (M : Mg) (j : Nat), M 0 8 = nI q → j ≤ i → (∀ e, i ≤ e → e < q → ∃ d, d < n ∧ M 0 (81 + 3 * e) = nI d) → i + k = q → k < f → FX8_cues_L4 f m (nI j) (nI i) (pum μ m M) = rt () (pum μ m (mce (fo (mfi) i k (M, j)))) := by
  intro k
  induction k with
  | zero =>
    intro f i M j hq hji hd hi hfuu
    obtain ⟨f, rfl⟩ : ∃ g, f = g + 1 := ⟨f - 1, by omega⟩
    have h1 : nI q ≤ nI i := by rw [show i = q by omega]; exact Int32.le_refl _
    simp only [FX8_cues_L4, FX8_cues_B4, w_I0, w_I1, w_I2, w_I3, w_I4, w_R5, w_R6, w_R7, w_R8, w_R9, w_R10, w_R11, w_R12, w_R13, w_R14, w_R15, w_I16, w_I17, w_I18, w_I19, w_I20, w_I21, w_vc, w_a0, w_s0, w_a1, w_s1, w_a2, w_s2, w_a3, w_s3, w_a4, w_s4, w_a5, w_s5, w_a6, w_s6, w_a7, w_s7, w_a8, w_s8, w_a9, w_s9, w_a10, w_s10, w_p0, w_p1, w_p2, w_p3, w_p4, w_p16, w_p17, w_p18, w_p19, w_p20, w_p21, o_0, o_1, o_2, o_3, o_4, o_5, hm, i_0, z_0, i_1, z_1, i_2, z_2, i_3, z_3, i_4, z_4, i_5, z_5, i_6, z_6, i_7, z_7, i_8, z_8, hq, nI81, h1, if_true, bnd, rt]
    have h81 : 81 + 3 * j ≤ 117 := by omega
    have h := l_mze (μ := μ) hm (117 - (81 + 3 * j)) FU (81 + 3 * j) (mS M 0 8 (nI j)) (by omega) (by unfold FU; omega)
    exact h
  | succ k ih =>
    intro f i M j hq hji hd hi hfuu
    obtain ⟨f, rfl⟩ : ∃ g, f = g + 1 := ⟨f - 1, by omega⟩
    have h1 : ¬ nI q ≤ nI i := nI_ge (by omega) (by omega)
    have h3 : (nI i).toNatClampNeg = i := nI_clamp (by omega)
    simp only [FX8_cues_L4, FX8_cues_B4, w_I0, w_I1, w_I2, w_I3, w_I4, w_R5, w_R6, w_R7, w_R8, w_R9, w_R10, w_R11, w_R12, w_R13, w_R14, w_R15, w_I16, w_I17, w_I18, w_I19, w_I20, w_I21, w_vc, w_a0, w_s0, w_a1, w_s1, w_a2, w_s2, w_a3, w_s3, w_a4, w_s4, w_a5, w_s5, w_a6, w_s6, w_a7, w_s7, w_a8, w_s8, w_a9, w_s9, w_a10, w_s10, w_p0, w_p1, w_p2, w_p3, w_p4, w_p16, w_p17, w_p18, w_p19, w_p20, w_p21, o_0, o_1, o_2, o_3, o_4, o_5, hm, i_0, z_0, i_1, z_1, i_2, z_2, i_3, z_3, i_4, z_4, i_5, z_5, i_6, z_6, i_7, z_7, i_8, z_8, hq, nI81, nIp1, nIp2, iv81a (show i < 12 by omega), cv81a (show i < 12 by omega), iv81 (show i < 12 by omega) (show 1 < 3 by omega), cv81 (show i < 12 by omega) (show 1 < 3 by omega), iv81 (show i < 12 by omega) (show 2 < 3 by omega), cv81 (show i < 12 by omega) (show 2 < 3 by omega), h1, h3, nI_1, if_true, if_false, bnd, rt]
    simp only [fo]
    obtain ⟨dn, hdn, hde⟩ := hd i (Nat.le_refl _) (by omega)
    have hdn9 : dn < 10 := by omega
    by_cases a : M 0 (81 + 3 * i + 1) = M 0 3
    · simp only [a, if_true, mfi]
      have hdc : (M 0 (81 + 3 * i)).toNatClampNeg = dn := by rw [hde]; exact nI_clamp (by omega)
      simp only [hde, hdc, o_3, rt, iv_3 hdn9, cv_3 hdn9, if_true, nI_clamp (show dn < 2 ^ 31 by omega), w_R5 hm, w_a0, w_s0, iv81 (show i < 12 by omega) (show 2 < 3 by omega), cv81 (show i < 12 by omega) (show 2 < 3 by omega)]
      have h8 : ¬ 8 = 13 + 6 * dn + 3 := by omega
      have h3 : ¬ 3 = 13 + 6 * dn + 3 := by omega
      refine ih f (i + 1) (mS M 0 (13 + 6 * dn + 3) (M 0 (81 + 3 * i + 2))) j (by simp only [mS, upd, h8, if_false, if_true]; exact hq) (by omega) (fun e he1 he2 => ?_) (by omega) (by omega)
      have he : ¬ 81 + 3 * e = 13 + 6 * dn + 3 := by omega
      simp only [mS, upd, he, if_false, if_true]
      exact hd e (by omega) he2
    · simp only [a, if_false, mfi]
      rw [show (0 : Int32) = nI 0 from nI_0.symm, l_mcy hm (show j < 12 by omega) (show i < 12 by omega) 3 FU 0 M (by omega) (by unfold FU; omega)]
      refine ih f (i + 1) (fo (mcy j i) 0 3 M) (j + 1) ((mcy_c (by omega)).trans hq) (by omega) (fun e he1 he2 => ?_) (by omega) (by omega)
      rw [mcy_c (by omega)]
      exact hd e (by omega) he2
theorem e_mcu {M : Mg} (hm : 0 < m) (hn9 : n ≤ 10) (hq9 : q ≤ 12) (hq : M 0 8 = nI q) (hd : ∀ e, e < q → ∃ d, d < n ∧ M 0 (81 + 3 * e) = nI d) : FX8_cues m (pum μ m M) = rt () (pum μ m (mce (fo mfi 0 q (M, 0)))) :=
  l_mfi hm hn9 hq9 q FU 0 M 0 hq (Nat.le_refl _) (fun e _ he => hd e he) (by omega) (by unfold FU; omega)
/-! moves -/
def mto (M : Mg) (n d : Nat) : Int32 := if mocc M n (mwi M d) < 0 then mwi M d else if M 0 (13 + 6 * d + 0) / 8 = (M 0 (13 + 6 * d + 4) - 1) / 8 then mwi M d else if (M 0 (13 + 6 * d + 0) - M 0 (13 + 6 * d + 0) / 8 * 8) = ((M 0 (13 + 6 * d + 4) - 1) - (M 0 (13 + 6 * d + 4) - 1) / 8 * 8) then mwi M d else toC (M 0 (13 + 6 * d + 0)) (M 0 (13 + 6 * d + 4) - 1)
def mmv (M : Mg) (n d : Nat) : Int32 × Mg := if mocc M n (mto M n d) < 0 then (1, mS M 0 (13 + 6 * d + 0) (mto M n d)) else (0, mS M 0 5 (M 0 5 + 1))
theorem e_mmv {M : Mg} {d : Nat} (hm : 0 < m) (hn : M 0 0 = nI n) (hn9 : n ≤ 10) (hd9 : d < 10) : FX8_moves m (nI d) (pum μ m M) = rt (mmv M n d).1 (pum μ m (mmv M n d).2) := by
  have hB : ∀ t, FX8_moves_B62 m (nI d) t (pum μ m M) = rt (if mocc M n t < 0 then ((1 : Int32), mS M 0 (13 + 6 * d + 0) t) else (0, mS M 0 5 (M 0 5 + 1))).1 (pum μ m (if mocc M n t < 0 then ((1 : Int32), mS M 0 (13 + 6 * d + 0) t) else (0, mS M 0 5 (M 0 5 + 1))).2) := by
    intro t
    simp only [FX8_moves_B62, e_in hm hn hn9, w_I0, w_I1, w_I2, w_I3, w_I4, w_R5, w_R6, w_R7, w_R8, w_R9, w_R10, w_R11, w_R12, w_R13, w_R14, w_R15, w_I16, w_I17, w_I18, w_I19, w_I20, w_I21, w_vc, w_a0, w_s0, w_a1, w_s1, w_a2, w_s2, w_a3, w_s3, w_a4, w_s4, w_a5, w_s5, w_a6, w_s6, w_a7, w_s7, w_a8, w_s8, w_a9, w_s9, w_a10, w_s10, w_p0, w_p1, w_p2, w_p3, w_p4, w_p16, w_p17, w_p18, w_p19, w_p20, w_p21, o_0, o_1, o_2, o_3, o_4, o_5, hm, i_0, z_0, i_1, z_1, i_2, z_2, i_3, z_3, i_4, z_4, i_5, z_5, i_6, z_6, i_7, z_7, i_8, z_8, iv_0 hd9, cv_0 hd9, iv_1 hd9, cv_1 hd9, iv_2 hd9, cv_2 hd9, iv_3 hd9, cv_3 hd9, iv_4 hd9, cv_4 hd9, iv_5 hd9, cv_5 hd9, if_true, bnd, rt]
    by_cases a : mocc M n t < 0
    · simp only [a, if_true]
    · simp only [a, if_false]
  simp only [FX8_moves, e_goal hm hd9, e_mwi hm hd9, e_in hm hn hn9, e_toC, hB, w_I0, w_I1, w_I2, w_I3, w_I4, w_R5, w_R6, w_R7, w_R8, w_R9, w_R10, w_R11, w_R12, w_R13, w_R14, w_R15, w_I16, w_I17, w_I18, w_I19, w_I20, w_I21, w_vc, w_a0, w_s0, w_a1, w_s1, w_a2, w_s2, w_a3, w_s3, w_a4, w_s4, w_a5, w_s5, w_a6, w_s6, w_a7, w_s7, w_a8, w_s8, w_a9, w_s9, w_a10, w_s10, w_p0, w_p1, w_p2, w_p3, w_p4, w_p16, w_p17, w_p18, w_p19, w_p20, w_p21, o_0, o_1, o_2, o_3, o_4, o_5, hm, i_0, z_0, i_1, z_1, i_2, z_2, i_3, z_3, i_4, z_4, i_5, z_5, i_6, z_6, i_7, z_7, i_8, z_8, iv_0 hd9, cv_0 hd9, iv_1 hd9, cv_1 hd9, iv_2 hd9, cv_2 hd9, iv_3 hd9, cv_3 hd9, iv_4 hd9, cv_4 hd9, iv_5 hd9, cv_5 hd9, if_true, bnd, rt, mmv, mto]
  split
  · rfl
  · split
    · rfl
    · split <;> rfl
/-- the move of a drone, with its note -/
def mm1 (n d : Nat) (z : Mg × Int32) : Mg × Int32 := if mwa z.1 d = 0 then (mS z.1 5 d 0, z.2 + 0) else (mS (mmv z.1 n d).2 5 d (mmv z.1 n d).1, z.2 + (mmv z.1 n d).1)
theorem mm1_c {d j : Nat} {z : Mg × Int32} (h : j < 13 ∨ 73 ≤ j) (h5 : ¬ j = 5) (hd : d < 10) : (mm1 n d z).1 0 j = z.1 0 j := by
  have h0 : ¬ j = 13 + 6 * d := by omega
  unfold mm1 mmv
  split
  · simp [mS]
  · split <;> simp [mS, upd, h0, h5]
def mlo (d : Nat) (M : Mg) : Mg := if fl1 (M 0 (13 + 6 * d + 1)) = 0 then M else if 0 ≤ (M 0 (13 + 6 * d + 2) - 1) - M 5 d then mS M 0 (13 + 6 * d + 2) ((M 0 (13 + 6 * d + 2) - 1) - M 5 d) else mS M 0 (13 + 6 * d + 2) 0
theorem mlo_c {d j : Nat} {M : Mg} (h : j < 13 ∨ 73 ≤ j) (hd : d < 10) : (mlo d M) 0 j = M 0 j := by
  have h0 : ¬ j = 13 + 6 * d + 2 := by omega
  unfold mlo
  split
  · rfl
  · split <;> simp only [mS, upd, h0, if_false, if_true]
theorem e_mlo {M : Mg} {d : Nat} (hm : 0 < m) (hd9 : d < 10) (hf : ¬ fl1 (M 0 (13 + 6 * d + 1)) = 0) : FX8_lowers m (nI d) (pum μ m M) = rt () (pum μ m (mlo d M)) := by
  have h2 : inb (nI d) 10 = true := inb_n hd9 (by omega)
  have h3 : (nI d).toNatClampNeg = d := nI_clamp (by omega)
  simp only [FX8_lowers, w_I0, w_I1, w_I2, w_I3, w_I4, w_R5, w_R6, w_R7, w_R8, w_R9, w_R10, w_R11, w_R12, w_R13, w_R14, w_R15, w_I16, w_I17, w_I18, w_I19, w_I20, w_I21, w_vc, w_a0, w_s0, w_a1, w_s1, w_a2, w_s2, w_a3, w_s3, w_a4, w_s4, w_a5, w_s5, w_a6, w_s6, w_a7, w_s7, w_a8, w_s8, w_a9, w_s9, w_a10, w_s10, w_p0, w_p1, w_p2, w_p3, w_p4, w_p16, w_p17, w_p18, w_p19, w_p20, w_p21, o_0, o_1, o_2, o_3, o_4, o_5, hm, i_0, z_0, i_1, z_1, i_2, z_2, i_3, z_3, i_4, z_4, i_5, z_5, i_6, z_6, i_7, z_7, i_8, z_8, iv_0 hd9, cv_0 hd9, iv_1 hd9, cv_1 hd9, iv_2 hd9, cv_2 hd9, iv_3 hd9, cv_3 hd9, iv_4 hd9, cv_4 hd9, iv_5 hd9, cv_5 hd9, h2, h3, if_true, bnd, rt, mlo, hf, if_false]
  split <;> rfl
/-- the nearest pad so far -/
def mnp (M : Mg) (x : Int32) (p : Nat) (b : Int32) : Int32 := if dst x (M 0 (9 + p)) - dst x b < 0 then M 0 (9 + p) else if dst x (M 0 (9 + p)) - dst x b = 0 then (if b ≤ M 0 (9 + p) then b else M 0 (9 + p)) else b
theorem l_mnp {M : Mg} {x : Int32} (hm : 0 < m) (hk : M 0 1 = nI q) (hk9 : q ≤ 4) : ∀ k f i (b : Int32), i + k = q → k < f → FX8_nearest_L22 f m x b (nI i) (pum μ m M) = rt (fo (mnp M x) i k b) (pum μ m M) := by
  intro k
  induction k with
  | zero =>
    intro f i b  hi hfuu
    obtain ⟨f, rfl⟩ : ∃ g, f = g + 1 := ⟨f - 1, by omega⟩
    have h1 : nI q ≤ nI i := by rw [show i = q by omega]; exact Int32.le_refl _
    simp only [FX8_nearest_L22, FX8_nearest_B22, FX8_nearest_B79, w_I0, w_I1, w_I2, w_I3, w_I4, w_R5, w_R6, w_R7, w_R8, w_R9, w_R10, w_R11, w_R12, w_R13, w_R14, w_R15, w_I16, w_I17, w_I18, w_I19, w_I20, w_I21, w_vc, w_a0, w_s0, w_a1, w_s1, w_a2, w_s2, w_a3, w_s3, w_a4, w_s4, w_a5, w_s5, w_a6, w_s6, w_a7, w_s7, w_a8, w_s8, w_a9, w_s9, w_a10, w_s10, w_p0, w_p1, w_p2, w_p3, w_p4, w_p16, w_p17, w_p18, w_p19, w_p20, w_p21, o_0, o_1, o_2, o_3, o_4, o_5, hm, i_0, z_0, i_1, z_1, i_2, z_2, i_3, z_3, i_4, z_4, i_5, z_5, i_6, z_6, i_7, z_7, i_8, z_8, hk, h1, if_true, bnd, rt]
    rfl
  | succ k ih =>
    intro f i b  hi hfuu
    obtain ⟨f, rfl⟩ : ∃ g, f = g + 1 := ⟨f - 1, by omega⟩
    have h1 : ¬ nI q ≤ nI i := nI_ge (by omega) (by omega)
    have h3 : (nI i).toNatClampNeg = i := nI_clamp (by omega)
    simp only [FX8_nearest_L22, FX8_nearest_B22, FX8_nearest_B79, w_I0, w_I1, w_I2, w_I3, w_I4, w_R5, w_R6, w_R7, w_R8, w_R9, w_R10, w_R11, w_R12, w_R13, w_R14, w_R15, w_I16, w_I17, w_I18, w_I19, w_I20, w_I21, w_vc, w_a0, w_s0, w_a1, w_s1, w_a2, w_s2, w_a3, w_s3, w_a4, w_s4, w_a5, w_s5, w_a6, w_s6, w_a7, w_s7, w_a8, w_s8, w_a9, w_s9, w_a10, w_s10, w_p0, w_p1, w_p2, w_p3, w_p4, w_p16, w_p17, w_p18, w_p19, w_p20, w_p21, o_0, o_1, o_2, o_3, o_4, o_5, hm, i_0, z_0, i_1, z_1, i_2, z_2, i_3, z_3, i_4, z_4, i_5, z_5, i_6, z_6, i_7, z_7, i_8, z_8, hk, nI9, iv9 (show i < 4 by omega), cv9 (show i < 4 by omega), e_far, h1, h3, nI_1, if_true, if_false, bnd, rt]
    simp only [fo, mnp]
    by_cases a : dst x (M 0 (9 + i)) - dst x b < 0
    · simp only [a, if_true]
      exact ih _ _ _ (by omega) (by omega)
    · simp only [a, if_false]
      by_cases e : dst x (M 0 (9 + i)) - dst x b = 0
      · simp only [e, if_true]
        by_cases g : b ≤ M 0 (9 + i)
        · simp only [g, if_true]
          exact ih _ _ _ (by omega) (by omega)
        · simp only [g, if_false]
          exact ih _ _ _ (by omega) (by omega)
      · simp only [e, if_false]
        exact ih _ _ _ (by omega) (by omega)
def mne (M : Mg) (q d : Nat) : Int32 := fo (mnp M (M 0 (13 + 6 * d + 0))) 1 (q - 1) (M 0 9)
theorem i9 : inb 9 117 = true := by decide
theorem z9 : (9 : Int32).toNatClampNeg = 9 := by decide
theorem e_mne {M : Mg} {d : Nat} (hm : 0 < m) (hk : M 0 1 = nI q) (hk9 : q ≤ 4) (hq0 : 0 < q) (hd9 : d < 10) : FX8_nearest m (nI d) (pum μ m M) = rt (mne M q d) (pum μ m M) := by
  have h := l_mnp (μ := μ) (x := M 0 (13 + 6 * d + 0)) hm hk hk9 (q - 1) FU 1 (M 0 9) (by omega) (by unfold FU; omega)
  simp only [FX8_nearest, w_I0, w_I1, w_I2, w_I3, w_I4, w_R5, w_R6, w_R7, w_R8, w_R9, w_R10, w_R11, w_R12, w_R13, w_R14, w_R15, w_I16, w_I17, w_I18, w_I19, w_I20, w_I21, w_vc, w_a0, w_s0, w_a1, w_s1, w_a2, w_s2, w_a3, w_s3, w_a4, w_s4, w_a5, w_s5, w_a6, w_s6, w_a7, w_s7, w_a8, w_s8, w_a9, w_s9, w_a10, w_s10, w_p0, w_p1, w_p2, w_p3, w_p4, w_p16, w_p17, w_p18, w_p19, w_p20, w_p21, o_0, o_1, o_2, o_3, o_4, o_5, hm, i_0, z_0, i_1, z_1, i_2, z_2, i_3, z_3, i_4, z_4, i_5, z_5, i_6, z_6, i_7, z_7, i_8, z_8, iv_0 hd9, cv_0 hd9, iv_1 hd9, cv_1 hd9, iv_2 hd9, cv_2 hd9, iv_3 hd9, cv_3 hd9, iv_4 hd9, cv_4 hd9, iv_5 hd9, cv_5 hd9, i9, z9, if_true, bnd, rt]
  exact h
def mal0 (q d : Nat) (M : Mg) : Mg := if q = 0 then mS (mgr M d) 0 7 (M 0 7 + 1) else mS (mS (mS M 0 (13 + 6 * d + 5) 1) 0 (13 + 6 * d + 4) (mne (mS M 0 (13 + 6 * d + 5) 1) q d + 1)) 0 6 (M 0 6 + 1)
theorem e_mal0 {M : Mg} {d : Nat} (hm : 0 < m) (hk : M 0 1 = nI q) (hk9 : q ≤ 4) (hd9 : d < 10) : FX8_alarms m (nI d) (pum μ m M) = rt () (pum μ m (mal0 q d M)) := by
  have hz : nI q = 0 ↔ q = 0 := nI_eq (a := q) (b := 0) (by omega) (by omega)
  have h7 : (mgr M d) 0 7 = M 0 7 := mgr_c (by omega)
  have e1 : (mS M 0 (13 + 6 * d + 5) 1) 0 1 = nI q := by
    have h0 : ¬ 1 = 13 + 6 * d + 5 := by omega
    simp only [mS, upd, h0, if_false, if_true, hk]
  simp only [FX8_alarms, w_I0, w_I1, w_I2, w_I3, w_I4, w_R5, w_R6, w_R7, w_R8, w_R9, w_R10, w_R11, w_R12, w_R13, w_R14, w_R15, w_I16, w_I17, w_I18, w_I19, w_I20, w_I21, w_vc, w_a0, w_s0, w_a1, w_s1, w_a2, w_s2, w_a3, w_s3, w_a4, w_s4, w_a5, w_s5, w_a6, w_s6, w_a7, w_s7, w_a8, w_s8, w_a9, w_s9, w_a10, w_s10, w_p0, w_p1, w_p2, w_p3, w_p4, w_p16, w_p17, w_p18, w_p19, w_p20, w_p21, o_0, o_1, o_2, o_3, o_4, o_5, hm, i_0, z_0, i_1, z_1, i_2, z_2, i_3, z_3, i_4, z_4, i_5, z_5, i_6, z_6, i_7, z_7, i_8, z_8, iv_0 hd9, cv_0 hd9, iv_1 hd9, cv_1 hd9, iv_2 hd9, cv_2 hd9, iv_3 hd9, cv_3 hd9, iv_4 hd9, cv_4 hd9, iv_5 hd9, cv_5 hd9, hk, hz, e_mgr hm hd9, h7, if_true, if_false, bnd, rt, mal0]
  by_cases a : q = 0
  · simp only [a, if_true]
  · have e2 : ∀ z, (mS (mS M 0 (13 + 6 * d + 5) 1) 0 (13 + 6 * d + 4) z) 0 6 = M 0 6 := by
      intro z
      have h0 : ¬ 6 = 13 + 6 * d + 5 := by omega
      have h4 : ¬ 6 = 13 + 6 * d + 4 := by omega
      simp only [mS, upd, h0, h4, if_false, if_true]
    simp only [a, if_false, e_mne hm e1 hk9 (by omega) hd9, rt, w_I0, w_I1, w_I2, w_I3, w_I4, w_R5, w_R6, w_R7, w_R8, w_R9, w_R10, w_R11, w_R12, w_R13, w_R14, w_R15, w_I16, w_I17, w_I18, w_I19, w_I20, w_I21, w_vc, w_a0, w_s0, w_a1, w_s1, w_a2, w_s2, w_a3, w_s3, w_a4, w_s4, w_a5, w_s5, w_a6, w_s6, w_a7, w_s7, w_a8, w_s8, w_a9, w_s9, w_a10, w_s10, w_p0, w_p1, w_p2, w_p3, w_p4, w_p16, w_p17, w_p18, w_p19, w_p20, w_p21, o_0, o_1, o_2, o_3, o_4, o_5, hm, i_0, z_0, i_1, z_1, i_2, z_2, i_3, z_3, i_4, z_4, i_5, z_5, i_6, z_6, i_7, z_7, i_8, z_8, iv_0 hd9, cv_0 hd9, iv_1 hd9, cv_1 hd9, iv_2 hd9, cv_2 hd9, iv_3 hd9, cv_3 hd9, iv_4 hd9, cv_4 hd9, iv_5 hd9, cv_5 hd9, e2, if_true]
def mal (q d : Nat) (M : Mg) : Mg := if mtp M d = 0 then M else if M 0 2 < M 0 (13 + 6 * d + 2) then M else mal0 q d M
theorem mal_c {d j : Nat} {M : Mg} (h : j < 13 ∨ 73 ≤ j) (h6 : ¬ j = 6) (h7 : ¬ j = 7) (hd : d < 10) : (mal q d M) 0 j = M 0 j := by
  have h1 : ¬ j = 13 + 6 * d + 1 := by omega
  have h4 : ¬ j = 13 + 6 * d + 4 := by omega
  have h5 : ¬ j = 13 + 6 * d + 5 := by omega
  unfold mal mal0 mgr
  split
  · rfl
  · split
    · rfl
    · split <;> simp only [mS, upd, h1, h4, h5, h6, h7, if_false, if_true]
/-- a drone's landing or fall -/
def mse (d : Nat) (M : Mg) : Mg := if fl1 (M 0 (13 + 6 * d + 1)) = 0 then M else if ¬ fl1 (M 0 (13 + 6 * d + 5)) = 0 ∧ M 0 (13 + 6 * d + 4) - 1 = M 0 (13 + 6 * d + 0) then mgr (mS M 0 7 (M 0 7 + 0)) d else if M 0 (13 + 6 * d + 2) ≤ 0 then mgr (mS M 0 7 (M 0 7 + 1)) d else M
theorem mse_c {d j : Nat} {M : Mg} (h : j < 13 ∨ 73 ≤ j) (h7 : ¬ j = 7) (hd : d < 10) : (mse d M) 0 j = M 0 j := by
  have h1 : ¬ j = 13 + 6 * d + 1 := by omega
  have h4 : ¬ j = 13 + 6 * d + 4 := by omega
  have h5 : ¬ j = 13 + 6 * d + 5 := by omega
  unfold mse mgr
  split
  · rfl
  · split
    · simp only [mS, upd, h1, h4, h5, h7, if_false, if_true]
    · split
      · simp only [mS, upd, h1, h4, h5, h7, if_false, if_true]
      · rfl
theorem e_mse {M : Mg} {d : Nat} (hm : 0 < m) (hd9 : d < 10) (hf : ¬ fl1 (M 0 (13 + 6 * d + 1)) = 0) : FX8_settles m (nI d) (pum μ m M) = rt () (pum μ m (mse d M)) := by
  have z1 : ¬ (1 : Int32) = 0 := by decide
  simp only [FX8_settles, FX8_settles_B30, FX8_settles_B31, FX8_settles_B50, FX8_settles_B67, e_urg hm hd9, e_goal hm hd9, w_I0, w_I1, w_I2, w_I3, w_I4, w_R5, w_R6, w_R7, w_R8, w_R9, w_R10, w_R11, w_R12, w_R13, w_R14, w_R15, w_I16, w_I17, w_I18, w_I19, w_I20, w_I21, w_vc, w_a0, w_s0, w_a1, w_s1, w_a2, w_s2, w_a3, w_s3, w_a4, w_s4, w_a5, w_s5, w_a6, w_s6, w_a7, w_s7, w_a8, w_s8, w_a9, w_s9, w_a10, w_s10, w_p0, w_p1, w_p2, w_p3, w_p4, w_p16, w_p17, w_p18, w_p19, w_p20, w_p21, o_0, o_1, o_2, o_3, o_4, o_5, hm, i_0, z_0, i_1, z_1, i_2, z_2, i_3, z_3, i_4, z_4, i_5, z_5, i_6, z_6, i_7, z_7, i_8, z_8, iv_0 hd9, cv_0 hd9, iv_1 hd9, cv_1 hd9, iv_2 hd9, cv_2 hd9, iv_3 hd9, cv_3 hd9, iv_4 hd9, cv_4 hd9, iv_5 hd9, cv_5 hd9, e_mgr hm hd9, if_true, if_false, bnd, rt, mse, hf, z1]
  by_cases a : fl1 (M 0 (13 + 6 * d + 5)) = 0
  · simp only [a, if_true, not_true, false_and, if_false]
    split <;> rfl
  · simp only [a, if_false, not_false_iff, true_and]
    split
    · rfl
    · split <;> rfl
def mch (q d : Nat) (M : Mg) : Mg := if fl1 (M 0 (13 + 6 * d + 1)) = 0 then (if mpc M q (M 0 (13 + 6 * d + 0)) = 0 then M else if M 0 (13 + 6 * d + 2) + 5 ≤ 100 then mS M 0 (13 + 6 * d + 2) (M 0 (13 + 6 * d + 2) + 5) else mS M 0 (13 + 6 * d + 2) 100) else M
theorem mch_c {d j : Nat} {M : Mg} (h : j < 13 ∨ 73 ≤ j) (hd : d < 10) : (mch q d M) 0 j = M 0 j := by
  have h0 : ¬ j = 13 + 6 * d + 2 := by omega
  unfold mch
  split
  · split
    · rfl
    · split <;> simp only [mS, upd, h0, if_false, if_true]
  · rfl
theorem fo_c {f : Nat → Mg → Mg} {j : Nat} (hf : ∀ d M, d < 10 → (f d M) 0 j = M 0 j) : ∀ k i (M : Mg), i + k ≤ 10 → (fo f i k M) 0 j = M 0 j := by
  intro k
  induction k with
  | zero => intros; rfl
  | succ k ih =>
    intro i M hi
    simp only [fo]
    rw [ih (i + 1) _ (by omega), hf i M (by omega)]
theorem l_t190 {a : Int32} (hm : 0 < m) (hn9 : n ≤ 10) (hk9 : q ≤ 4) : ∀ k f i (M : Mg), M 0 0 = nI n → M 0 1 = nI q → i + k = n → k < f → FX8_tick_L190 f m a (nI i) (pum μ m M) = rt a (pum μ m (fo (mch q) i k M)) := by
  intro k
  induction k with
  | zero =>
    intro f i M hn hk hi hfuu
    obtain ⟨f, rfl⟩ : ∃ g, f = g + 1 := ⟨f - 1, by omega⟩
    have h1 : nI n ≤ nI i := by rw [show i = n by omega]; exact Int32.le_refl _
    simp only [FX8_tick_L190, FX8_tick_B190, w_I0, w_I1, w_I2, w_I3, w_I4, w_R5, w_R6, w_R7, w_R8, w_R9, w_R10, w_R11, w_R12, w_R13, w_R14, w_R15, w_I16, w_I17, w_I18, w_I19, w_I20, w_I21, w_vc, w_a0, w_s0, w_a1, w_s1, w_a2, w_s2, w_a3, w_s3, w_a4, w_s4, w_a5, w_s5, w_a6, w_s6, w_a7, w_s7, w_a8, w_s8, w_a9, w_s9, w_a10, w_s10, w_p0, w_p1, w_p2, w_p3, w_p4, w_p16, w_p17, w_p18, w_p19, w_p20, w_p21, o_0, o_1, o_2, o_3, o_4, o_5, hm, i_0, z_0, i_1, z_1, i_2, z_2, i_3, z_3, i_4, z_4, i_5, z_5, i_6, z_6, i_7, z_7, i_8, z_8, hn, h1, if_true, bnd, rt]
    rfl
  | succ k ih =>
    intro f i M hn hk hi hfuu
    obtain ⟨f, rfl⟩ : ∃ g, f = g + 1 := ⟨f - 1, by omega⟩
    have h1 : ¬ nI n ≤ nI i := nI_ge (by omega) (by omega)
    have h2_10 : inb (nI i) 10 = true := inb_n (by omega) (by omega)
    have h3 : (nI i).toNatClampNeg = i := nI_clamp (by omega)
    simp only [FX8_tick_L190, FX8_tick_B190, w_I0, w_I1, w_I2, w_I3, w_I4, w_R5, w_R6, w_R7, w_R8, w_R9, w_R10, w_R11, w_R12, w_R13, w_R14, w_R15, w_I16, w_I17, w_I18, w_I19, w_I20, w_I21, w_vc, w_a0, w_s0, w_a1, w_s1, w_a2, w_s2, w_a3, w_s3, w_a4, w_s4, w_a5, w_s5, w_a6, w_s6, w_a7, w_s7, w_a8, w_s8, w_a9, w_s9, w_a10, w_s10, w_p0, w_p1, w_p2, w_p3, w_p4, w_p16, w_p17, w_p18, w_p19, w_p20, w_p21, o_0, o_1, o_2, o_3, o_4, o_5, hm, i_0, z_0, i_1, z_1, i_2, z_2, i_3, z_3, i_4, z_4, i_5, z_5, i_6, z_6, i_7, z_7, i_8, z_8, hn, e_flies hm (show i < 10 by omega), e_ipc hm hk hk9, iv_0 (show i < 10 by omega), cv_0 (show i < 10 by omega), iv_1 (show i < 10 by omega), cv_1 (show i < 10 by omega), iv_2 (show i < 10 by omega), cv_2 (show i < 10 by omega), iv_3 (show i < 10 by omega), cv_3 (show i < 10 by omega), iv_4 (show i < 10 by omega), cv_4 (show i < 10 by omega), iv_5 (show i < 10 by omega), cv_5 (show i < 10 by omega), h1, h2_10, h3, nI_1, if_true, if_false, bnd, rt]
    simp only [fo]
    have h := ih f (i + 1) (mch q i M) ((mch_c (j := 0) (Or.inl (by omega)) (by omega)).trans hn) ((mch_c (j := 1) (Or.inl (by omega)) (by omega)).trans hk) (by omega) (by omega)
    refine Eq.trans ?_ h
    simp only [mch]
    by_cases a1 : fl1 (M 0 (13 + 6 * i + 1)) = 0
    · simp only [a1, if_true]
      by_cases a2 : mpc M q (M 0 (13 + 6 * i + 0)) = 0
      · simp only [a2, if_true]
      · simp only [a2, if_false]
        by_cases a3 : M 0 (13 + 6 * i + 2) + 5 ≤ 100
        · simp only [a3, if_true]
        · simp only [a3, if_false]
    · simp only [a1, if_false]
theorem l_t159 {a : Int32} (hm : 0 < m) (hn9 : n ≤ 10) (hk9 : q ≤ 4) : ∀ k f i (M : Mg), M 0 0 = nI n → M 0 1 = nI q → i + k = n → k < f → FX8_tick_L159 f m a (nI i) (pum μ m M) = FX8_tick_L190 FU m a 0 (pum μ m (fo mse i k M)) := by
  intro k
  induction k with
  | zero =>
    intro f i M hn hk hi hfuu
    obtain ⟨f, rfl⟩ : ∃ g, f = g + 1 := ⟨f - 1, by omega⟩
    have h1 : nI n ≤ nI i := by rw [show i = n by omega]; exact Int32.le_refl _
    simp only [FX8_tick_L159, FX8_tick_B159, w_I0, w_I1, w_I2, w_I3, w_I4, w_R5, w_R6, w_R7, w_R8, w_R9, w_R10, w_R11, w_R12, w_R13, w_R14, w_R15, w_I16, w_I17, w_I18, w_I19, w_I20, w_I21, w_vc, w_a0, w_s0, w_a1, w_s1, w_a2, w_s2, w_a3, w_s3, w_a4, w_s4, w_a5, w_s5, w_a6, w_s6, w_a7, w_s7, w_a8, w_s8, w_a9, w_s9, w_a10, w_s10, w_p0, w_p1, w_p2, w_p3, w_p4, w_p16, w_p17, w_p18, w_p19, w_p20, w_p21, o_0, o_1, o_2, o_3, o_4, o_5, hm, i_0, z_0, i_1, z_1, i_2, z_2, i_3, z_3, i_4, z_4, i_5, z_5, i_6, z_6, i_7, z_7, i_8, z_8, hn, h1, if_true, bnd, rt]
    rfl
  | succ k ih =>
    intro f i M hn hk hi hfuu
    obtain ⟨f, rfl⟩ : ∃ g, f = g + 1 := ⟨f - 1, by omega⟩
    have h1 : ¬ nI n ≤ nI i := nI_ge (by omega) (by omega)
    have h2_10 : inb (nI i) 10 = true := inb_n (by omega) (by omega)
    have h3 : (nI i).toNatClampNeg = i := nI_clamp (by omega)
    simp only [FX8_tick_L159, FX8_tick_B159, w_I0, w_I1, w_I2, w_I3, w_I4, w_R5, w_R6, w_R7, w_R8, w_R9, w_R10, w_R11, w_R12, w_R13, w_R14, w_R15, w_I16, w_I17, w_I18, w_I19, w_I20, w_I21, w_vc, w_a0, w_s0, w_a1, w_s1, w_a2, w_s2, w_a3, w_s3, w_a4, w_s4, w_a5, w_s5, w_a6, w_s6, w_a7, w_s7, w_a8, w_s8, w_a9, w_s9, w_a10, w_s10, w_p0, w_p1, w_p2, w_p3, w_p4, w_p16, w_p17, w_p18, w_p19, w_p20, w_p21, o_0, o_1, o_2, o_3, o_4, o_5, hm, i_0, z_0, i_1, z_1, i_2, z_2, i_3, z_3, i_4, z_4, i_5, z_5, i_6, z_6, i_7, z_7, i_8, z_8, hn, e_flies hm (show i < 10 by omega), iv_0 (show i < 10 by omega), cv_0 (show i < 10 by omega), iv_1 (show i < 10 by omega), cv_1 (show i < 10 by omega), iv_2 (show i < 10 by omega), cv_2 (show i < 10 by omega), iv_3 (show i < 10 by omega), cv_3 (show i < 10 by omega), iv_4 (show i < 10 by omega), cv_4 (show i < 10 by omega), iv_5 (show i < 10 by omega), cv_5 (show i < 10 by omega), h1, h2_10, h3, nI_1, if_true, if_false, bnd, rt]
    simp only [fo]
    have h := ih f (i + 1) (mse i M) ((mse_c (j := 0) (Or.inl (by omega)) (by omega) (by omega)).trans hn) ((mse_c (j := 1) (Or.inl (by omega)) (by omega) (by omega)).trans hk) (by omega) (by omega)
    refine Eq.trans ?_ h
    by_cases a1 : fl1 (M 0 (13 + 6 * i + 1)) = 0
    · simp only [a1, if_true, mse]
    · simp only [a1, if_false, e_mse (μ := μ) hm (show i < 10 by omega) a1, rt]
theorem l_t109 {a : Int32} (hm : 0 < m) (hn9 : n ≤ 10) (hk9 : q ≤ 4) : ∀ k f i (M : Mg), M 0 0 = nI n → M 0 1 = nI q → i + k = n → k < f → FX8_tick_L109 f m a (nI i) (pum μ m M) = FX8_tick_L159 FU m a 0 (pum μ m (fo (mal q) i k M)) := by
  intro k
  induction k with
  | zero =>
    intro f i M hn hk hi hfuu
    obtain ⟨f, rfl⟩ : ∃ g, f = g + 1 := ⟨f - 1, by omega⟩
    have h1 : nI n ≤ nI i := by rw [show i = n by omega]; exact Int32.le_refl _
    simp only [FX8_tick_L109, FX8_tick_B109, w_I0, w_I1, w_I2, w_I3, w_I4, w_R5, w_R6, w_R7, w_R8, w_R9, w_R10, w_R11, w_R12, w_R13, w_R14, w_R15, w_I16, w_I17, w_I18, w_I19, w_I20, w_I21, w_vc, w_a0, w_s0, w_a1, w_s1, w_a2, w_s2, w_a3, w_s3, w_a4, w_s4, w_a5, w_s5, w_a6, w_s6, w_a7, w_s7, w_a8, w_s8, w_a9, w_s9, w_a10, w_s10, w_p0, w_p1, w_p2, w_p3, w_p4, w_p16, w_p17, w_p18, w_p19, w_p20, w_p21, o_0, o_1, o_2, o_3, o_4, o_5, hm, i_0, z_0, i_1, z_1, i_2, z_2, i_3, z_3, i_4, z_4, i_5, z_5, i_6, z_6, i_7, z_7, i_8, z_8, hn, h1, if_true, bnd, rt]
    rfl
  | succ k ih =>
    intro f i M hn hk hi hfuu
    obtain ⟨f, rfl⟩ : ∃ g, f = g + 1 := ⟨f - 1, by omega⟩
    have h1 : ¬ nI n ≤ nI i := nI_ge (by omega) (by omega)
    have h2_10 : inb (nI i) 10 = true := inb_n (by omega) (by omega)
    have h3 : (nI i).toNatClampNeg = i := nI_clamp (by omega)
    simp only [FX8_tick_L109, FX8_tick_B109, w_I0, w_I1, w_I2, w_I3, w_I4, w_R5, w_R6, w_R7, w_R8, w_R9, w_R10, w_R11, w_R12, w_R13, w_R14, w_R15, w_I16, w_I17, w_I18, w_I19, w_I20, w_I21, w_vc, w_a0, w_s0, w_a1, w_s1, w_a2, w_s2, w_a3, w_s3, w_a4, w_s4, w_a5, w_s5, w_a6, w_s6, w_a7, w_s7, w_a8, w_s8, w_a9, w_s9, w_a10, w_s10, w_p0, w_p1, w_p2, w_p3, w_p4, w_p16, w_p17, w_p18, w_p19, w_p20, w_p21, o_0, o_1, o_2, o_3, o_4, o_5, hm, i_0, z_0, i_1, z_1, i_2, z_2, i_3, z_3, i_4, z_4, i_5, z_5, i_6, z_6, i_7, z_7, i_8, z_8, hn, e_mtp hm (show i < 10 by omega), e_mal0 hm hk hk9 (show i < 10 by omega), iv_0 (show i < 10 by omega), cv_0 (show i < 10 by omega), iv_1 (show i < 10 by omega), cv_1 (show i < 10 by omega), iv_2 (show i < 10 by omega), cv_2 (show i < 10 by omega), iv_3 (show i < 10 by omega), cv_3 (show i < 10 by omega), iv_4 (show i < 10 by omega), cv_4 (show i < 10 by omega), iv_5 (show i < 10 by omega), cv_5 (show i < 10 by omega), h1, h2_10, h3, nI_1, if_true, if_false, bnd, rt]
    simp only [fo]
    have h := ih f (i + 1) (mal q i M) ((mal_c (j := 0) (Or.inl (by omega)) (by omega) (by omega) (by omega)).trans hn) ((mal_c (j := 1) (Or.inl (by omega)) (by omega) (by omega) (by omega)).trans hk) (by omega) (by omega)
    refine Eq.trans ?_ h
    simp only [mal]
    by_cases a1 : mtp M i = 0
    · simp only [a1, if_true]
    · simp only [a1, if_false]
      by_cases a2 : M 0 2 < M 0 (13 + 6 * i + 2)
      · simp only [a2, if_true]
      · simp only [a2, if_false]
theorem l_t78 {a : Int32} (hm : 0 < m) (hn9 : n ≤ 10) (hk9 : q ≤ 4) : ∀ k f i (M : Mg), M 0 0 = nI n → M 0 1 = nI q → i + k = n → k < f → FX8_tick_L78 f m a (nI i) (pum μ m M) = FX8_tick_L109 FU m a 0 (pum μ m (fo mlo i k M)) := by
  intro k
  induction k with
  | zero =>
    intro f i M hn hk hi hfuu
    obtain ⟨f, rfl⟩ : ∃ g, f = g + 1 := ⟨f - 1, by omega⟩
    have h1 : nI n ≤ nI i := by rw [show i = n by omega]; exact Int32.le_refl _
    simp only [FX8_tick_L78, FX8_tick_B78, w_I0, w_I1, w_I2, w_I3, w_I4, w_R5, w_R6, w_R7, w_R8, w_R9, w_R10, w_R11, w_R12, w_R13, w_R14, w_R15, w_I16, w_I17, w_I18, w_I19, w_I20, w_I21, w_vc, w_a0, w_s0, w_a1, w_s1, w_a2, w_s2, w_a3, w_s3, w_a4, w_s4, w_a5, w_s5, w_a6, w_s6, w_a7, w_s7, w_a8, w_s8, w_a9, w_s9, w_a10, w_s10, w_p0, w_p1, w_p2, w_p3, w_p4, w_p16, w_p17, w_p18, w_p19, w_p20, w_p21, o_0, o_1, o_2, o_3, o_4, o_5, hm, i_0, z_0, i_1, z_1, i_2, z_2, i_3, z_3, i_4, z_4, i_5, z_5, i_6, z_6, i_7, z_7, i_8, z_8, hn, h1, if_true, bnd, rt]
    rfl
  | succ k ih =>
    intro f i M hn hk hi hfuu
    obtain ⟨f, rfl⟩ : ∃ g, f = g + 1 := ⟨f - 1, by omega⟩
    have h1 : ¬ nI n ≤ nI i := nI_ge (by omega) (by omega)
    have h2_10 : inb (nI i) 10 = true := inb_n (by omega) (by omega)
    have h3 : (nI i).toNatClampNeg = i := nI_clamp (by omega)
    simp only [FX8_tick_L78, FX8_tick_B78, w_I0, w_I1, w_I2, w_I3, w_I4, w_R5, w_R6, w_R7, w_R8, w_R9, w_R10, w_R11, w_R12, w_R13, w_R14, w_R15, w_I16, w_I17, w_I18, w_I19, w_I20, w_I21, w_vc, w_a0, w_s0, w_a1, w_s1, w_a2, w_s2, w_a3, w_s3, w_a4, w_s4, w_a5, w_s5, w_a6, w_s6, w_a7, w_s7, w_a8, w_s8, w_a9, w_s9, w_a10, w_s10, w_p0, w_p1, w_p2, w_p3, w_p4, w_p16, w_p17, w_p18, w_p19, w_p20, w_p21, o_0, o_1, o_2, o_3, o_4, o_5, hm, i_0, z_0, i_1, z_1, i_2, z_2, i_3, z_3, i_4, z_4, i_5, z_5, i_6, z_6, i_7, z_7, i_8, z_8, hn, e_flies hm (show i < 10 by omega), iv_0 (show i < 10 by omega), cv_0 (show i < 10 by omega), iv_1 (show i < 10 by omega), cv_1 (show i < 10 by omega), iv_2 (show i < 10 by omega), cv_2 (show i < 10 by omega), iv_3 (show i < 10 by omega), cv_3 (show i < 10 by omega), iv_4 (show i < 10 by omega), cv_4 (show i < 10 by omega), iv_5 (show i < 10 by omega), cv_5 (show i < 10 by omega), h1, h2_10, h3, nI_1, if_true, if_false, bnd, rt]
    simp only [fo]
    have h := ih f (i + 1) (mlo i M) ((mlo_c (j := 0) (Or.inl (by omega)) (by omega)).trans hn) ((mlo_c (j := 1) (Or.inl (by omega)) (by omega)).trans hk) (by omega) (by omega)
    refine Eq.trans ?_ h
    by_cases a1 : fl1 (M 0 (13 + 6 * i + 1)) = 0
    · simp only [a1, if_true, mlo]
    · simp only [a1, if_false, e_mlo (μ := μ) hm (show i < 10 by omega) a1, rt]
theorem l_t18 (hm : 0 < m) (hn9 : n ≤ 10) (hk9 : q ≤ 4) : ∀ k f i (M : Mg) (a : Int32), M 0 0 = nI n → i + k = n → k < f → FX8_tick_L18 f m a (nI i) (pum μ m M) = FX8_tick_L78 FU m (fo (mm1 n) i k (M, a)).2 0 (pum μ m (mS (fo (mm1 n) i k (M, a)).1 0 4 ((fo (mm1 n) i k (M, a)).1 0 4 + (fo (mm1 n) i k (M, a)).2))) := by
  intro k
  induction k with
  | zero =>
    intro f i M a hn hi hfuu
    obtain ⟨f, rfl⟩ : ∃ g, f = g + 1 := ⟨f - 1, by omega⟩
    have h1 : nI n ≤ nI i := by rw [show i = n by omega]; exact Int32.le_refl _
    simp only [FX8_tick_L18, FX8_tick_B18, FX8_tick_B50, w_I0, w_I1, w_I2, w_I3, w_I4, w_R5, w_R6, w_R7, w_R8, w_R9, w_R10, w_R11, w_R12, w_R13, w_R14, w_R15, w_I16, w_I17, w_I18, w_I19, w_I20, w_I21, w_vc, w_a0, w_s0, w_a1, w_s1, w_a2, w_s2, w_a3, w_s3, w_a4, w_s4, w_a5, w_s5, w_a6, w_s6, w_a7, w_s7, w_a8, w_s8, w_a9, w_s9, w_a10, w_s10, w_p0, w_p1, w_p2, w_p3, w_p4, w_p16, w_p17, w_p18, w_p19, w_p20, w_p21, o_0, o_1, o_2, o_3, o_4, o_5, hm, i_0, z_0, i_1, z_1, i_2, z_2, i_3, z_3, i_4, z_4, i_5, z_5, i_6, z_6, i_7, z_7, i_8, z_8, hn, fo, h1, if_true, bnd, rt]
    all_goals rfl
  | succ k ih =>
    intro f i M a hn hi hfuu
    obtain ⟨f, rfl⟩ : ∃ g, f = g + 1 := ⟨f - 1, by omega⟩
    have h1 : ¬ nI n ≤ nI i := nI_ge (by omega) (by omega)
    have h2_10 : inb (nI i) 10 = true := inb_n (by omega) (by omega)
    have h3 : (nI i).toNatClampNeg = i := nI_clamp (by omega)
    simp only [FX8_tick_L18, FX8_tick_B18, FX8_tick_B50, w_I0, w_I1, w_I2, w_I3, w_I4, w_R5, w_R6, w_R7, w_R8, w_R9, w_R10, w_R11, w_R12, w_R13, w_R14, w_R15, w_I16, w_I17, w_I18, w_I19, w_I20, w_I21, w_vc, w_a0, w_s0, w_a1, w_s1, w_a2, w_s2, w_a3, w_s3, w_a4, w_s4, w_a5, w_s5, w_a6, w_s6, w_a7, w_s7, w_a8, w_s8, w_a9, w_s9, w_a10, w_s10, w_p0, w_p1, w_p2, w_p3, w_p4, w_p16, w_p17, w_p18, w_p19, w_p20, w_p21, o_0, o_1, o_2, o_3, o_4, o_5, hm, i_0, z_0, i_1, z_1, i_2, z_2, i_3, z_3, i_4, z_4, i_5, z_5, i_6, z_6, i_7, z_7, i_8, z_8, hn, e_mwa hm (show i < 10 by omega), e_mmv hm hn hn9 (show i < 10 by omega), h2_10, h1, h2_10, h3, nI_1, if_true, if_false, bnd, rt]
    simp only [fo]
    have h := ih f (i + 1) (mm1 n i (M, a)).1 (mm1 n i (M, a)).2 ((mm1_c (j := 0) (Or.inl (by omega)) (by omega) (by omega)).trans hn) (by omega) (by omega)
    refine Eq.trans ?_ h
    simp only [mm1]
    have e5 : ∀ (N : Mg) x, (mS N 5 i x) 5 i = x := fun N x => by simp [mS, upd]
    by_cases a1 : mwa M i = 0
    · simp only [a1, if_true, e5]
    · simp only [a1, if_false, e5]
/-- the model's tick -/
def mwk (n q : Nat) (z : Mg × Int32) : Mg := fo (mch q) 0 n (fo mse 0 n (fo (mal q) 0 n (fo mlo 0 n (mS z.1 0 4 (z.1 0 4 + z.2)))))
def mcu (M : Mg) : Mg := mce (fo mfi 0 (M 0 8).toNatClampNeg (M, 0))
def mtk (n q : Nat) (M : Mg) : Mg × Int32 := (mwk n q (fo (mm1 n) 0 n (mcu (mS M 0 3 (M 0 3 + 1)), 0)), (fo (mm1 n) 0 n (mcu (mS M 0 3 (M 0 3 + 1)), 0)).2)
/-- what the model must be for its walks not to leave its arrays -/
def WM (M : Mg) (n q : Nat) : Prop := M 0 0 = nI n ∧ n ≤ 10 ∧ M 0 1 = nI q ∧ q ≤ 4 ∧ ∃ c, c ≤ 12 ∧ M 0 8 = nI c ∧ ∀ e, e < c → ∃ d, d < n ∧ M 0 (81 + 3 * e) = nI d
theorem mze_in : ∀ k i (M : Mg) p, (p < i ∨ i + k ≤ p) → (fo (fun k M => mS M 0 k 0) i k M) 0 p = M 0 p := by
  intro k
  induction k with
  | zero => intros; rfl
  | succ k ih =>
    intro i M p hp
    simp only [fo]
    rw [ih (i + 1) _ p (by omega)]
    have h : ¬ p = i := by omega
    simp only [mS, upd, h, if_false, if_true]
theorem mcu_ok {M : Mg} (h : WM M n q) : WM (mcu M) n q ∧ (∀ j, j < 8 → (mcu M) 0 j = M 0 j) := by
  obtain ⟨hn, hn9, hk, hk9, c, hc9, hc, hd⟩ := h
  have hcc : (M 0 8).toNatClampNeg = c := by rw [hc]; exact nI_clamp (by omega)
  have hP := fo_inv (P := fun i (z : Mg × Nat) => (∀ j, j < 9 → z.1 0 j = M 0 j) ∧ z.2 ≤ i ∧ (∀ e, e < z.2 → ∃ d, d < n ∧ z.1 0 (81 + 3 * e) = nI d) ∧ ∀ e, i ≤ e → e < c → ∃ d, d < n ∧ z.1 0 (81 + 3 * e) = nI d) (f := mfi) (k := c) (i := 0) (a := (M, 0)) ⟨fun _ _ => rfl, Nat.le_refl _, fun e he => absurd he (Nat.not_lt_zero e), fun e _ he => hd e he⟩ (fun d z _ hdq hz => by
    obtain ⟨z1, z2, z3, z4⟩ := hz
    obtain ⟨dn, hdn, hde⟩ := z4 d (Nat.le_refl _) (by omega)
    have hdc : (z.1 0 (81 + 3 * d)).toNatClampNeg = dn := by rw [hde]; exact nI_clamp (by omega)
    unfold mfi
    split
    · rw [hdc]
      refine ⟨fun j hj => ?_, by omega, fun e he => ?_, fun e he1 he2 => ?_⟩
      · have h9 : ¬ j = 13 + 6 * dn + 3 := by omega
        simp only [mS, upd, h9, if_false, if_true]; exact z1 j hj
      · have h9 : ¬ 81 + 3 * e = 13 + 6 * dn + 3 := by omega
        simp only [mS, upd, h9, if_false, if_true]; exact z3 e he
      · have h9 : ¬ 81 + 3 * e = 13 + 6 * dn + 3 := by omega
        simp only [mS, upd, h9, if_false, if_true]; exact z4 e (by omega) he2
    · refine ⟨fun j hj => (mcy_c (by omega)).trans (z1 j hj), by simp; omega, fun e he => ?_, fun e he1 he2 => ?_⟩
      · dsimp only at he ⊢
        by_cases hej : e = z.2
        · subst hej
          have := mcy_in (M := z.1) z2 0 (by omega)
          exact ⟨dn, hdn, by rw [Nat.add_zero] at this; rw [this]; exact hde⟩
        · have : e < z.2 := by omega
          rw [mcy_c (by omega)]
          exact z3 e this
      · dsimp only
        rw [mcy_c (by omega)]
        exact z4 e (by omega) he2)
  obtain ⟨p1, p2, p3, -⟩ := hP
  have hj8 : ∀ j, j < 8 → (mcu M) 0 j = M 0 j := by
    intro j hj
    unfold mcu mce
    rw [hcc, mze_in _ _ _ j (Or.inl (by omega))]
    have h8 : ¬ j = 8 := by omega
    simp only [mS, upd, h8, if_false, if_true]
    exact p1 j (by omega)
  refine ⟨⟨(hj8 0 (by omega)).trans hn, hn9, (hj8 1 (by omega)).trans hk, hk9, (fo mfi 0 c (M, 0)).2, by omega, ?_, fun e he => ?_⟩, hj8⟩
  · unfold mcu mce
    rw [hcc, mze_in _ _ _ 8 (Or.inl (by omega))]
    simp only [mS, upd, if_true]
  · unfold mcu mce
    rw [hcc, mze_in _ _ _ (81 + 3 * e) (Or.inl (by omega))]
    have h8 : ¬ 81 + 3 * e = 8 := by omega
    simp only [mS, upd, h8, if_false, if_true]
    exact p3 e he
theorem WM_kept {M N : Mg} (h : WM M n q) (h0 : N 0 0 = M 0 0) (h1 : N 0 1 = M 0 1) (h8 : N 0 8 = M 0 8) (h9 : ∀ e, 81 ≤ e → N 0 e = M 0 e) : WM N n q := by
  obtain ⟨hn, hn9, hk, hk9, c, hc9, hc, hd⟩ := h
  exact ⟨h0.trans hn, hn9, h1.trans hk, hk9, c, hc9, h8.trans hc, fun e he => by rw [h9 _ (by omega)]; exact hd e he⟩
theorem mm1s_c {j : Nat} (h : j < 13 ∨ 73 ≤ j) (h5 : ¬ j = 5) : ∀ k i (z : Mg × Int32), i + k ≤ 10 → (fo (mm1 n) i k z).1 0 j = z.1 0 j := by
  intro k
  induction k with
  | zero => intros; rfl
  | succ k ih =>
    intro i z hi
    simp only [fo]
    rw [ih (i + 1) _ (by omega), mm1_c h h5 (by omega)]
theorem e_mtk {M : Mg} (hm : 0 < m) (h : WM M n q) : FX8_tick m (pum μ m M) = rt (mtk n q M).2 (pum μ m (mtk n q M).1) ∧ WM (mtk n q M).1 n q := by
  have h0 : WM (mS M 0 3 (M 0 3 + 1)) n q := WM_kept h (by simp [mS, upd]) (by simp [mS, upd]) (by simp [mS, upd]) (fun e he => by
    have h3 : ¬ e = 3 := by omega
    simp only [mS, upd, h3, if_false, if_true])
  obtain ⟨h1, h1c⟩ := mcu_ok h0
  have hn9 := h.2.1
  have hk9 := h.2.2.2.1
  generalize hz : fo (mm1 n) 0 n (mcu (mS M 0 3 (M 0 3 + 1)), (0 : Int32)) = z
  have hzc : ∀ j, (j < 13 ∨ 73 ≤ j) → ¬ j = 5 → z.1 0 j = (mcu (mS M 0 3 (M 0 3 + 1))) 0 j := fun j hj h5 => by rw [← hz]; exact mm1s_c hj h5 n 0 _ (by omega)
  have hac : ∀ j, (j < 13 ∨ 73 ≤ j) → ¬ j = 5 → ¬ j = 4 → (mS z.1 0 4 (z.1 0 4 + z.2)) 0 j = (mcu (mS M 0 3 (M 0 3 + 1))) 0 j := fun j hj h5 h4 => by simp only [mS, upd, h4, if_false, if_true]; exact hzc j hj h5
  have w1 : WM (mS z.1 0 4 (z.1 0 4 + z.2)) n q := WM_kept h1 (hac 0 (by omega) (by omega) (by omega)) (hac 1 (by omega) (by omega) (by omega)) (hac 8 (by omega) (by omega) (by omega)) (fun e he => hac e (by omega) (by omega) (by omega))
  have c2 : ∀ j, (j < 13 ∨ 73 ≤ j) → (fo mlo 0 n (mS z.1 0 4 (z.1 0 4 + z.2))) 0 j = (mS z.1 0 4 (z.1 0 4 + z.2)) 0 j := fun j hj => fo_c (fun d M hd => mlo_c hj hd) n 0 _ (by omega)
  have w2 := WM_kept w1 (c2 0 (by omega)) (c2 1 (by omega)) (c2 8 (by omega)) (fun e he => c2 e (by omega))
  generalize hM2 : fo mlo 0 n (mS z.1 0 4 (z.1 0 4 + z.2)) = M2 at w2
  have c3 : ∀ j, (j < 13 ∨ 73 ≤ j) → ¬ j = 6 → ¬ j = 7 → (fo (mal q) 0 n M2) 0 j = M2 0 j := fun j hj h6 h7 => fo_c (fun d M hd => mal_c hj h6 h7 hd) n 0 _ (by omega)
  have w3 := WM_kept w2 (c3 0 (by omega) (by omega) (by omega)) (c3 1 (by omega) (by omega) (by omega)) (c3 8 (by omega) (by omega) (by omega)) (fun e he => c3 e (by omega) (by omega) (by omega))
  generalize hM3 : fo (mal q) 0 n M2 = M3 at w3
  have c4 : ∀ j, (j < 13 ∨ 73 ≤ j) → ¬ j = 7 → (fo mse 0 n M3) 0 j = M3 0 j := fun j hj h7 => fo_c (fun d M hd => mse_c hj h7 hd) n 0 _ (by omega)
  have w4 := WM_kept w3 (c4 0 (by omega) (by omega)) (c4 1 (by omega) (by omega)) (c4 8 (by omega) (by omega)) (fun e he => c4 e (by omega) (by omega))
  generalize hM4 : fo mse 0 n M3 = M4 at w4
  have c5 : ∀ j, (j < 13 ∨ 73 ≤ j) → (fo (mch q) 0 n M4) 0 j = M4 0 j := fun j hj => fo_c (fun d M hd => mch_c hj hd) n 0 _ (by omega)
  have w5 := WM_kept w4 (c5 0 (by omega)) (c5 1 (by omega)) (c5 8 (by omega)) (fun e he => c5 e (by omega))
  have hmtk : mtk n q M = (fo (mch q) 0 n M4, z.2) := by
    unfold mtk mwk
    rw [hz, hM2, hM3, hM4]
  rw [hmtk]
  refine ⟨?_, w5⟩
  obtain ⟨cn, c9, hcq, hcd⟩ := h0.2.2.2.2
  have hcu : FX8_cues m (pum μ m (mS M 0 3 (M 0 3 + 1))) = rt () (pum μ m (mcu (mS M 0 3 (M 0 3 + 1)))) := by
    have hcc : ((mS M 0 3 (M 0 3 + 1)) 0 8).toNatClampNeg = cn := by rw [hcq]; exact nI_clamp (by omega)
    rw [e_mcu (n := n) hm hn9 c9 hcq hcd, mcu, hcc]
  have t1 := l_t18 (μ := μ) hm hn9 hk9 n FU 0 (mcu (mS M 0 3 (M 0 3 + 1))) 0 h1.1 (by omega) (by unfold FU; omega)
  have t2 := l_t78 (μ := μ) (a := z.2) hm hn9 hk9 n FU 0 _ w1.1 w1.2.2.1 (by omega) (by unfold FU; omega)
  have t3 := l_t109 (μ := μ) (a := z.2) hm hn9 hk9 n FU 0 _ w2.1 w2.2.2.1 (by omega) (by unfold FU; omega)
  have t4 := l_t159 (μ := μ) (a := z.2) hm hn9 hk9 n FU 0 _ w3.1 w3.2.2.1 (by omega) (by unfold FU; omega)
  have t5 := l_t190 (μ := μ) (a := z.2) hm hn9 hk9 n FU 0 _ w4.1 w4.2.2.1 (by omega) (by unfold FU; omega)
  rw [nI_0] at t1 t2 t3 t4 t5
  rw [hz] at t1
  rw [hM2] at t2
  rw [hM3] at t3
  rw [hM4] at t4
  simp only [FX8_tick, w_I0, w_I1, w_I2, w_I3, w_I4, w_R5, w_R6, w_R7, w_R8, w_R9, w_R10, w_R11, w_R12, w_R13, w_R14, w_R15, w_I16, w_I17, w_I18, w_I19, w_I20, w_I21, w_vc, w_a0, w_s0, w_a1, w_s1, w_a2, w_s2, w_a3, w_s3, w_a4, w_s4, w_a5, w_s5, w_a6, w_s6, w_a7, w_s7, w_a8, w_s8, w_a9, w_s9, w_a10, w_s10, w_p0, w_p1, w_p2, w_p3, w_p4, w_p16, w_p17, w_p18, w_p19, w_p20, w_p21, o_0, o_1, o_2, o_3, o_4, o_5, hm, i_0, z_0, i_1, z_1, i_2, z_2, i_3, z_3, i_4, z_4, i_5, z_5, i_6, z_6, i_7, z_7, i_8, z_8, hcu, if_true, bnd, rt]
  rw [t1, t2, t3, t4, t5]
  rfl
end M4
