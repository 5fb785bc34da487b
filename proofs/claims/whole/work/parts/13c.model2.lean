/-! ===== the model: formations, assignments, wishes ===== -/
theorem nI73 (i : Nat) : (73 : Int32) + nI i = nI (73 + i) := nI_add 73 i
theorem nI77 (i : Nat) : (77 : Int32) + nI i = nI (77 + i) := nI_add 77 i
theorem iv73 {i : Nat} (h : i < 4) : inb (nI (73 + i)) 117 = true := inb_n (by omega) (by omega)
theorem cv73 {i : Nat} (h : i < 4) : (nI (73 + i)).toNatClampNeg = 73 + i := nI_clamp (by omega)
theorem iv77 {i : Nat} (h : i < 4) : inb (nI (77 + i)) 117 = true := inb_n (by omega) (by omega)
theorem cv77 {i : Nat} (h : i < 4) : (nI (77 + i)).toNatClampNeg = 77 + i := nI_clamp (by omega)
def blg (h c : Int32) : Int32 := if ((h >>> ((c - c / 32 * 32) &&& 31)) &&& 1) = 1 then 1 else 0
def hlf (M : Mg) (f : Nat) (c : Int32) : Int32 := if 32 ≤ c then M 0 (77 + f) else M 0 (73 + f)
def mbl (M : Mg) (f : Nat) (c : Int32) : Int32 := blg (hlf M f c) c
section M2
variable {μ : Me} {m : Nat} {M : Mg} {n q f : Nat}
theorem e_blg {c : Int32} (hm : 0 < m) (hf : f < 4) : FX8_belongs m (nI f) c (pum μ m M) = rt (mbl M f c) (pum μ m M) := by
  have hB : ∀ h, FX8_belongs_B27 c h (pum μ m M) = rt (blg h c) (pum μ m M) := by
    intro h
    unfold FX8_belongs_B27 blg
    split <;> rfl
  simp only [FX8_belongs, w_I0, w_I1, w_I2, w_I3, w_I4, w_R5, w_R6, w_R7, w_R8, w_R9, w_R10, w_R11, w_R12, w_R13, w_R14, w_R15, w_I16, w_I17, w_I18, w_I19, w_I20, w_I21, w_vc, w_a0, w_s0, w_a1, w_s1, w_a2, w_s2, w_a3, w_s3, w_a4, w_s4, w_a5, w_s5, w_a6, w_s6, w_a7, w_s7, w_a8, w_s8, w_a9, w_s9, w_a10, w_s10, w_p0, w_p1, w_p2, w_p3, w_p4, w_p16, w_p17, w_p18, w_p19, w_p20, w_p21, o_0, o_1, o_2, o_3, o_4, o_5, hm, i_0, z_0, i_1, z_1, i_2, z_2, i_3, z_3, i_4, z_4, i_5, z_5, i_6, z_6, i_7, z_7, i_8, z_8, nI73, nI77, iv73 hf, cv73 hf, iv77 hf, cv77 hf, if_true, hB, mbl, hlf]
  split <;> rfl
theorem l_cls (hm : 0 < m) (hf : f < 4) : ∀ k f9 i (acc : Int32), i + k = 64 → k < f9 → FX8_cells_L4 f9 m (nI f) acc (nI i) (pum μ m M) = rt (fo (fun c a => if mbl M f (nI c) = 0 then a else a + 1) i k acc) (pum μ m M) := by
  intro k
  induction k with
  | zero =>
    intro f9 i acc  hi hfuu
    obtain ⟨f9, rfl⟩ : ∃ g, f9 = g + 1 := ⟨f9 - 1, by omega⟩
    have h1 : (64 : Int32) ≤ nI i := by rw [show i = 64 by omega]; decide
    simp only [FX8_cells_L4, FX8_cells_B4, w_I0, w_I1, w_I2, w_I3, w_I4, w_R5, w_R6, w_R7, w_R8, w_R9, w_R10, w_R11, w_R12, w_R13, w_R14, w_R15, w_I16, w_I17, w_I18, w_I19, w_I20, w_I21, w_vc, w_a0, w_s0, w_a1, w_s1, w_a2, w_s2, w_a3, w_s3, w_a4, w_s4, w_a5, w_s5, w_a6, w_s6, w_a7, w_s7, w_a8, w_s8, w_a9, w_s9, w_a10, w_s10, w_p0, w_p1, w_p2, w_p3, w_p4, w_p16, w_p17, w_p18, w_p19, w_p20, w_p21, o_0, o_1, o_2, o_3, o_4, o_5, hm, i_0, z_0, i_1, z_1, i_2, z_2, i_3, z_3, i_4, z_4, i_5, z_5, i_6, z_6, i_7, z_7, i_8, z_8, h1, if_true, bnd, rt]
    rfl
  | succ k ih =>
    intro f9 i acc  hi hfuu
    obtain ⟨f9, rfl⟩ : ∃ g, f9 = g + 1 := ⟨f9 - 1, by omega⟩
    have h1 : ¬ (64 : Int32) ≤ nI i := fun h => absurd ((nI_leI (a := 64) (b := i) (by omega) (by omega)).mp h) (by omega)
    have h3 : (nI i).toNatClampNeg = i := nI_clamp (by omega)
    simp only [FX8_cells_L4, FX8_cells_B4, w_I0, w_I1, w_I2, w_I3, w_I4, w_R5, w_R6, w_R7, w_R8, w_R9, w_R10, w_R11, w_R12, w_R13, w_R14, w_R15, w_I16, w_I17, w_I18, w_I19, w_I20, w_I21, w_vc, w_a0, w_s0, w_a1, w_s1, w_a2, w_s2, w_a3, w_s3, w_a4, w_s4, w_a5, w_s5, w_a6, w_s6, w_a7, w_s7, w_a8, w_s8, w_a9, w_s9, w_a10, w_s10, w_p0, w_p1, w_p2, w_p3, w_p4, w_p16, w_p17, w_p18, w_p19, w_p20, w_p21, o_0, o_1, o_2, o_3, o_4, o_5, hm, i_0, z_0, i_1, z_1, i_2, z_2, i_3, z_3, i_4, z_4, i_5, z_5, i_6, z_6, i_7, z_7, i_8, z_8, e_blg hm hf, Int32.add_zero, h1, h3, nI_1, if_true, if_false, bnd, rt]
    simp only [fo]
    split <;> exact ih _ _ _ (by omega) (by omega)
def mcl (M : Mg) (f : Nat) : Int32 := fo (fun c a => if mbl M f (nI c) = 0 then a else a + 1) 0 64 0
theorem e_cls (hm : 0 < m) (hf : f < 4) : FX8_cells m (nI f) (pum μ m M) = rt (mcl M f) (pum μ m M) := l_cls hm hf 64 FU 0 0 (by omega) (by unfold FU; omega)
theorem isF_i {x : Int32} (h : x < 0 ∨ nI 4 ≤ x) : isI x 0 3 = 0 := isI_out h (by decide) (by decide)
theorem isF_j {f : Nat} (h : f < 4) : isI (nI f) 0 3 = 1 := isI_in (k := 4) h (by decide) (by decide)
theorem isC_i {x : Int32} (h : x < 0 ∨ nI 64 ≤ x) : isI x 0 63 = 0 := isI_out h (by decide) (by decide)
theorem isC_j {c : Nat} (h : c < 64) : isI (nI c) 0 63 = 1 := isI_in (k := 64) h (by decide) (by decide)
theorem e_forms_out1 {x y : Int32} (hm : 0 < m) (h : x < 0 ∨ nI 4 ≤ x) : FX8_forms m x y (pum μ m M) = rt 0 (pum μ m (mF M 1)) := by
  simp only [FX8_forms, FX8_forms_B14, e_misForm, isF_i h, w_I0, w_I1, w_I2, w_I3, w_I4, w_R5, w_R6, w_R7, w_R8, w_R9, w_R10, w_R11, w_R12, w_R13, w_R14, w_R15, w_I16, w_I17, w_I18, w_I19, w_I20, w_I21, w_vc, w_a0, w_s0, w_a1, w_s1, w_a2, w_s2, w_a3, w_s3, w_a4, w_s4, w_a5, w_s5, w_a6, w_s6, w_a7, w_s7, w_a8, w_s8, w_a9, w_s9, w_a10, w_s10, w_p0, w_p1, w_p2, w_p3, w_p4, w_p16, w_p17, w_p18, w_p19, w_p20, w_p21, o_0, o_1, o_2, o_3, o_4, o_5, hm, i_0, z_0, i_1, z_1, i_2, z_2, i_3, z_3, i_4, z_4, i_5, z_5, i_6, z_6, i_7, z_7, i_8, z_8, e_fail hm, if_true, bnd, rt, mF]
theorem e_forms_out2 {y : Int32} (hm : 0 < m) (hf : f < 4) (h : y < 0 ∨ nI 64 ≤ y) : FX8_forms m (nI f) y (pum μ m M) = rt 0 (pum μ m (mF M 1)) := by
  simp only [FX8_forms, FX8_forms_B14, e_misForm, isF_j hf, one_ne, e_misCell, isC_i h, w_I0, w_I1, w_I2, w_I3, w_I4, w_R5, w_R6, w_R7, w_R8, w_R9, w_R10, w_R11, w_R12, w_R13, w_R14, w_R15, w_I16, w_I17, w_I18, w_I19, w_I20, w_I21, w_vc, w_a0, w_s0, w_a1, w_s1, w_a2, w_s2, w_a3, w_s3, w_a4, w_s4, w_a5, w_s5, w_a6, w_s6, w_a7, w_s7, w_a8, w_s8, w_a9, w_s9, w_a10, w_s10, w_p0, w_p1, w_p2, w_p3, w_p4, w_p16, w_p17, w_p18, w_p19, w_p20, w_p21, o_0, o_1, o_2, o_3, o_4, o_5, hm, i_0, z_0, i_1, z_1, i_2, z_2, i_3, z_3, i_4, z_4, i_5, z_5, i_6, z_6, i_7, z_7, i_8, z_8, e_fail hm, if_true, if_false, bnd, rt, mF]
/-- a cell more in a formation -/
def mfm (M : Mg) (f : Nat) (c : Int32) : Mg := mS M 0 (if 32 ≤ c then 77 + f else 73 + f) (hlf M f c ||| ((1 : Int32) <<< ((c - c / 32 * 32) &&& 31)))
theorem e_forms {c : Nat} (hm : 0 < m) (hf : f < 4) (hc : c < 64) : FX8_forms m (nI f) (nI c) (pum μ m M) = if mbl M f (nI c) = 0 then (if mcl M f = 10 then rt 0 (pum μ m (mF M 3)) else rt (mcl (mfm M f (nI c)) f) (pum μ m (mfm M f (nI c)))) else rt 0 (pum μ m (mF M 2)) := by
  simp only [FX8_forms, FX8_forms_B14, FX8_forms_B68, e_misForm, isF_j hf, one_ne, e_misCell, isC_j hc, e_blg hm hf, e_cls hm hf, w_I0, w_I1, w_I2, w_I3, w_I4, w_R5, w_R6, w_R7, w_R8, w_R9, w_R10, w_R11, w_R12, w_R13, w_R14, w_R15, w_I16, w_I17, w_I18, w_I19, w_I20, w_I21, w_vc, w_a0, w_s0, w_a1, w_s1, w_a2, w_s2, w_a3, w_s3, w_a4, w_s4, w_a5, w_s5, w_a6, w_s6, w_a7, w_s7, w_a8, w_s8, w_a9, w_s9, w_a10, w_s10, w_p0, w_p1, w_p2, w_p3, w_p4, w_p16, w_p17, w_p18, w_p19, w_p20, w_p21, o_0, o_1, o_2, o_3, o_4, o_5, hm, i_0, z_0, i_1, z_1, i_2, z_2, i_3, z_3, i_4, z_4, i_5, z_5, i_6, z_6, i_7, z_7, i_8, z_8, e_fail hm, nI73, nI77, iv73 hf, cv73 hf, iv77 hf, cv77 hf, if_true, if_false, bnd, rt, mF]
  by_cases a : mbl M f (nI c) = 0
  · simp only [a, if_true]
    by_cases b : mcl M f = 10
    · simp only [b, if_true]
    · simp only [b, if_false]
      by_cases e : 32 ≤ nI c
      · simp only [e, if_true, mfm, hlf]
      · simp only [e, if_false, mfm, hlf]
  · simp only [a, if_false]
theorem e_clears_out {x : Int32} (hm : 0 < m) (h : x < 0 ∨ nI 4 ≤ x) : FX8_clears m x (pum μ m M) = rt 0 (pum μ m (mF M 1)) := by
  simp only [FX8_clears, e_misForm, isF_i h, w_I0, w_I1, w_I2, w_I3, w_I4, w_R5, w_R6, w_R7, w_R8, w_R9, w_R10, w_R11, w_R12, w_R13, w_R14, w_R15, w_I16, w_I17, w_I18, w_I19, w_I20, w_I21, w_vc, w_a0, w_s0, w_a1, w_s1, w_a2, w_s2, w_a3, w_s3, w_a4, w_s4, w_a5, w_s5, w_a6, w_s6, w_a7, w_s7, w_a8, w_s8, w_a9, w_s9, w_a10, w_s10, w_p0, w_p1, w_p2, w_p3, w_p4, w_p16, w_p17, w_p18, w_p19, w_p20, w_p21, o_0, o_1, o_2, o_3, o_4, o_5, hm, i_0, z_0, i_1, z_1, i_2, z_2, i_3, z_3, i_4, z_4, i_5, z_5, i_6, z_6, i_7, z_7, i_8, z_8, e_fail hm, if_true, bnd, rt, mF]
theorem e_clears (hm : 0 < m) (hf : f < 4) : FX8_clears m (nI f) (pum μ m M) = rt (mcl M f) (pum μ m (mS (mS M 0 (73 + f) 0) 0 (77 + f) 0)) := by
  simp only [FX8_clears, e_misForm, isF_j hf, one_ne, e_cls hm hf, w_I0, w_I1, w_I2, w_I3, w_I4, w_R5, w_R6, w_R7, w_R8, w_R9, w_R10, w_R11, w_R12, w_R13, w_R14, w_R15, w_I16, w_I17, w_I18, w_I19, w_I20, w_I21, w_vc, w_a0, w_s0, w_a1, w_s1, w_a2, w_s2, w_a3, w_s3, w_a4, w_s4, w_a5, w_s5, w_a6, w_s6, w_a7, w_s7, w_a8, w_s8, w_a9, w_s9, w_a10, w_s10, w_p0, w_p1, w_p2, w_p3, w_p4, w_p16, w_p17, w_p18, w_p19, w_p20, w_p21, o_0, o_1, o_2, o_3, o_4, o_5, hm, i_0, z_0, i_1, z_1, i_2, z_2, i_3, z_3, i_4, z_4, i_5, z_5, i_6, z_6, i_7, z_7, i_8, z_8, nI73, nI77, iv73 hf, cv73 hf, iv77 hf, cv77 hf, if_true, if_false, bnd, rt]
def mtp (M : Mg) (d : Nat) : Int32 := if fl1 (M 0 (13 + 6 * d + 1)) = 0 then 0 else if fl1 (M 0 (13 + 6 * d + 5)) = 0 then 1 else 0
theorem e_mtp {d : Nat} (hm : 0 < m) (hd9 : d < 10) : FX8_takesPart m (nI d) (pum μ m M) = rt (mtp M d) (pum μ m M) := by
  simp only [FX8_takesPart, e_flies hm hd9, e_urg hm hd9, w_I0, w_I1, w_I2, w_I3, w_I4, w_R5, w_R6, w_R7, w_R8, w_R9, w_R10, w_R11, w_R12, w_R13, w_R14, w_R15, w_I16, w_I17, w_I18, w_I19, w_I20, w_I21, w_vc, w_a0, w_s0, w_a1, w_s1, w_a2, w_s2, w_a3, w_s3, w_a4, w_s4, w_a5, w_s5, w_a6, w_s6, w_a7, w_s7, w_a8, w_s8, w_a9, w_s9, w_a10, w_s10, w_p0, w_p1, w_p2, w_p3, w_p4, w_p16, w_p17, w_p18, w_p19, w_p20, w_p21, o_0, o_1, o_2, o_3, o_4, o_5, hm, i_0, z_0, i_1, z_1, i_2, z_2, i_3, z_3, i_4, z_4, i_5, z_5, i_6, z_6, i_7, z_7, i_8, z_8, bnd, rt, mtp]
  split
  · rfl
  · split <;> rfl
/-- the nearest for a cell so far -/
def mnf (M : Mg) (c : Int32) (d : Nat) (b : Int32) : Int32 := if mtp M d = 0 then b else if M 0 (13 + 6 * d + 4) - 1 < 0 then (if b < 0 then nI d else if dst (M 0 (13 + 6 * b.toNatClampNeg + 0)) c ≤ dst (M 0 (13 + 6 * d + 0)) c then b else nI d) else b
theorem l_mnf {c : Int32} (hm : 0 < m) (hn : M 0 0 = nI n) (hn9 : n ≤ 10) : ∀ k f i (b : Int32), (b = -1 ∨ ∃ j, j < i ∧ b = nI j) → i + k = n → k < f → FX8_nearestFor_L4 f m c b (nI i) (pum μ m M) = rt (fo (mnf M c) i k b) (pum μ m M) := by
  intro k
  induction k with
  | zero =>
    intro f i b hb hi hfuu
    obtain ⟨f, rfl⟩ : ∃ g, f = g + 1 := ⟨f - 1, by omega⟩
    have h1 : nI n ≤ nI i := by rw [show i = n by omega]; exact Int32.le_refl _
    simp only [FX8_nearestFor_L4, FX8_nearestFor_B4, w_I0, w_I1, w_I2, w_I3, w_I4, w_R5, w_R6, w_R7, w_R8, w_R9, w_R10, w_R11, w_R12, w_R13, w_R14, w_R15, w_I16, w_I17, w_I18, w_I19, w_I20, w_I21, w_vc, w_a0, w_s0, w_a1, w_s1, w_a2, w_s2, w_a3, w_s3, w_a4, w_s4, w_a5, w_s5, w_a6, w_s6, w_a7, w_s7, w_a8, w_s8, w_a9, w_s9, w_a10, w_s10, w_p0, w_p1, w_p2, w_p3, w_p4, w_p16, w_p17, w_p18, w_p19, w_p20, w_p21, o_0, o_1, o_2, o_3, o_4, o_5, hm, i_0, z_0, i_1, z_1, i_2, z_2, i_3, z_3, i_4, z_4, i_5, z_5, i_6, z_6, i_7, z_7, i_8, z_8, hn, h1, if_true, bnd, rt]
    rfl
  | succ k ih =>
    intro f i b hb hi hfuu
    obtain ⟨f, rfl⟩ : ∃ g, f = g + 1 := ⟨f - 1, by omega⟩
    have h1 : ¬ nI n ≤ nI i := nI_ge (by omega) (by omega)
    have h2_10 : inb (nI i) 10 = true := inb_n (by omega) (by omega)
    have h3 : (nI i).toNatClampNeg = i := nI_clamp (by omega)
    simp only [FX8_nearestFor_L4, FX8_nearestFor_B4, w_I0, w_I1, w_I2, w_I3, w_I4, w_R5, w_R6, w_R7, w_R8, w_R9, w_R10, w_R11, w_R12, w_R13, w_R14, w_R15, w_I16, w_I17, w_I18, w_I19, w_I20, w_I21, w_vc, w_a0, w_s0, w_a1, w_s1, w_a2, w_s2, w_a3, w_s3, w_a4, w_s4, w_a5, w_s5, w_a6, w_s6, w_a7, w_s7, w_a8, w_s8, w_a9, w_s9, w_a10, w_s10, w_p0, w_p1, w_p2, w_p3, w_p4, w_p16, w_p17, w_p18, w_p19, w_p20, w_p21, o_0, o_1, o_2, o_3, o_4, o_5, hm, i_0, z_0, i_1, z_1, i_2, z_2, i_3, z_3, i_4, z_4, i_5, z_5, i_6, z_6, i_7, z_7, i_8, z_8, hn, e_mtp hm (show i < 10 by omega), e_goal hm (show i < 10 by omega), e_far, iv_0 (show i < 10 by omega), cv_0 (show i < 10 by omega), iv_1 (show i < 10 by omega), cv_1 (show i < 10 by omega), iv_2 (show i < 10 by omega), cv_2 (show i < 10 by omega), iv_3 (show i < 10 by omega), cv_3 (show i < 10 by omega), iv_4 (show i < 10 by omega), cv_4 (show i < 10 by omega), iv_5 (show i < 10 by omega), cv_5 (show i < 10 by omega), h1, h2_10, h3, nI_1, if_true, if_false, bnd, rt]
    simp only [fo]
    have hbi : nI i = -1 ∨ ∃ j, j < i + 1 ∧ nI i = nI j := Or.inr ⟨i, by omega, rfl⟩
    have hbb : b = -1 ∨ ∃ j, j < i + 1 ∧ b = nI j := by
      rcases hb with h | ⟨j, hj, h⟩
      · exact Or.inl h
      · exact Or.inr ⟨j, by omega, h⟩
    unfold mnf
    by_cases a : mtp M i = 0
    · simp only [a, if_true]
      exact ih _ _ _ hbb (by omega) (by omega)
    · simp only [a, if_false]
      by_cases a2 : M 0 (13 + 6 * i + 4) - 1 < 0
      · simp only [a2, if_true]
        by_cases a3 : b < 0
        · simp only [a3, if_true]
          exact ih _ _ _ hbi (by omega) (by omega)
        · rcases hb with h | ⟨j, hj, h⟩
          · exact absurd (by rw [h]; decide) a3
          · subst h
            have hj9 : j < 10 := by omega
            have hjc : (nI j).toNatClampNeg = j := nI_clamp (by omega)
            simp only [a3, if_false, hjc, o_0, iv_0 hj9, cv_0 hj9, if_true, rt, w_a0]
            by_cases a4 : dst (M 0 (13 + 6 * j + 0)) c ≤ dst (M 0 (13 + 6 * i + 0)) c
            · simp only [a4, if_true]
              exact ih _ _ _ hbb (by omega) (by omega)
            · simp only [a4, if_false]
              exact ih _ _ _ hbi (by omega) (by omega)
      · simp only [a2, if_false]
        exact ih _ _ _ hbb (by omega) (by omega)
theorem e_mnf {c : Int32} (hm : 0 < m) (hn : M 0 0 = nI n) (hn9 : n ≤ 10) : FX8_nearestFor m c (pum μ m M) = rt (fo (mnf M c) 0 n (-1)) (pum μ m M) := l_mnf hm hn hn9 n FU 0 _ (Or.inl rfl) (by omega) (by unfold FU; omega)
theorem mnf_in (M : Mg) (c : Int32) : ∀ k i b, (b = -1 ∨ ∃ j, j < i ∧ b = nI j) → (fo (mnf M c) i k b = -1 ∨ ∃ j, j < i + k ∧ fo (mnf M c) i k b = nI j) := by
  intro k
  induction k with
  | zero => intro i b h; exact h
  | succ k ih =>
    intro i b h
    simp only [fo]
    have h9 := ih (i + 1) (mnf M c i b) (by
      have h1 : b = -1 ∨ ∃ j, j < i + 1 ∧ b = nI j := h.elim Or.inl (fun ⟨j, hj, e⟩ => Or.inr ⟨j, by omega, e⟩)
      have h2 : nI i = -1 ∨ ∃ j, j < i + 1 ∧ nI i = nI j := Or.inr ⟨i, by omega, rfl⟩
      unfold mnf
      split
      · exact h1
      · split
        · split
          · exact h2
          · split
            · exact h1
            · exact h2
        · exact h1)
    rwa [show i + 1 + k = i + (k + 1) by omega] at h9
/-- the targets of those who take part go -/
def mdr (d : Nat) (M : Mg) : Mg := if mtp M d = 0 then M else mS M 0 (13 + 6 * d + 4) 0
theorem mdr_c {d j : Nat} {M : Mg} (h : j < 13 ∨ 73 ≤ j) (hd : d < 10) : (mdr d M) 0 j = M 0 j := by
  unfold mdr
  split
  · rfl
  · have h4 : ¬ j = 13 + 6 * d + 4 := by omega
    simp [mS, upd, h4]
/-- a cell's turn -/
def mas (f n : Nat) (c : Nat) (z : Mg × Int32) : Mg × Int32 := if mbl z.1 f (nI c) = 0 then z else if 0 ≤ fo (mnf z.1 (nI c)) 0 n (-1) then (mS z.1 0 (13 + 6 * (fo (mnf z.1 (nI c)) 0 n (-1)).toNatClampNeg + 4) (nI (c + 1)), z.2 + 1) else z
theorem mas_c {c j : Nat} {z : Mg × Int32} (h : j < 13 ∨ 73 ≤ j) (hn9 : n ≤ 10) : (mas f n c z).1 0 j = z.1 0 j := by
  unfold mas
  split
  · rfl
  · split
    · rename_i h0
      rcases mnf_in z.1 (nI c) n 0 (-1) (Or.inl rfl) with h8 | ⟨k, hk, h8⟩
      · rw [h8] at h0
        exact absurd h0 (by decide)
      · rw [h8, nI_clamp (by omega)]
        have h4 : ¬ j = 13 + 6 * k + 4 := by omega
        simp [mS, upd, h4]
    · rfl
end M2
section M3
variable {μ : Me} {m : Nat} {n q f : Nat}
theorem l_mas (hm : 0 < m) (hf : f < 4) (hn9 : n ≤ 10) : ∀ k f9 i (M : Mg) (acc : Int32), M 0 0 = nI n → i + k = 64 → k < f9 → FX8_assigns_L68 f9 m (nI f) acc (nI i) (pum μ m M) = rt (fo (mas f n) i k (M, acc)).2 (pum μ m (fo (mas f n) i k (M, acc)).1) := by
  intro k
  induction k with
  | zero =>
    intro f9 i M acc hn hi hfuu
    obtain ⟨f9, rfl⟩ : ∃ g, f9 = g + 1 := ⟨f9 - 1, by omega⟩
    have h1 : (64 : Int32) ≤ nI i := by rw [show i = 64 by omega]; decide
    simp only [FX8_assigns_L68, FX8_assigns_B68, FX8_assigns_B92, w_I0, w_I1, w_I2, w_I3, w_I4, w_R5, w_R6, w_R7, w_R8, w_R9, w_R10, w_R11, w_R12, w_R13, w_R14, w_R15, w_I16, w_I17, w_I18, w_I19, w_I20, w_I21, w_vc, w_a0, w_s0, w_a1, w_s1, w_a2, w_s2, w_a3, w_s3, w_a4, w_s4, w_a5, w_s5, w_a6, w_s6, w_a7, w_s7, w_a8, w_s8, w_a9, w_s9, w_a10, w_s10, w_p0, w_p1, w_p2, w_p3, w_p4, w_p16, w_p17, w_p18, w_p19, w_p20, w_p21, o_0, o_1, o_2, o_3, o_4, o_5, hm, i_0, z_0, i_1, z_1, i_2, z_2, i_3, z_3, i_4, z_4, i_5, z_5, i_6, z_6, i_7, z_7, i_8, z_8, h1, if_true, bnd, rt]
    rfl
  | succ k ih =>
    intro f9 i M acc hn hi hfuu
    obtain ⟨f9, rfl⟩ : ∃ g, f9 = g + 1 := ⟨f9 - 1, by omega⟩
    have h1 : ¬ (64 : Int32) ≤ nI i := fun h => absurd ((nI_leI (a := 64) (b := i) (by omega) (by omega)).mp h) (by omega)
    have h3 : (nI i).toNatClampNeg = i := nI_clamp (by omega)
    simp only [FX8_assigns_L68, FX8_assigns_B68, FX8_assigns_B92, w_I0, w_I1, w_I2, w_I3, w_I4, w_R5, w_R6, w_R7, w_R8, w_R9, w_R10, w_R11, w_R12, w_R13, w_R14, w_R15, w_I16, w_I17, w_I18, w_I19, w_I20, w_I21, w_vc, w_a0, w_s0, w_a1, w_s1, w_a2, w_s2, w_a3, w_s3, w_a4, w_s4, w_a5, w_s5, w_a6, w_s6, w_a7, w_s7, w_a8, w_s8, w_a9, w_s9, w_a10, w_s10, w_p0, w_p1, w_p2, w_p3, w_p4, w_p16, w_p17, w_p18, w_p19, w_p20, w_p21, o_0, o_1, o_2, o_3, o_4, o_5, hm, i_0, z_0, i_1, z_1, i_2, z_2, i_3, z_3, i_4, z_4, i_5, z_5, i_6, z_6, i_7, z_7, i_8, z_8, e_blg hm hf, e_mnf hm hn hn9, h1, h3, nI_1, if_true, if_false, bnd, rt]
    simp only [fo]
    have h := ih f9 (i + 1) (mas f n i (M, acc)).1 (mas f n i (M, acc)).2 ((mas_c (Or.inl (by omega)) hn9).trans hn) (by omega) (by omega)
    refine Eq.trans ?_ h
    simp only [mas]
    by_cases a : mbl M f (nI i) = 0
    · have h01 : ¬ (0 : Int32) ≤ -1 := by decide
      simp only [a, if_true, h01, if_false]
    · simp only [a, if_false]
      rcases mnf_in M (nI i) n 0 (-1) (Or.inl rfl) with h8 | ⟨j, hj, h8⟩
      · have h01 : ¬ (0 : Int32) ≤ -1 := by decide
        simp only [h8, h01, if_false]
      · have hj9 : j < 10 := by omega
        have hjc : (nI j).toNatClampNeg = j := nI_clamp (by omega)
        have h0 : (0 : Int32) ≤ nI j := nI_pos' (by omega)
        simp only [h8, h0, if_true, hjc, o_4, iv_4 hj9, cv_4 hj9, rt, w_s0]
theorem l_mdr (hm : 0 < m) (hf : f < 4) (hn9 : n ≤ 10) : ∀ k f9 i (M : Mg), M 0 0 = nI n → i + k = n → k < f9 → FX8_assigns_L31 f9 m (nI f) 0 (nI i) (pum μ m M) = FX8_assigns_L68 FU m (nI f) 0 0 (pum μ m (fo mdr i k M)) := by
  intro k
  induction k with
  | zero =>
    intro f9 i M hn hi hfuu
    obtain ⟨f9, rfl⟩ : ∃ g, f9 = g + 1 := ⟨f9 - 1, by omega⟩
    have h1 : nI n ≤ nI i := by rw [show i = n by omega]; exact Int32.le_refl _
    simp only [FX8_assigns_L31, FX8_assigns_B31, w_I0, w_I1, w_I2, w_I3, w_I4, w_R5, w_R6, w_R7, w_R8, w_R9, w_R10, w_R11, w_R12, w_R13, w_R14, w_R15, w_I16, w_I17, w_I18, w_I19, w_I20, w_I21, w_vc, w_a0, w_s0, w_a1, w_s1, w_a2, w_s2, w_a3, w_s3, w_a4, w_s4, w_a5, w_s5, w_a6, w_s6, w_a7, w_s7, w_a8, w_s8, w_a9, w_s9, w_a10, w_s10, w_p0, w_p1, w_p2, w_p3, w_p4, w_p16, w_p17, w_p18, w_p19, w_p20, w_p21, o_0, o_1, o_2, o_3, o_4, o_5, hm, i_0, z_0, i_1, z_1, i_2, z_2, i_3, z_3, i_4, z_4, i_5, z_5, i_6, z_6, i_7, z_7, i_8, z_8, hn, h1, if_true, bnd, rt]
    rfl
  | succ k ih =>
    intro f9 i M hn hi hfuu
    obtain ⟨f9, rfl⟩ : ∃ g, f9 = g + 1 := ⟨f9 - 1, by omega⟩
    have h1 : ¬ nI n ≤ nI i := nI_ge (by omega) (by omega)
    have h2_10 : inb (nI i) 10 = true := inb_n (by omega) (by omega)
    have h3 : (nI i).toNatClampNeg = i := nI_clamp (by omega)
    simp only [FX8_assigns_L31, FX8_assigns_B31, w_I0, w_I1, w_I2, w_I3, w_I4, w_R5, w_R6, w_R7, w_R8, w_R9, w_R10, w_R11, w_R12, w_R13, w_R14, w_R15, w_I16, w_I17, w_I18, w_I19, w_I20, w_I21, w_vc, w_a0, w_s0, w_a1, w_s1, w_a2, w_s2, w_a3, w_s3, w_a4, w_s4, w_a5, w_s5, w_a6, w_s6, w_a7, w_s7, w_a8, w_s8, w_a9, w_s9, w_a10, w_s10, w_p0, w_p1, w_p2, w_p3, w_p4, w_p16, w_p17, w_p18, w_p19, w_p20, w_p21, o_0, o_1, o_2, o_3, o_4, o_5, hm, i_0, z_0, i_1, z_1, i_2, z_2, i_3, z_3, i_4, z_4, i_5, z_5, i_6, z_6, i_7, z_7, i_8, z_8, hn, e_mtp hm (show i < 10 by omega), iv_0 (show i < 10 by omega), cv_0 (show i < 10 by omega), iv_1 (show i < 10 by omega), cv_1 (show i < 10 by omega), iv_2 (show i < 10 by omega), cv_2 (show i < 10 by omega), iv_3 (show i < 10 by omega), cv_3 (show i < 10 by omega), iv_4 (show i < 10 by omega), cv_4 (show i < 10 by omega), iv_5 (show i < 10 by omega), cv_5 (show i < 10 by omega), h1, h2_10, h3, nI_1, if_true, if_false, bnd, rt]
    simp only [fo]
    have h := ih f9 (i + 1) (mdr i M) ((mdr_c (Or.inl (by omega)) (by omega)).trans hn) (by omega) (by omega)
    refine Eq.trans ?_ h
    unfold mdr
    split <;> rfl
theorem mdrs_c {j : Nat} {M : Mg} (h : j < 13 ∨ 73 ≤ j) : ∀ k i, i + k ≤ 10 → (fo mdr i k M) 0 j = M 0 j := by
  intro k
  induction k generalizing M with
  | zero => intros; rfl
  | succ k ih =>
    intro i hi
    simp only [fo]
    rw [ih (i + 1) (by omega), mdr_c h (by omega)]
theorem e_assigns_out {M : Mg} {x : Int32} (hm : 0 < m) (h : x < 0 ∨ nI 4 ≤ x) : FX8_assigns m x (pum μ m M) = rt 0 (pum μ m (mF M 1)) := by
  simp only [FX8_assigns, e_misForm, isF_i h, w_I0, w_I1, w_I2, w_I3, w_I4, w_R5, w_R6, w_R7, w_R8, w_R9, w_R10, w_R11, w_R12, w_R13, w_R14, w_R15, w_I16, w_I17, w_I18, w_I19, w_I20, w_I21, w_vc, w_a0, w_s0, w_a1, w_s1, w_a2, w_s2, w_a3, w_s3, w_a4, w_s4, w_a5, w_s5, w_a6, w_s6, w_a7, w_s7, w_a8, w_s8, w_a9, w_s9, w_a10, w_s10, w_p0, w_p1, w_p2, w_p3, w_p4, w_p16, w_p17, w_p18, w_p19, w_p20, w_p21, o_0, o_1, o_2, o_3, o_4, o_5, hm, i_0, z_0, i_1, z_1, i_2, z_2, i_3, z_3, i_4, z_4, i_5, z_5, i_6, z_6, i_7, z_7, i_8, z_8, e_fail hm, if_true, bnd, rt, mF]
theorem e_assigns {M : Mg} (hm : 0 < m) (hf : f < 4) (hn : M 0 0 = nI n) (hn9 : n ≤ 10) : FX8_assigns m (nI f) (pum μ m M) = if mcl M f = 0 then rt 0 (pum μ m (mF M 2)) else rt (fo (mas f n) 0 64 (fo mdr 0 n M, 0)).2 (pum μ m (fo (mas f n) 0 64 (fo mdr 0 n M, 0)).1) := by
  have h1 := l_mdr (μ := μ) hm hf hn9 n FU 0 M hn (by omega) (by unfold FU; omega)
  have h2 := l_mas (μ := μ) hm hf hn9 64 FU 0 (fo mdr 0 n M) 0 ((mdrs_c (Or.inl (by omega)) n 0 (by omega)).trans hn) (by omega) (by unfold FU; omega)
  rw [nI_0] at h1 h2
  simp only [FX8_assigns, e_misForm, isF_j hf, one_ne, e_cls hm hf, w_I0, w_I1, w_I2, w_I3, w_I4, w_R5, w_R6, w_R7, w_R8, w_R9, w_R10, w_R11, w_R12, w_R13, w_R14, w_R15, w_I16, w_I17, w_I18, w_I19, w_I20, w_I21, w_vc, w_a0, w_s0, w_a1, w_s1, w_a2, w_s2, w_a3, w_s3, w_a4, w_s4, w_a5, w_s5, w_a6, w_s6, w_a7, w_s7, w_a8, w_s8, w_a9, w_s9, w_a10, w_s10, w_p0, w_p1, w_p2, w_p3, w_p4, w_p16, w_p17, w_p18, w_p19, w_p20, w_p21, o_0, o_1, o_2, o_3, o_4, o_5, hm, i_0, z_0, i_1, z_1, i_2, z_2, i_3, z_3, i_4, z_4, i_5, z_5, i_6, z_6, i_7, z_7, i_8, z_8, e_fail hm, if_true, if_false, bnd, rt, mF]
  split
  · rfl
  · rw [h1, h2]
    rfl
/-! what is read -/
theorem e_mask {M : Mg} {t0 : Int32} (hm : 0 < m) (hf : f < 4) (ht : t0 = 0) : FX8_formationMask_B13 m (nI f) t0 m (pum μ m M) = rt (((M 0 (77 + f) : Int32).toInt64 <<< ((32 : Int32).toInt64 &&& 63)) ||| ((M 0 (73 + f) : Int32).toInt64 &&& 4294967295)) (pum μ m (mS M 11 0 0)) := by
  subst ht
  have e1 : (mS M 11 0 0) 11 0 = 0 := by simp [mS, upd]
  have e2 : ∀ j, (mS M 11 0 0) 0 j = M 0 j := fun j => by simp [mS]
  simp only [FX8_formationMask_B13, w_I0, w_I1, w_I2, w_I3, w_I4, w_R5, w_R6, w_R7, w_R8, w_R9, w_R10, w_R11, w_R12, w_R13, w_R14, w_R15, w_I16, w_I17, w_I18, w_I19, w_I20, w_I21, w_vc, w_a0, w_s0, w_a1, w_s1, w_a2, w_s2, w_a3, w_s3, w_a4, w_s4, w_a5, w_s5, w_a6, w_s6, w_a7, w_s7, w_a8, w_s8, w_a9, w_s9, w_a10, w_s10, w_p0, w_p1, w_p2, w_p3, w_p4, w_p16, w_p17, w_p18, w_p19, w_p20, w_p21, o_0, o_1, o_2, o_3, o_4, o_5, hm, i_0, z_0, i_1, z_1, i_2, z_2, i_3, z_3, i_4, z_4, i_5, z_5, i_6, z_6, i_7, z_7, i_8, z_8, e1, e2, nI73, nI77, iv73 hf, cv73 hf, iv77 hf, cv77 hf, if_true]
theorem l_mom {M : Mg} (hm : 0 < m) (hn : M 0 0 = nI n) (hn9 : n ≤ 10) : ∀ k f i (acc : Int64), i + k = n → k < f → FX8_occupiedMask_L9 f m acc (nI i) (pum μ m M) = rt (fo (fun d a => a ||| (1 <<< ((M 0 (13 + 6 * d + 0) : Int32).toInt64 &&& 63))) i k acc) (pum μ m M) := by
  intro k
  induction k with
  | zero =>
    intro f i acc  hi hfuu
    obtain ⟨f, rfl⟩ : ∃ g, f = g + 1 := ⟨f - 1, by omega⟩
    have h1 : nI n ≤ nI i := by rw [show i = n by omega]; exact Int32.le_refl _
    simp only [FX8_occupiedMask_L9, FX8_occupiedMask_B9, w_I0, w_I1, w_I2, w_I3, w_I4, w_R5, w_R6, w_R7, w_R8, w_R9, w_R10, w_R11, w_R12, w_R13, w_R14, w_R15, w_I16, w_I17, w_I18, w_I19, w_I20, w_I21, w_vc, w_a0, w_s0, w_a1, w_s1, w_a2, w_s2, w_a3, w_s3, w_a4, w_s4, w_a5, w_s5, w_a6, w_s6, w_a7, w_s7, w_a8, w_s8, w_a9, w_s9, w_a10, w_s10, w_p0, w_p1, w_p2, w_p3, w_p4, w_p16, w_p17, w_p18, w_p19, w_p20, w_p21, o_0, o_1, o_2, o_3, o_4, o_5, hm, i_0, z_0, i_1, z_1, i_2, z_2, i_3, z_3, i_4, z_4, i_5, z_5, i_6, z_6, i_7, z_7, i_8, z_8, hn, h1, if_true, bnd, rt]
    rfl
  | succ k ih =>
    intro f i acc  hi hfuu
    obtain ⟨f, rfl⟩ : ∃ g, f = g + 1 := ⟨f - 1, by omega⟩
    have h1 : ¬ nI n ≤ nI i := nI_ge (by omega) (by omega)
    have h2_10 : inb (nI i) 10 = true := inb_n (by omega) (by omega)
    have h3 : (nI i).toNatClampNeg = i := nI_clamp (by omega)
    simp only [FX8_occupiedMask_L9, FX8_occupiedMask_B9, w_I0, w_I1, w_I2, w_I3, w_I4, w_R5, w_R6, w_R7, w_R8, w_R9, w_R10, w_R11, w_R12, w_R13, w_R14, w_R15, w_I16, w_I17, w_I18, w_I19, w_I20, w_I21, w_vc, w_a0, w_s0, w_a1, w_s1, w_a2, w_s2, w_a3, w_s3, w_a4, w_s4, w_a5, w_s5, w_a6, w_s6, w_a7, w_s7, w_a8, w_s8, w_a9, w_s9, w_a10, w_s10, w_p0, w_p1, w_p2, w_p3, w_p4, w_p16, w_p17, w_p18, w_p19, w_p20, w_p21, o_0, o_1, o_2, o_3, o_4, o_5, hm, i_0, z_0, i_1, z_1, i_2, z_2, i_3, z_3, i_4, z_4, i_5, z_5, i_6, z_6, i_7, z_7, i_8, z_8, hn, iv_0 (show i < 10 by omega), cv_0 (show i < 10 by omega), iv_1 (show i < 10 by omega), cv_1 (show i < 10 by omega), iv_2 (show i < 10 by omega), cv_2 (show i < 10 by omega), iv_3 (show i < 10 by omega), cv_3 (show i < 10 by omega), iv_4 (show i < 10 by omega), cv_4 (show i < 10 by omega), iv_5 (show i < 10 by omega), cv_5 (show i < 10 by omega), h1, h2_10, h3, nI_1, if_true, if_false, bnd, rt]
    simp only [fo]
    exact ih _ _ _ (by omega) (by omega)
theorem l_mmt {M : Mg} (hm : 0 < m) (hf : f < 4) (hn : M 0 0 = nI n) (hn9 : n ≤ 10) : ∀ k f9 i (acc : Int32), i + k = n → k < f9 → FX8_matches_L4 f9 m (nI f) acc (nI i) (pum μ m M) = rt (fo (fun d a => if fl1 (M 0 (13 + 6 * d + 1)) = 0 then a else if mbl M f (M 0 (13 + 6 * d + 0)) = 0 then a else a + 1) i k acc) (pum μ m M) := by
  intro k
  induction k with
  | zero =>
    intro f9 i acc  hi hfuu
    obtain ⟨f9, rfl⟩ : ∃ g, f9 = g + 1 := ⟨f9 - 1, by omega⟩
    have h1 : nI n ≤ nI i := by rw [show i = n by omega]; exact Int32.le_refl _
    simp only [FX8_matches_L4, FX8_matches_B4, w_I0, w_I1, w_I2, w_I3, w_I4, w_R5, w_R6, w_R7, w_R8, w_R9, w_R10, w_R11, w_R12, w_R13, w_R14, w_R15, w_I16, w_I17, w_I18, w_I19, w_I20, w_I21, w_vc, w_a0, w_s0, w_a1, w_s1, w_a2, w_s2, w_a3, w_s3, w_a4, w_s4, w_a5, w_s5, w_a6, w_s6, w_a7, w_s7, w_a8, w_s8, w_a9, w_s9, w_a10, w_s10, w_p0, w_p1, w_p2, w_p3, w_p4, w_p16, w_p17, w_p18, w_p19, w_p20, w_p21, o_0, o_1, o_2, o_3, o_4, o_5, hm, i_0, z_0, i_1, z_1, i_2, z_2, i_3, z_3, i_4, z_4, i_5, z_5, i_6, z_6, i_7, z_7, i_8, z_8, hn, h1, if_true, bnd, rt]
    rfl
  | succ k ih =>
    intro f9 i acc  hi hfuu
    obtain ⟨f9, rfl⟩ : ∃ g, f9 = g + 1 := ⟨f9 - 1, by omega⟩
    have h1 : ¬ nI n ≤ nI i := nI_ge (by omega) (by omega)
    have h2_10 : inb (nI i) 10 = true := inb_n (by omega) (by omega)
    have h3 : (nI i).toNatClampNeg = i := nI_clamp (by omega)
    simp only [FX8_matches_L4, FX8_matches_B4, w_I0, w_I1, w_I2, w_I3, w_I4, w_R5, w_R6, w_R7, w_R8, w_R9, w_R10, w_R11, w_R12, w_R13, w_R14, w_R15, w_I16, w_I17, w_I18, w_I19, w_I20, w_I21, w_vc, w_a0, w_s0, w_a1, w_s1, w_a2, w_s2, w_a3, w_s3, w_a4, w_s4, w_a5, w_s5, w_a6, w_s6, w_a7, w_s7, w_a8, w_s8, w_a9, w_s9, w_a10, w_s10, w_p0, w_p1, w_p2, w_p3, w_p4, w_p16, w_p17, w_p18, w_p19, w_p20, w_p21, o_0, o_1, o_2, o_3, o_4, o_5, hm, i_0, z_0, i_1, z_1, i_2, z_2, i_3, z_3, i_4, z_4, i_5, z_5, i_6, z_6, i_7, z_7, i_8, z_8, hn, e_flies hm (show i < 10 by omega), e_blg hm hf, Int32.add_zero, iv_0 (show i < 10 by omega), cv_0 (show i < 10 by omega), iv_1 (show i < 10 by omega), cv_1 (show i < 10 by omega), iv_2 (show i < 10 by omega), cv_2 (show i < 10 by omega), iv_3 (show i < 10 by omega), cv_3 (show i < 10 by omega), iv_4 (show i < 10 by omega), cv_4 (show i < 10 by omega), iv_5 (show i < 10 by omega), cv_5 (show i < 10 by omega), h1, h2_10, h3, nI_1, if_true, if_false, bnd, rt]
    simp only [fo]
    by_cases a : fl1 (M 0 (13 + 6 * i + 1)) = 0
    · simp only [a, if_true]
      exact ih _ _ _ (by omega) (by omega)
    · simp only [a, if_false]
      by_cases b : mbl M f (M 0 (13 + 6 * i + 0)) = 0
      · simp only [b, if_true]
        exact ih _ _ _ (by omega) (by omega)
      · simp only [b, if_false]
        exact ih _ _ _ (by omega) (by omega)
def mmt (M : Mg) (f n : Nat) : Int32 := fo (fun d a => if fl1 (M 0 (13 + 6 * d + 1)) = 0 then a else if mbl M f (M 0 (13 + 6 * d + 0)) = 0 then a else a + 1) 0 n 0
theorem e_mmt {M : Mg} (hm : 0 < m) (hf : f < 4) (hn : M 0 0 = nI n) (hn9 : n ≤ 10) : FX8_matches m (nI f) (pum μ m M) = rt (mmt M f n) (pum μ m M) := l_mmt hm hf hn hn9 n FU 0 0 (by omega) (by unfold FU; omega)
/-! wishes -/
def mwa (M : Mg) (d : Nat) : Int32 := if fl1 (M 0 (13 + 6 * d + 1)) = 0 then 0 else if M 0 (13 + 6 * d + 4) - 1 < 0 then 0 else if M 0 (13 + 6 * d + 4) - 1 = M 0 (13 + 6 * d + 0) then 0 else 1
theorem e_mwa {M : Mg} {d : Nat} (hm : 0 < m) (hd9 : d < 10) : FX8_wants m (nI d) (pum μ m M) = rt (mwa M d) (pum μ m M) := by
  simp only [FX8_wants, e_flies hm hd9, e_goal hm hd9, w_I0, w_I1, w_I2, w_I3, w_I4, w_R5, w_R6, w_R7, w_R8, w_R9, w_R10, w_R11, w_R12, w_R13, w_R14, w_R15, w_I16, w_I17, w_I18, w_I19, w_I20, w_I21, w_vc, w_a0, w_s0, w_a1, w_s1, w_a2, w_s2, w_a3, w_s3, w_a4, w_s4, w_a5, w_s5, w_a6, w_s6, w_a7, w_s7, w_a8, w_s8, w_a9, w_s9, w_a10, w_s10, w_p0, w_p1, w_p2, w_p3, w_p4, w_p16, w_p17, w_p18, w_p19, w_p20, w_p21, o_0, o_1, o_2, o_3, o_4, o_5, hm, i_0, z_0, i_1, z_1, i_2, z_2, i_3, z_3, i_4, z_4, i_5, z_5, i_6, z_6, i_7, z_7, i_8, z_8, iv_0 hd9, cv_0 hd9, iv_1 hd9, cv_1 hd9, iv_2 hd9, cv_2 hd9, iv_3 hd9, cv_3 hd9, iv_4 hd9, cv_4 hd9, iv_5 hd9, cv_5 hd9, if_true, bnd, rt, mwa]
  split
  · rfl
  · split
    · rfl
    · split <;> rfl
def toR (p q : Int32) : Int32 := if q / 8 ≤ p / 8 then p - 8 else p + 8
def toC (p q : Int32) : Int32 := if (q - q / 8 * 8) ≤ (p - p / 8 * 8) then p - 1 else p + 1
theorem e_toR (p q : Int32) (μ : Me) : FX8_toRow p q μ = rt (toR p q) μ := by
  unfold FX8_toRow toR
  split <;> rfl
theorem e_toC (p q : Int32) (μ : Me) : FX8_toColumn p q μ = rt (toC p q) μ := by
  unfold FX8_toColumn toC
  split <;> rfl
def mwi (M : Mg) (d : Nat) : Int32 := if M 0 (13 + 6 * d + 0) / 8 = (M 0 (13 + 6 * d + 4) - 1) / 8 then toC (M 0 (13 + 6 * d + 0)) (M 0 (13 + 6 * d + 4) - 1) else toR (M 0 (13 + 6 * d + 0)) (M 0 (13 + 6 * d + 4) - 1)
theorem e_mwi {M : Mg} {d : Nat} (hm : 0 < m) (hd9 : d < 10) : FX8_wish m (nI d) (pum μ m M) = rt (mwi M d) (pum μ m M) := by
  simp only [FX8_wish, e_goal hm hd9, e_toR, e_toC, w_I0, w_I1, w_I2, w_I3, w_I4, w_R5, w_R6, w_R7, w_R8, w_R9, w_R10, w_R11, w_R12, w_R13, w_R14, w_R15, w_I16, w_I17, w_I18, w_I19, w_I20, w_I21, w_vc, w_a0, w_s0, w_a1, w_s1, w_a2, w_s2, w_a3, w_s3, w_a4, w_s4, w_a5, w_s5, w_a6, w_s6, w_a7, w_s7, w_a8, w_s8, w_a9, w_s9, w_a10, w_s10, w_p0, w_p1, w_p2, w_p3, w_p4, w_p16, w_p17, w_p18, w_p19, w_p20, w_p21, o_0, o_1, o_2, o_3, o_4, o_5, hm, i_0, z_0, i_1, z_1, i_2, z_2, i_3, z_3, i_4, z_4, i_5, z_5, i_6, z_6, i_7, z_7, i_8, z_8, iv_0 hd9, cv_0 hd9, iv_1 hd9, cv_1 hd9, iv_2 hd9, cv_2 hd9, iv_3 hd9, cv_3 hd9, iv_4 hd9, cv_4 hd9, iv_5 hd9, cv_5 hd9, if_true, bnd, rt, mwi]
  split <;> rfl
end M3
