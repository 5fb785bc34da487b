/-! ===== the model's reader ===== -/
section MR
variable {ν : Me} {m : Nat} {M : Mg} {X : Nat → Nat} {L h : Nat}
def MX (M : Mg) (X : Nat → Nat) (L : Nat) : Prop := L ≤ 60 ∧ M 11 7 = nI L ∧ (∀ i, i < L → M 6 i = nI (X i) ∧ X i < 128) ∧ RA8 M
/-- only the reader's own places change -/
def Mk (M M' : Mg) : Prop := (∀ r, r ≠ 8 → r ≠ 11 → M' r = M r) ∧ ∀ j, j ≠ 6 → j ≠ 9 → M' 11 j = M 11 j
theorem Mk_t {M M1 M2 : Mg} (h : Mk M M1) (h2 : Mk M1 M2) : Mk M M2 := ⟨fun r a e => (h2.1 r a e).trans (h.1 r a e), fun j a e => (h2.2 j a e).trans (h.2 j a e)⟩
theorem Mk_r (M : Mg) : Mk M M := ⟨fun _ _ _ => rfl, fun _ _ _ => rfl⟩
theorem Mk_X {M M' : Mg} (hk : Mk M M') (h : MX M X L) : MX M' X L := ⟨h.1, (hk.2 7 (by decide) (by decide)).trans h.2.1, fun i hi => by
  rw [hk.1 6 (by decide) (by decide)]
  exact h.2.2.1 i hi, RA8_c h.2.2.2 (hk.1 9 (by decide) (by decide)) (hk.1 10 (by decide) (by decide))⟩
/-- at h, wrong or not -/
def mH (M : Mg) (h : Nat) (w : Int32) : Mg := mS (mS M 11 9 w) 11 6 (nI h)
theorem mH_k {w : Int32} : Mk M (mH M h w) := ⟨fun r _ e => by unfold mH; funext j; simp (disch := omega) only [m_same, m_col, m_row, s_same, s_col, s_row], fun j a e => by unfold mH; simp (disch := omega) only [m_same, m_col, m_row, s_same, s_col, s_row]⟩
theorem mH_6 {w : Int32} : (mH M h w) 11 6 = nI h := m_same
theorem mH_9 {w : Int32} : (mH M h w) 11 9 = w := by unfold mH; simp (disch := omega) only [m_same, m_col, m_row, s_same, s_col, s_row]
theorem mH_e {w : Int32} (h6 : M 11 6 = nI h) (h9 : M 11 9 = w) : mH M h w = M := by
  unfold mH
  funext r j
  by_cases r11 : r = 11
  · subst r11
    by_cases j6 : j = 6
    · subst j6; simp (disch := omega) only [m_same, m_col, m_row, s_same, s_col, s_row]; exact h6.symm
    · by_cases j9 : j = 9
      · subst j9; simp (disch := omega) only [m_same, m_col, m_row, s_same, s_col, s_row]; exact h9.symm
      · simp (disch := omega) only [m_same, m_col, m_row, s_same, s_col, s_row]
  · simp (disch := omega) only [m_same, m_col, m_row, s_same, s_col, s_row]
theorem mH_H {h2 : Nat} {w w2 : Int32} : mH (mH M h w) h2 w2 = mH M h2 w2 := by
  unfold mH
  funext r j
  by_cases r11 : r = 11
  · subst r11
    by_cases j6 : j = 6
    · subst j6; simp (disch := omega) only [m_same, m_col, m_row, s_same, s_col, s_row]
    · by_cases j9 : j = 9
      · subst j9; simp (disch := omega) only [m_same, m_col, m_row, s_same, s_col, s_row]
      · simp (disch := omega) only [m_same, m_col, m_row, s_same, s_col, s_row]
  · simp (disch := omega) only [m_same, m_col, m_row, s_same, s_col, s_row]
def sgv (X : Nat → Nat) (L h : Nat) : Int32 := if h < L then nI (X h) else -1
theorem m_sign (hm : 0 < m) (hX : MX M X L) (h6 : M 11 6 = nI h) (hh : h ≤ 60) : FX8_sign m (pum ν m M) = rt (sgv X L h) (pum ν m M) := by
  have h60 := hX.1
  unfold sgv
  by_cases g : h < L
  · have h1 : ¬ nI L ≤ nI h := nI_ge g (by omega)
    have h2 : inb (nI h) 60 = true := inb_n (by omega) (by decide)
    have h3 : (nI h).toNatClampNeg = h := nI_clamp (by omega)
    simp only [FX8_sign, w_I0, w_I1, w_I2, w_I3, w_I4, w_R5, w_R6, w_R7, w_R8, w_R9, w_R10, w_R11, w_R12, w_R13, w_R14, w_R15, w_I16, w_I17, w_I18, w_I19, w_I20, w_I21, w_vc, w_a0, w_s0, w_a1, w_s1, w_a2, w_s2, w_a3, w_s3, w_a4, w_s4, w_a5, w_s5, w_a6, w_s6, w_a7, w_s7, w_a8, w_s8, w_a9, w_s9, w_a10, w_s10, w_p0, w_p1, w_p2, w_p3, w_p4, w_p16, w_p17, w_p18, w_p19, w_p20, w_p21, o_0, o_1, o_2, o_3, o_4, o_5, hm, i_0, z_0, i_1, z_1, i_2, z_2, i_3, z_3, i_4, z_4, i_5, z_5, i_6, z_6, i_7, z_7, i_8, z_8, h6, hX.2.1, h1, h2, h3, if_false, if_true, (hX.2.2.1 h g).1, g]
  · have h1 : nI L ≤ nI h := nI_le (by omega) (by omega)
    simp only [FX8_sign, w_I0, w_I1, w_I2, w_I3, w_I4, w_R5, w_R6, w_R7, w_R8, w_R9, w_R10, w_R11, w_R12, w_R13, w_R14, w_R15, w_I16, w_I17, w_I18, w_I19, w_I20, w_I21, w_vc, w_a0, w_s0, w_a1, w_s1, w_a2, w_s2, w_a3, w_s3, w_a4, w_s4, w_a5, w_s5, w_a6, w_s6, w_a7, w_s7, w_a8, w_s8, w_a9, w_s9, w_a10, w_s10, w_p0, w_p1, w_p2, w_p3, w_p4, w_p16, w_p17, w_p18, w_p19, w_p20, w_p21, o_0, o_1, o_2, o_3, o_4, o_5, hm, i_0, z_0, i_1, z_1, i_2, z_2, i_3, z_3, i_4, z_4, i_5, z_5, i_6, z_6, i_7, z_7, i_8, z_8, h6, hX.2.1, h1, if_true, g, if_false]
theorem sgv_eq {c : Nat} (hX : MX M X L) (hc : c < 128) : sgv X L h = nI c ↔ sgn X L h c = true := by
  unfold sgv sgn
  rw [decide_eq_true_eq]
  by_cases g : h < L
  · rw [if_pos g]
    have := (hX.2.2.1 h g).2
    rw [nI_eq (by omega) (by omega)]
    exact ⟨fun e => ⟨g, e⟩, fun e => e.2⟩
  · rw [if_neg g]
    exact ⟨fun e => absurd e.symm (m1_ne (by omega)), fun e => absurd e.1 g⟩
theorem b0 : vp_nar .boolean (0 : Int32) = 0 := by decide
theorem b1 : vp_nar .boolean (1 : Int32) = 1 := by decide
theorem m_mark {c : Nat} (hm : 0 < m) (hc : c < 128) (hX : MX M X L) (h6 : M 11 6 = nI h) (h9 : M 11 9 = 0) (hh : h ≤ 60) : FX8_mark m (nI c) (pum ν m M) = rt () (pum ν m (if sgn X L h c = true then mH M (h + 1) 0 else mH M h 1)) := by
  have hs := m_sign (ν := ν) hm hX h6 hh
  have e1 : ∀ w, (mS M 11 9 w) 11 6 = nI h := fun w => by simp (disch := omega) only [m_same, m_col, m_row, s_same, s_col, s_row]; exact h6
  have e2 : ∀ w, (mS M 11 9 w) 11 9 = w := fun w => m_same
  by_cases g : sgn X L h c = true
  · have g2 := (sgv_eq hX hc).mpr g
    simp only [FX8_mark, FX8_mark_B22, w_I0, w_I1, w_I2, w_I3, w_I4, w_R5, w_R6, w_R7, w_R8, w_R9, w_R10, w_R11, w_R12, w_R13, w_R14, w_R15, w_I16, w_I17, w_I18, w_I19, w_I20, w_I21, w_vc, w_a0, w_s0, w_a1, w_s1, w_a2, w_s2, w_a3, w_s3, w_a4, w_s4, w_a5, w_s5, w_a6, w_s6, w_a7, w_s7, w_a8, w_s8, w_a9, w_s9, w_a10, w_s10, w_p0, w_p1, w_p2, w_p3, w_p4, w_p16, w_p17, w_p18, w_p19, w_p20, w_p21, o_0, o_1, o_2, o_3, o_4, o_5, hm, i_0, z_0, i_1, z_1, i_2, z_2, i_3, z_3, i_4, z_4, i_5, z_5, i_6, z_6, i_7, z_7, i_8, z_8, h9, if_true, hs, g2, bnd, rt, gd, b0, e1, e2, nI_1, g]
    rfl
  · have g2 : ¬ sgv X L h = nI c := fun e => g ((sgv_eq hX hc).mp e)
    have e0 : nI h + 0 = nI h := Int32.add_zero _
    simp only [FX8_mark, FX8_mark_B22, w_I0, w_I1, w_I2, w_I3, w_I4, w_R5, w_R6, w_R7, w_R8, w_R9, w_R10, w_R11, w_R12, w_R13, w_R14, w_R15, w_I16, w_I17, w_I18, w_I19, w_I20, w_I21, w_vc, w_a0, w_s0, w_a1, w_s1, w_a2, w_s2, w_a3, w_s3, w_a4, w_s4, w_a5, w_s5, w_a6, w_s6, w_a7, w_s7, w_a8, w_s8, w_a9, w_s9, w_a10, w_s10, w_p0, w_p1, w_p2, w_p3, w_p4, w_p16, w_p17, w_p18, w_p19, w_p20, w_p21, o_0, o_1, o_2, o_3, o_4, o_5, hm, i_0, z_0, i_1, z_1, i_2, z_2, i_3, z_3, i_4, z_4, i_5, z_5, i_6, z_6, i_7, z_7, i_8, z_8, h9, if_true, hs, g2, if_false, bnd, rt, gd, b1, e1, e2, e0, one_ne, g]
    rfl
theorem m_isd (hX : MX M X L) : isI (sgv X L h) 48 57 = if isdg X L h = true then 1 else 0 := by
  unfold sgv isdg isI
  by_cases g : h < L
  · have hx := (hX.2.2.1 h g).2
    rw [if_pos g]
    by_cases g2 : X h < 48
    · rw [if_pos (show nI (X h) < 48 from nI_lt (b := 48) g2 (by decide)), if_neg (show ¬ decide (h < L ∧ 48 ≤ X h ∧ X h ≤ 57) = true from fun e => by have := of_decide_eq_true e; omega)]
    · rw [if_neg (show ¬ nI (X h) < 48 from nI_nlt (b := 48) (by omega) (by omega))]
      by_cases g3 : 57 < X h
      · rw [if_pos (show (57 : Int32) < nI (X h) from nI_lt (a := 57) g3 (by omega)), if_neg (show ¬ decide (h < L ∧ 48 ≤ X h ∧ X h ≤ 57) = true from fun e => by have := of_decide_eq_true e; omega)]
      · rw [if_neg (show ¬ (57 : Int32) < nI (X h) from nI_nlt (a := 57) (by omega) (by decide)), if_pos (decide_eq_true (show h < L ∧ 48 ≤ X h ∧ X h ≤ 57 from ⟨g, by omega, by omega⟩))]
  · rw [if_neg g, if_pos (by decide), if_neg (show ¬ decide (h < L ∧ 48 ≤ X h ∧ X h ≤ 57) = true from fun e => g (of_decide_eq_true e).1)]
theorem m_d59 {v : Int32} {k : Nat} (hm : 0 < m) (hk : k < 100) (h6 : M 11 6 = nI h) (h9 : M 11 9 = 0) : FX8_digits_B59 m v (nI k) (pum ν m M) = rt v (pum ν m (mH M h (if k = 0 then 1 else 0))) := by
  have o1 : (0 : Int32) ||| 1 = 1 := by decide
  have o2 : (0 : Int32) ||| 0 = 0 := by decide
  have e6 : ∀ w, mH M h w = mS M 11 9 w := fun w => by
    unfold mH
    funext r j
    by_cases r11 : r = 11
    · subst r11
      by_cases j6 : j = 6
      · subst j6; simp (disch := omega) only [m_same, m_col, m_row, s_same, s_col, s_row]; exact h6.symm
      · simp (disch := omega) only [m_same, m_col, m_row, s_same, s_col, s_row]
    · simp (disch := omega) only [m_same, m_col, m_row, s_same, s_col, s_row]
  by_cases g : k = 0
  · subst g
    simp only [FX8_digits_B59, w_I0, w_I1, w_I2, w_I3, w_I4, w_R5, w_R6, w_R7, w_R8, w_R9, w_R10, w_R11, w_R12, w_R13, w_R14, w_R15, w_I16, w_I17, w_I18, w_I19, w_I20, w_I21, w_vc, w_a0, w_s0, w_a1, w_s1, w_a2, w_s2, w_a3, w_s3, w_a4, w_s4, w_a5, w_s5, w_a6, w_s6, w_a7, w_s7, w_a8, w_s8, w_a9, w_s9, w_a10, w_s10, w_p0, w_p1, w_p2, w_p3, w_p4, w_p16, w_p17, w_p18, w_p19, w_p20, w_p21, o_0, o_1, o_2, o_3, o_4, o_5, hm, i_0, z_0, i_1, z_1, i_2, z_2, i_3, z_3, i_4, z_4, i_5, z_5, i_6, z_6, i_7, z_7, i_8, z_8, h9, nI_0, if_true, o1, gd, b1, e6]
  · have g2 : ¬ nI k = 0 := nI_ne0 (by omega) (by omega)
    simp only [FX8_digits_B59, w_I0, w_I1, w_I2, w_I3, w_I4, w_R5, w_R6, w_R7, w_R8, w_R9, w_R10, w_R11, w_R12, w_R13, w_R14, w_R15, w_I16, w_I17, w_I18, w_I19, w_I20, w_I21, w_vc, w_a0, w_s0, w_a1, w_s1, w_a2, w_s2, w_a3, w_s3, w_a4, w_s4, w_a5, w_s5, w_a6, w_s6, w_a7, w_s7, w_a8, w_s8, w_a9, w_s9, w_a10, w_s10, w_p0, w_p1, w_p2, w_p3, w_p4, w_p16, w_p17, w_p18, w_p19, w_p20, w_p21, o_0, o_1, o_2, o_3, o_4, o_5, hm, i_0, z_0, i_1, z_1, i_2, z_2, i_3, z_3, i_4, z_4, i_5, z_5, i_6, z_6, i_7, z_7, i_8, z_8, h9, g2, if_false, o2, gd, b0, if_true, e6, g]
theorem l_dig {W : Nat} (hm : 0 < m) (hW : W ≤ 3) : ∀ k f i a h (M : Mg), MX M X L → M 11 6 = nI h → M 11 9 = 0 → h ≤ 60 → i + k = W → k < f → a < 10 ^ i → FX8_digits_L4 f m (nI W) (nI a) (nI i) (pum ν m M) = rt (nI (dgv X L k h a)) (pum ν m (mH M (h + dgn X L k h) (if i + dgn X L k h = 0 then 1 else 0))) := by
  intro k
  induction k with
  | zero =>
    intro f i a h M hX h6 h9 hh hi hf ha
    obtain ⟨f, rfl⟩ : ∃ g, f = g + 1 := ⟨f - 1, by omega⟩
    have h1 : nI W ≤ nI i := nI_le (by omega) (by omega)
    simp only [FX8_digits_L4, FX8_digits_B4, w_I0, w_I1, w_I2, w_I3, w_I4, w_R5, w_R6, w_R7, w_R8, w_R9, w_R10, w_R11, w_R12, w_R13, w_R14, w_R15, w_I16, w_I17, w_I18, w_I19, w_I20, w_I21, w_vc, w_a0, w_s0, w_a1, w_s1, w_a2, w_s2, w_a3, w_s3, w_a4, w_s4, w_a5, w_s5, w_a6, w_s6, w_a7, w_s7, w_a8, w_s8, w_a9, w_s9, w_a10, w_s10, w_p0, w_p1, w_p2, w_p3, w_p4, w_p16, w_p17, w_p18, w_p19, w_p20, w_p21, o_0, o_1, o_2, o_3, o_4, o_5, hm, i_0, z_0, i_1, z_1, i_2, z_2, i_3, z_3, i_4, z_4, i_5, z_5, i_6, z_6, i_7, z_7, i_8, z_8, h9, if_true, h1, dgn, dgv, Nat.add_zero]
    exact m_d59 hm (by omega) h6 h9
  | succ k ih =>
    intro f i a h M hX h6 h9 hh hi hf ha
    obtain ⟨f, rfl⟩ : ∃ g, f = g + 1 := ⟨f - 1, by omega⟩
    have h60 := hX.1
    have h1 : ¬ nI W ≤ nI i := nI_ge (by omega) (by omega)
    have hs := m_sign (ν := ν) hm hX h6 hh
    have hd := m_isd (h := h) hX
    simp only [FX8_digits_L4, FX8_digits_B4, w_I0, w_I1, w_I2, w_I3, w_I4, w_R5, w_R6, w_R7, w_R8, w_R9, w_R10, w_R11, w_R12, w_R13, w_R14, w_R15, w_I16, w_I17, w_I18, w_I19, w_I20, w_I21, w_vc, w_a0, w_s0, w_a1, w_s1, w_a2, w_s2, w_a3, w_s3, w_a4, w_s4, w_a5, w_s5, w_a6, w_s6, w_a7, w_s7, w_a8, w_s8, w_a9, w_s9, w_a10, w_s10, w_p0, w_p1, w_p2, w_p3, w_p4, w_p16, w_p17, w_p18, w_p19, w_p20, w_p21, o_0, o_1, o_2, o_3, o_4, o_5, hm, i_0, z_0, i_1, z_1, i_2, z_2, i_3, z_3, i_4, z_4, i_5, z_5, i_6, z_6, i_7, z_7, i_8, z_8, h9, if_true, h1, if_false, hs, bnd, rt, e_isIn, hd, dgn, dgv]
    by_cases g : isdg X L h = true
    · have g2 := of_decide_eq_true (show decide (h < L ∧ 48 ≤ X h ∧ X h ≤ 57) = true from g)
      have hsv : sgv X L h = nI (X h) := if_pos g2.1
      have hval : 10 * nI a + nI (X h) - 48 = nI (10 * a + (X h - 48)) := by
        rw [show (10 : Int32) = nI 10 from rfl, pk_mul, nI_add, show (48 : Int32) = nI 48 from rfl, pk_sub (by omega), show 10 * a + X h - 48 = 10 * a + (X h - 48) by omega]
      have hk1 : mS M 11 6 (nI (h + 1)) = mH M (h + 1) 0 := by
        unfold mH
        funext r j
        by_cases r11 : r = 11
        · subst r11
          by_cases j6 : j = 6
          · subst j6; simp (disch := omega) only [m_same, m_col, m_row, s_same, s_col, s_row]
          · by_cases j9 : j = 9
            · subst j9; simp (disch := omega) only [m_same, m_col, m_row, s_same, s_col, s_row]; exact h9
            · simp (disch := omega) only [m_same, m_col, m_row, s_same, s_col, s_row]
        · simp (disch := omega) only [m_same, m_col, m_row, s_same, s_col, s_row]
      have hn := ih f (i + 1) (10 * a + (X h - 48)) (h + 1) (mH M (h + 1) 0) (Mk_X mH_k hX) mH_6 mH_9 (by omega) (by omega) (by omega) (by rw [Nat.pow_succ]; omega)
      simp only [g, if_true, one_ne, if_false, hs, bnd, rt, h6, hsv, hval, nI_1, hk1]
      rw [hn, mH_H, if_neg (show ¬ i + 1 + dgn X L k (h + 1) = 0 by omega), if_neg (show ¬ i + (dgn X L k (h + 1) + 1) = 0 by omega), show h + 1 + dgn X L k (h + 1) = h + (dgn X L k (h + 1) + 1) by omega]
      rfl
    · have g0 : isdg X L h = false := by simpa using g
      simp only [g0, Bool.false_eq_true, if_false, if_true, Nat.add_zero]
      exact m_d59 hm (by omega) h6 h9
theorem m_dig {W : Nat} (hm : 0 < m) (hW : W ≤ 3) (hX : MX M X L) (h6 : M 11 6 = nI h) (h9 : M 11 9 = 0) (hh : h ≤ 60) : FX8_digits m (nI W) (pum ν m M) = rt (nI (dgv X L W h 0)) (pum ν m (mH M (h + dgn X L W h) (if dgn X L W h = 0 then 1 else 0))) := by
  have h1 := l_dig (ν := ν) hm hW W FU 0 0 h M hX h6 h9 hh (Nat.zero_add _) (by unfold FU; omega) (by decide)
  rw [Nat.zero_add] at h1
  exact h1
/-! words -/
theorem cpl_get (X : Nat → Nat) (L : Nat) : ∀ l h i, i < cpl X L l h → h + i < L ∧ l[i]? = some (X (h + i)) := by
  intro l
  induction l with
  | nil => intro h i hi; exact absurd hi (Nat.not_lt_zero i)
  | cons c l ih =>
    intro h i hi
    simp only [cpl] at hi
    by_cases g : h < L ∧ X h = c
    · rw [if_pos g] at hi
      cases i with
      | zero => exact ⟨g.1, by rw [Nat.add_zero, g.2]; rfl⟩
      | succ i =>
        obtain ⟨a, b⟩ := ih (h + 1) i (by omega)
        exact ⟨by omega, by rw [show h + (i + 1) = h + 1 + i by omega]; exact b⟩
    · rw [if_neg g] at hi; omega
theorem cpl_ge (X : Nat → Nat) (L : Nat) : ∀ l h n, n + 1 ≤ cpl X L l h ↔ n ≤ cpl X L l h ∧ n < l.length ∧ h + n < L ∧ X (h + n) = l.getD n 0 := by
  intro l
  induction l with
  | nil => intro h n; simp [cpl]
  | cons c l ih =>
    intro h n
    simp only [cpl]
    by_cases g : h < L ∧ X h = c
    · rw [if_pos g]
      cases n with
      | zero => simp [g.1, g.2]
      | succ n =>
        have := ih (h + 1) n
        simp only [List.length_cons, List.getD_cons_succ]
        rw [show h + (n + 1) = h + 1 + n by omega]
        constructor
        · intro e
          obtain ⟨a, b, c', d⟩ := this.mp (by omega)
          exact ⟨by omega, by omega, c', d⟩
        · rintro ⟨a, b, c', d⟩
          have := this.mpr ⟨by omega, by omega, c', d⟩
          omega
    · rw [if_neg g]
      constructor
      · intro e; omega
      · rintro ⟨a, b, c', d⟩
        have hn : n = 0 := by omega
        subst hn
        exact absurd ⟨c', d⟩ g
theorem wl_dif : ∀ w, w < 11 → ∀ v, v < 11 → w ≠ v → ∃ i, i < 8 ∧ i < (wl w).length ∧ i < (wl v).length ∧ (wl w)[i]? ≠ (wl v)[i]? := by decide +kernel
theorem full_one {w v : Nat} (hw : w < 11) (hv : v < 11) (h1 : wfull X L h w = true) (h2 : wfull X L h v = true) : w = v := by
  by_cases e : w = v
  · exact e
  · obtain ⟨i, -, i1, i2, i3⟩ := wl_dif w hw v hv e
    have h1 := of_decide_eq_true (show decide (cpl X L (wl w) h = (wl w).length) = true from h1)
    have h2 := of_decide_eq_true (show decide (cpl X L (wl v) h = (wl v).length) = true from h2)
    obtain ⟨-, a⟩ := cpl_get X L (wl w) h i (by omega)
    obtain ⟨-, b⟩ := cpl_get X L (wl v) h i (by omega)
    exact absurd (a.trans b.symm) i3
theorem wat_ok : ∀ w, w < 11 → wat.getD w 0 < 60 ∧ wat.getD (w + 1) 0 = wat.getD w 0 + (wl w).length ∧ wat.getD (w + 1) 0 ≤ 60 ∧ ∀ i, i < 8 → i < (wl w).length → wds.getD (wat.getD w 0 + i) 0 = (wl w).getD i 0 ∧ (wl w).getD i 0 < 128 := by decide +kernel
/-- some word goes further than n -/
def anyw (X : Nat → Nat) (L h n : Nat) (i : Nat) : Bool := decide (∃ w, w < i ∧ n + 1 ≤ cpl X L (wl w) h)
def inw (X : Nat → Nat) (L h n w : Nat) : Int32 := if n ≤ cpl X L (wl w) h then 1 else 0
theorem l_w41 {k25 : Nat → Int32 → Int32 → Me → Rs Int32} {n : Nat} {is : Int32} (hm : 0 < m) (hn : n < 9) (hh : h ≤ 60) (hhn : h + n ≤ 60) : ∀ k f w (M : Mg), MX M X L → M 11 6 = nI (h + n) → (∀ v, v < w → M 8 v = inw X L h (n + 1) v) → (∀ v, w ≤ v → v < 11 → M 8 v = inw X L h n v) → w + k = 11 → k < f → ∃ M', (∀ r, r ≠ 8 → M' r = M r) ∧ (∀ v, v < 11 → M' 8 v = inw X L h (n + 1) v) ∧ FX8_word_L41 k25 f m (nI n) is (if anyw X L h n w = true then 1 else 0) (nI w) (pum ν m M) = FX8_word_B140 k25 m (nI n) is (if anyw X L h n 11 = true then 1 else 0) (if anyw X L h n 11 = true then 0 else 1) m (pum ν m M') := by
  intro k
  induction k with
  | zero =>
    intro f w M hX h6 hr1 hr2 hw hf
    obtain ⟨f, rfl⟩ : ∃ g, f = g + 1 := ⟨f - 1, by omega⟩
    have hw11 : w = 11 := by omega
    subst hw11
    have h1 : (11 : Int32) ≤ nI 11 := by decide
    refine ⟨M, fun _ _ => rfl, hr1, ?_⟩
    by_cases g : anyw X L h n 11 = true
    · simp only [FX8_word_L41, FX8_word_B41, h1, if_true, g, one_ne, if_false]
    · have g0 : anyw X L h n 11 = false := by simpa using g
      simp only [FX8_word_L41, FX8_word_B41, h1, if_true, g0, Bool.false_eq_true, if_false]
  | succ k ih =>
    intro f w M hX h6 hr1 hr2 hw hf
    obtain ⟨f, rfl⟩ : ∃ g, f = g + 1 := ⟨f - 1, by omega⟩
    have hw11 : w < 11 := by omega
    have h60 := hX.1
    obtain ⟨t1, t2, t3, t4⟩ := wat_ok w hw11
    obtain ⟨l4, l8⟩ := wl_len w hw11
    have h1 : ¬ (11 : Int32) ≤ nI w := nI_ge (b := 11) hw11 (by decide)
    have i8 : inb (nI w) 11 = true := inb_n hw11 (by decide)
    have c8 : (nI w).toNatClampNeg = w := nI_clamp (by omega)
    have i10 : inb (nI w) 12 = true := inb_n (by omega) (by decide)
    have i10b : inb (nI (w + 1)) 12 = true := inb_n (by omega) (by decide)
    have c10b : (nI (w + 1)).toNatClampNeg = w + 1 := nI_clamp (by omega)
    have r10 : M 10 w = nI (wat.getD w 0) := hX.2.2.2.2 w (by omega)
    have r10b : M 10 (w + 1) = nI (wat.getD (w + 1) 0) := hX.2.2.2.2 (w + 1) (by omega)
    have hs := m_sign (ν := ν) hm hX h6 hhn
    have hr8 := hr2 w (Nat.le_refl _) hw11
    have hcp := cpl_ge X L (wl w) h n
    /- what is written, and how it goes on -/
    have hgo : FX8_word_L41 k25 (f + 1) m (nI n) is (if anyw X L h n w = true then 1 else 0) (nI w) (pum ν m M) = FX8_word_L41 k25 f m (nI n) is (if anyw X L h n (w + 1) = true then 1 else 0) (nI (w + 1)) (pum ν m (mS M 8 w (inw X L h (n + 1) w))) := by
      have e8 : ∀ x, (mS M 8 w x) 8 w = x := fun x => m_same
      have hany : (if anyw X L h n (w + 1) = true then (1 : Int32) else 0) = if n + 1 ≤ cpl X L (wl w) h then 1 else (if anyw X L h n w = true then 1 else 0) := by
        unfold anyw
        by_cases g : n + 1 ≤ cpl X L (wl w) h
        · rw [if_pos g, if_pos (decide_eq_true ⟨w, by omega, g⟩)]
        · rw [if_neg g]
          by_cases g2 : ∃ v, v < w ∧ n + 1 ≤ cpl X L (wl v) h
          · obtain ⟨v, v1, v2⟩ := g2
            rw [if_pos (decide_eq_true (show ∃ v, v < w + 1 ∧ n + 1 ≤ cpl X L (wl v) h from ⟨v, by omega, v2⟩)), if_pos (decide_eq_true (show ∃ v, v < w ∧ n + 1 ≤ cpl X L (wl v) h from ⟨v, v1, v2⟩))]
          · rw [if_neg (show ¬ decide (∃ v, v < w + 1 ∧ n + 1 ≤ cpl X L (wl v) h) = true from fun e => by
                obtain ⟨v, v1, v2⟩ := of_decide_eq_true e
                by_cases x : v = w
                · subst x; exact g v2
                · exact g2 ⟨v, by omega, v2⟩), if_neg (show ¬ decide (∃ v, v < w ∧ n + 1 ≤ cpl X L (wl v) h) = true from fun e => g2 (of_decide_eq_true e))]
      rw [hany]
      have hz : (if anyw X L h n w = true then (1 : Int32) else 0) = 0 ∨ (if anyw X L h n w = true then (1 : Int32) else 0) = 1 := by
        by_cases x : anyw X L h n w = true
        · exact Or.inr (if_pos x)
        · exact Or.inl (if_neg x)
      generalize (if anyw X L h n w = true then (1 : Int32) else 0) = acc at hz
      have o1 : acc ||| 1 = 1 := by rcases hz with e | e <;> rw [e] <;> decide
      have o0 : acc ||| 0 = acc := by rcases hz with e | e <;> rw [e] <;> decide
      have hz0 : inw X L h n w &&& 0 = 0 := by unfold inw; split <;> decide
      have a11 : (1 : Int32) &&& 1 = 1 := by decide
      have a01 : (0 : Int32) &&& 1 = 0 := by decide
      /- the sign doesn't go on with the word -/
      have hno : ¬ (n < (wl w).length ∧ h + n < L ∧ X (h + n) = (wl w).getD n 0) → FX8_word_B102 (FX8_word_L41 k25 f) m (nI n) is acc (nI w) (inw X L h n w) (nI w) (m + 9) (pum ν m M) = FX8_word_L41 k25 f m (nI n) is (if n + 1 ≤ cpl X L (wl w) h then 1 else acc) (nI (w + 1)) (pum ν m (mS M 8 w (inw X L h (n + 1) w))) := by
        intro x
        have g : ¬ n + 1 ≤ cpl X L (wl w) h := fun e => x (hcp.mp e).2
        have e2 : inw X L h (n + 1) w = 0 := if_neg g
        simp only [FX8_word_B102, FX8_word_B103, w_I0, w_I1, w_I2, w_I3, w_I4, w_R5, w_R6, w_R7, w_R8, w_R9, w_R10, w_R11, w_R12, w_R13, w_R14, w_R15, w_I16, w_I17, w_I18, w_I19, w_I20, w_I21, w_vc, w_a0, w_s0, w_a1, w_s1, w_a2, w_s2, w_a3, w_s3, w_a4, w_s4, w_a5, w_s5, w_a6, w_s6, w_a7, w_s7, w_a8, w_s8, w_a9, w_s9, w_a10, w_s10, w_p0, w_p1, w_p2, w_p3, w_p4, w_p16, w_p17, w_p18, w_p19, w_p20, w_p21, o_0, o_1, o_2, o_3, o_4, o_5, hm, i_0, z_0, i_1, z_1, i_2, z_2, i_3, z_3, i_4, z_4, i_5, z_5, i_6, z_6, i_7, z_7, i_8, z_8, i8, c8, hz0, e8, if_true, show ¬ (0 : Int32) = 1 by decide, if_false, o0, nI_1, e2, g]
      by_cases g1 : n < (wl w).length
      · have g1' : ¬ nI (wat.getD (w + 1) 0) ≤ nI (wat.getD w 0) + nI n := by rw [nI_add]; exact nI_ge (by omega) (by omega)
        obtain ⟨q1, q2⟩ := t4 n (by omega) g1
        have i9 : inb (nI (wat.getD w 0 + n)) 60 = true := inb_n (by omega) (by decide)
        have c9 : (nI (wat.getD w 0 + n)).toNatClampNeg = wat.getD w 0 + n := nI_clamp (by omega)
        have r9 : M 9 (wat.getD w 0 + n) = nI ((wl w).getD n 0) := by rw [hX.2.2.2.1 _ (by omega), q1]
        have hsg := sgv_eq (h := h + n) hX q2
        simp only [FX8_word_L41, FX8_word_B41, h1, if_false, w_I0, w_I1, w_I2, w_I3, w_I4, w_R5, w_R6, w_R7, w_R8, w_R9, w_R10, w_R11, w_R12, w_R13, w_R14, w_R15, w_I16, w_I17, w_I18, w_I19, w_I20, w_I21, w_vc, w_a0, w_s0, w_a1, w_s1, w_a2, w_s2, w_a3, w_s3, w_a4, w_s4, w_a5, w_s5, w_a6, w_s6, w_a7, w_s7, w_a8, w_s8, w_a9, w_s9, w_a10, w_s10, w_p0, w_p1, w_p2, w_p3, w_p4, w_p16, w_p17, w_p18, w_p19, w_p20, w_p21, o_0, o_1, o_2, o_3, o_4, o_5, hm, i_0, z_0, i_1, z_1, i_2, z_2, i_3, z_3, i_4, z_4, i_5, z_5, i_6, z_6, i_7, z_7, i_8, z_8, i8, c8, i10, i10b, nI_1, c10b, if_true, hr8, r10, r10b]
        rw [if_neg g1']
        simp only [nI_add, i9, c9, if_true, r9, hs, bnd, rt]
        by_cases g2 : h + n < L ∧ X (h + n) = (wl w).getD n 0
        · rw [if_pos (hsg.mpr (decide_eq_true g2)).symm]
          by_cases g3 : n ≤ cpl X L (wl w) h
          · have g : n + 1 ≤ cpl X L (wl w) h := hcp.mpr ⟨g3, g1, g2⟩
            have e2 : inw X L h (n + 1) w = 1 := if_pos g
            have e3 : inw X L h n w = 1 := if_pos g3
            simp only [FX8_word_B103, w_I0, w_I1, w_I2, w_I3, w_I4, w_R5, w_R6, w_R7, w_R8, w_R9, w_R10, w_R11, w_R12, w_R13, w_R14, w_R15, w_I16, w_I17, w_I18, w_I19, w_I20, w_I21, w_vc, w_a0, w_s0, w_a1, w_s1, w_a2, w_s2, w_a3, w_s3, w_a4, w_s4, w_a5, w_s5, w_a6, w_s6, w_a7, w_s7, w_a8, w_s8, w_a9, w_s9, w_a10, w_s10, w_p0, w_p1, w_p2, w_p3, w_p4, w_p16, w_p17, w_p18, w_p19, w_p20, w_p21, o_0, o_1, o_2, o_3, o_4, o_5, hm, i_0, z_0, i_1, z_1, i_2, z_2, i_3, z_3, i_4, z_4, i_5, z_5, i_6, z_6, i_7, z_7, i_8, z_8, i8, c8, a11, e8, if_true, e3, o1, nI_1, e2, g]
          · have g : ¬ n + 1 ≤ cpl X L (wl w) h := fun e => g3 (hcp.mp e).1
            have e2 : inw X L h (n + 1) w = 0 := if_neg g
            have e3 : inw X L h n w = 0 := if_neg g3
            simp only [FX8_word_B103, w_I0, w_I1, w_I2, w_I3, w_I4, w_R5, w_R6, w_R7, w_R8, w_R9, w_R10, w_R11, w_R12, w_R13, w_R14, w_R15, w_I16, w_I17, w_I18, w_I19, w_I20, w_I21, w_vc, w_a0, w_s0, w_a1, w_s1, w_a2, w_s2, w_a3, w_s3, w_a4, w_s4, w_a5, w_s5, w_a6, w_s6, w_a7, w_s7, w_a8, w_s8, w_a9, w_s9, w_a10, w_s10, w_p0, w_p1, w_p2, w_p3, w_p4, w_p16, w_p17, w_p18, w_p19, w_p20, w_p21, o_0, o_1, o_2, o_3, o_4, o_5, hm, i_0, z_0, i_1, z_1, i_2, z_2, i_3, z_3, i_4, z_4, i_5, z_5, i_6, z_6, i_7, z_7, i_8, z_8, i8, c8, a01, e8, if_true, e3, show ¬ (0 : Int32) = 1 by decide, if_false, o0, nI_1, e2, g]
        · rw [if_neg (fun e => g2 (of_decide_eq_true (hsg.mp e.symm)))]
          exact hno (fun x => g2 x.2)
      · have g1' : nI (wat.getD (w + 1) 0) ≤ nI (wat.getD w 0) + nI n := by rw [nI_add]; exact nI_le (by omega) (by omega)
        simp only [FX8_word_L41, FX8_word_B41, h1, if_false, w_I0, w_I1, w_I2, w_I3, w_I4, w_R5, w_R6, w_R7, w_R8, w_R9, w_R10, w_R11, w_R12, w_R13, w_R14, w_R15, w_I16, w_I17, w_I18, w_I19, w_I20, w_I21, w_vc, w_a0, w_s0, w_a1, w_s1, w_a2, w_s2, w_a3, w_s3, w_a4, w_s4, w_a5, w_s5, w_a6, w_s6, w_a7, w_s7, w_a8, w_s8, w_a9, w_s9, w_a10, w_s10, w_p0, w_p1, w_p2, w_p3, w_p4, w_p16, w_p17, w_p18, w_p19, w_p20, w_p21, o_0, o_1, o_2, o_3, o_4, o_5, hm, i_0, z_0, i_1, z_1, i_2, z_2, i_3, z_3, i_4, z_4, i_5, z_5, i_6, z_6, i_7, z_7, i_8, z_8, i8, c8, i10, i10b, nI_1, c10b, if_true, hr8, r10, r10b]
        rw [if_pos g1']
        exact hno (fun x => g1 x.1)
    have hX2 : MX (mS M 8 w (inw X L h (n + 1) w)) X L := Mk_X ⟨fun r a _ => by funext j; simp (disch := omega) only [m_same, m_col, m_row, s_same, s_col, s_row], fun j _ _ => by simp (disch := omega) only [m_same, m_col, m_row, s_same, s_col, s_row]⟩ hX
    obtain ⟨M', q1, q2, q3⟩ := ih f (w + 1) (mS M 8 w (inw X L h (n + 1) w)) hX2 (by simp (disch := omega) only [m_same, m_col, m_row, s_same, s_col, s_row]; exact h6) (fun v hv => by
      by_cases e : v = w
      · subst e; simp (disch := omega) only [m_same, m_col, m_row, s_same, s_col, s_row]
      · simp (disch := omega) only [m_same, m_col, m_row, s_same, s_col, s_row]; exact hr1 v (by omega)) (fun v v1 v2 => by simp (disch := omega) only [m_same, m_col, m_row, s_same, s_col, s_row]; exact hr2 v (by omega) v2) (by omega) (by omega)
    exact ⟨M', fun r hr => (q1 r hr).trans (by funext j; simp (disch := omega) only [m_same, m_col, m_row, s_same, s_col, s_row]), q2, hgo.trans q3⟩
theorem l_w167 {k25 : Nat → Int32 → Int32 → Me → Rs Int32} {n : Nat} (hm : 0 < m) (hn : n < 20) (hX : MX M X L) (hr : ∀ v, v < 11 → M 8 v = inw X L h n v) : ∀ k f w (is : Int32), w + k = 11 → k < f → FX8_word_L167 k25 f m (nI n) is (nI w) (pum ν m M) = k25 m (nI n) (fo (fun v a => if n ≤ cpl X L (wl v) h ∧ (wl v).length = n then nI v else a) w k is) (pum ν m M) := by
  intro k
  induction k with
  | zero =>
    intro f w is hw hf
    obtain ⟨f, rfl⟩ : ∃ g, f = g + 1 := ⟨f - 1, by omega⟩
    have h1 : (11 : Int32) ≤ nI w := nI_le (a := 11) (by omega) (by omega)
    simp only [FX8_word_L167, FX8_word_B167, h1, if_true, fo]
  | succ k ih =>
    intro f w is hw hf
    obtain ⟨f, rfl⟩ : ∃ g, f = g + 1 := ⟨f - 1, by omega⟩
    have hw11 : w < 11 := by omega
    obtain ⟨t1, t2, t3, t4⟩ := wat_ok w hw11
    obtain ⟨l4, l8⟩ := wl_len w hw11
    have h1 : ¬ (11 : Int32) ≤ nI w := nI_ge (b := 11) hw11 (by decide)
    have i8 : inb (nI w) 11 = true := inb_n hw11 (by decide)
    have c8 : (nI w).toNatClampNeg = w := nI_clamp (by omega)
    have i10 : inb (nI w) 12 = true := inb_n (by omega) (by decide)
    have i10b : inb (nI (w + 1)) 12 = true := inb_n (by omega) (by decide)
    have c10b : (nI (w + 1)).toNatClampNeg = w + 1 := nI_clamp (by omega)
    have r10 : M 10 w = nI (wat.getD w 0) := hX.2.2.2.2 w (by omega)
    have r10b : M 10 (w + 1) = nI (wat.getD (w + 1) 0) := hX.2.2.2.2 (w + 1) (by omega)
    simp only [FX8_word_L167, FX8_word_B167, h1, if_false, w_I0, w_I1, w_I2, w_I3, w_I4, w_R5, w_R6, w_R7, w_R8, w_R9, w_R10, w_R11, w_R12, w_R13, w_R14, w_R15, w_I16, w_I17, w_I18, w_I19, w_I20, w_I21, w_vc, w_a0, w_s0, w_a1, w_s1, w_a2, w_s2, w_a3, w_s3, w_a4, w_s4, w_a5, w_s5, w_a6, w_s6, w_a7, w_s7, w_a8, w_s8, w_a9, w_s9, w_a10, w_s10, w_p0, w_p1, w_p2, w_p3, w_p4, w_p16, w_p17, w_p18, w_p19, w_p20, w_p21, o_0, o_1, o_2, o_3, o_4, o_5, hm, i_0, z_0, i_1, z_1, i_2, z_2, i_3, z_3, i_4, z_4, i_5, z_5, i_6, z_6, i_7, z_7, i_8, z_8, i8, c8, if_true, hr w hw11, fo]
    by_cases g : n ≤ cpl X L (wl w) h
    · have e1 : inw X L h n w = 1 := if_pos g
      simp only [e1, if_true, i10, c8, i10b, c10b, r10, r10b, nI_1, nI_add]
      by_cases g2 : (wl w).length = n
      · rw [if_pos (show nI (wat.getD w 0 + n) = nI (wat.getD (w + 1) 0) by rw [t2, g2]), if_pos ⟨g, g2⟩]
        exact ih f (w + 1) _ (by omega) (by omega)
      · rw [if_neg (show ¬ nI (wat.getD w 0 + n) = nI (wat.getD (w + 1) 0) from fun e => g2 (by have := (nI_eq (by omega) (by omega)).mp e; omega)), if_neg (fun x => g2 x.2)]
        exact ih f (w + 1) _ (by omega) (by omega)
    · have e1 : inw X L h n w = 0 := if_neg g
      simp only [e1, show ¬ (0 : Int32) = 1 by decide, if_false, nI_1]
      rw [if_neg (fun x => g x.1)]
      exact ih f (w + 1) _ (by omega) (by omega)
theorem fo_last {p : Nat → Prop} [DecidablePred p] : ∀ k w (is : Int32), ((∀ v, w ≤ v → v < w + k → ¬ p v) → fo (fun v a => if p v then nI v else a) w k is = is) ∧ ∀ w0, w ≤ w0 → w0 < w + k → p w0 → (∀ v, w ≤ v → v < w + k → p v → v = w0) → fo (fun v a => if p v then nI v else a) w k is = nI w0 := by
  intro k
  induction k with
  | zero => intro w is; exact ⟨fun _ => rfl, fun w0 a b => by omega⟩
  | succ k ih =>
    intro w is
    simp only [fo]
    refine ⟨fun hno => ?_, fun w0 a b c d => ?_⟩
    · rw [if_neg (hno w (Nat.le_refl _) (by omega))]
      exact (ih (w + 1) is).1 (fun v v1 v2 => hno v (by omega) (by omega))
    · by_cases e : w0 = w
      · subst e
        rw [if_pos c]
        refine (ih (w0 + 1) (nI w0)).1 (fun v v1 v2 hv => ?_)
        have := d v (by omega) (by omega) hv
        omega
      · refine (ih (w + 1) _).2 w0 (by omega) (by omega) c (fun v v1 v2 hv => d v (by omega) (by omega) hv)
end MR
