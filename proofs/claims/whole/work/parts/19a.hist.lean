/-! ===== text, history, snapshot ===== -/
theorem nar_ch : ∀ ch, ch < 127 → vp_nar .char (nI ch) = nI ch := by decide +kernel
theorem fo_und {c : Nat} : ∀ k i (N : Mg), (∀ j, i ≤ j → j < i + k → (fo (fun j N => mS N 0 j (N 4 (c * 117 + j))) i k N) 0 j = N 4 (c * 117 + j)) ∧ (∀ j, j < i → (fo (fun j N => mS N 0 j (N 4 (c * 117 + j))) i k N) 0 j = N 0 j) ∧ ∀ r, r ≠ 0 → (fo (fun j N => mS N 0 j (N 4 (c * 117 + j))) i k N) r = N r := by
  intro k
  induction k with
  | zero => intro i N; exact ⟨fun j a b => by omega, fun _ _ => rfl, fun _ _ => rfl⟩
  | succ k ih =>
    intro i N
    simp only [fo]
    obtain ⟨h1, h2, h3⟩ := ih (i + 1) (mS N 0 i (N 4 (c * 117 + i)))
    have e4 : (mS N 0 i (N 4 (c * 117 + i))) 4 = N 4 := by funext j; simp (disch := omega) only [m_same, m_col, m_row, s_same, s_col, s_row]
    refine ⟨fun j a b => ?_, fun j a => (h2 j (by omega)).trans (by simp (disch := omega) only [m_same, m_col, m_row, s_same, s_col, s_row]), fun r hr => (h3 r hr).trans (by funext j; simp (disch := omega) only [m_same, m_col, m_row, s_same, s_col, s_row])⟩
    by_cases e : j = i
    · subst e
      rw [h2 j (by omega)]
      exact m_same
    · rw [h1 j (by omega) (by omega), e4]
theorem mud_s {c : Nat} {M : Mg} : (∀ j, j < 117 → (mud c M) 0 j = M 4 (c * 117 + j)) ∧ (∀ r, r ≠ 0 → r ≠ 11 → (mud c M) r = M r) ∧ (mud c M) 11 1 = nI c ∧ (mud c M) 11 0 = 0 ∧ ∀ j, j ≠ 0 → j ≠ 1 → (mud c M) 11 j = M 11 j := by
  obtain ⟨h1, h2, h3⟩ := fo_und (c := c) 117 0 (mS (mF M 0) 11 1 (nI c))
  have r2 : ∀ r, r ≠ 11 → (mS (mF M 0) 11 1 (nI c)) r = M r := fun r hr => by rw [← T0_r (M := M) (k := 0) hr]; funext j; simp (disch := omega) only [m_same, m_col, m_row, s_same, s_col, s_row]
  refine ⟨fun j hj => ?_, fun r a b => (h3 r a).trans (r2 r b), ?_, ?_, fun j j0 j1 => ?_⟩
  · have := h1 j (Nat.zero_le _) (by omega)
    rw [r2 4 (by decide)] at this
    exact this
  · exact (congrFun (h3 11 (by decide)) 1).trans m_same
  · exact (congrFun (h3 11 (by decide)) 0).trans ((m_col (by decide)).trans T0_0)
  · exact (congrFun (h3 11 (by decide)) j).trans ((m_col j1).trans (T0_s j0))
section TH
variable {T : Nat}
theorem A_append (x : Int32) : Ans T (fun a => FX7_append a x) (fun a => FX8_append a x) (fun r r' : Int32 => r = r') [(IAE, 1), (ISE, 2)] := by
  intro μ ν b m S M hμ hb hm h
  have hA := h
  obtain ⟨a1, a2, a3, a4, a5, a6, a7, ⟨l, hl, s6, m5, hx⟩, a9⟩ := h
  have bad : (x < 32 ∨ ¬ x ≤ 126) → (∃ (e : String × Int32) (r' : Int32) (S' : Cg) (M' : Mg), e ∈ [(IAE, 1), (ISE, 2)] ∧ FX7_append b x (puc μ b S) = some (.inr e.1, puc μ b S') ∧ FX8_append m x (pum ν m M) = rt r' (pum ν m M') ∧ M' 11 0 = e.2 ∧ RA (T + 400) S' M') := by
    intro g
    have e1 : FX7_append b x (puc μ b S) = some (.inr IAE, puc μ b S) := by
      rcases g with g | g
      · simp only [FX7_append, FX7_append_B12, g, if_true, thr_p hb hμ, IAE]
      · by_cases g2 : x < 32
        · simp only [FX7_append, FX7_append_B12, g2, if_true, thr_p hb hμ, IAE]
        · simp only [FX7_append, FX7_append_B12, g, g2, if_false, thr_p hb hμ, IAE]
    have e2 : isI x 32 126 = 0 := by
      unfold isI
      rcases g with g | g
      · rw [if_pos g]
      · by_cases g2 : x < 32
        · rw [if_pos g2]
        · rw [if_neg g2, if_pos (Int32.not_le.mp g)]
    have ef : (mS M 11 0 1) 11 0 = 1 := m_same
    refine ⟨(IAE, 1), 0, S, mF M 1, by simp, e1, ?_, T0_0, RA_F hA 1⟩
    simp only [FX8_append, FX8_append_B30, e_isIn, e2, w_I0, w_I1, w_I2, w_I3, w_I4, w_R5, w_R6, w_R7, w_R8, w_R9, w_R10, w_R11, w_R12, w_R13, w_R14, w_R15, w_I16, w_I17, w_I18, w_I19, w_I20, w_I21, w_vc, w_a0, w_s0, w_a1, w_s1, w_a2, w_s2, w_a3, w_s3, w_a4, w_s4, w_a5, w_s5, w_a6, w_s6, w_a7, w_s7, w_a8, w_s8, w_a9, w_s9, w_a10, w_s10, w_p0, w_p1, w_p2, w_p3, w_p4, w_p16, w_p17, w_p18, w_p19, w_p20, w_p21, o_0, o_1, o_2, o_3, o_4, o_5, hm, i_0, z_0, i_1, z_1, i_2, z_2, i_3, z_3, i_4, z_4, i_5, z_5, i_6, z_6, i_7, z_7, i_8, z_8, bnd, rt, if_true, ef, one_ne, if_false, mF]
  by_cases g1 : x < 32
  · exact Or.inr (bad (Or.inl g1))
  · by_cases g2 : x ≤ 126
    · obtain ⟨ch, hc, rfl⟩ : ∃ ch, ch < 127 ∧ x = nI ch := by
        rcases in_or (x := x) (n := 127) (by decide) with e | e
        · exfalso
          rcases e with e | e
          · exact g1 (Int32.lt_trans e (by decide))
          · exact absurd (Int32.le_trans e g2) (by decide)
        · exact e
      have hc32 : 32 ≤ ch := by
        by_cases e : ch < 32
        · exact absurd (nI_lt (a := ch) (b := 32) e (by decide)) g1
        · omega
      have ei : isI (nI ch) 32 126 = 1 := by
        unfold isI
        rw [if_neg g1, if_neg (Int32.not_lt.mpr g2)]
      by_cases g3 : l = 60
      · have h60 : ¬ nI l < 60 := by rw [g3]; decide
        have e60 : nI l = 60 := by rw [g3]; rfl
        have ef : (mS M 11 0 2) 11 0 = 2 := m_same
        have t2 : ¬ (2 : Int32) = 0 := by decide
        refine Or.inr ⟨(ISE, 2), 0, S, mF M 2, by simp, ?_, ?_, T0_0, RA_F hA 2⟩
        · show FX7_append b (nI ch) (puc μ b S) = _
          simp only [FX7_append, g1, if_false, g2, if_true, k_R5 hb, k_S1, s6, h60, thr_p hb hμ, ISE]
        · show FX8_append m (nI ch) (pum ν m M) = _
          simp only [FX8_append, FX8_append_B30, e_isIn, ei, w_I0, w_I1, w_I2, w_I3, w_I4, w_R5, w_R6, w_R7, w_R8, w_R9, w_R10, w_R11, w_R12, w_R13, w_R14, w_R15, w_I16, w_I17, w_I18, w_I19, w_I20, w_I21, w_vc, w_a0, w_s0, w_a1, w_s1, w_a2, w_s2, w_a3, w_s3, w_a4, w_s4, w_a5, w_s5, w_a6, w_s6, w_a7, w_s7, w_a8, w_s8, w_a9, w_s9, w_a10, w_s10, w_p0, w_p1, w_p2, w_p3, w_p4, w_p16, w_p17, w_p18, w_p19, w_p20, w_p21, o_0, o_1, o_2, o_3, o_4, o_5, hm, i_0, z_0, i_1, z_1, i_2, z_2, i_3, z_3, i_4, z_4, i_5, z_5, i_6, z_6, i_7, z_7, i_8, z_8, bnd, rt, if_true, one_ne, if_false, m5, e60, ef, t2, mF]
      · have h60 : nI l < 60 := nI_lt (b := 60) (by omega) (by decide)
        have n60 : ¬ nI l = 60 := fun e => g3 (by
          have := congrArg Int32.toNatClampNeg e
          rw [nI_clamp (by omega)] at this
          exact this)
        have hi : inb (nI l) 60 = true := inb_n (by omega) (by decide)
        have hcl : (nI l).toNatClampNeg = l := nI_clamp (by omega)
        have e6 : (cS S 1 l (nI ch)).2.1 0 6 = nI l := (congrFun (cS_r (by decide)) 6).trans s6
        have e6' : (cS (cS S 1 l (nI ch)) 0 6 (nI (l + 1))).2.1 0 6 = nI (l + 1) := cS_s
        have f0 : (mS M 11 0 0) 11 0 = 0 := m_same
        have f5 : (mS M 11 0 0) 11 5 = nI l := (m_col (by decide)).trans m5
        have f5' : (mS (mS M 11 0 0) 6 l (nI ch)) 11 5 = nI l := by simp (disch := omega) only [m_same, m_col, m_row, s_same, s_col, s_row]; exact m5
        have f5'' : (mS (mS (mS M 11 0 0) 6 l (nI ch)) 11 5 (nI (l + 1))) 11 5 = nI (l + 1) := m_same
        refine Or.inl ⟨nI (l + 1), nI (l + 1), cS (cS S 1 l (nI ch)) 0 6 (nI (l + 1)), mS (mS (mS M 11 0 0) 6 l (nI ch)) 11 5 (nI (l + 1)), ?_, ?_, rfl, ?_, ?_⟩
        · show FX7_append b (nI ch) (puc μ b S) = _
          simp only [FX7_append, FX5_put, g1, if_false, g2, if_true, k_R5 hb, k_S1, s6, h60, k_vc146, k_S0, k_s1, hi, hcl, nar_ch ch hc, e6, nI_1, k_sp1, e6', bnd, rt]
        · show FX8_append m (nI ch) (pum ν m M) = _
          simp only [FX8_append, FX8_append_B30, e_isIn, ei, w_I0, w_I1, w_I2, w_I3, w_I4, w_R5, w_R6, w_R7, w_R8, w_R9, w_R10, w_R11, w_R12, w_R13, w_R14, w_R15, w_I16, w_I17, w_I18, w_I19, w_I20, w_I21, w_vc, w_a0, w_s0, w_a1, w_s1, w_a2, w_s2, w_a3, w_s3, w_a4, w_s4, w_a5, w_s5, w_a6, w_s6, w_a7, w_s7, w_a8, w_s8, w_a9, w_s9, w_a10, w_s10, w_p0, w_p1, w_p2, w_p3, w_p4, w_p16, w_p17, w_p18, w_p19, w_p20, w_p21, o_0, o_1, o_2, o_3, o_4, o_5, hm, i_0, z_0, i_1, z_1, i_2, z_2, i_3, z_3, i_4, z_4, i_5, z_5, i_6, z_6, i_7, z_7, i_8, z_8, bnd, rt, if_true, one_ne, if_false, m5, n60, f0, f5, hi, hcl, f5', nI_1, f5'']
        · simp (disch := omega) only [m_same, m_col, m_row, s_same, s_col, s_row]
        · generalize hN : mS (mS (mS M 11 0 0) 6 l (nI ch)) 11 5 (nI (l + 1)) = N
          have hr : ∀ r, r ≠ 6 → r ≠ 11 → N r = M r := fun r r6 r11 => by rw [← hN]; funext j; simp (disch := omega) only [m_same, m_col, m_row, s_same, s_col, s_row]
          have hj : ∀ j, j ≠ 0 → j ≠ 5 → N 11 j = M 11 j := fun j j0 j5 => by rw [← hN]; simp (disch := omega) only [m_same, m_col, m_row, s_same, s_col, s_row]
          have h5 : N 11 5 = nI (l + 1) := by rw [← hN]; exact m_same
          have h6 : N 6 l = nI ch := by rw [← hN]; simp (disch := omega) only [m_same, m_col, m_row, s_same, s_col, s_row]
          have h6' : ∀ j, j ≠ l → N 6 j = M 6 j := fun j jl => by rw [← hN]; simp (disch := omega) only [m_same, m_col, m_row, s_same, s_col, s_row]
          have u0 : ∀ j, j ≠ 6 → (cS (cS S 1 l (nI ch)) 0 6 (nI (l + 1))).2.1 0 j = S.2.1 0 j := fun j j6 => (cS_j j6).trans (congrFun (cS_r (by decide)) j)
          have u2 : (cS (cS S 1 l (nI ch)) 0 6 (nI (l + 1))).2.1 2 = S.2.1 2 := (cS_r (by decide)).trans (cS_r (by decide))
          refine ⟨a1, ?_, RA2_c a3 (by omega) (u0 0 (by decide)) rfl (hj 4 (by decide) (by decide)) (hr 2 (by decide) (by decide)), RA3_c a4 (by omega) (u0 5 (by decide)) (u0 4 (by decide)) (hj 1 (by decide) (by decide)) (hr 4 (by decide) (by decide)) (fun _ _ => rfl), RA4_c a5 (u0 1 (by decide)) (hj 2 (by decide) (by decide)), RA5_c a6 (u0 2 (by decide)) (hj 3 (by decide) (by decide)), RA6_c a7 (u0 3 (by decide)) u2 (hj 8 (by decide) (by decide)) (hr 7 (by decide) (by decide)), ⟨l + 1, by omega, e6', h5, fun i hi => ?_⟩, RA8_c a9 (hr 9 (by decide) (by decide)) (hr 10 (by decide) (by decide))⟩
          · rw [hr 0 (by decide) (by decide)]
            exact RR_mono a2 (by omega)
          · have e1 : (cS (cS S 1 l (nI ch)) 0 6 (nI (l + 1))).2.1 1 = (cS S 1 l (nI ch)).2.1 1 := cS_r (by decide)
            rw [e1]
            by_cases e : i = l
            · subst e
              exact ⟨cS_s.trans h6.symm, ch, hc32, hc, h6⟩
            · obtain ⟨d1, d2⟩ := hx i (by omega)
              rw [h6' i e, cS_j e]
              exact ⟨d1, d2⟩
    · exact Or.inr (bad (Or.inr g2))
theorem A_undo : Ans T FX7_undo FX8_undo (fun r r' : Int32 => r = r') [(ISE, 1)] := by
  intro μ ν b m S M hμ hb hm h
  have hA := h
  obtain ⟨a1, a2, a3, ⟨c, o, hc, ho, c5, c1, c4, hh⟩, a5, a6, a7, a8, a9⟩ := h
  cases c with
  | zero =>
    have z5 : S.2.1 0 5 = 0 := c5
    refine Or.inr ⟨(ISE, 1), 0, S, mF M 1, by simp, ?_, e_und0 hm c1, T0_0, RA_F hA 1⟩
    simp only [FX7_undo, k_R4 hb, k_H2, z5, if_true, thr_p hb hμ, ISE]
  | succ c =>
    have hne : ¬ nI (c + 1) = 0 := nI_ne0 (by omega) (by omega)
    have hm8 : (o + c) % 8 < 8 := Nat.mod_lt _ (by decide)
    have k5 : (cS S 0 5 (nI c)).2.1 0 5 = nI c := cS_s
    have k4 : (cS S 0 5 (nI c)).2.1 0 4 = nI o := (cS_j (by decide)).trans c4
    have kc : (cS S 0 5 (nI c)).2.2.2 = S.2.2.2 := rfl
    have hcp := L_copy (μ := μ) (b := b) (S := cS S 0 5 (nI c)) (j := S.2.2.2) (k := 3 + (o + c) % 8) (by omega) (by omega) (by omega)
    obtain ⟨d1, d2, d3, d4, d5⟩ := mud_s (c := c) (M := M)
    generalize hS' : cC (cS S 0 5 (nI c)) S.2.2.2 (cpy ((cS S 0 5 (nI c)).1 (3 + (o + c) % 8)) ((cS S 0 5 (nI c)).1 S.2.2.2)) = S' at hcp
    have e5' : S'.2.1 0 5 = nI c := by rw [← hS']; exact k5
    have hs1 : ∀ q, q ≠ S.2.2.2 → S'.1 q = S.1 q := fun q hq => by rw [← hS']; exact cC_ne hq
    have hs0 : ∀ j, j ≠ 5 → S'.2.1 0 j = S.2.1 0 j := fun j hj => by rw [← hS']; exact cS_j hj
    have hsr : ∀ r, r ≠ 0 → S'.2.1 r = S.2.1 r := fun r hr => by rw [← hS']; exact cS_r hr
    have hsc : S'.2.2.2 = S.2.2.2 := by rw [← hS']; rfl
    refine Or.inl ⟨nI c, nI c, S', mud c M, ?_, e_und hm c1 hc, rfl, d4, ?_⟩
    · simp only [FX7_undo, FX3_takeBack, k_R4 hb, k_H2, c5, hne, if_false, k_R0 hb, k_vc40, nI_pred, k_hp2, k_H0, k_H1, k4, k5, nI_add, nI_m8 (show o + c < 2 ^ 31 by omega), k_hist hm8, L_vc (show S.2.2.2 < 11 by omega), hcp, bnd, rt, e5']
    · refine ⟨by rw [hsc]; exact a1, ?_, RA2_c a3 (by omega) (hs0 0 (by decide)) (hs1 2 (by omega)) (d5 4 (by decide) (by decide)) (d2 2 (by decide) (by decide)), ⟨c, o, by omega, ho, e5', d3, (hs0 4 (by decide)).trans c4, fun k hk => ?_⟩, RA4_c a5 (hs0 1 (by decide)) (d5 2 (by decide) (by decide)), RA5_c a6 (hs0 2 (by decide)) (d5 3 (by decide) (by decide)), RA6_c a7 (hs0 3 (by decide)) (hsr 2 (by decide)) (d5 8 (by decide) (by decide)) (d2 7 (by decide) (by decide)), RA7_c a8 (hs0 6 (by decide)) (hsr 1 (by decide)) (d5 5 (by decide) (by decide)) (d2 6 (by decide) (by decide)), RA8_c a9 (d2 9 (by decide) (by decide)) (d2 10 (by decide) (by decide))⟩
      · rw [hsc, ← hS', cC_at]
        exact RR_mono (RR_cpy (RR_v (hh c (by omega)) (fun j hj => d1 j hj))) (by omega)
      · have : (o + k) % 8 < 8 := Nat.mod_lt _ (by decide)
        rw [hs1 _ (by omega), d2 4 (by decide) (by decide)]
        exact RR_mono (hh k (by omega)) (by omega)
theorem lay_3 {a b : Nat} (hab : a ≠ b) (ha : a ≠ 11) {M : Mg} : (lay a b (mF M 0)) 11 0 = 0 := by
  rw [(lay_i hab).2.2 11 (fun e => ha e.symm)]; exact T0_0
theorem A_save : Ans T FX7_save FX8_save (fun r r' : Int32 => r = r') [] := by
  intro μ ν b m S M hμ hb hm h
  have hA := h
  obtain ⟨a1, a2, a3, a4, a5, a6, a7, a8, a9⟩ := h
  have hcp := L_copy (μ := μ) (b := b) (S := S) (j := 2) (k := S.2.2.2) (by omega) (by omega) (by omega)
  obtain ⟨l1, -, l3⟩ := lay_i (a := 2) (b := 0) (by decide) (M := mF M 0)
  have hsave := e_sav (μ := ν) (M := M) hm
  generalize hN : mS (lay 2 0 (mF M 0)) 11 4 1 = N at hsave
  generalize hS' : cS (cC S 2 (cpy (S.1 S.2.2.2) (S.1 2))) 0 0 1 = S'
  have hr : ∀ r, r ≠ 2 → r ≠ 11 → N r = M r := fun r r2 r11 => by
    rw [← hN, ← T0_r (M := M) (k := 0) r11, ← l3 r r2]
    funext j
    simp (disch := omega) only [m_same, m_col, m_row, s_same, s_col, s_row]
  have h2 : ∀ j, j < 117 → N 2 j = M 0 j := fun j hj => by
    rw [← hN, ← T0_v (M := M) (k := 0), ← l1 j hj]
    simp (disch := omega) only [m_same, m_col, m_row, s_same, s_col, s_row]
  have hj : ∀ j, j ≠ 0 → j ≠ 4 → N 11 j = M 11 j := fun j j0 j4 => by
    rw [← hN, m_col j4, l3 11 (by decide)]
    exact T0_s j0
  have h4 : N 11 4 = 1 := by rw [← hN]; exact m_same
  have h0 : N 11 0 = 0 := by rw [← hN, m_col (by decide), l3 11 (by decide)]; exact T0_0
  have s2 : S'.1 2 = cpy (S.1 S.2.2.2) (S.1 2) := by rw [← hS']; exact (cC_at : (cC S 2 (cpy (S.1 S.2.2.2) (S.1 2))).1 2 = _)
  have s1 : ∀ q, q ≠ 2 → S'.1 q = S.1 q := fun q hq => by rw [← hS']; exact cC_ne hq
  have s0 : ∀ j, j ≠ 0 → S'.2.1 0 j = S.2.1 0 j := fun j j0 => by rw [← hS']; exact cS_j j0
  have sr : ∀ r, r ≠ 0 → S'.2.1 r = S.2.1 r := fun r r0 => by rw [← hS']; exact cS_r r0
  have s00 : S'.2.1 0 0 = 1 := by rw [← hS']; exact cS_s
  have sc : S'.2.2.2 = S.2.2.2 := by rw [← hS']; rfl
  have hRR : RR T (S'.1 2) (M 0) := by rw [s2]; exact RR_cpy a2
  have hcnt : (S'.1 2).1 9 0 = M 0 0 := by
    obtain ⟨n, q, c, hR⟩ := hRR
    exact hR.1.2.1.trans hR.1.2.2.1.symm
  have hA2 := puc_At (μ := μ) (b := b) (S := S') (k := 2) (by omega)
  refine Or.inl ⟨M 0 0, M 0 0, S', N, ?_, hsave, rfl, h0, ?_⟩
  · simp only [FX7_save, k_R2 hb, k_R0 hb, L_vc (show (2 : Nat) < 11 by omega), hcp, bnd, rt, k_p3 hb, hS', q_R0_0 hA2 sa_pos, q_I1_6 hA2, hcnt]
  · refine ⟨by rw [sc]; exact a1, ?_, ⟨s00.trans h4.symm, Or.inr ⟨h4, RR_v (RR_mono hRR (by omega)) h2⟩⟩, RA3_c a4 (by omega) (s0 5 (by decide)) (s0 4 (by decide)) (hj 1 (by decide) (by decide)) (hr 4 (by decide) (by decide)) (fun k _ => s1 _ (by omega)), RA4_c a5 (s0 1 (by decide)) (hj 2 (by decide) (by decide)), RA5_c a6 (s0 2 (by decide)) (hj 3 (by decide) (by decide)), RA6_c a7 (s0 3 (by decide)) (sr 2 (by decide)) (hj 8 (by decide) (by decide)) (hr 7 (by decide) (by decide)), RA7_c a8 (s0 6 (by decide)) (sr 1 (by decide)) (hj 5 (by decide) (by decide)) (hr 6 (by decide) (by decide)), RA8_c a9 (hr 9 (by decide) (by decide)) (hr 10 (by decide) (by decide))⟩
    rw [sc, s1 _ (by omega), hr 0 (by decide) (by decide)]
    exact RR_mono a2 (by omega)
theorem A_restore : Ans T FX7_restore FX8_restore (fun r r' : Int32 => r = r') [(ISE, 1)] := by
  intro μ ν b m S M hμ hb hm h
  have hA := h
  obtain ⟨a1, a2, ⟨e0, a3⟩, ⟨c, o, hc, ho, c5, c1, c4, hh⟩, a5, a6, a7, a8, a9⟩ := h
  rcases a3 with z | ⟨z, hR2⟩
  · refine Or.inr ⟨(ISE, 1), 0, S, mF M 1, by simp, ?_, e_res0 hm z, T0_0, RA_F hA 1⟩
    have z3 : S.2.1 0 0 = 0 := e0.trans z
    simp only [FX7_restore, k_I3 hb, z3, if_true, thr_p hb hμ, ISE]
  · have z3 : S.2.1 0 0 = 1 := e0.trans z
    have hcp := L_copy (μ := μ) (b := b) (S := S) (j := S.2.2.2) (k := 2) (by omega) (by omega) (by omega)
    obtain ⟨l1, -, l3⟩ := lay_i (a := 0) (b := 2) (by decide) (M := mF M 0)
    have hres := e_res (μ := ν) (M := M) hm (by rw [z]; exact one_ne)
    unfold mrs at hres
    generalize hN : mS (lay 0 2 (mF M 0)) 11 1 0 = N at hres
    generalize hS' : cS (cC S S.2.2.2 (cpy (S.1 2) (S.1 S.2.2.2))) 0 5 0 = S'
    have hr : ∀ r, r ≠ 0 → r ≠ 11 → N r = M r := fun r r2 r11 => by
      rw [← hN, ← T0_r (M := M) (k := 0) r11, ← l3 r r2]
      funext j
      simp (disch := omega) only [m_same, m_col, m_row, s_same, s_col, s_row]
    have h2 : ∀ j, j < 117 → N 0 j = M 2 j := fun j hj => by
      rw [← hN, ← T0_r (M := M) (k := 0) (r := 2) (by decide), ← l1 j hj]
      simp (disch := omega) only [m_same, m_col, m_row, s_same, s_col, s_row]
    have hj : ∀ j, j ≠ 0 → j ≠ 1 → N 11 j = M 11 j := fun j j0 j4 => by
      rw [← hN, m_col j4, l3 11 (by decide)]
      exact T0_s j0
    have h1 : N 11 1 = 0 := by rw [← hN]; exact m_same
    have h0 : N 11 0 = 0 := by rw [← hN, m_col (by decide), l3 11 (by decide)]; exact T0_0
    have s2 : S'.1 S.2.2.2 = cpy (S.1 2) (S.1 S.2.2.2) := by rw [← hS']; exact (cC_at : (cC S S.2.2.2 (cpy (S.1 2) (S.1 S.2.2.2))).1 S.2.2.2 = _)
    have s1 : ∀ q, q ≠ S.2.2.2 → S'.1 q = S.1 q := fun q hq => by rw [← hS']; exact cC_ne hq
    have s0 : ∀ j, j ≠ 5 → S'.2.1 0 j = S.2.1 0 j := fun j j0 => by rw [← hS']; exact cS_j j0
    have sr : ∀ r, r ≠ 0 → S'.2.1 r = S.2.1 r := fun r r0 => by rw [← hS']; exact cS_r r0
    have s05 : S'.2.1 0 5 = 0 := by rw [← hS']; exact cS_s
    have sc : S'.2.2.2 = S.2.2.2 := by rw [← hS']; rfl
    have scc : (cC S S.2.2.2 (cpy (S.1 2) (S.1 S.2.2.2))).2.2.2 = S.2.2.2 := rfl
    have hRR : RR T (S'.1 S.2.2.2) (M 2) := by rw [s2]; exact RR_cpy hR2
    have hcnt : (S'.1 S.2.2.2).1 9 0 = M 2 0 := by
      obtain ⟨n, q, c, hR⟩ := hRR
      exact hR.1.2.1.trans hR.1.2.2.1.symm
    have hA2 := puc_At (μ := μ) (b := b) (S := S') (k := S.2.2.2) (by omega)
    refine Or.inl ⟨M 2 0, M 2 0, S', N, ?_, hres, rfl, h0, ?_⟩
    · simp only [FX7_restore, k_I3 hb, z3, one_ne, if_false, k_R2 hb, k_R0 hb, k_R4 hb, L_vc (show S.2.2.2 < 11 by omega), hcp, bnd, rt, k_hp2, hS', sc, q_R0_0 hA2 sa_pos, q_I1_6 hA2, hcnt]
    · refine ⟨by rw [sc]; exact a1, ?_, ⟨(s0 0 (by decide)).trans (e0.trans (hj 4 (by decide) (by decide)).symm), Or.inr ⟨(hj 4 (by decide) (by decide)).trans z, ?_⟩⟩, ⟨0, o, by omega, ho, s05, h1, (s0 4 (by decide)).trans c4, fun k hk => absurd hk (Nat.not_lt_zero k)⟩, RA4_c a5 (s0 1 (by decide)) (hj 2 (by decide) (by decide)), RA5_c a6 (s0 2 (by decide)) (hj 3 (by decide) (by decide)), RA6_c a7 (s0 3 (by decide)) (sr 2 (by decide)) (hj 8 (by decide) (by decide)) (hr 7 (by decide) (by decide)), RA7_c a8 (s0 6 (by decide)) (sr 1 (by decide)) (hj 5 (by decide) (by decide)) (hr 6 (by decide) (by decide)), RA8_c a9 (hr 9 (by decide) (by decide)) (hr 10 (by decide) (by decide))⟩
      · rw [sc]
        exact RR_v (RR_mono hRR (by omega)) h2
      · rw [s1 _ (by omega), hr 2 (by decide) (by decide)]
        exact RR_mono hR2 (by omega)
end TH
