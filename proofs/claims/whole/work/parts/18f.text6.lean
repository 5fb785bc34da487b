/-! ===== a text is carried out on both sides ===== -/
theorem cS_s {S : Cg} {r j : Nat} {x : Int32} : (cS S r j x).2.1 r j = x := by simp [cS, upd]
theorem cS_r {S : Cg} {r j q : Nat} {x : Int32} (h : q ≠ r) : (cS S r j x).2.1 q = S.2.1 q := by simp [cS, h]
theorem cS_j {S : Cg} {r j i : Nat} {x : Int32} (h : i ≠ j) : (cS S r j x).2.1 r i = S.2.1 r i := by simp [cS, upd, h]
/-- no two verbs lie at one place -/
def inj (aC : Nat → Nat) : Prop := ∀ i j, i < 11 → j < 11 → aC (110 + i) = aC (110 + j) → i = j
theorem vx_ok {aC : Nat → Nat} {v : Nat} (hi : inj aC) (hv : v < 11) : vx aC (aC (110 + v)) = some v := by
  have hin : v ∈ List.range 11 := List.mem_range.mpr hv
  unfold vx
  cases e : (List.range 11).find? (fun k => aC (110 + k) == aC (110 + v)) with
  | none =>
    have := List.find?_eq_none.mp e v hin
    simp at this
  | some w =>
    have h1 := List.mem_of_find?_eq_some e
    have h2 := List.find?_some e
    rw [hi w v (List.mem_range.mp h1) hv (by simpa using h2)]
section DR
variable {T : Nat} {μ ν : Me} {b m : Nat} {X : Nat → Nat} {L : Nat} {aC : Nat → Nat}
theorem prs_len : ∀ k h, (prs X L k h).1.length ≤ k := by
  intro k
  induction k with
  | zero => intro h; exact Nat.le_refl _
  | succ k ih =>
    intro h
    obtain ⟨o, e, hq⟩ : ∃ o e, cmd X L h = (o, e) := ⟨_, _, rfl⟩
    cases o with
    | none => rw [prs_n hq]; exact Nat.zero_le _
    | some p =>
      by_cases g1 : e = L
      · rw [prs_e hq g1]; show 1 ≤ _; omega
      · by_cases g2 : sgn X L e 59 = true
        · rw [prs_s hq g1 g2]
          have := ih (e + 1)
          show (p :: (prs X L k (e + 1)).1).length ≤ _
          rw [List.length_cons]; omega
        · rw [prs_x hq g1 g2]; show 1 ≤ _; omega
theorem prs_in (hL : L ≤ 60) : ∀ k h, h ≤ 60 → (prs X L k h).2.1 ≤ 60 := by
  intro k
  induction k with
  | zero => intro h hh; exact hh
  | succ k ih =>
    intro h hh
    obtain ⟨o, e, hq⟩ : ∃ o e, cmd X L h = (o, e) := ⟨_, _, rfl⟩
    have hc := (cmd_in (X := X) hL hh).1
    rw [hq] at hc
    have hc : e ≤ 60 := hc
    cases o with
    | none => rw [prs_n hq]; exact hc
    | some p =>
      by_cases g1 : e = L
      · rw [prs_e hq g1]; exact hc
      · by_cases g2 : sgn X L e 59 = true
        · have : e < L := (of_decide_eq_true (show decide (e < L ∧ X e = 59) = true from g2)).1
          rw [prs_s hq g1 g2]
          exact ih (e + 1) (by omega)
        · rw [prs_x hq g1 g2]; exact hc
def hasW (S : Cg) (aC : Nat → Nat) (i : Nat) (l : List (Nat × List Nat)) : Prop := S.2.1 0 7 = nI (i + l.length) ∧ ∀ j, j < l.length → S.2.2.1 (i + j) = some (aC (110 + (l.getD j (0, [])).1)) ∧ ∀ t, t < (l.getD j (0, [])).2.length → S.2.1 (4 + (i + j)) t = nI ((l.getD j (0, [])).2.getD t 0)
theorem hasW_t {S : Cg} {i : Nat} {p : Nat × List Nat} {l : List (Nat × List Nat)} (h : hasW S aC i (p :: l)) : hasW S aC (i + 1) l := by
  obtain ⟨h1, h2⟩ := h
  refine ⟨?_, fun j hj => ?_⟩
  · rw [h1, show i + (p :: l).length = i + 1 + l.length by rw [List.length_cons]; omega]
  · have := h2 (j + 1) (by rw [List.length_cons]; omega)
    rw [show i + (j + 1) = i + 1 + j by omega] at this
    exact this
theorem hasW_S {S S' : Cg} {i : Nat} {l : List (Nat × List Nat)} (h : hasW S aC i l) (e : S'.2 = S.2) : hasW S' aC i l := by
  unfold hasW at h ⊢
  rw [e]; exact h
theorem c_step {S : Cg} {i : Nat} {p : Nat × List Nat} {l : List (Nat × List Nat)} {k : Nat → Int32 → Me → Rs Int32} (hj : inj aC) (hb : 0 < b) (hi : i < 12) (hl : l.length < 12) (hp : p.1 < 11) (hp2 : p.2.length = (ww p.1).length) (hc : S.2.2.2 ≤ 1) (h : hasW S aC i (p :: l)) : FX7_run_B54 aC k b (nI i) (puc μ b S) = bnd (KX p (sa b (1 - S.2.2.2)) (puc μ b S)) (fun x28 μ27 => if 0 ≤ x28 then k b (nI i + 1) μ27 else pf μ27 b 7 7 (.int (nI i)) (fun μ31 => thr "java/lang/IllegalStateException" μ31)) := by
  obtain ⟨h1, h2⟩ := h
  obtain ⟨h3, h4⟩ := h2 0 (by rw [List.length_cons]; omega)
  have g : ¬ nI (i + (p :: l).length) ≤ nI i := nI_ge (by rw [List.length_cons]; omega) (by rw [List.length_cons]; omega)
  have h5 := c_do (μ := μ) (b := b) (S := S) (aC := aC) hi (show 1 - S.2.2.2 < 11 by omega) p hp hp2 h4
  have h6 : ∀ {β : Type} {K : Nat → Rs β}, aW aC (puc μ b S) (b + 148) (nI i) K = K p.1 := k_aW hi h3 (vx_ok hj hp)
  simp only [FX7_run_B54, k_R5 hb, k_S4, h1, g, if_false, k_R1 hb, k_S2, k_S3, h6, k_num hi, L_vc (show 1 - S.2.2.2 < 11 by omega), h5]
theorem c_last {S : Cg} {i : Nat} {k : Nat → Int32 → Me → Rs Int32} (hb : 0 < b) (hi : i ≤ 12) (h : hasW S aC i []) : FX7_run_B54 aC k b (nI i) (puc μ b S) = FX7_commit b (nI i) (puc μ b S) := by
  have h1 : S.2.1 0 7 = nI i := h.1
  have g : nI i ≤ nI i := nI_le (Nat.le_refl _) (by omega)
  simp only [FX7_run_B54, k_R5 hb, k_S4, h1, g, if_true, k_vc0 hb, bnd_rt]
theorem l_do (hj : inj aC) (hb : 0 < b) (hm : 0 < m) (hμ : μ 0 = none) : ∀ k i h T f g (S : Cg) (M : Mg), i + k = 12 → k < f → k < g → T + 30 * k < 2 ^ 30 → MX M X L → h ≤ L → M 11 6 = nI h → M 11 9 = 0 → M 11 10 = 1 → M 11 0 = 0 → (prs X L k h).2.2 = true → S.2.2.2 ≤ 1 → RR T (S.1 (1 - S.2.2.2)) (M 0) → hasW S aC i (prs X L k h).1 →
  (∃ (r : Nat) (S' : Cg) (M' : Mg), r < 2 ^ 31 ∧ FX7_run_L54 aC f b (nI i) (puc μ b S) = FX7_commit b (nI r) (puc μ b S') ∧ bnd (FX8_command m (pum ν m M)) (fun _ μ3 => FX8_commands_L16 g m (nI (i + 1)) μ3) = rt (nI r) (pum ν m M') ∧ M' 11 0 = 0 ∧ S'.2 = S.2 ∧ (∀ q, q ≠ 1 - S.2.2.2 → S'.1 q = S.1 q) ∧ RR (T + 30 * k) (S'.1 (1 - S.2.2.2)) (M' 0) ∧ (∀ r, r ≠ 0 → r ≠ 5 → r ≠ 8 → r ≠ 11 → M' r = M r) ∧ ∀ j, j ≠ 6 → j ≠ 9 → M' 11 j = M 11 j) ∨
  (∃ (r : Nat) (S' : Cg) (M' : Mg), r < 12 ∧ FX7_run_L54 aC f b (nI i) (puc μ b S) = some (.inr ISE, puc μ b (cS S' 0 2 (nI r))) ∧ bnd (FX8_command m (pum ν m M)) (fun _ μ3 => FX8_commands_L16 g m (nI (i + 1)) μ3) = rt (nI (r + 1)) (pum ν m M') ∧ M' 11 0 ≠ 0 ∧ S'.2 = S.2 ∧ (∀ q, q ≠ 1 - S.2.2.2 → S'.1 q = S.1 q) ∧ (∀ r, r ≠ 0 → r ≠ 5 → r ≠ 8 → r ≠ 11 → M' r = M r) ∧ ∀ j, j ≠ 0 → j ≠ 6 → j ≠ 9 → M' 11 j = M 11 j) := by
  intro k
  induction k with
  | zero => intro i h T f g S M _ _ _ _ _ _ _ _ _ _ e; cases e
  | succ k ih =>
    intro i h T f g S M hi hf hg hT hX hh h6 h9 h10 h0 hok hc hR hW
    obtain ⟨f, rfl⟩ : ∃ x, f = x + 1 := ⟨f - 1, by omega⟩
    obtain ⟨g, rfl⟩ : ∃ x, g = x + 1 := ⟨g - 1, by omega⟩
    have h60 := hX.1
    obtain ⟨M1, q1, q2, q3, q4⟩ := m_cmd (ν := ν) hm hX h6 h9 (by omega)
    obtain ⟨-, -, c3⟩ := cmd_in (X := X) h60 (show h ≤ 60 by omega)
    obtain ⟨o, e, hq⟩ : ∃ o e, cmd X L h = (o, e) := ⟨_, _, rfl⟩
    rw [hq] at c3 q2 q3 q4
    cases o with
    | none => rw [prs_n hq] at hok; cases hok
    | some p =>
      obtain ⟨c1, c2, c4, c5⟩ := c3 p rfl
      simp only at c4 c5 q2
      have e9 : M1 11 9 = 0 := q3
      have e0 : M1 11 0 = 0 := (q1.2 0 (by decide) (by decide)).trans h0
      have e7 : M1 11 7 = nI L := (Mk_X q1 hX).2.1
      have e10 : M1 11 10 = 1 := (q1.2 10 (by decide) (by decide)).trans h10
      obtain ⟨l, hl⟩ : ∃ l, (prs X L (k + 1) h).1 = p :: l := by
        by_cases g1 : e = L
        · rw [prs_e hq g1]; exact ⟨_, rfl⟩
        · by_cases g2 : sgn X L e 59 = true
          · rw [prs_s hq g1 g2]; exact ⟨_, rfl⟩
          · rw [prs_x hq g1 g2]; exact ⟨_, rfl⟩
      have hll : (prs X L (k + 1) h).1.length ≤ 12 := by
        have := prs_len (X := X) (L := L) (k + 1) h
        omega
      rw [hl] at hW
      have hstep := c_step (μ := μ) (k := FX7_run_L54 aC f) hj hb (show i < 12 by omega) (show l.length < 12 by rw [hl, List.length_cons] at hll; omega) c1 c2 hc hW
      have hX1 : FX7_run_L54 aC (f + 1) b (nI i) (puc μ b S) = _ := hstep
      have hM1 : bnd (FX8_command m (pum ν m M)) (fun _ μ3 => FX8_commands_L16 (g + 1) m (nI (i + 1)) μ3) = bnd (FX8_does m (nI p.1) (nI (p.2.getD 0 0)) (nI (p.2.getD 1 0)) (nI (p.2.getD 2 0)) (pum ν m M1)) (fun _ μ3 => FX8_commands_L16 (g + 1) m (nI (i + 1)) μ3) := by
        rw [q4, h10]
        unfold ncod
        simp only [one_ne, if_false]
        rcases FX8_does m (nI p.1) (nI (p.2.getD 0 0)) (nI (p.2.getD 1 0)) (nI (p.2.getD 2 0)) (pum ν m M1) with _ | ⟨_ | _, _⟩ <;> rfl
      have hR1 : RR T (S.1 (1 - S.2.2.2)) (M1 0) := by rw [q1.1 0 (by decide) (by decide)]; exact hR
      obtain ⟨ks, hks, hS⟩ := S_all (T := T) (by omega) p c1
      rcases hS (puc μ b S) ν (sa b (1 - S.2.2.2)) m (S.1 (1 - S.2.2.2)) M1 sa_pos hm hR1 with ⟨r, σ', M2, s1, s2, s3, s4, s5⟩ | ⟨y, hy, s1, s2⟩
      · rw [← puc_e (by omega), puc_put (by omega)] at s1
        have s2 : FX8_does m (nI p.1) (nI (p.2.getD 0 0)) (nI (p.2.getD 1 0)) (nI (p.2.getD 2 0)) (pum ν m M1) = rt (nI r) (pum ν m M2) := s2
        have z9 : M2 11 9 = 0 := by rw [s5 11 (by decide) (by decide)]; exact e9
        have z0 : M2 11 0 = 0 := by rw [s5 11 (by decide) (by decide)]; exact e0
        have z6 : M2 11 6 = nI e := by rw [s5 11 (by decide) (by decide)]; exact q2
        have z7 : M2 11 7 = nI L := by rw [s5 11 (by decide) (by decide)]; exact e7
        have z10 : M2 11 10 = 1 := by rw [s5 11 (by decide) (by decide)]; exact e10
        have hX2 : MX M2 X L := by
          obtain ⟨x1, x2, x3, x4⟩ := Mk_X q1 hX
          refine ⟨x1, z7, fun j hj => ?_, RA8_c x4 (s5 9 (by decide) (by decide)) (s5 10 (by decide) (by decide))⟩
          rw [s5 6 (by decide) (by decide)]
          exact x3 j hj
        have hrow : ∀ r, r ≠ 0 → r ≠ 5 → r ≠ 8 → r ≠ 11 → M2 r = M r := fun r r0 r5 r8 r11 => (s5 r r0 r5).trans (q1.1 r r8 r11)
        have hcol : ∀ j, j ≠ 6 → j ≠ 9 → M2 11 j = M 11 j := fun j j6 j9 => (congrFun (s5 11 (by decide) (by decide)) j).trans (q1.2 j j6 j9)
        have hS2 : (cC S (1 - S.2.2.2) σ').2 = S.2 := rfl
        have hcur : 1 - (cC S (1 - S.2.2.2) σ').2.2.2 = 1 - S.2.2.2 := rfl
        have hr0 : (0 : Int32) ≤ nI r := nI_pos' s3
        have hXr : FX7_run_L54 aC (f + 1) b (nI i) (puc μ b S) = FX7_run_L54 aC f b (nI (i + 1)) (puc μ b (cC S (1 - S.2.2.2) σ')) := by
          rw [hX1, s1]
          simp only [bnd, rt, hr0, if_true, nI_1]
        rw [hXr, hM1, s2]
        obtain ⟨f, rfl⟩ : ∃ x, f = x + 1 := ⟨f - 1, by omega⟩
        by_cases g1 : e = L
        · have g3 : nI L ≤ nI e := nI_le (by omega) (by omega)
          rw [prs_e hq g1] at hl
          cases hl
          refine Or.inl ⟨i + 1, cC S (1 - S.2.2.2) σ', M2, by omega, c_last (k := FX7_run_L54 aC f) hb (by omega) (hasW_S (hasW_t hW) rfl), ?_, z0, rfl, fun q hq => cC_ne hq, ?_, hrow, hcol⟩
          · simp only [bnd, rt, FX8_commands_L16, FX8_commands_B16, w_I0, w_I1, w_I2, w_I3, w_I4, w_R5, w_R6, w_R7, w_R8, w_R9, w_R10, w_R11, w_R12, w_R13, w_R14, w_R15, w_I16, w_I17, w_I18, w_I19, w_I20, w_I21, w_vc, w_a0, w_s0, w_a1, w_s1, w_a2, w_s2, w_a3, w_s3, w_a4, w_s4, w_a5, w_s5, w_a6, w_s6, w_a7, w_s7, w_a8, w_s8, w_a9, w_s9, w_a10, w_s10, w_p0, w_p1, w_p2, w_p3, w_p4, w_p16, w_p17, w_p18, w_p19, w_p20, w_p21, o_0, o_1, o_2, o_3, o_4, o_5, hm, i_0, z_0, i_1, z_1, i_2, z_2, i_3, z_3, i_4, z_4, i_5, z_5, i_6, z_6, i_7, z_7, i_8, z_8, z9, z0, z6, z7, g3, if_true]
          · rw [cC_at]; exact RR_mono s4 (by omega)
        · have g3 : ¬ nI L ≤ nI e := nI_ge (by omega) (by omega)
          by_cases g2 : sgn X L e 59 = true
          · have hlt : e < L := (of_decide_eq_true (show decide (e < L ∧ X e = 59) = true from g2)).1
            have hmk := m_mark (ν := ν) (c := 59) hm (by decide) hX2 z6 z9 (by omega)
            rw [show nI 59 = (59 : Int32) from rfl, if_pos g2] at hmk
            rw [prs_s hq g1 g2] at hl hok
            cases hl
            have hk2 : Mk M2 (mH M2 (e + 1) 0) := mH_k
            have em : (mH M2 (e + 1) 0) 11 9 = 0 := mH_9
            have hrun : bnd (rt (nI r) (pum ν m M2)) (fun _ μ3 => FX8_commands_L16 (g + 1) m (nI (i + 1)) μ3) = bnd (FX8_command m (pum ν m (mH M2 (e + 1) 0))) (fun _ μ3 => FX8_commands_L16 g m (nI (i + 1 + 1)) μ3) := by
              simp only [bnd, rt, FX8_commands_L16, FX8_commands_B16, w_I0, w_I1, w_I2, w_I3, w_I4, w_R5, w_R6, w_R7, w_R8, w_R9, w_R10, w_R11, w_R12, w_R13, w_R14, w_R15, w_I16, w_I17, w_I18, w_I19, w_I20, w_I21, w_vc, w_a0, w_s0, w_a1, w_s1, w_a2, w_s2, w_a3, w_s3, w_a4, w_s4, w_a5, w_s5, w_a6, w_s6, w_a7, w_s7, w_a8, w_s8, w_a9, w_s9, w_a10, w_s10, w_p0, w_p1, w_p2, w_p3, w_p4, w_p16, w_p17, w_p18, w_p19, w_p20, w_p21, o_0, o_1, o_2, o_3, o_4, o_5, hm, i_0, z_0, i_1, z_1, i_2, z_2, i_3, z_3, i_4, z_4, i_5, z_5, i_6, z_6, i_7, z_7, i_8, z_8, z9, z0, z6, z7, g3, if_false, if_true, hmk, em, nI_1]
            rw [hrun]
            have hR2 : RR (T + 30) ((cC S (1 - S.2.2.2) σ').1 (1 - (cC S (1 - S.2.2.2) σ').2.2.2)) ((mH M2 (e + 1) 0) 0) := by
              rw [hcur, cC_at, hk2.1 0 (by decide) (by decide)]
              exact s4
            rcases ih (i + 1) (e + 1) (T + 30) (f + 1) g (cC S (1 - S.2.2.2) σ') (mH M2 (e + 1) 0) (by omega) (by omega) (by omega) (by omega) (Mk_X hk2 hX2) (by omega) mH_6 mH_9 ((hk2.2 10 (by decide) (by decide)).trans z10) ((hk2.2 0 (by decide) (by decide)).trans z0) hok hc hR2 (hasW_S (hasW_t hW) rfl) with ⟨r', S', M', t1, t2, t3, t4, t5, t6, t7, t8, t9⟩ | ⟨r', S', M', t1, t2, t3, t4, t5, t6, t8, t9⟩
            · refine Or.inl ⟨r', S', M', t1, t2, t3, t4, t5, fun q hq => (t6 q hq).trans (cC_ne hq), RR_mono t7 (by omega), fun r r0 r5 r8 r11 => (t8 r r0 r5 r8 r11).trans ((hk2.1 r r8 r11).trans (hrow r r0 r5 r8 r11)), fun j j6 j9 => (t9 j j6 j9).trans ((hk2.2 j j6 j9).trans (hcol j j6 j9))⟩
            · refine Or.inr ⟨r', S', M', t1, t2, t3, t4, t5, fun q hq => (t6 q hq).trans (cC_ne hq), fun r r0 r5 r8 r11 => (t8 r r0 r5 r8 r11).trans ((hk2.1 r r8 r11).trans (hrow r r0 r5 r8 r11)), fun j j0 j6 j9 => (t9 j j0 j6 j9).trans ((hk2.2 j j6 j9).trans (hcol j j6 j9))⟩
          · rw [prs_x hq g1 g2] at hok; cases hok
      · rw [← puc_e (by omega)] at s1
        have s2 : FX8_does m (nI p.1) (nI (p.2.getD 0 0)) (nI (p.2.getD 1 0)) (nI (p.2.getD 2 0)) (pum ν m M1) = rt 0 (pum ν m (mF M1 y.2)) := s2
        obtain ⟨y1, y2⟩ := hks y hy
        have hneg : ¬ (0 : Int32) ≤ y.1 := by
          rcases y1 with e | e | e | e <;> rw [e] <;> decide
        have z9 : (mF M1 y.2) 11 9 = 0 := (T0_s (by decide)).trans e9
        have z0 : ¬ (mF M1 y.2) 11 0 = 0 := by rw [T0_0]; exact y2
        refine Or.inr ⟨i, S, mF M1 y.2, by omega, ?_, ?_, z0, rfl, fun _ _ => rfl, fun r r0 r5 r8 r11 => (T0_r r11).trans (q1.1 r r8 r11), fun j j0 j6 j9 => (T0_s j0).trans (q1.2 j j6 j9)⟩
        · rw [hX1, s1]
          simp only [bnd, rt, hneg, if_false, k_p7 hb, thr_p hb hμ, ISE]
        · rw [hM1, s2]
          simp only [bnd, rt, FX8_commands_L16, FX8_commands_B16, w_I0, w_I1, w_I2, w_I3, w_I4, w_R5, w_R6, w_R7, w_R8, w_R9, w_R10, w_R11, w_R12, w_R13, w_R14, w_R15, w_I16, w_I17, w_I18, w_I19, w_I20, w_I21, w_vc, w_a0, w_s0, w_a1, w_s1, w_a2, w_s2, w_a3, w_s3, w_a4, w_s4, w_a5, w_s5, w_a6, w_s6, w_a7, w_s7, w_a8, w_s8, w_a9, w_s9, w_a10, w_s10, w_p0, w_p1, w_p2, w_p3, w_p4, w_p16, w_p17, w_p18, w_p19, w_p20, w_p21, o_0, o_1, o_2, o_3, o_4, o_5, hm, i_0, z_0, i_1, z_1, i_2, z_2, i_3, z_3, i_4, z_4, i_5, z_5, i_6, z_6, i_7, z_7, i_8, z_8, z9, z0, if_true, if_false]
end DR
