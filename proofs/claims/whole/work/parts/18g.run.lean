/-! ===== run ===== -/
section RU
variable {T : Nat} {S S' : Cg} {M M' : Mg}
theorem RA_t (h : RA T S M) (hS1 : S'.1 = S.1) (hc : S'.2.2.2 = S.2.2.2) (h0 : ∀ j, j ≠ 6 → j ≠ 7 → j ≠ 8 → S'.2.1 0 j = S.2.1 0 j) (h2 : S'.2.1 2 = S.2.1 2) (h6 : S'.2.1 0 6 = 0) (hM : ∀ r, r = 2 ∨ r = 4 ∨ r = 7 ∨ r = 9 ∨ r = 10 → M' r = M r) (hM0 : ∀ j, j < 117 → M' 0 j = M 0 j) (hM11 : ∀ j, 0 < j → j ≠ 5 → j ≠ 6 → j ≠ 7 → j < 9 → M' 11 j = M 11 j) (h5 : M' 11 5 = 0) : RA T S' M' := by
  obtain ⟨a1, a2, a3, a4, a5, a6, a7, a8, a9⟩ := h
  refine ⟨by rw [hc]; exact a1, ?_, RA2_c a3 (Nat.le_refl _) (h0 0 (by omega) (by omega) (by omega)) (by rw [hS1]) (hM11 4 (by omega) (by omega) (by omega) (by omega) (by omega)) (hM 2 (by omega)), RA3_c a4 (Nat.le_refl _) (h0 5 (by omega) (by omega) (by omega)) (h0 4 (by omega) (by omega) (by omega)) (hM11 1 (by omega) (by omega) (by omega) (by omega) (by omega)) (hM 4 (by omega)) (fun k _ => by rw [hS1]), RA4_c a5 (h0 1 (by omega) (by omega) (by omega)) (hM11 2 (by omega) (by omega) (by omega) (by omega) (by omega)), RA5_c a6 (h0 2 (by omega) (by omega) (by omega)) (hM11 3 (by omega) (by omega) (by omega) (by omega) (by omega)), RA6_c a7 (h0 3 (by omega) (by omega) (by omega)) h2 (hM11 8 (by omega) (by omega) (by omega) (by omega) (by omega)) (hM 7 (by omega)), ⟨0, Nat.zero_le _, h6, h5, fun i hi => absurd hi (Nat.not_lt_zero i)⟩, RA8_c a9 (hM 9 (by omega)) (hM 10 (by omega))⟩
  rw [hc, hS1]
  exact RR_v a2 hM0
theorem RA_4 {k : Nat} (h : RA T S M) (hk : k < 2 ^ 31) : RA T (cS S 0 1 (nI k)) (mS M 11 2 (nI k)) := by
  obtain ⟨a1, a2, a3, a4, a5, a6, a7, a8, a9⟩ := h
  have r2 : ∀ r, r ≠ 11 → (mS M 11 2 (nI k)) r = M r := fun r hr => by funext j; simp (disch := omega) only [m_same, m_col, m_row, s_same, s_col, s_row]
  have c2 : ∀ j, j ≠ 2 → (mS M 11 2 (nI k)) 11 j = M 11 j := fun j hj => by simp (disch := omega) only [m_same, m_col, m_row, s_same, s_col, s_row]
  refine ⟨a1, ?_, RA2_c a3 (Nat.le_refl _) (cS_j (by decide)) rfl (c2 4 (by decide)) (r2 2 (by decide)), RA3_c a4 (Nat.le_refl _) (cS_j (by decide)) (cS_j (by decide)) (c2 1 (by decide)) (r2 4 (by decide)) (fun k _ => rfl), ⟨cS_s.trans m_same.symm, Or.inr ⟨k, hk, m_same⟩⟩, RA5_c a6 (cS_j (by decide)) (c2 3 (by decide)), RA6_c a7 (cS_j (by decide)) (cS_r (by decide)) (c2 8 (by decide)) (r2 7 (by decide)), RA7_c a8 (cS_j (by decide)) (cS_r (by decide)) (c2 5 (by decide)) (r2 6 (by decide)), RA8_c a9 (r2 9 (by decide)) (r2 10 (by decide))⟩
  rw [r2 0 (by decide)]
  exact a2
theorem RA_5 {k : Nat} (h : RA T S M) (hk : k < 2 ^ 31) : RA T (cS S 0 2 (nI k)) (mS M 11 3 (nI k)) := by
  obtain ⟨a1, a2, a3, a4, a5, a6, a7, a8, a9⟩ := h
  have r2 : ∀ r, r ≠ 11 → (mS M 11 3 (nI k)) r = M r := fun r hr => by funext j; simp (disch := omega) only [m_same, m_col, m_row, s_same, s_col, s_row]
  have c2 : ∀ j, j ≠ 3 → (mS M 11 3 (nI k)) 11 j = M 11 j := fun j hj => by simp (disch := omega) only [m_same, m_col, m_row, s_same, s_col, s_row]
  refine ⟨a1, ?_, RA2_c a3 (Nat.le_refl _) (cS_j (by decide)) rfl (c2 4 (by decide)) (r2 2 (by decide)), RA3_c a4 (Nat.le_refl _) (cS_j (by decide)) (cS_j (by decide)) (c2 1 (by decide)) (r2 4 (by decide)) (fun k _ => rfl), RA4_c a5 (cS_j (by decide)) (c2 2 (by decide)), ⟨cS_s.trans m_same.symm, Or.inr ⟨k, hk, m_same⟩⟩, RA6_c a7 (cS_j (by decide)) (cS_r (by decide)) (c2 8 (by decide)) (r2 7 (by decide)), RA7_c a8 (cS_j (by decide)) (cS_r (by decide)) (c2 5 (by decide)) (r2 6 (by decide)), RA8_c a9 (r2 9 (by decide)) (r2 10 (by decide))⟩
  rw [r2 0 (by decide)]
  exact a2
/-- the model before it reads -/
def mr0 (M : Mg) : Mg := mS (mS (mS (lay 1 0 (mF M 0)) 11 7 (M 11 5)) 11 5 0) 11 10 0
theorem mr0_r {r : Nat} (h1 : r ≠ 1) (h : r ≠ 11) : mr0 M r = M r := by
  rw [← (lay10 (M := M)).2.1 r h1 h]
  funext j
  unfold mr0
  simp (disch := omega) only [m_same, m_col, m_row, s_same, s_col, s_row]
theorem mr0_1 {j : Nat} (h : j < 117) : mr0 M 1 j = M 0 j := by
  rw [← (lay10 (M := M)).1 j h]
  unfold mr0
  simp (disch := omega) only [m_same, m_col, m_row, s_same, s_col, s_row]
theorem mr0_j {j : Nat} (h0 : 0 < j) (h5 : j ≠ 5) (h7 : j ≠ 7) (h10 : j ≠ 10) : mr0 M 11 j = M 11 j := by
  rw [← (lay10 (M := M)).2.2.1 j h0]
  unfold mr0
  simp (disch := omega) only [m_same, m_col, m_row, s_same, s_col, s_row]
theorem mr0_0 : mr0 M 11 0 = 0 := by
  unfold mr0
  simp (disch := omega) only [m_same, m_col, m_row, s_same, s_col, s_row]
  exact lay10.2.2.2
theorem mr0_5 : mr0 M 11 5 = 0 := by
  unfold mr0
  simp (disch := omega) only [m_same, m_col, m_row, s_same, s_col, s_row]
theorem mr0_7 : mr0 M 11 7 = M 11 5 := by
  unfold mr0
  simp (disch := omega) only [m_same, m_col, m_row, s_same, s_col, s_row]
theorem mr0_10 : mr0 M 11 10 = 0 := m_same
theorem mr_run {ν : Me} {m : Nat} (hm : 0 < m) : FX8_run m (pum ν m M) = bnd (FX8_commands m (pum ν m (mr0 M))) (fun x8 μ7 => (gI μ7 m 8 20 (fun x9 => (if x9 = 0 then (pf μ7 m 8 21 (.int 1) (fun μ12 => (bnd (vc μ12 m 8 (FX8_commands m μ12)) (fun x14 μ13 => (gI μ13 m 8 0 (fun x15 => (if x15 = 0 then (FX8_run_B77 m x14 μ13) else (pf μ13 m 8 3 (.int (x14 - 1)) (fun μ20 => (pf μ20 m 8 0 (.int 2) (fun μ21 => (FX8_run_B77 m x14 μ21)))))))))))) else (gI μ7 m 8 17 (fun x22 => (pf μ7 m 8 2 (.int x22) (fun μ23 => (bnd (vc μ23 m 8 (FX8_fail m 1 μ23)) (fun x25 μ24 => (rt x25 μ24))))))))))) := by
  have e5 : (lay 1 0 (mF M 0)) 11 5 = M 11 5 := lay10.2.2.1 5 (by decide)
  simp only [FX8_run, w_vc hm, e_begins hm, w_I16 hm, bnd, rt, w_p18 hm, w_p16 hm, w_p21 hm, e5]
  rfl
theorem A_run {aC : Nat → Nat} (hj : inj aC) (hT : T + 360 < 2 ^ 30) : Ans T (fun a => FX7_run aC a) (fun a => FX8_run a) (fun r r' : Int32 => r = r') [(IAE, 1), (ISE, 2)] := by
  intro μ ν b m S M hμ hb hm h
  have hA := h
  obtain ⟨a1, a2, a3, ⟨c, o, hc, ho, c5, c1, c4, hh⟩, a5, a6, a7, ⟨L, hL, s6, m5, hx⟩, a9⟩ := h
  have hxx : ∀ i, i < L → M 6 i = nI ((M 6 i).toNatClampNeg) ∧ (M 6 i).toNatClampNeg < 128 := fun i hi => by
    obtain ⟨-, ch, d1, d2, d3⟩ := hx i hi
    rw [d3, nI_clamp (by omega)]
    exact ⟨rfl, by omega⟩
  generalize hXd : (fun i => (M 6 i).toNatClampNeg) = X
  have hxX : ∀ i, i < L → M 6 i = nI (X i) ∧ X i < 128 := fun i hi => by rw [← hXd]; exact hxx i hi
  have hTX : TX (ps S 0) X L := ps_X ⟨hL, s6, fun i hi => ⟨(hx i hi).1.trans (hxX i hi).1, (hxX i hi).2⟩⟩
  obtain ⟨S1, p1, p2, p3, p4⟩ := l_parse (μ := μ) (b := b) (aC := aC) 12 FU 0 0 (ps S 0) rfl (by unfold FU; omega) hTX ps_8 (Nat.zero_le _)
  have hpar : FX5_parse aC (b + 146) (puc μ b S) = rt (if (prs X L 12 0).2.2 = true then 1 else 0) (puc μ b S1) := by
    rw [← p4]
    unfold FX5_parse
    rw [k_sp5]
    rfl
  obtain ⟨u1, u2, u3, u4, -⟩ := p1
  have u1 : S1.1 = S.1 := u1
  have u2 : S1.2.2.2 = S.2.2.2 := u2
  have u2b : (cS S1 0 6 0).2.2.2 = S.2.2.2 := u2
  have u3b : (cS S1 0 6 0).2.1 2 = S.2.1 2 := (cS_r (by decide)).trans ((u3 2 (by decide) (by omega)).trans (cS_r (by decide)))
  have u4b : ∀ j, j ≠ 6 → j ≠ 7 → j ≠ 8 → (cS S1 0 6 0).2.1 0 j = S.2.1 0 j := fun j j6 j7 j8 => (cS_j j6).trans ((u4 j j7 j8).trans (cS_j j8))
  have hA2 : ∀ M' : Mg, (∀ r, r = 2 ∨ r = 4 ∨ r = 7 ∨ r = 9 ∨ r = 10 → M' r = M r) → (∀ j, j < 117 → M' 0 j = M 0 j) → (∀ j, 0 < j → j ≠ 5 → j ≠ 6 → j ≠ 7 → j < 9 → M' 11 j = M 11 j) → M' 11 5 = 0 → RA T (cS S1 0 6 0) M' := fun M' => RA_t hA u1 u2 u4b u3b cS_s
  have hMX : MX (mr0 M) X L := ⟨hL, mr0_7.trans m5, fun i hi => by rw [mr0_r (by decide) (by decide)]; exact hxX i hi, RA8_c a9 (mr0_r (by decide) (by decide)) (mr0_r (by decide) (by decide))⟩
  obtain ⟨M3, x3, q1, q2, q3, q4⟩ := m_chk (ν := ν) hm hMX mr0_10 mr0_0
  have hr3 : ∀ r, r ≠ 1 → r ≠ 8 → r ≠ 11 → M3 r = M r := fun r r1 r8 r11 => (q1.1 r r8 r11).trans (mr0_r r1 r11)
  have hj3 : ∀ j, 0 < j → j ≠ 5 → j ≠ 6 → j ≠ 7 → j < 9 → M3 11 j = M 11 j := fun j j0 j5 j6 j7 j9 => (q1.2 j j6 (by omega)).trans (mr0_j j0 j5 j7 (by omega))
  have h53 : M3 11 5 = 0 := (q1.2 5 (by decide) (by decide)).trans mr0_5
  have hrun7 : FX7_run aC b (puc μ b S) = if (if (prs X L 12 0).2.2 = true then (1 : Int32) else 0) = 0 then pf (puc μ b (cS S1 0 6 0)) b 7 6 (.int (S1.2.1 0 8)) (fun μ34 => thr "java/lang/IllegalArgumentException" μ34) else FX7_run_L54 aC FU b (nI 0) (puc μ b (cC (cS S1 0 6 0) (1 - S.2.2.2) (cpy (S.1 S.2.2.2) (S.1 (1 - S.2.2.2))))) := by
    have hcp := L_copy (μ := μ) (b := b) (S := cS S1 0 6 0) (j := 1 - (cS S1 0 6 0).2.2.2) (k := (cS S1 0 6 0).2.2.2) (by rw [u2b]; omega) (by rw [u2b]; omega) (by rw [u2b]; omega)
    have e8 : (cS S1 0 6 0).2.1 0 8 = S1.2.1 0 8 := cS_j (by decide)
    have hb5 : 1 - (cS S1 0 6 0).2.2.2 < 11 := by rw [u2b]; omega
    simp only [FX7_run, k_R5 hb, k_vc146, hpar, bnd, rt, k_sp1, k_S5, k_R0 hb, k_R1 hb, L_vc hb5, hcp, e8]
    rw [u2b, show (cS S1 0 6 0).1 = S.1 from u1]
    rfl
  by_cases g : (prs X L 12 0).2.2 = true
  · rw [if_pos g, if_neg one_ne] at hrun7
    have e9 : M3 11 9 = 0 := by rw [q3, if_pos g]
    obtain ⟨w1, w2⟩ := p3 g
    generalize hS3 : cC (cS S1 0 6 0) (1 - S.2.2.2) (cpy (S.1 S.2.2.2) (S.1 (1 - S.2.2.2))) = S3 at hrun7
    have hS32 : S3.2 = (cS S1 0 6 0).2 := by rw [← hS3]; rfl
    have hS31 : ∀ q, q ≠ 1 - S.2.2.2 → S3.1 q = (cS S1 0 6 0).1 q := fun q hq => by rw [← hS3]; exact cC_ne hq
    have hcur : S3.2.2.2 = S.2.2.2 := by rw [hS32]; exact u2
    have hW : hasW S3 aC 0 (prs X L 12 0).1 := by
      refine hasW_S (S := cS S1 0 6 0) ⟨(cS_j (by decide)).trans w1, fun j hj => ⟨(w2 j hj).1, fun t ht => ?_⟩⟩ hS32
      rw [cS_r (by omega)]
      exact (w2 j hj).2 t ht
    generalize hM5 : mS (mS (mS M3 11 10 1) 11 6 0) 11 9 0 = M5
    have hr5 : ∀ r, r ≠ 11 → M5 r = M3 r := fun r hr => by rw [← hM5]; funext j; simp (disch := omega) only [m_same, m_col, m_row, s_same, s_col, s_row]
    have hj5 : ∀ j, j ≠ 6 → j ≠ 9 → j ≠ 10 → M5 11 j = M3 11 j := fun j j6 j9 j10 => by rw [← hM5]; simp (disch := omega) only [m_same, m_col, m_row, s_same, s_col, s_row]
    have h65 : M5 11 6 = nI 0 := by rw [← hM5]; simp (disch := omega) only [m_same, m_col, m_row, s_same, s_col, s_row]; rfl
    have h95 : M5 11 9 = 0 := by rw [← hM5]; simp (disch := omega) only [m_same, m_col, m_row, s_same, s_col, s_row]
    have h105 : M5 11 10 = 1 := by rw [← hM5]; simp (disch := omega) only [m_same, m_col, m_row, s_same, s_col, s_row]
    have hX5 : MX M5 X L := by
      obtain ⟨x1, x2, x4, x5⟩ := Mk_X q1 hMX
      exact ⟨x1, (hj5 7 (by decide) (by decide) (by decide)).trans x2, fun i hi => by rw [hr5 6 (by decide)]; exact x4 i hi, RA8_c x5 (hr5 9 (by decide)) (hr5 10 (by decide))⟩
    have h05 : M5 11 0 = 0 := (hj5 0 (by decide) (by decide) (by decide)).trans ((q1.2 0 (by decide) (by decide)).trans mr0_0)
    have hR5 : RR T (S3.1 (1 - S3.2.2.2)) (M5 0) := by
      rw [hcur, ← hS3, cC_at, hr5 0 (by decide), hr3 0 (by decide) (by decide) (by decide)]
      exact RR_cpy a2
    have hrun8 : FX8_run m (pum ν m M) = bnd (bnd (FX8_command m (pum ν m M5)) (fun _ μ3 => FX8_commands_L16 FU m (nI (0 + 1)) μ3)) (fun x14 μ13 => (gI μ13 m 8 0 (fun x15 => (if x15 = 0 then (FX8_run_B77 m x14 μ13) else (pf μ13 m 8 3 (.int (x14 - 1)) (fun μ20 => (pf μ20 m 8 0 (.int 2) (fun μ21 => (FX8_run_B77 m x14 μ21))))))))) := by
      rw [mr_run hm, q4]
      simp only [bnd, rt, w_I20 hm, e9, if_true, w_p21 hm, w_vc hm, FX8_commands, w_p17 hm, w_p20 hm, hM5]
      rfl
    have hbase := hA2 (mS M 11 5 0) (fun r hr => by funext j; simp (disch := omega) only [m_same, m_col, m_row, s_same, s_col, s_row]) (fun j _ => by simp (disch := omega) only [m_same, m_col, m_row, s_same, s_col, s_row]) (fun j j0 j5 _ _ _ => by simp (disch := omega) only [m_same, m_col, m_row, s_same, s_col, s_row]) m_same
    rcases l_do (μ := μ) (ν := ν) (X := X) (L := L) hj hb hm hμ 12 0 0 T FU FU S3 M5 rfl (by unfold FU; omega) (by unfold FU; omega) (by omega) hX5 (Nat.zero_le _) h65 h95 h105 h05 g (by rw [hcur]; exact a1) hR5 hW with ⟨r, S', M', t1, t2, t3, t4, t5, t6, t7, t8, t9⟩ | ⟨r, S', M', t1, t2, t3, t4, t5, t6, t8, t9⟩
    · have hcur' : S'.2.2.2 = S.2.2.2 := by rw [t5]; exact hcur
      have e5' : S'.2.1 0 5 = nI c := by rw [t5, hS32]; exact (u4b 5 (by decide) (by decide) (by decide)).trans c5
      have e4' : S'.2.1 0 4 = nI o := by rw [t5, hS32]; exact (u4b 4 (by decide) (by decide) (by decide)).trans c4
      have e1' : M' 11 1 = nI c := (t9 1 (by decide) (by decide)).trans ((hj5 1 (by decide) (by decide) (by decide)).trans ((hj3 1 (by decide) (by decide) (by decide) (by decide) (by decide)).trans c1))
      have hrM : ∀ r, r ≠ 0 → r ≠ 1 → r ≠ 5 → r ≠ 8 → r ≠ 11 → M' r = M r := fun r r0 r1 r5 r8 r11 => (t8 r r0 r5 r8 r11).trans ((hr5 r r11).trans (hr3 r r1 r8 r11))
      refine Or.inl ⟨nI r, nI r, cmS S' o c, end1 c M', ?_, ?_, rfl, ?_, ?_⟩
      · show FX7_run aC b (puc μ b S) = _
        rw [hrun7, t2]
        exact e_commit hb (by rw [hcur']; exact a1) ho hc e4' e5' t1
      · show FX8_run m (pum ν m M) = _
        rw [hrun8, t3]
        simp only [bnd, rt, w_I0 hm, t4, if_true, FX8_run_B77, w_vc hm]
        have h3 := e_ends (μ := ν) (x := nI r) (c := c) hm t4 e1' hc
        rw [h3]
        rfl
      · rw [(end1_s hc).2.1 0 (by decide)]; exact t4
      · have hd : 1 - S3.2.2.2 = 1 - (cS S1 0 6 0).2.2.2 := by rw [hS32]
        refine RA_commit (S := cS S1 0 6 0) (M := mS M 11 5 0) (S' := S') (M2 := M') hbase (by omega) hc ho ((u4b 4 (by decide) (by decide) (by decide)).trans c4) (fun k hk => ?_) ((m_col (by decide)).trans c1) (t5.trans hS32) (fun q hq => ?_) ?_ (fun r r0 r1 r5 r8 r11 => ?_) (fun j hj => ?_) (fun j j0 j6 j7 j9 => ?_)
        · rw [show (cS S1 0 6 0).1 = S.1 from u1, show (mS M 11 5 0) 4 = M 4 from by funext j; simp (disch := omega) only [m_same, m_col, m_row, s_same, s_col, s_row]]
          exact hh k hk
        · rw [← hd, hcur] at hq
          exact (t6 q (by rw [hcur]; exact hq)).trans (hS31 q hq)
        · rw [← hd]
          exact RR_mono t7 (by omega)
        · rw [hrM r r0 r1 r5 r8 r11]
          funext j
          simp (disch := omega) only [m_same, m_col, m_row, s_same, s_col, s_row]
        · rw [t8 1 (by decide) (by decide) (by decide) (by decide), hr5 1 (by decide), q1.1 1 (by decide) (by decide), mr0_1 hj]
          simp (disch := omega) only [m_same, m_col, m_row, s_same, s_col, s_row]
        · by_cases e : j = 5
          · subst e
            rw [t9 5 (by decide) (by decide), hj5 5 (by decide) (by decide) (by decide), h53]
            exact m_same.symm
          · rw [t9 j j6 (by omega), hj5 j j6 (by omega) (by omega), hj3 j j0 e j6 j7 j9]
            simp (disch := omega) only [m_same, m_col, m_row, s_same, s_col, s_row]
    · have hrM : ∀ r, r ≠ 0 → r ≠ 1 → r ≠ 5 → r ≠ 8 → r ≠ 11 → M' r = M r := fun r r0 r1 r5 r8 r11 => (t8 r r0 r5 r8 r11).trans ((hr5 r r11).trans (hr3 r r1 r8 r11))
      have hsub : nI (r + 1) - 1 = nI r := by rw [← nI_1]; exact Int32.add_sub_cancel _ _
      have hth : ¬ (mS (mS M' 11 3 (nI r)) 11 0 2) 11 0 = 0 := by rw [m_same]; decide
      obtain ⟨g1, -, g3⟩ := lay_i (a := 0) (b := 1) (by decide) (M := mS (mS M' 11 3 (nI r)) 11 0 2)
      refine Or.inr ⟨(ISE, 2), 0, cS S' 0 2 (nI r), lay 0 1 (mS (mS M' 11 3 (nI r)) 11 0 2), by simp, ?_, ?_, ?_, ?_⟩
      · show FX7_run aC b (puc μ b S) = _
        rw [hrun7]
        exact t2
      · show FX8_run m (pum ν m M) = _
        rw [hrun8, t3]
        simp only [bnd, rt, w_I0 hm, t4, if_false, hsub, w_p3 hm, w_p0 hm, FX8_run_B77, w_vc hm]
        have h3 := e_ends_no (μ := ν) (x := nI (r + 1)) hm hth
        rw [h3]
        rfl
      · rw [g3 11 (by decide)]
        exact m_same
      · have hd : 1 - S3.2.2.2 = 1 - (cS S1 0 6 0).2.2.2 := by rw [hS32]
        have hb5 := RA_5 hbase (show r < 2 ^ 31 by omega)
        have hS2 : S'.2.1 = (cS S1 0 6 0).2.1 := by rw [t5, hS32]
        refine RA_c hb5 (by omega) ?_ ?_ ?_ ?_ (fun q hq => ?_) (fun r' hr' => ?_) (fun j hj => ?_) (fun j j0 j6 j7 j9 => ?_)
        · unfold cS; simp only; rw [hS2]; rfl
        · exact (cS_r (by decide)).trans ((congrFun hS2 1).trans (cS_r (S := cS S1 0 6 0) (by decide)).symm)
        · exact (cS_r (by decide)).trans ((congrFun hS2 2).trans (cS_r (S := cS S1 0 6 0) (by decide)).symm)
        · show S'.2.2.2 = S1.2.2.2
          rw [t5, hS32]
          rfl
        · have hq : q ≠ 1 - S.2.2.2 := by
            have e : (cS (cS S1 0 6 0) 0 2 (nI r)).2.2.2 = S.2.2.2 := u2
            rw [e] at hq; exact hq
          exact (t6 q (by rw [hcur]; exact hq)).trans (hS31 q hq)
        · rw [g3 r' (by omega)]
          have e : (mS (mS M' 11 3 (nI r)) 11 0 2) r' = M' r' := by funext j; simp (disch := omega) only [m_same, m_col, m_row, s_same, s_col, s_row]
          rw [e, hrM r' (by omega) (by omega) (by omega) (by omega) (by omega)]
          funext j
          simp (disch := omega) only [m_same, m_col, m_row, s_same, s_col, s_row]
        · rw [g1 j hj]
          have e : (mS (mS M' 11 3 (nI r)) 11 0 2) 1 j = M' 1 j := by simp (disch := omega) only [m_same, m_col, m_row, s_same, s_col, s_row]
          rw [e, t8 1 (by decide) (by decide) (by decide) (by decide), hr5 1 (by decide), q1.1 1 (by decide) (by decide), mr0_1 hj]
          simp (disch := omega) only [m_same, m_col, m_row, s_same, s_col, s_row]
        · rw [g3 11 (by decide)]
          have e : (mS (mS M' 11 3 (nI r)) 11 0 2) 11 j = (mS M' 11 3 (nI r)) 11 j := by simp (disch := omega) only [m_same, m_col, m_row, s_same, s_col, s_row]
          rw [e]
          by_cases e3 : j = 3
          · subst e3; rw [m_same, m_same]
          · rw [m_col e3, m_col e3, t9 j (by omega) j6 (by omega), hj5 j j6 (by omega) (by omega)]
            by_cases e5 : j = 5
            · subst e5; rw [h53]; exact m_same.symm
            · rw [hj3 j j0 e5 j6 j7 j9, m_col e5]
  · rw [if_neg g, if_pos rfl] at hrun7
    have e9 : M3 11 9 = 1 := by rw [q3, if_neg g]
    have he : (prs X L 12 0).2.1 ≤ 60 := prs_in hL 12 0 (Nat.zero_le _)
    generalize (prs X L 12 0).2.1 = e at he q2 p2
    have hb3 := hA2 M3 (fun r hr => hr3 r (by omega) (by omega) (by omega)) (fun j hj => by rw [hr3 0 (by decide) (by decide) (by decide)]) hj3 h53
    have hb4 := RA_F (RA_4 hb3 (show e < 2 ^ 31 by omega)) 1
    refine Or.inr ⟨(IAE, 1), 0, cS (cS S1 0 6 0) 0 1 (nI e), mF (mS M3 11 2 (nI e)) 1, by simp, ?_, ?_, T0_0, hb4⟩
    · show FX7_run aC b (puc μ b S) = _
      rw [hrun7, p2, k_p6 hb, thr_p hb hμ]
      rfl
    · show FX8_run m (pum ν m M) = _
      rw [mr_run hm, q4]
      simp only [bnd, rt, w_I20 hm, e9, one_ne, if_false, w_I17 hm, q2, w_p2 hm, w_vc hm, FX8_fail, w_p0 hm]
      rfl
end RU
