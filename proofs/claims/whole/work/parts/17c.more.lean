/-! ===== the other questions of the face ===== -/
section FR
variable {T : Nat}
section LL
variable {μ : Me} {m n q : Nat} {M : Mg}
theorem l_mocm (hm : 0 < m) (hn : M 0 0 = nI n) (hn9 : n ≤ 10) : ∀ k f i (acc : Int64), i + k = n → k < f → FX8_occupiedMask_L9 f m acc (nI i) (pum μ m M) = rt (fo (fun d a => a ||| (1 <<< ((M 0 (13 + 6 * d + 0) : Int32).toInt64 &&& 63))) i k acc) (pum μ m M) := by
  intro k
  induction k with
  | zero =>
    intro f i acc hi hfuu
    obtain ⟨f, rfl⟩ : ∃ g, f = g + 1 := ⟨f - 1, by omega⟩
    have h1 : nI n ≤ nI i := by rw [show i = n by omega]; exact Int32.le_refl _
    simp only [FX8_occupiedMask_L9, FX8_occupiedMask_B9, w_I0, w_I1, w_I2, w_I3, w_I4, w_R5, w_R6, w_R7, w_R8, w_R9, w_R10, w_R11, w_R12, w_R13, w_R14, w_R15, w_I16, w_I17, w_I18, w_I19, w_I20, w_I21, w_vc, w_a0, w_s0, w_a1, w_s1, w_a2, w_s2, w_a3, w_s3, w_a4, w_s4, w_a5, w_s5, w_a6, w_s6, w_a7, w_s7, w_a8, w_s8, w_a9, w_s9, w_a10, w_s10, w_p0, w_p1, w_p2, w_p3, w_p4, w_p16, w_p17, w_p18, w_p19, w_p20, w_p21, o_0, o_1, o_2, o_3, o_4, o_5, hm, i_0, z_0, i_1, z_1, i_2, z_2, i_3, z_3, i_4, z_4, i_5, z_5, i_6, z_6, i_7, z_7, i_8, z_8, hn, h1, if_true, bnd, rt]
    rfl
  | succ k ih =>
    intro f i acc hi hfuu
    obtain ⟨f, rfl⟩ : ∃ g, f = g + 1 := ⟨f - 1, by omega⟩
    have h1 : ¬ nI n ≤ nI i := nI_ge (by omega) (by omega)
    simp only [FX8_occupiedMask_L9, FX8_occupiedMask_B9, w_I0, w_I1, w_I2, w_I3, w_I4, w_R5, w_R6, w_R7, w_R8, w_R9, w_R10, w_R11, w_R12, w_R13, w_R14, w_R15, w_I16, w_I17, w_I18, w_I19, w_I20, w_I21, w_vc, w_a0, w_s0, w_a1, w_s1, w_a2, w_s2, w_a3, w_s3, w_a4, w_s4, w_a5, w_s5, w_a6, w_s6, w_a7, w_s7, w_a8, w_s8, w_a9, w_s9, w_a10, w_s10, w_p0, w_p1, w_p2, w_p3, w_p4, w_p16, w_p17, w_p18, w_p19, w_p20, w_p21, o_0, o_1, o_2, o_3, o_4, o_5, hm, i_0, z_0, i_1, z_1, i_2, z_2, i_3, z_3, i_4, z_4, i_5, z_5, i_6, z_6, i_7, z_7, i_8, z_8, hn, iv_0 (show i < 10 by omega), cv_0 (show i < 10 by omega), iv_1 (show i < 10 by omega), cv_1 (show i < 10 by omega), iv_2 (show i < 10 by omega), cv_2 (show i < 10 by omega), iv_3 (show i < 10 by omega), cv_3 (show i < 10 by omega), iv_4 (show i < 10 by omega), cv_4 (show i < 10 by omega), iv_5 (show i < 10 by omega), cv_5 (show i < 10 by omega), h1, nI_1, if_true, if_false, bnd, rt]
    simp only [fo]
    exact ih _ _ _ (by omega) (by omega)
theorem l_mbb (hm : 0 < m) (hn : M 0 0 = nI n) (hn9 : n ≤ 10) (h0 : M 11 0 = 0) : ∀ k f i (acc : Int32), i + k = n → k < f → FX8_meanBatteryBits_L22 f m acc (nI i) (pum μ m M) = gd (nn32 (FP.fdiv (FP.i2f (fo (fun d a => a + M 0 (13 + 6 * d + 2)) i k acc)) (FP.i2f (nI n))) = true) (bnd (FJxf58ca_floatToIntBits_5c35a (FP.fdiv (FP.i2f (fo (fun d a => a + M 0 (13 + 6 * d + 2)) i k acc)) (FP.i2f (nI n))) (pum μ m M)) (fun x17 μ16 => rt x17 μ16)) := by
  intro k
  induction k with
  | zero =>
    intro f i acc hi hfuu
    obtain ⟨f, rfl⟩ : ∃ g, f = g + 1 := ⟨f - 1, by omega⟩
    have h1 : nI n ≤ nI i := by rw [show i = n by omega]; exact Int32.le_refl _
    simp only [FX8_meanBatteryBits_L22, FX8_meanBatteryBits_B22, w_I0, w_I1, w_I2, w_I3, w_I4, w_R5, w_R6, w_R7, w_R8, w_R9, w_R10, w_R11, w_R12, w_R13, w_R14, w_R15, w_I16, w_I17, w_I18, w_I19, w_I20, w_I21, w_vc, w_a0, w_s0, w_a1, w_s1, w_a2, w_s2, w_a3, w_s3, w_a4, w_s4, w_a5, w_s5, w_a6, w_s6, w_a7, w_s7, w_a8, w_s8, w_a9, w_s9, w_a10, w_s10, w_p0, w_p1, w_p2, w_p3, w_p4, w_p16, w_p17, w_p18, w_p19, w_p20, w_p21, o_0, o_1, o_2, o_3, o_4, o_5, hm, i_0, z_0, i_1, z_1, i_2, z_2, i_3, z_3, i_4, z_4, i_5, z_5, i_6, z_6, i_7, z_7, i_8, z_8, hn, h0, h1, if_true]
    rfl
  | succ k ih =>
    intro f i acc hi hfuu
    obtain ⟨f, rfl⟩ : ∃ g, f = g + 1 := ⟨f - 1, by omega⟩
    have h1 : ¬ nI n ≤ nI i := nI_ge (by omega) (by omega)
    simp only [FX8_meanBatteryBits_L22, FX8_meanBatteryBits_B22, w_I0, w_I1, w_I2, w_I3, w_I4, w_R5, w_R6, w_R7, w_R8, w_R9, w_R10, w_R11, w_R12, w_R13, w_R14, w_R15, w_I16, w_I17, w_I18, w_I19, w_I20, w_I21, w_vc, w_a0, w_s0, w_a1, w_s1, w_a2, w_s2, w_a3, w_s3, w_a4, w_s4, w_a5, w_s5, w_a6, w_s6, w_a7, w_s7, w_a8, w_s8, w_a9, w_s9, w_a10, w_s10, w_p0, w_p1, w_p2, w_p3, w_p4, w_p16, w_p17, w_p18, w_p19, w_p20, w_p21, o_0, o_1, o_2, o_3, o_4, o_5, hm, i_0, z_0, i_1, z_1, i_2, z_2, i_3, z_3, i_4, z_4, i_5, z_5, i_6, z_6, i_7, z_7, i_8, z_8, hn, iv_0 (show i < 10 by omega), cv_0 (show i < 10 by omega), iv_1 (show i < 10 by omega), cv_1 (show i < 10 by omega), iv_2 (show i < 10 by omega), cv_2 (show i < 10 by omega), iv_3 (show i < 10 by omega), cv_3 (show i < 10 by omega), iv_4 (show i < 10 by omega), cv_4 (show i < 10 by omega), iv_5 (show i < 10 by omega), cv_5 (show i < 10 by omega), h1, nI_1, if_true, if_false, bnd, rt]
    simp only [fo]
    exact ih _ _ _ (by omega) (by omega)
theorem l_mb0 (f : Nat) (hm : 0 < m) (hn : M 0 0 = nI 0) (h0 : ¬ M 11 0 = 0) : FX8_meanBatteryBits_L22 (f + 1) m 0 0 (pum μ m M) = rt 0 (pum μ m M) := by
  have h1 : nI 0 ≤ 0 := by decide
  simp only [FX8_meanBatteryBits_L22, FX8_meanBatteryBits_B22, w_I0, w_I1, w_I2, w_I3, w_I4, w_R5, w_R6, w_R7, w_R8, w_R9, w_R10, w_R11, w_R12, w_R13, w_R14, w_R15, w_I16, w_I17, w_I18, w_I19, w_I20, w_I21, w_vc, w_a0, w_s0, w_a1, w_s1, w_a2, w_s2, w_a3, w_s3, w_a4, w_s4, w_a5, w_s5, w_a6, w_s6, w_a7, w_s7, w_a8, w_s8, w_a9, w_s9, w_a10, w_s10, w_p0, w_p1, w_p2, w_p3, w_p4, w_p16, w_p17, w_p18, w_p19, w_p20, w_p21, o_0, o_1, o_2, o_3, o_4, o_5, hm, i_0, z_0, i_1, z_1, i_2, z_2, i_3, z_3, i_4, z_4, i_5, z_5, i_6, z_6, i_7, z_7, i_8, z_8, hn, h0, h1, if_true, if_false, rt]
end LL
theorem A_occupiedMask : Ans T FX7_occupiedMask FX8_occupiedMask (fun r r' : Int64 => r = r') [] := Aq (fun μ ν b m S M n q c h0 hb hm hk9 hR => Or.inl (by
  have hA := puc_At (μ := μ) (b := b) (S := S) hk9
  have hn9 := hR.1.1
  have h1 : FX2_allCells (sa b S.2.2.2 + 1) (puc μ b S) = rt (fo (fun d a => a ||| (1 <<< (((S.1 S.2.2.2).1 0 d : Int32).toInt64 &&& 63))) 0 n 0) (puc μ b S) := L_q hk9 (fun μ' => e_allCells hR.1.2.1 hn9)
  have h2 := l_mocm (μ := ν) (M := mS M 11 0 0) (n := n) hm hR.1.2.2.1 hn9 n FU 0 0 (by omega) (by unfold FU; omega)
  refine ⟨fo (fun d a => a ||| (1 <<< (((S.1 S.2.2.2).1 0 d : Int32).toInt64 &&& 63))) 0 n 0, fo (fun d a => a ||| (1 <<< (((mS M 11 0 0) 0 (13 + 6 * d + 0) : Int32).toInt64 &&& 63))) 0 n 0, ?_, ?_, ?_⟩
  · simp only [FX7_occupiedMask, k_R0 hb, k_R1 hb, k_R2 hb, k_R4 hb, k_R5 hb, k_R8 hb, k_R10 hb, k_I3 hb, k_I6 hb, k_I7 hb, k_I9 hb, k_vc0 hb, k_vc40, k_vc146, L_vc hk9, L_vc1 hk9, L_vc8 hk9, q_R0_0 hA sa_pos, q_R0_1 hA sa_pos, q_R0_2 hA sa_pos, q_J0_3 hA sa_pos, q_I0_4 hA sa_pos, q_I0_5 hA sa_pos, q_I0_6 hA sa_pos, q_I0_7 hA sa_pos, q_I0_8 hA sa_pos, q_I0_9 hA sa_pos, q_R1_0 hA, q_R1_1 hA, q_R1_2 hA, q_R1_3 hA, q_R1_4 hA, q_R1_5 hA, q_I1_6 hA, q_R8_0 hA, q_R8_1 hA, q_R8_2 hA, q_I8_3 hA, q_a0 hA, q_a1 hA, q_a2 hA, q_a3 hA, q_a4 hA, q_a5 hA, q_a6 hA, q_a7 hA, q_a8 hA, q_a12 hA, h1, bnd, rt]
  · simp only [FX8_occupiedMask, w_p0 hm]
    exact h2
  · exact (fo_congr (fun d a _ hd => by
      have ho := hR.1.2.2.2.1 d (by omega)
      rw [mTv, ho.1.1])).symm))
theorem A_conflictCount : Ans T FX7_conflictCount FX8_conflictCount (fun r r' : Int32 => r = r') [] := Aq (fun μ ν b m S M n q c h0 hb hm hk9 hR => Or.inl (by
  have hA := puc_At (μ := μ) (b := b) (S := S) hk9
  have hn9 := hR.1.1
  have h1 : FX2_conflictingPairs (sa b S.2.2.2 + 1) (puc μ b S) = rt (nI (prN (S.1 S.2.2.2) n)) (puc μ b S) := L_q hk9 (fun μ' => by rw [e_conf hR.1.2.1 hn9, conf_n])
  have h2 := e_mcf (μ := ν) (M := M) (n := n) hm hR.1.2.2.1 hn9
  have h3 : mcf (mF M 0) n = mcf M n := rfl
  rw [h3, mcf_n hR] at h2
  refine ⟨_, _, ?_, h2, rfl⟩
  simp only [FX7_conflictCount, k_R0 hb, k_R1 hb, k_R2 hb, k_R4 hb, k_R5 hb, k_R8 hb, k_R10 hb, k_I3 hb, k_I6 hb, k_I7 hb, k_I9 hb, k_vc0 hb, k_vc40, k_vc146, L_vc hk9, L_vc1 hk9, L_vc8 hk9, q_R0_0 hA sa_pos, q_R0_1 hA sa_pos, q_R0_2 hA sa_pos, q_J0_3 hA sa_pos, q_I0_4 hA sa_pos, q_I0_5 hA sa_pos, q_I0_6 hA sa_pos, q_I0_7 hA sa_pos, q_I0_8 hA sa_pos, q_I0_9 hA sa_pos, q_R1_0 hA, q_R1_1 hA, q_R1_2 hA, q_R1_3 hA, q_R1_4 hA, q_R1_5 hA, q_I1_6 hA, q_R8_0 hA, q_R8_1 hA, q_R8_2 hA, q_I8_3 hA, q_a0 hA, q_a1 hA, q_a2 hA, q_a3 hA, q_a4 hA, q_a5 hA, q_a6 hA, q_a7 hA, q_a8 hA, q_a12 hA, h1, bnd, rt]))
theorem A_droneAtRank (x : Int32) : Ans T (fun a => FX7_droneAtRank a x) (fun a => FX8_droneAtRank a x) (fun r r' : Int32 => r = r') [(NSE, 1)] := Aq (fun μ ν b m S M n q c h0 hb hm hk9 hR => by
  have hA := puc_At (μ := μ) (b := b) (S := S) hk9
  have hn9 := hR.1.1
  have h1 : FX2_ranked (sa b S.2.2.2 + 1) x (puc μ b S) = rt (ffi (fun j => fo (fun d a => if prc (S.1 S.2.2.2) d j = 0 then a else a + 1) 0 n (0 : Int32) = x) 0 n) (puc μ b S) := L_q hk9 (fun μ' => e_ranked (fun d hd => (hR.2.2.2.2.2 d (by omega)).1) hR.1.2.1 hn9)
  have h2 := e_mr (μ := ν) (M := M) (x := x) hm hR.1.2.2.1 hn9
  have h3 : ffi (fun d => fo (mr1 (mF M 0) d) 0 n (0 : Int32) = x) 0 n = ffi (fun d => fo (mr1 M d) 0 n (0 : Int32) = x) 0 n := rfl
  rw [h3, R_ranked hR x, mFF] at h2
  rcases ffi_in (p := fun j => fo (fun d a => if prc (S.1 S.2.2.2) d j = 0 then a else a + 1) 0 n (0 : Int32) = x) n 0 with e | ⟨j, -, hj, e, -⟩
  · rw [e] at h1 h2
    rw [if_pos rfl] at h2
    refine Or.inr ⟨(NSE, 1), 0, by simp, ?_, h2⟩
    simp only [FX7_droneAtRank, k_R0 hb, k_R1 hb, k_R2 hb, k_R4 hb, k_R5 hb, k_R8 hb, k_R10 hb, k_I3 hb, k_I6 hb, k_I7 hb, k_I9 hb, k_vc0 hb, k_vc40, k_vc146, L_vc hk9, L_vc1 hk9, L_vc8 hk9, q_R0_0 hA sa_pos, q_R0_1 hA sa_pos, q_R0_2 hA sa_pos, q_J0_3 hA sa_pos, q_I0_4 hA sa_pos, q_I0_5 hA sa_pos, q_I0_6 hA sa_pos, q_I0_7 hA sa_pos, q_I0_8 hA sa_pos, q_I0_9 hA sa_pos, q_R1_0 hA, q_R1_1 hA, q_R1_2 hA, q_R1_3 hA, q_R1_4 hA, q_R1_5 hA, q_I1_6 hA, q_R8_0 hA, q_R8_1 hA, q_R8_2 hA, q_I8_3 hA, q_a0 hA, q_a1 hA, q_a2 hA, q_a3 hA, q_a4 hA, q_a5 hA, q_a6 hA, q_a7 hA, q_a8 hA, q_a12 hA, h1, bnd, rt, found_no hb h0]
  · rw [e] at h1 h2
    rw [if_neg (m1_ne (by omega))] at h2
    refine Or.inl ⟨_, _, ?_, h2, rfl⟩
    simp only [FX7_droneAtRank, k_R0 hb, k_R1 hb, k_R2 hb, k_R4 hb, k_R5 hb, k_R8 hb, k_R10 hb, k_I3 hb, k_I6 hb, k_I7 hb, k_I9 hb, k_vc0 hb, k_vc40, k_vc146, L_vc hk9, L_vc1 hk9, L_vc8 hk9, q_R0_0 hA sa_pos, q_R0_1 hA sa_pos, q_R0_2 hA sa_pos, q_J0_3 hA sa_pos, q_I0_4 hA sa_pos, q_I0_5 hA sa_pos, q_I0_6 hA sa_pos, q_I0_7 hA sa_pos, q_I0_8 hA sa_pos, q_I0_9 hA sa_pos, q_R1_0 hA, q_R1_1 hA, q_R1_2 hA, q_R1_3 hA, q_R1_4 hA, q_R1_5 hA, q_I1_6 hA, q_R8_0 hA, q_R8_1 hA, q_R8_2 hA, q_I8_3 hA, q_a0 hA, q_a1 hA, q_a2 hA, q_a3 hA, q_a4 hA, q_a5 hA, q_a6 hA, q_a7 hA, q_a8 hA, q_a12 hA, h1, bnd, rt, found_ok (show j < 2 ^ 31 by omega)])
theorem A_nextCueTime : Ans T FX7_nextCueTime FX8_nextCueTime (fun r r' : Int32 => r = r') [(NSE, 1)] := Aq (fun μ ν b m S M n q c h0 hb hm hk9 hR => by
  have hA := puc_At (μ := μ) (b := b) (S := S) hk9
  have hC := hR.2.2.1
  have h1 : FX1_earliest (sa b S.2.2.2 + 8) (puc μ b S) = rt (fo (ear (S.1 S.2.2.2)) 0 c (-1)) (puc μ b S) := L_q hk9 (fun μ' => e_ear hC.2.1 hC.1)
  obtain ⟨e1, e2⟩ := R_ear hR
  cases c with
  | zero =>
    rw [e1 rfl] at h1
    refine Or.inr ⟨(NSE, 1), 0, by simp, ?_, e_mct0 hm hC.2.2.1⟩
    simp only [FX7_nextCueTime, k_R0 hb, k_R1 hb, k_R2 hb, k_R4 hb, k_R5 hb, k_R8 hb, k_R10 hb, k_I3 hb, k_I6 hb, k_I7 hb, k_I9 hb, k_vc0 hb, k_vc40, k_vc146, L_vc hk9, L_vc1 hk9, L_vc8 hk9, q_R0_0 hA sa_pos, q_R0_1 hA sa_pos, q_R0_2 hA sa_pos, q_J0_3 hA sa_pos, q_I0_4 hA sa_pos, q_I0_5 hA sa_pos, q_I0_6 hA sa_pos, q_I0_7 hA sa_pos, q_I0_8 hA sa_pos, q_I0_9 hA sa_pos, q_R1_0 hA, q_R1_1 hA, q_R1_2 hA, q_R1_3 hA, q_R1_4 hA, q_R1_5 hA, q_I1_6 hA, q_R8_0 hA, q_R8_1 hA, q_R8_2 hA, q_I8_3 hA, q_a0 hA, q_a1 hA, q_a2 hA, q_a3 hA, q_a4 hA, q_a5 hA, q_a6 hA, q_a7 hA, q_a8 hA, q_a12 hA, h1, bnd, rt, found_no hb h0]
  | succ c =>
    obtain ⟨e3, t, ht, e4⟩ := e2 c rfl
    have h2 := e_mct (μ := ν) (M := M) hm hC.2.2.1 hC.1
    rw [← e3, e4] at h2
    rw [e4] at h1
    refine Or.inl ⟨_, _, ?_, h2, rfl⟩
    simp only [FX7_nextCueTime, k_R0 hb, k_R1 hb, k_R2 hb, k_R4 hb, k_R5 hb, k_R8 hb, k_R10 hb, k_I3 hb, k_I6 hb, k_I7 hb, k_I9 hb, k_vc0 hb, k_vc40, k_vc146, L_vc hk9, L_vc1 hk9, L_vc8 hk9, q_R0_0 hA sa_pos, q_R0_1 hA sa_pos, q_R0_2 hA sa_pos, q_J0_3 hA sa_pos, q_I0_4 hA sa_pos, q_I0_5 hA sa_pos, q_I0_6 hA sa_pos, q_I0_7 hA sa_pos, q_I0_8 hA sa_pos, q_I0_9 hA sa_pos, q_R1_0 hA, q_R1_1 hA, q_R1_2 hA, q_R1_3 hA, q_R1_4 hA, q_R1_5 hA, q_I1_6 hA, q_R8_0 hA, q_R8_1 hA, q_R8_2 hA, q_I8_3 hA, q_a0 hA, q_a1 hA, q_a2 hA, q_a3 hA, q_a4 hA, q_a5 hA, q_a6 hA, q_a7 hA, q_a8 hA, q_a12 hA, h1, bnd, rt, found_ok (show t < 2 ^ 31 by omega)])
theorem A_meanBatteryBits : Ans T FX7_meanBatteryBits FX8_meanBatteryBits (fun r r' : Int32 => r = r') [(ARE, 1)] := Aq (fun μ ν b m S M n q c h0 hb hm hk9 hR => by
  have hA := puc_At (μ := μ) (b := b) (S := S) hk9
  have hn9 := hR.1.1
  by_cases hn : n = 0
  · subst hn
    refine Or.inr ⟨(ARE, 1), 0, by simp, ?_, ?_⟩
    · simp only [FX7_meanBatteryBits, k_R0 hb, k_R1 hb, k_R2 hb, k_R4 hb, k_R5 hb, k_R8 hb, k_R10 hb, k_I3 hb, k_I6 hb, k_I7 hb, k_I9 hb, k_vc0 hb, k_vc40, k_vc146, L_vc hk9, L_vc1 hk9, L_vc8 hk9, q_R0_0 hA sa_pos, q_R0_1 hA sa_pos, q_R0_2 hA sa_pos, q_J0_3 hA sa_pos, q_I0_4 hA sa_pos, q_I0_5 hA sa_pos, q_I0_6 hA sa_pos, q_I0_7 hA sa_pos, q_I0_8 hA sa_pos, q_I0_9 hA sa_pos, q_R1_0 hA, q_R1_1 hA, q_R1_2 hA, q_R1_3 hA, q_R1_4 hA, q_R1_5 hA, q_I1_6 hA, q_R8_0 hA, q_R8_1 hA, q_R8_2 hA, q_I8_3 hA, q_a0 hA, q_a1 hA, q_a2 hA, q_a3 hA, q_a4 hA, q_a5 hA, q_a6 hA, q_a7 hA, q_a8 hA, q_a12 hA, hR.1.2.1, nI_0, if_true, thr_p hb h0]
      rfl
    · have h2 := l_mb0 (μ := ν) (M := mS M 11 0 1) 4095 hm (by rw [mTv]; exact hR.1.2.2.1) (by rw [mT0]; decide)
      simp only [FX8_meanBatteryBits, FX8_meanBatteryBits_B15, w_I0, w_I1, w_I2, w_I3, w_I4, w_R5, w_R6, w_R7, w_R8, w_R9, w_R10, w_R11, w_R12, w_R13, w_R14, w_R15, w_I16, w_I17, w_I18, w_I19, w_I20, w_I21, w_vc, w_a0, w_s0, w_a1, w_s1, w_a2, w_s2, w_a3, w_s3, w_a4, w_s4, w_a5, w_s5, w_a6, w_s6, w_a7, w_s7, w_a8, w_s8, w_a9, w_s9, w_a10, w_s10, w_p0, w_p1, w_p2, w_p3, w_p4, w_p16, w_p17, w_p18, w_p19, w_p20, w_p21, o_0, o_1, o_2, o_3, o_4, o_5, hm, i_0, z_0, i_1, z_1, i_2, z_2, i_3, z_3, i_4, z_4, i_5, z_5, i_6, z_6, i_7, z_7, i_8, z_8, hR.1.2.2.1, nI_0, if_true]
      exact h2
  · have hnz : ¬ nI n = 0 := nI_ne0 (by omega) (by omega)
    obtain ⟨e1, s, hs, e2⟩ := R_bsum hR
    obtain ⟨u1, u2, -⟩ := mb_use (n := n) (s := s) (by omega) hn9 hs (puc μ b S)
    obtain ⟨-, -, u3⟩ := mb_use (n := n) (s := s) (by omega) hn9 hs (pum ν m (mS M 11 0 0))
    have h1 : FX2_batterySum (sa b S.2.2.2 + 1) (puc μ b S) = rt (nI s) (puc μ b S) := L_q hk9 (fun μ' => by rw [e_batterySum hR.1.2.1 hn9, e2])
    have h2 := l_mbb (μ := ν) (M := mS M 11 0 0) hm (by rw [mTv]; exact hR.1.2.2.1) hn9 mT0 n FU 0 0 (by omega) (by unfold FU; omega)
    have e3 : fo (fun d a => a + (mS M 11 0 0) 0 (13 + 6 * d + 2)) 0 n (0 : Int32) = nI s := e1.trans e2
    rw [e3, nI_0] at h2
    refine Or.inl ⟨(FP.fdiv (FP.i2f (nI s)) (FP.i2f (nI n))).toInt32, (FP.fdiv (FP.i2f (nI s)) (FP.i2f (nI n))).toInt32, ?_, ?_, rfl⟩
    · simp only [FX7_meanBatteryBits, k_R0 hb, k_R1 hb, k_R2 hb, k_R4 hb, k_R5 hb, k_R8 hb, k_R10 hb, k_I3 hb, k_I6 hb, k_I7 hb, k_I9 hb, k_vc0 hb, k_vc40, k_vc146, L_vc hk9, L_vc1 hk9, L_vc8 hk9, q_R0_0 hA sa_pos, q_R0_1 hA sa_pos, q_R0_2 hA sa_pos, q_J0_3 hA sa_pos, q_I0_4 hA sa_pos, q_I0_5 hA sa_pos, q_I0_6 hA sa_pos, q_I0_7 hA sa_pos, q_I0_8 hA sa_pos, q_I0_9 hA sa_pos, q_R1_0 hA, q_R1_1 hA, q_R1_2 hA, q_R1_3 hA, q_R1_4 hA, q_R1_5 hA, q_I1_6 hA, q_R8_0 hA, q_R8_1 hA, q_R8_2 hA, q_I8_3 hA, q_a0 hA, q_a1 hA, q_a2 hA, q_a3 hA, q_a4 hA, q_a5 hA, q_a6 hA, q_a7 hA, q_a8 hA, q_a12 hA, hR.1.2.1, hnz, if_false, h1, u1, u2, gd, if_true, bnd, rt]
    · simp only [FX8_meanBatteryBits, FX8_meanBatteryBits_B15, w_I0, w_I1, w_I2, w_I3, w_I4, w_R5, w_R6, w_R7, w_R8, w_R9, w_R10, w_R11, w_R12, w_R13, w_R14, w_R15, w_I16, w_I17, w_I18, w_I19, w_I20, w_I21, w_vc, w_a0, w_s0, w_a1, w_s1, w_a2, w_s2, w_a3, w_s3, w_a4, w_s4, w_a5, w_s5, w_a6, w_s6, w_a7, w_s7, w_a8, w_s8, w_a9, w_s9, w_a10, w_s10, w_p0, w_p1, w_p2, w_p3, w_p4, w_p16, w_p17, w_p18, w_p19, w_p20, w_p21, o_0, o_1, o_2, o_3, o_4, o_5, hm, i_0, z_0, i_1, z_1, i_2, z_2, i_3, z_3, i_4, z_4, i_5, z_5, i_6, z_6, i_7, z_7, i_8, z_8, hR.1.2.2.1, hnz, if_false]
      rw [h2, u3]
      simp only [u1, gd, if_true, bnd, rt, mF])
theorem A_meanDistance : Ans T FX7_meanDistance FX8_meanDistance (fun r r' : UInt64 => r = r' ∧ Op.cmpValue (FP.dcmp r r) .l = 0) [(ARE, 1)] := Aq (fun μ ν b m S M n q c h0 hb hm hk9 hR => by
  have hA := puc_At (μ := μ) (b := b) (S := S) hk9
  have hn9 := hR.1.1
  obtain ⟨e1, e2, s, w, hs, hw, e3, e4⟩ := R_mmd hR
  have h1 : FX2_targetCount (sa b S.2.2.2 + 1) (puc μ b S) = rt (nI w) (puc μ b S) := L_q hk9 (fun μ' => by rw [e_targetCount hR.1.2.1 hn9, ← e1, e4])
  have h2 : FX2_targetDistanceSum (sa b S.2.2.2 + 1) (puc μ b S) = rt (nI s) (puc μ b S) := L_q hk9 (fun μ' => by rw [e_targetDistanceSum hR.1.2.1 hn9, ← e2, e3])
  have h3 := e_mmd (μ := ν) (M := M) hm hR.1.2.2.1 hn9
  rw [e3, e4] at h3
  by_cases hz : w = 0
  · subst hz
    rw [if_pos (show nI 0 = (0 : Int32) from rfl)] at h3
    refine Or.inr ⟨(ARE, 1), FP.dconst0, by simp, ?_, h3⟩
    simp only [FX7_meanDistance, k_R0 hb, k_R1 hb, k_R2 hb, k_R4 hb, k_R5 hb, k_R8 hb, k_R10 hb, k_I3 hb, k_I6 hb, k_I7 hb, k_I9 hb, k_vc0 hb, k_vc40, k_vc146, L_vc hk9, L_vc1 hk9, L_vc8 hk9, q_R0_0 hA sa_pos, q_R0_1 hA sa_pos, q_R0_2 hA sa_pos, q_J0_3 hA sa_pos, q_I0_4 hA sa_pos, q_I0_5 hA sa_pos, q_I0_6 hA sa_pos, q_I0_7 hA sa_pos, q_I0_8 hA sa_pos, q_I0_9 hA sa_pos, q_R1_0 hA, q_R1_1 hA, q_R1_2 hA, q_R1_3 hA, q_R1_4 hA, q_R1_5 hA, q_I1_6 hA, q_R8_0 hA, q_R8_1 hA, q_R8_2 hA, q_I8_3 hA, q_a0 hA, q_a1 hA, q_a2 hA, q_a3 hA, q_a4 hA, q_a5 hA, q_a6 hA, q_a7 hA, q_a8 hA, q_a12 hA, h1, nI_0, if_true, bnd, rt, thr_p hb h0]
    rfl
  · have hnz : ¬ nI w = 0 := nI_ne0 (by omega) (by omega)
    obtain ⟨u1, u2⟩ := mdi_t w (by omega) s (by omega) (by omega)
    rw [if_neg hnz] at h3
    simp only [u1, gd, if_true] at h3
    refine Or.inl ⟨_, _, ?_, h3, rfl, u2⟩
    simp only [FX7_meanDistance, k_R0 hb, k_R1 hb, k_R2 hb, k_R4 hb, k_R5 hb, k_R8 hb, k_R10 hb, k_I3 hb, k_I6 hb, k_I7 hb, k_I9 hb, k_vc0 hb, k_vc40, k_vc146, L_vc hk9, L_vc1 hk9, L_vc8 hk9, q_R0_0 hA sa_pos, q_R0_1 hA sa_pos, q_R0_2 hA sa_pos, q_J0_3 hA sa_pos, q_I0_4 hA sa_pos, q_I0_5 hA sa_pos, q_I0_6 hA sa_pos, q_I0_7 hA sa_pos, q_I0_8 hA sa_pos, q_I0_9 hA sa_pos, q_R1_0 hA, q_R1_1 hA, q_R1_2 hA, q_R1_3 hA, q_R1_4 hA, q_R1_5 hA, q_I1_6 hA, q_R8_0 hA, q_R8_1 hA, q_R8_2 hA, q_I8_3 hA, q_a0 hA, q_a1 hA, q_a2 hA, q_a3 hA, q_a4 hA, q_a5 hA, q_a6 hA, q_a7 hA, q_a8 hA, q_a12 hA, h1, hnz, if_false, h2, u1, gd, if_true, bnd, rt])
/-! pairs by cell -/
def Sw (S S' : Cg) : Prop := S'.1 = S.1 ∧ S'.2.2 = S.2.2 ∧ ∀ r, r ≠ 3 → S'.2.1 r = S.2.1 r
theorem Sw_s {S : Cg} {j : Nat} {x : Int32} : Sw S (cS S 3 j x) := ⟨rfl, rfl, fun r hr => by simp [cS, hr]⟩
theorem Sw_t {S S' S2 : Cg} (h : Sw S S') (h2 : Sw S' S2) : Sw S S2 := ⟨h2.1.trans h.1, h2.2.1.trans h.2.1, fun r hr => (h2.2.2 r hr).trans (h.2.2 r hr)⟩
theorem Sw_r (S : Cg) : Sw S S := ⟨rfl, rfl, fun _ _ => rfl⟩
theorem RA_w {S S' : Cg} {M : Mg} (h : RA T S M) (hw : Sw S S') (k : Int32) : RA (T + 400) S' (mF M k) :=
  RA_c h (by omega) (hw.2.2 0 (by decide)) (hw.2.2 1 (by decide)) (hw.2.2 2 (by decide)) (by rw [hw.2.1]) (fun _ _ => by rw [hw.1]) (fun r hr => T0_r (by omega)) (fun j _ => T0_v) (fun j hj _ _ _ => T0_s (by omega))
theorem smm_head (f : Nat → Nat) (i : Nat) : ∀ m, smm (fun j => f (i + j)) (m + 1) = f i + smm (fun j => f (i + 1 + j)) m := by
  intro m
  induction m with
  | zero => simp [smm]
  | succ m ihm =>
    show smm (fun j => f (i + j)) (m + 1) + f (i + (m + 1)) = f i + (smm (fun j => f (i + 1 + j)) m + f (i + 1 + m))
    rw [ihm, show i + (m + 1) = i + 1 + m by omega]
    omega
section PB
variable {μ : Me} {b m n q c : Nat} {M : Mg}
theorem l_pz (hb : 0 < b) : ∀ k f i (S : Cg), i + k = 64 → k < f → ∃ S', Sw S S' ∧ (∀ j, j < 64 → i ≤ j → S'.2.1 3 j = 0) ∧ (∀ j, j < i → S'.2.1 3 j = S.2.1 3 j) ∧ FX7_pairsByCell_L2 f b (nI i) (puc μ b S) = FX7_pairsByCell_L25 FU b 0 0 (puc μ b S') := by
  intro k
  induction k with
  | zero =>
    intro f i S hi hfuu
    obtain ⟨f, rfl⟩ : ∃ g, f = g + 1 := ⟨f - 1, by omega⟩
    have h1 : (64 : Int32) ≤ nI i := by rw [show i = 64 by omega]; decide
    refine ⟨S, Sw_r S, fun j h1 h2 => by omega, fun _ _ => rfl, ?_⟩
    simp only [FX7_pairsByCell_L2, FX7_pairsByCell_B2, h1, if_true]
  | succ k ih =>
    intro f i S hi hfuu
    obtain ⟨f, rfl⟩ : ∃ g, f = g + 1 := ⟨f - 1, by omega⟩
    have h1 : ¬ (64 : Int32) ≤ nI i := nI_ge (b := 64) (by omega) (by decide)
    have h2 : inb (nI i) 64 = true := inb_n (by omega) (by omega)
    have h3 : (nI i).toNatClampNeg = i := nI_clamp (by omega)
    obtain ⟨S', g1, g2, g3, g4⟩ := ih f (i + 1) (cS S 3 i 0) (by omega) (by omega)
    refine ⟨S', Sw_t Sw_s g1, fun j j1 j2 => ?_, fun j hj => ?_, ?_⟩
    · by_cases e : j = i
      · subst e
        rw [g3 j (by omega)]
        simp [cS, upd]
      · exact g2 j j1 (by omega)
    · rw [g3 j (by omega)]
      simp [cS, upd, show ¬ j = i by omega]
    · simp only [FX7_pairsByCell_L2, FX7_pairsByCell_B2, h1, if_false, k_R10 hb, k_s3, h2, h3, if_true, nI_1]
      exact g4
theorem l_p25 (hb : 0 < b) {S0 : Cg} (hk9 : S0.2.2.2 < 11) (hR : RX T (S0.1 S0.2.2.2) (M 0) n q c) : ∀ k f i (a : Nat) (S : Cg), Sw S0 S → (∀ j, j < 64 → S.2.1 3 j = nI (ctb (fun o => decide (wis (S0.1 S0.2.2.2) o = nI j)) i)) → i + k = n → k < f → ∃ S', Sw S0 S' ∧ FX7_pairsByCell_L25 f b (nI a) (nI i) (puc μ b S) = rt (nI (a + smm (fun j => ctb (fun o => prq (S0.1 S0.2.2.2) (i + j) o) (i + j)) k)) (puc μ b S') := by
  have hn9 := hR.1.1
  intro k
  induction k with
  | zero =>
    intro f i a S hS hw hi hfuu
    obtain ⟨f, rfl⟩ : ∃ g, f = g + 1 := ⟨f - 1, by omega⟩
    have h1 : nI n ≤ nI i := by rw [show i = n by omega]; exact Int32.le_refl _
    have hcur : S.2.2.2 = S0.2.2.2 := by rw [hS.2.1]
    have hA : At_ (puc μ b S) (sa b S0.2.2.2) (S0.1 S0.2.2.2) := by
      have := puc_At (μ := μ) (b := b) (S := S) hk9
      rwa [hS.1] at this
    refine ⟨S, hS, ?_⟩
    simp only [FX7_pairsByCell_L25, FX7_pairsByCell_B25, hcur, k_R0 hb, k_R1 hb, k_R2 hb, k_R4 hb, k_R5 hb, k_R8 hb, k_R10 hb, k_I3 hb, k_I6 hb, k_I7 hb, k_I9 hb, k_vc0 hb, k_vc40, k_vc146, L_vc hk9, L_vc1 hk9, L_vc8 hk9, q_R0_0 hA sa_pos, q_R0_1 hA sa_pos, q_R0_2 hA sa_pos, q_J0_3 hA sa_pos, q_I0_4 hA sa_pos, q_I0_5 hA sa_pos, q_I0_6 hA sa_pos, q_I0_7 hA sa_pos, q_I0_8 hA sa_pos, q_I0_9 hA sa_pos, q_R1_0 hA, q_R1_1 hA, q_R1_2 hA, q_R1_3 hA, q_R1_4 hA, q_R1_5 hA, q_I1_6 hA, q_R8_0 hA, q_R8_1 hA, q_R8_2 hA, q_I8_3 hA, q_a0 hA, q_a1 hA, q_a2 hA, q_a3 hA, q_a4 hA, q_a5 hA, q_a6 hA, q_a7 hA, q_a8 hA, q_a12 hA, hR.1.2.1, h1, if_true, smm, Nat.add_zero]
  | succ k ih =>
    intro f i a S hS hw hi hfuu
    obtain ⟨f, rfl⟩ : ∃ g, f = g + 1 := ⟨f - 1, by omega⟩
    have h1 : ¬ nI n ≤ nI i := nI_ge (by omega) (by omega)
    have hcur : S.2.2.2 = S0.2.2.2 := by rw [hS.2.1]
    have hA : At_ (puc μ b S) (sa b S0.2.2.2) (S0.1 S0.2.2.2) := by
      have := puc_At (μ := μ) (b := b) (S := S) hk9
      rwa [hS.1] at this
    have hW : FX2_wish (sa b S0.2.2.2 + 1) (nI i) (puc μ b S) = rt (wis (S0.1 S0.2.2.2) i) (puc μ b S) := L_q hk9 (fun μ' => by rw [hS.1]; exact e_wish (by omega))
    have hsum := smm_head (fun d => ctb (fun o => prq (S0.1 S0.2.2.2) d o) d) i k
    simp only [FX7_pairsByCell_L25, FX7_pairsByCell_B25, hcur, k_R0 hb, k_R1 hb, k_R2 hb, k_R4 hb, k_R5 hb, k_R8 hb, k_R10 hb, k_I3 hb, k_I6 hb, k_I7 hb, k_I9 hb, k_vc0 hb, k_vc40, k_vc146, L_vc hk9, L_vc1 hk9, L_vc8 hk9, q_R0_0 hA sa_pos, q_R0_1 hA sa_pos, q_R0_2 hA sa_pos, q_J0_3 hA sa_pos, q_I0_4 hA sa_pos, q_I0_5 hA sa_pos, q_I0_6 hA sa_pos, q_I0_7 hA sa_pos, q_I0_8 hA sa_pos, q_I0_9 hA sa_pos, q_R1_0 hA, q_R1_1 hA, q_R1_2 hA, q_R1_3 hA, q_R1_4 hA, q_R1_5 hA, q_I1_6 hA, q_R8_0 hA, q_R8_1 hA, q_R8_2 hA, q_I8_3 hA, q_a0 hA, q_a1 hA, q_a2 hA, q_a3 hA, q_a4 hA, q_a5 hA, q_a6 hA, q_a7 hA, q_a8 hA, q_a12 hA, hR.1.2.1, h1, if_false, hW, bnd, rt, nI_1]
    rw [hsum]
    rcases R_wis hR (show i < n by omega) with ⟨-, w2⟩ | ⟨-, w2, -, ⟨x, hx, w4⟩, -⟩
    · rw [w2]
      simp only [if_true]
      obtain ⟨S', g1, g2⟩ := ih f (i + 1) a S hS (fun j hj => by
        rw [hw j hj]
        congr 1
        have hz : decide (wis (S0.1 S0.2.2.2) i = nI j) = false := decide_eq_false (fun e => absurd (w2.symm.trans e).symm (m1_ne (by omega)))
        simp only [ctb, hz, Bool.false_eq_true, if_false, Nat.add_zero]) (by omega) (by omega)
      refine ⟨S', g1, ?_⟩
      rw [ctb_zero (fun o _ => by unfold prq; exact decide_eq_false (fun e => e.1 w2)), Nat.zero_add]
      exact g2
    · rw [w4]
      have hx1 : inb (nI x) 64 = true := inb_n (by omega) (by omega)
      have hx2 : (nI x).toNatClampNeg = x := nI_clamp (by omega)
      simp only [m1_ne (show x < 2 ^ 31 by omega), if_false, k_c3, k_s3, hx1, hx2, if_true, hw x hx, nI_1, nI_add]
      have he : ctb (fun o => prq (S0.1 S0.2.2.2) i o) i = ctb (fun o => decide (wis (S0.1 S0.2.2.2) o = nI x)) i := by
        refine ctb_cong (fun o _ => ?_)
        unfold prq
        rw [w4]
        exact decide_eq_decide.mpr ⟨fun e => e.2.symm, fun e => ⟨m1_ne (by omega), e.symm⟩⟩
      obtain ⟨S', g1, g2⟩ := ih f (i + 1) (a + ctb (fun o => decide (wis (S0.1 S0.2.2.2) o = nI x)) i) (cS S 3 x (nI (ctb (fun o => decide (wis (S0.1 S0.2.2.2) o = nI x)) i + 1))) (Sw_t hS Sw_s) (fun j hj => by
        by_cases e : j = x
        · subst e
          have hz : decide (wis (S0.1 S0.2.2.2) i = nI j) = true := decide_eq_true w4
          simp only [ctb, hz, if_true]
          simp [cS, upd]
        · have hz : decide (wis (S0.1 S0.2.2.2) i = nI j) = false := decide_eq_false (fun e2 => e ((nI_eq (by omega) (by omega)).mp (w4.symm.trans e2)).symm)
          simp only [ctb, hz, Bool.false_eq_true, if_false, Nat.add_zero]
          simp [cS, upd, e]
          exact hw j hj) (by omega) (by omega)
      refine ⟨S', g1, ?_⟩
      rw [he, ← Nat.add_assoc]
      exact g2
theorem e_pairs (hb : 0 < b) {S : Cg} (hk9 : S.2.2.2 < 11) (hR : RX T (S.1 S.2.2.2) (M 0) n q c) : ∃ S', Sw S S' ∧ FX7_pairsByCell b (puc μ b S) = rt (nI (prN (S.1 S.2.2.2) n)) (puc μ b S') := by
  have hn9 := hR.1.1
  obtain ⟨S1, g1, g2, -, g4⟩ := l_pz (μ := μ) hb 64 FU 0 S (by omega) (by unfold FU; omega)
  obtain ⟨S', h1, h2⟩ := l_p25 (μ := μ) hb hk9 hR n FU 0 0 S1 g1 (fun j hj => by rw [g2 j hj (Nat.zero_le _)]; rfl) (by omega) (by unfold FU; omega)
  refine ⟨S', h1, ?_⟩
  unfold FX7_pairsByCell
  refine g4.trans ?_
  rw [Nat.zero_add] at h2
  simp only [Nat.zero_add] at h2
  exact h2
end PB
theorem A_conflictCountByCell : Ans T FX7_conflictCountByCell FX8_conflictCountByCell (fun r r' : Int32 => r = r') [] := by
  intro μ ν b m S M h0 hb hm h
  have hh := h.1
  have hk9 : S.2.2.2 < 11 := by omega
  obtain ⟨n, q, c, hR⟩ := h.2.1
  have hn9 := hR.1.1
  obtain ⟨S', g1, g2⟩ := e_pairs (μ := μ) hb hk9 hR
  have h2 := e_mcf (μ := ν) (M := M) (n := n) hm hR.1.2.2.1 hn9
  have h3 : mcf (mF M 0) n = mcf M n := rfl
  rw [h3, mcf_n hR] at h2
  refine Or.inl ⟨nI (prN (S.1 S.2.2.2) n), nI (prN (S.1 S.2.2.2) n), S', mF M 0, ?_, ?_, rfl, T0_0, RA_w h g1 0⟩
  · simp only [FX7_conflictCountByCell, k_vc0 hb, g2, bnd, rt]
  · simp only [FX8_conflictCountByCell, w_vc hm, h2, bnd, rt]
section IC
variable {μ : Me} {b m n q c : Nat} {M : Mg} {S : Cg}
theorem l_mca (hb : 0 < b) (hk9 : S.2.2.2 < 11) (hR : RX T (S.1 S.2.2.2) (M 0) n q c) : ∀ k f i, i + k = 4 → k < f → FX7_matchCountsAgree_L2 f b (nI i) (puc μ b S) = rt 1 (puc μ b S) := by
  have hn9 := hR.1.1
  have hA := puc_At (μ := μ) (b := b) (S := S) hk9
  intro k
  induction k with
  | zero =>
    intro f i hi hfuu
    obtain ⟨f, rfl⟩ : ∃ g, f = g + 1 := ⟨f - 1, by omega⟩
    have h1 : (4 : Int32) ≤ nI i := by rw [show i = 4 by omega]; decide
    simp only [FX7_matchCountsAgree_L2, FX7_matchCountsAgree_B2, h1, if_true]
  | succ k ih =>
    intro f i hi hfuu
    obtain ⟨f, rfl⟩ : ∃ g, f = g + 1 := ⟨f - 1, by omega⟩
    have h1 : ¬ (4 : Int32) ≤ nI i := nI_ge (b := 4) (by omega) (by decide)
    have hX : FX4_matchesByMask (sa b S.2.2.2) (nI i) (puc μ b S) = rt (nI (ctb (tb ((S.1 S.2.2.2).2.1 i &&& flm (S.1 S.2.2.2) n)) 64)) (puc μ b S) := L_q hk9 (fun μ' => by rw [e_mbm sa_pos (by omega) hR.1.2.1 hn9, bcn_ct])
    have hY : FX4_matchesByScan (sa b S.2.2.2) (nI i) (puc μ b S) = rt (nI (ctb (tb ((S.1 S.2.2.2).2.1 i &&& flm (S.1 S.2.2.2) n)) 64)) (puc μ b S) := L_q hk9 (fun μ' => by rw [e_mbs sa_pos (by omega) hR.1.2.1 hn9, R_mbs hR (by omega)])
    simp only [FX7_matchCountsAgree_L2, FX7_matchCountsAgree_B2, h1, if_false, k_R0 hb, k_R1 hb, k_R2 hb, k_R4 hb, k_R5 hb, k_R8 hb, k_R10 hb, k_I3 hb, k_I6 hb, k_I7 hb, k_I9 hb, k_vc0 hb, k_vc40, k_vc146, L_vc hk9, L_vc1 hk9, L_vc8 hk9, q_R0_0 hA sa_pos, q_R0_1 hA sa_pos, q_R0_2 hA sa_pos, q_J0_3 hA sa_pos, q_I0_4 hA sa_pos, q_I0_5 hA sa_pos, q_I0_6 hA sa_pos, q_I0_7 hA sa_pos, q_I0_8 hA sa_pos, q_I0_9 hA sa_pos, q_R1_0 hA, q_R1_1 hA, q_R1_2 hA, q_R1_3 hA, q_R1_4 hA, q_R1_5 hA, q_I1_6 hA, q_R8_0 hA, q_R8_1 hA, q_R8_2 hA, q_I8_3 hA, q_a0 hA, q_a1 hA, q_a2 hA, q_a3 hA, q_a4 hA, q_a5 hA, q_a6 hA, q_a7 hA, q_a8 hA, q_a12 hA, hX, hY, bnd, rt, if_true, nI_1]
    exact ih f (i + 1) (by omega) (by omega)
theorem l_npa (hb : 0 < b) (hk9 : S.2.2.2 < 11) (hR : RX T (S.1 S.2.2.2) (M 0) n q c) : ∀ k f i, i + k = n → k < f → FX7_nearestPadsAgree_L2 f b (nI i) (puc μ b S) = rt 1 (puc μ b S) := by
  have hn9 := hR.1.1
  have hA := puc_At (μ := μ) (b := b) (S := S) hk9
  intro k
  induction k with
  | zero =>
    intro f i hi hfuu
    obtain ⟨f, rfl⟩ : ∃ g, f = g + 1 := ⟨f - 1, by omega⟩
    have h1 : nI n ≤ nI i := by rw [show i = n by omega]; exact Int32.le_refl _
    simp only [FX7_nearestPadsAgree_L2, FX7_nearestPadsAgree_B2, k_R0 hb, k_R1 hb, k_R2 hb, k_R4 hb, k_R5 hb, k_R8 hb, k_R10 hb, k_I3 hb, k_I6 hb, k_I7 hb, k_I9 hb, k_vc0 hb, k_vc40, k_vc146, L_vc hk9, L_vc1 hk9, L_vc8 hk9, q_R0_0 hA sa_pos, q_R0_1 hA sa_pos, q_R0_2 hA sa_pos, q_J0_3 hA sa_pos, q_I0_4 hA sa_pos, q_I0_5 hA sa_pos, q_I0_6 hA sa_pos, q_I0_7 hA sa_pos, q_I0_8 hA sa_pos, q_I0_9 hA sa_pos, q_R1_0 hA, q_R1_1 hA, q_R1_2 hA, q_R1_3 hA, q_R1_4 hA, q_R1_5 hA, q_I1_6 hA, q_R8_0 hA, q_R8_1 hA, q_R8_2 hA, q_I8_3 hA, q_a0 hA, q_a1 hA, q_a2 hA, q_a3 hA, q_a4 hA, q_a5 hA, q_a6 hA, q_a7 hA, q_a8 hA, q_a12 hA, hR.1.2.1, h1, if_true]
  | succ k ih =>
    intro f i hi hfuu
    obtain ⟨f, rfl⟩ : ∃ g, f = g + 1 := ⟨f - 1, by omega⟩
    have h1 : ¬ nI n ≤ nI i := nI_ge (by omega) (by omega)
    have hin : inb (nI i) 10 = true := inb_n (by omega) (by omega)
    have hcl : (nI i).toNatClampNeg = i := nI_clamp (by omega)
    obtain ⟨y, hy, hy2⟩ := (hR.1.2.2.2.1 i (by omega)).2.1
    have hX : FX4_padByDistance (sa b S.2.2.2) (nI y) (puc μ b S) = rt (npd (S.1 S.2.2.2).2.2 (nI y)) (puc μ b S) := L_q hk9 (fun μ' => e_npd sa_pos)
    have hY : FX4_padByRings (sa b S.2.2.2) (nI y) (puc μ b S) = rt (npd (S.1 S.2.2.2).2.2 (nI y)) (puc μ b S) := L_q hk9 (fun μ' => by rw [e_rgs sa_pos, rgs_npd hy])
    simp only [FX7_nearestPadsAgree_L2, FX7_nearestPadsAgree_B2, k_R0 hb, k_R1 hb, k_R2 hb, k_R4 hb, k_R5 hb, k_R8 hb, k_R10 hb, k_I3 hb, k_I6 hb, k_I7 hb, k_I9 hb, k_vc0 hb, k_vc40, k_vc146, L_vc hk9, L_vc1 hk9, L_vc8 hk9, q_R0_0 hA sa_pos, q_R0_1 hA sa_pos, q_R0_2 hA sa_pos, q_J0_3 hA sa_pos, q_I0_4 hA sa_pos, q_I0_5 hA sa_pos, q_I0_6 hA sa_pos, q_I0_7 hA sa_pos, q_I0_8 hA sa_pos, q_I0_9 hA sa_pos, q_R1_0 hA, q_R1_1 hA, q_R1_2 hA, q_R1_3 hA, q_R1_4 hA, q_R1_5 hA, q_I1_6 hA, q_R8_0 hA, q_R8_1 hA, q_R8_2 hA, q_I8_3 hA, q_a0 hA, q_a1 hA, q_a2 hA, q_a3 hA, q_a4 hA, q_a5 hA, q_a6 hA, q_a7 hA, q_a8 hA, q_a12 hA, hR.1.2.1, h1, if_false, hin, hcl, hy2, hX, hY, bnd, rt, if_true, nI_1]
    exact ih f (i + 1) (by omega) (by omega)
end IC
theorem A_isConsistent : Ans T FX7_isConsistent FX8_isConsistent (fun r r' : Int32 => r = r') [] := by
  intro μ ν b m S M h0 hb hm h
  have hh := h.1
  have hk9 : S.2.2.2 < 11 := by omega
  obtain ⟨n, q, c, hR⟩ := h.2.1
  have hn9 := hR.1.1
  have hA := puc_At (μ := μ) (b := b) (S := S) hk9
  have h1 : FX2_allCells (sa b S.2.2.2 + 1) (puc μ b S) = rt (fo (fun d a => a ||| (1 <<< (((S.1 S.2.2.2).1 0 d : Int32).toInt64 &&& 63))) 0 n 0) (puc μ b S) := L_q hk9 (fun μ' => e_allCells hR.1.2.1 hn9)
  have h2 : bcn (fo (fun d a => a ||| (1 <<< (((S.1 S.2.2.2).1 0 d : Int32).toInt64 &&& 63))) 0 n 0) = nI n := by rw [bcn_ct, R_all hR.1]
  have h3 : FX2_conflictingPairs (sa b S.2.2.2 + 1) (puc μ b S) = rt (nI (prN (S.1 S.2.2.2) n)) (puc μ b S) := L_q hk9 (fun μ' => by rw [e_conf hR.1.2.1 hn9, conf_n])
  obtain ⟨S', g1, g2⟩ := e_pairs (μ := μ) hb hk9 hR
  have hcur : S'.2.2.2 = S.2.2.2 := by rw [g1.2.1]
  have hR' : RX T (S'.1 S'.2.2.2) (M 0) n q c := by rw [hcur, g1.1]; exact hR
  have h4 : FX7_matchCountsAgree b (puc μ b S') = rt 1 (puc μ b S') := l_mca hb (by rw [hcur]; exact hk9) hR' 4 FU 0 (by omega) (by unfold FU; omega)
  have h5 : FX7_nearestPadsAgree b (puc μ b S') = rt 1 (puc μ b S') := l_npa hb (by rw [hcur]; exact hk9) hR' n FU 0 (by omega) (by unfold FU; omega)
  have h6 := e_mcs (μ := ν) (M := M) (n := n) hm hR.1.2.2.1 hn9 (fun d hd => by
    obtain ⟨⟨r0, -⟩, -⟩ := hR.1.2.2.2.1 d hd
    rw [R_occ hR.1 rfl, r0, ocp_at hR.1 hd])
  refine Or.inl ⟨1, 1, S', mF M 0, ?_, h6, rfl, T0_0, RA_w h g1 0⟩
  simp only [FX7_isConsistent, k_R0 hb, k_R1 hb, k_R2 hb, k_R4 hb, k_R5 hb, k_R8 hb, k_R10 hb, k_I3 hb, k_I6 hb, k_I7 hb, k_I9 hb, k_vc0 hb, k_vc40, k_vc146, L_vc hk9, L_vc1 hk9, L_vc8 hk9, q_R0_0 hA sa_pos, q_R0_1 hA sa_pos, q_R0_2 hA sa_pos, q_J0_3 hA sa_pos, q_I0_4 hA sa_pos, q_I0_5 hA sa_pos, q_I0_6 hA sa_pos, q_I0_7 hA sa_pos, q_I0_8 hA sa_pos, q_I0_9 hA sa_pos, q_R1_0 hA, q_R1_1 hA, q_R1_2 hA, q_R1_3 hA, q_R1_4 hA, q_R1_5 hA, q_I1_6 hA, q_R8_0 hA, q_R8_1 hA, q_R8_2 hA, q_I8_3 hA, q_a0 hA, q_a1 hA, q_a2 hA, q_a3 hA, q_a4 hA, q_a5 hA, q_a6 hA, q_a7 hA, q_a8 hA, q_a12 hA, h1, e_bit, h2, hR.1.2.1, h3, g2, h4, h5, bnd, rt, if_true, one_ne, if_false]
/-! the battery after some ticks -/
theorem fo_const {α : Type} {g : α → α} : ∀ k i j (a : α), fo (fun _ => g) i k a = fo (fun _ => g) j k a := by
  intro k
  induction k with
  | zero => intros; rfl
  | succ k ih => intro i j a; simp only [fo]; exact ih _ _ _
theorem l_ba {μ : Me} {b n d w : Nat} (hb : 0 < b) (hd : d < n) (hn9 : n ≤ 10) (hw : w ≤ 30) : ∀ k f i (S : Cg), S.2.2.2 ≤ 1 → WS (S.1 (1 - S.2.2.2)) n → i + k = w → k < f → FX7_batteryAfter_L38 f b (nI d) (nI w) (nI i) (puc μ b S) = rt ((psn n k (S.1 (1 - S.2.2.2))).1 1 d) (puc μ b (cC S (1 - S.2.2.2) (psn n k (S.1 (1 - S.2.2.2))))) := by
  have hin : inb (nI d) 10 = true := inb_n (by omega) (by omega)
  have hcl : (nI d).toNatClampNeg = d := nI_clamp (by omega)
  intro k
  induction k with
  | zero =>
    intro f i S hc hW hi hfuu
    obtain ⟨f, rfl⟩ : ∃ g, f = g + 1 := ⟨f - 1, by omega⟩
    have hk9 : 1 - S.2.2.2 < 11 := by omega
    have hA := puc_At (μ := μ) (b := b) (S := S) hk9
    have h1 : nI w ≤ nI i := by rw [show i = w by omega]; exact Int32.le_refl _
    have e1 : cC S (1 - S.2.2.2) (S.1 (1 - S.2.2.2)) = S := by
      refine Prod.ext ?_ rfl
      funext q
      simp only [cC]
      split
      · rename_i e; rw [e]
      · rfl
    show _ = rt ((S.1 (1 - S.2.2.2)).1 1 d) (puc μ b (cC S (1 - S.2.2.2) (S.1 (1 - S.2.2.2))))
    rw [e1]
    simp only [FX7_batteryAfter_L38, FX7_batteryAfter_B38, h1, if_true, k_R0 hb, k_R1 hb, k_R2 hb, k_R4 hb, k_R5 hb, k_R8 hb, k_R10 hb, k_I3 hb, k_I6 hb, k_I7 hb, k_I9 hb, k_vc0 hb, k_vc40, k_vc146, L_vc hk9, L_vc1 hk9, L_vc8 hk9, q_R0_0 hA sa_pos, q_R0_1 hA sa_pos, q_R0_2 hA sa_pos, q_J0_3 hA sa_pos, q_I0_4 hA sa_pos, q_I0_5 hA sa_pos, q_I0_6 hA sa_pos, q_I0_7 hA sa_pos, q_I0_8 hA sa_pos, q_I0_9 hA sa_pos, q_R1_0 hA, q_R1_1 hA, q_R1_2 hA, q_R1_3 hA, q_R1_4 hA, q_R1_5 hA, q_I1_6 hA, q_R8_0 hA, q_R8_1 hA, q_R8_2 hA, q_I8_3 hA, q_a0 hA, q_a1 hA, q_a2 hA, q_a3 hA, q_a4 hA, q_a5 hA, q_a6 hA, q_a7 hA, q_a8 hA, q_a12 hA, hin, hcl]
  | succ k ih =>
    intro f i S hc hW hi hfuu
    obtain ⟨f, rfl⟩ : ∃ g, f = g + 1 := ⟨f - 1, by omega⟩
    have hk9 : 1 - S.2.2.2 < 11 := by omega
    have h1 : ¬ nI w ≤ nI i := nI_ge (by omega) (by omega)
    have hT : FX4_tick (sa b (1 - S.2.2.2)) (puc μ b S) = rt () (puc μ b (cC S (1 - S.2.2.2) (tck n (S.1 (1 - S.2.2.2))))) := L_u hk9 (fun μ' => (e_tick sa_pos hW).1)
    have hW2 := (e_tick (μ := μ) (s := 1) (by decide) hW).2
    have h2 := ih f (i + 1) (cC S (1 - S.2.2.2) (tck n (S.1 (1 - S.2.2.2)))) hc (by rw [show (cC S (1 - S.2.2.2) (tck n (S.1 (1 - S.2.2.2)))).2.2.2 = S.2.2.2 from rfl, cC_at]; exact hW2) (by omega) (by omega)
    rw [show (cC S (1 - S.2.2.2) (tck n (S.1 (1 - S.2.2.2)))).2.2.2 = S.2.2.2 from rfl, cC_at] at h2
    have e1 : psn n (k + 1) (S.1 (1 - S.2.2.2)) = psn n k (tck n (S.1 (1 - S.2.2.2))) := by
      unfold psn
      simp only [fo]
      exact fo_const _ _ _ _
    have e2 : ∀ σ τ, cC (cC S (1 - S.2.2.2) σ) (1 - S.2.2.2) τ = cC S (1 - S.2.2.2) τ := fun σ τ => by
      refine Prod.ext ?_ rfl
      funext q
      simp only [cC]
      split <;> rfl
    rw [e2] at h2
    rw [e1]
    simp only [FX7_batteryAfter_L38, FX7_batteryAfter_B38, h1, if_false, k_R1 hb, L_vc hk9, hT, bnd, rt, nI_1]
    exact h2
theorem A_batteryAfter (x y : Int32) : Ans T (fun a => FX7_batteryAfter a x y) (fun a => FX8_batteryAfter a x y) (fun r r' : Int32 => r = r') [(IOB, 1), (IAE, 2)] := by
  intro μ ν b m S M h0 hb hm h
  have hh := h.1
  have hk9 : S.2.2.2 < 11 := by omega
  obtain ⟨n, q, c, hR⟩ := h.2.1
  have hn9 := hR.1.1
  rcases in_or (x := x) (n := n) (by omega) with hx | ⟨d, hd, rfl⟩
  · refine Or.inr ⟨(IOB, 1), 0, S, mF M 1, by simp, ?_, e_mba_out hm hR.1.2.2.1 hn9 hx, T0_0, RA_F h 1⟩
    simp only [FX7_batteryAfter, k_vc0 hb, D_out hb h0 hk9 hR hx, bnd]
  · have hD := D_in (μ := μ) hb hk9 hR hd
    rcases in_or (x := y) (n := 31) (by decide) with hy | ⟨w, hw, rfl⟩
    · refine Or.inr ⟨(IAE, 2), 0, S, mF M 2, by simp, ?_, e_mba_out2 hm hR.1.2.2.1 hn9 hd hy, T0_0, RA_F h 2⟩
      rcases hy with hy | hy
      · simp only [FX7_batteryAfter, FX7_batteryAfter_B15, k_vc0 hb, hD, bnd, rt, hy, if_true, thr_p hb h0]
        rfl
      · have h1 : ¬ y < 0 := fun e => by
          have h31 : (nI 31).toInt = 31 := by decide
          have h00 : (0 : Int32).toInt = 0 := by decide
          rw [Int32.lt_iff_toInt_lt] at e
          rw [Int32.le_iff_toInt_le] at hy
          omega
        have h2 : ¬ y ≤ 30 := fun e => by
          have h31 : (nI 31).toInt = 31 := by decide
          have h30 : (30 : Int32).toInt = 30 := by decide
          rw [Int32.le_iff_toInt_le] at e hy
          omega
        simp only [FX7_batteryAfter, FX7_batteryAfter_B15, k_vc0 hb, hD, bnd, rt, h1, h2, if_false, thr_p hb h0]
        rfl
    · have hcp := L_copy (μ := μ) (b := b) (S := S) (j := 1 - S.2.2.2) (k := S.2.2.2) (by omega) (by omega) (by omega)
      obtain ⟨l1, l2, l3⟩ := lay_i (a := 3) (b := 0) (by decide) (M := mF M 0)
      have hX1 : RX T (cpy (S.1 S.2.2.2) (S.1 (1 - S.2.2.2))) ((lay 3 0 (mF M 0)) 0) n q c := by
        rw [l3 0 (by decide), T0_r (by decide)]
        exact RX_eq hR (cpy_ok hR.2.2.2.2.2) (fun _ _ => rfl)
      have hba := l_ba (μ := μ) (w := w) hb hd hn9 (by omega) w FU 0 (cC S (1 - S.2.2.2) (cpy (S.1 S.2.2.2) (S.1 (1 - S.2.2.2)))) hh (by
        rw [show (cC S (1 - S.2.2.2) (cpy (S.1 S.2.2.2) (S.1 (1 - S.2.2.2)))).2.2.2 = S.2.2.2 from rfl, cC_at]
        exact RX_WS hX1) (by omega) (by unfold FU; omega)
      rw [show (cC S (1 - S.2.2.2) (cpy (S.1 S.2.2.2) (S.1 (1 - S.2.2.2)))).2.2.2 = S.2.2.2 from rfl, cC_at] at hba
      have hmb := e_mba (μ := ν) (M := M) (d := d) (w := w) hm hd (by omega) (RX_WM hX1)
      obtain ⟨c', r1, r2, -⟩ := R_ticks hX1 w
      obtain ⟨g1, -, g3⟩ := lay_i (a := 0) (b := 3) (by decide) (M := (mpss n q w (lay 3 0 (mF M 0))).1)
      have hw0 : ¬ nI w < 0 := nI_pos (by omega)
      have hw3 : nI w ≤ 30 := nI_le (b := 30) (by omega) (by decide)
      refine Or.inl ⟨_, _, _, _, Eq.trans ?_ hba, hmb, ?_, ?_, ?_⟩
      · simp only [FX7_batteryAfter, k_vc0 hb, hD, hw0, hw3, if_true, if_false, k_R1 hb, k_R0 hb, L_vc (show 1 - S.2.2.2 < 11 by omega), hcp, bnd, rt]
        rfl
      · exact (r1.1.2.2.2.1 d hd).1.2.2.1.symm
      · rw [g3 11 (by decide), r2 11 (by decide) (by decide), l3 11 (by decide)]
        exact T0_0
      · refine RA_c h (by omega) rfl rfl rfl rfl (fun k hk => by rw [cC_ne hk, cC_ne hk]) (fun r hr => ?_) (fun j hj => ?_) (fun j hj _ _ _ => ?_)
        · rw [g3 r (by omega), r2 r (by omega) (by omega), l3 r (by omega), T0_r (by omega)]
        · rw [g1 j hj, r2 3 (by decide) (by decide), l1 j hj]
          exact T0_v
        · rw [g3 11 (by decide), r2 11 (by decide) (by decide), l3 11 (by decide), T0_s (by omega)]
/-! the line -/
theorem RA_line {S S' : Cg} {M M' : Mg} (h : RA T S M) (sc : S'.1 = S.1) (sv : S'.2.2.2 = S.2.2.2) (s0 : ∀ j, j ≠ 3 → S'.2.1 0 j = S.2.1 0 j) (sr : ∀ p, p ≠ 0 → p ≠ 2 → S'.2.1 p = S.2.1 p) (m11 : ∀ j, 0 < j → j ≠ 8 → M' 11 j = M 11 j) (mr : ∀ p, p ≠ 7 → p ≠ 11 → M' p = M p) (h6 : RA6 S' M') : RA (T + 400) S' M' := by
  obtain ⟨a1, a2, a3, a4, a5, a6, a7, a8, a9⟩ := h
  exact ⟨by rw [sv]; exact a1, by rw [sv, sc, mr 0 (by decide) (by decide)]; exact RR_mono a2 (by omega), RA2_c a3 (by omega) (s0 0 (by decide)) (by rw [sc]) (m11 4 (by decide) (by decide)) (mr 2 (by decide) (by decide)), RA3_c a4 (by omega) (s0 5 (by decide)) (s0 4 (by decide)) (m11 1 (by decide) (by decide)) (mr 4 (by decide) (by decide)) (fun k _ => by rw [sc]), RA4_c a5 (s0 1 (by decide)) (m11 2 (by decide) (by decide)), RA5_c a6 (s0 2 (by decide)) (m11 3 (by decide) (by decide)), h6, RA7_c a8 (s0 6 (by decide)) (sr 1 (by decide) (by decide)) (m11 5 (by decide) (by decide)) (mr 6 (by decide) (by decide)), RA8_c a9 (mr 9 (by decide) (by decide)) (mr 10 (by decide) (by decide))⟩
theorem pic_ch {σ : Sg} {n : Nat} {x : Int32} (hn : n ≤ 10) : ∃ ch, ch < 128 ∧ pic σ n x = nI ch := by
  unfold pic
  rcases ocp_in σ n x with e | ⟨j, hj, e, -⟩
  · rw [e, if_pos rfl]
    split
    · exact ⟨46, by decide, rfl⟩
    · exact ⟨95, by decide, rfl⟩
  · rw [e, if_neg (m1_ne (by omega))]
    split
    · exact ⟨97 + j, by omega, nI_add 97 j⟩
    · exact ⟨48 + j, by omega, nI_add 48 j⟩
theorem ch_nar : ∀ ch, ch < 128 → vp_nar .char (nI ch) = nI ch ∧ ((nI ch).toUInt32 % 65536).toInt32 = nI ch := by decide +kernel
def dls (σ : Sg) (n r : Nat) (j : Nat) (S : Cg) : Cg := cS S 2 j (pic σ n (nI (8 * r + j)))
theorem l_dr {μ : Me} {b n r : Nat} (hb : 0 < b) (hn9 : n ≤ 10) {σ : Sg} (hn : σ.1 9 0 = nI n) : ∀ k f i (S : Cg), S.2.2.2 < 11 → S.1 S.2.2.2 = σ → i + k = 8 → k < f → FX7_describeRow_L23 f b (nI r) (nI i) (puc μ b S) = rt 8 (puc μ b (cS (fo (dls σ n r) i k S) 0 3 8)) := by
  intro k
  induction k with
  | zero =>
    intro f i S hk9 hS hi hfuu
    obtain ⟨f, rfl⟩ : ∃ g, f = g + 1 := ⟨f - 1, by omega⟩
    have h1 : (8 : Int32) ≤ nI i := by rw [show i = 8 by omega]; decide
    have e1 : (cS S 0 3 8).2.1 0 3 = 8 := by simp [cS, upd]
    simp only [FX7_describeRow_L23, FX7_describeRow_B23, h1, if_true, k_p9 hb, k_I9 hb, e1, fo]
  | succ k ih =>
    intro f i S hk9 hS hi hfuu
    obtain ⟨f, rfl⟩ : ∃ g, f = g + 1 := ⟨f - 1, by omega⟩
    have h1 : ¬ (8 : Int32) ≤ nI i := nI_ge (b := 8) (by omega) (by decide)
    have h2 : inb (nI i) 8 = true := inb_n (by omega) (by omega)
    have h3 : (nI i).toNatClampNeg = i := nI_clamp (by omega)
    have hP : FX4_picture (sa b S.2.2.2) (nI (8 * r + i)) (puc μ b S) = rt (pic σ n (nI (8 * r + i))) (puc μ b S) := L_q hk9 (fun μ' => by rw [hS]; exact e_pic sa_pos hn hn9)
    obtain ⟨ch, hch, e⟩ := pic_ch (σ := σ) (x := nI (8 * r + i)) hn9
    have h4 := ih f (i + 1) (dls σ n r i S) hk9 hS (by omega) (by omega)
    simp only [FX7_describeRow_L23, FX7_describeRow_B23, h1, if_false, k_R8 hb, k_R0 hb, L_vc hk9, nI8r, hP, bnd, rt, k_s2, h2, h3, if_true, nI_1]
    rw [e, (ch_nar ch hch).1, ← e]
    simp only [fo]
    exact h4
theorem D_rel {n q c r : Nat} {S : Cg} {M : Mg} (hR : RX T (S.1 S.2.2.2) (M 0) n q c) (hr : r < 8) : ∀ i, i ≤ 8 → (fo (dls (S.1 S.2.2.2) n r) 0 i S).1 = S.1 ∧ (fo (dls (S.1 S.2.2.2) n r) 0 i S).2.2 = S.2.2 ∧ (∀ p, p ≠ 2 → (fo (dls (S.1 S.2.2.2) n r) 0 i S).2.1 p = S.2.1 p) ∧ (∀ p, p ≠ 7 → (fo (mdl n q r) 0 i (mF M 0)) p = (mF M 0) p) ∧ ∀ j, j < i → (fo (dls (S.1 S.2.2.2) n r) 0 i S).2.1 2 j = (fo (mdl n q r) 0 i (mF M 0)) 7 j ∧ ∃ ch, ch < 128 ∧ (fo (mdl n q r) 0 i (mF M 0)) 7 j = nI ch := by
  intro i hi
  have hn9 := hR.1.1
  have hI := fo_rel (R := fun i (a : Cg) (N : Mg) => a.1 = S.1 ∧ a.2.2 = S.2.2 ∧ (∀ p, p ≠ 2 → a.2.1 p = S.2.1 p) ∧ (∀ p, p ≠ 7 → N p = (mF M 0) p) ∧ ∀ j, j < i → a.2.1 2 j = N 7 j ∧ ∃ ch, ch < 128 ∧ N 7 j = nI ch) (f := dls (S.1 S.2.2.2) n r) (g := mdl n q r) (k := i) (i := 0) (a := S) (b := mF M 0) ⟨rfl, rfl, fun _ _ => rfl, fun _ _ => rfl, fun j hj => absurd hj (Nat.not_lt_zero j)⟩ (fun d a N _ hd hP => by
    obtain ⟨p1, p2, p3, p4, p5⟩ := hP
    have hpm : mpi N n q (nI (8 * r + d)) = pic (S.1 S.2.2.2) n (nI (8 * r + d)) := by
      have e1 : N 0 = M 0 := (p4 0 (by decide)).trans (T0_r (by decide))
      have hR2 : RX T (S.1 S.2.2.2) (N 0) n q c := by rw [e1]; exact hR
      exact R_pic hR2 (by omega)
    refine ⟨p1, p2, fun p hp => ?_, fun p hp => ?_, fun j hj => ?_⟩
    · rw [← p3 p hp]; simp [dls, cS, hp]
    · rw [← p4 p hp]; funext e; unfold mdl; simp (disch := omega) only [m_same, m_col, m_row, s_same, s_col, s_row]
    · by_cases e : j = d
      · subst e
        unfold dls mdl
        simp (disch := omega) only [m_same, m_col, m_row, s_same, s_col, s_row]
        rw [hpm]
        exact ⟨by simp [cS, upd], pic_ch hn9⟩
      · unfold dls mdl
        simp (disch := omega) only [m_same, m_col, m_row, s_same, s_col, s_row]
        rw [← (p5 j (by omega)).1]
        exact ⟨by simp [cS, upd, e], by rw [(p5 j (by omega)).1]; exact (p5 j (by omega)).2⟩)
  rw [Nat.zero_add] at hI
  exact hI
theorem D_row {μ ν : Me} {b m n q c r : Nat} {S : Cg} {M : Mg} (hb : 0 < b) (hm : 0 < m) (hk9 : S.2.2.2 < 11) (hR : RX T (S.1 S.2.2.2) (M 0) n q c) (hr : r < 8) : ∃ (a : Cg) (N : Mg), FX7_describeRow_L23 FU b (nI r) 0 (puc μ b S) = rt 8 (puc μ b (cS a 0 3 8)) ∧ FX8_describeRow m (nI r) (pum ν m M) = rt 8 (pum ν m (mS N 11 8 8)) ∧ a.1 = S.1 ∧ a.2.2 = S.2.2 ∧ (∀ p, p ≠ 2 → a.2.1 p = S.2.1 p) ∧ (∀ p, p ≠ 7 → N p = (mF M 0) p) ∧ ∀ j, j < 8 → a.2.1 2 j = N 7 j ∧ ∃ ch, ch < 128 ∧ N 7 j = nI ch :=
  ⟨_, _, l_dr (μ := μ) (r := r) hb hR.1.1 hR.1.2.1 8 FU 0 S hk9 rfl (by omega) (by unfold FU; omega), e_mdl (μ := ν) (M := M) (r := r) (n := n) (q := q) hm hr hR.1.2.2.1 hR.1.1 hR.2.1.2.1 hR.2.1.1, D_rel hR hr 8 (Nat.le_refl _)⟩
theorem A_describeRow (x : Int32) : Ans T (fun a => FX7_describeRow a x) (fun a => FX8_describeRow a x) (fun r r' : Int32 => r = r') [(IOB, 1)] := by
  intro μ ν b m S M h0 hb hm h
  have hh := h.1
  have hk9 : S.2.2.2 < 11 := by omega
  obtain ⟨n, q, c, hR⟩ := h.2.1
  have hn9 := hR.1.1
  rcases in_or (x := x) (n := 8) (by decide) with hx | ⟨r, hr, rfl⟩
  · refine Or.inr ⟨(IOB, 1), 0, S, mF M 1, by simp, ?_, e_mdl_out hm hx, T0_0, RA_F h 1⟩
    show FX7_describeRow b x (puc μ b S) = _
    unfold FX7_describeRow FX7_describeRow_B10
    rcases hx with hx | hx
    · rw [if_pos hx, thr_p hb h0]; rfl
    · by_cases g : x < 0
      · rw [if_pos g, thr_p hb h0]; rfl
      · rw [if_neg g, if_neg (show ¬ x < 8 from fun e => absurd (Int32.lt_of_lt_of_le e hx) Int32.lt_irrefl), thr_p hb h0]; rfl
  · obtain ⟨a, N, h1, h2, p1, p2, p3, p4, p5⟩ := D_row (μ := μ) (ν := ν) hb hm hk9 hR hr
    refine Or.inl ⟨8, 8, cS a 0 3 8, mS N 11 8 8, ?_, h2, rfl, ?_, ?_⟩
    · show FX7_describeRow b (nI r) (puc μ b S) = _
      unfold FX7_describeRow
      rw [if_neg (nI_pos (by omega)), if_pos (show nI r < 8 from nI_lt (b := 8) hr (by decide))]
      exact h1
    · simp (disch := omega) only [m_same, m_col, m_row, s_same, s_col, s_row]
      rw [p4 11 (by decide)]
      exact T0_0
    · have s0 : ∀ j, j ≠ 3 → (cS a 0 3 8).2.1 0 j = S.2.1 0 j := fun j hj => by rw [← p3 0 (by decide)]; simp [cS, upd, hj]
      have m11 : ∀ j, 0 < j → j ≠ 8 → (mS N 11 8 8) 11 j = M 11 j := fun j hj h8 => by simp (disch := omega) only [m_same, m_col, m_row, s_same, s_col, s_row]; rw [p4 11 (by decide)]; exact T0_s (by omega)
      have mr : ∀ p, p ≠ 7 → p ≠ 11 → (mS N 11 8 8) p = M p := fun p h7 h11 => by
        funext e
        simp (disch := omega) only [m_same, m_col, m_row, s_same, s_col, s_row]
        rw [p4 p h7]
        exact congrFun (T0_r h11) e
      have sr : ∀ p, p ≠ 0 → p ≠ 2 → (cS a 0 3 8).2.1 p = S.2.1 p := fun p q0 q2 => by rw [← p3 p q2]; simp [cS, q0]
      have sc : (cS a 0 3 8).1 = S.1 := p1
      have sv : (cS a 0 3 8).2.2.2 = S.2.2.2 := by show a.2.2.2 = _; rw [p2]
      refine RA_line h sc sv s0 sr m11 mr ⟨?_, Or.inr ⟨?_, fun i hi => ?_⟩⟩
      · have e1 : (cS a 0 3 8).2.1 0 3 = 8 := by simp [cS, upd]
        have e2 : (mS N 11 8 8) 11 8 = 8 := m_same
        rw [e1, e2]
      · exact m_same
      · have := p5 i hi
        have e7 : (mS N 11 8 8) 7 i = N 7 i := by simp (disch := omega) only [m_same, m_col, m_row, s_same, s_col, s_row]
        have e2 : (cS a 0 3 8).2.1 2 i = a.2.1 2 i := by simp [cS]
        rw [e7, e2]
        exact this
theorem A_lineAt (x : Int32) : Ans T (fun a => FX7_lineAt a x) (fun a => FX8_lineAt a x) (fun r r' : Int32 => r = r') [(IOB, 1)] := by
  intro μ ν b m S M h0 hb hm h
  obtain ⟨l1, l2⟩ := h.2.2.2.2.2.2.1
  have e1 : ∀ k, (mS M 11 0 k) 11 0 = k := fun k => T0_0
  have h97 : vp_nar .char (97 : Int32) = 97 := by decide
  rcases l2 with e | ⟨e, l2⟩
  · refine Or.inr ⟨(IOB, 1), 97, S, mF M 1, by simp, ?_, ?_, T0_0, RA_F h 1⟩
    · show FX7_lineAt b x (puc μ b S) = _
      unfold FX7_lineAt FX7_lineAt_B12
      by_cases g : x < 0
      · rw [if_pos g, thr_p hb h0]; rfl
      · rw [if_neg g, k_I9 hb, l1, e, if_neg g, thr_p hb h0]; rfl
    · have hi : isI x 0 (0 - 1) = 0 := by
        unfold isI
        by_cases g : x < 0
        · rw [if_pos g]
        · rw [if_neg g, if_pos]
          rw [Int32.lt_iff_toInt_lt] at g ⊢
          have : ((0 : Int32) - 1).toInt = -1 := by decide
          have : (0 : Int32).toInt = 0 := by decide
          omega
      simp only [FX8_lineAt, FX8_lineAt_B20, w_I0, w_I1, w_I2, w_I3, w_I4, w_R5, w_R6, w_R7, w_R8, w_R9, w_R10, w_R11, w_R12, w_R13, w_R14, w_R15, w_I16, w_I17, w_I18, w_I19, w_I20, w_I21, w_vc, w_a0, w_s0, w_a1, w_s1, w_a2, w_s2, w_a3, w_s3, w_a4, w_s4, w_a5, w_s5, w_a6, w_s6, w_a7, w_s7, w_a8, w_s8, w_a9, w_s9, w_a10, w_s10, w_p0, w_p1, w_p2, w_p3, w_p4, w_p16, w_p17, w_p18, w_p19, w_p20, w_p21, o_0, o_1, o_2, o_3, o_4, o_5, hm, i_0, z_0, i_1, z_1, i_2, z_2, i_3, z_3, i_4, z_4, i_5, z_5, i_6, z_6, i_7, z_7, i_8, z_8, e, e_isIn, hi, e1, z10, h97, gd, if_true, if_false, bnd, rt, mF]
  · rcases in_or (x := x) (n := 8) (by decide) with hx | ⟨i, hi, rfl⟩
    · refine Or.inr ⟨(IOB, 1), 97, S, mF M 1, by simp, ?_, ?_, T0_0, RA_F h 1⟩
      · show FX7_lineAt b x (puc μ b S) = _
        unfold FX7_lineAt FX7_lineAt_B12
        by_cases g : x < 0
        · rw [if_pos g, thr_p hb h0]; rfl
        · rw [if_neg g, k_I9 hb, l1, e, if_neg (show ¬ x < 8 from fun e => absurd (Int32.lt_of_lt_of_le e (hx.resolve_left g)) Int32.lt_irrefl), thr_p hb h0]; rfl
      · have hii : isI x 0 (8 - 1) = 0 := isI_out hx (by decide) (by decide)
        simp only [FX8_lineAt, FX8_lineAt_B20, w_I0, w_I1, w_I2, w_I3, w_I4, w_R5, w_R6, w_R7, w_R8, w_R9, w_R10, w_R11, w_R12, w_R13, w_R14, w_R15, w_I16, w_I17, w_I18, w_I19, w_I20, w_I21, w_vc, w_a0, w_s0, w_a1, w_s1, w_a2, w_s2, w_a3, w_s3, w_a4, w_s4, w_a5, w_s5, w_a6, w_s6, w_a7, w_s7, w_a8, w_s8, w_a9, w_s9, w_a10, w_s10, w_p0, w_p1, w_p2, w_p3, w_p4, w_p16, w_p17, w_p18, w_p19, w_p20, w_p21, o_0, o_1, o_2, o_3, o_4, o_5, hm, i_0, z_0, i_1, z_1, i_2, z_2, i_3, z_3, i_4, z_4, i_5, z_5, i_6, z_6, i_7, z_7, i_8, z_8, e, e_isIn, hii, e1, z10, h97, gd, if_true, if_false, bnd, rt, mF]
    · obtain ⟨c1, ch, hch, c2⟩ := l2 i hi
      obtain ⟨n1, n2⟩ := ch_nar ch hch
      have hin : inb (nI i) 8 = true := inb_n (by omega) (by omega)
      have hcl : (nI i).toNatClampNeg = i := nI_clamp (by omega)
      have hii : isI (nI i) 0 (8 - 1) = 1 := isI_in (k := 8) hi (by decide) (by decide)
      have e7 : (mS M 11 0 0) 7 i = nI ch := by simp (disch := omega) only [m_same, m_col, m_row, s_same, s_col, s_row]; exact c2
      refine Or.inl ⟨nI ch, nI ch, S, mF M 0, ?_, ?_, rfl, T0_0, RA_F h 0⟩
      · show FX7_lineAt b (nI i) (puc μ b S) = _
        unfold FX7_lineAt
        rw [if_neg (nI_pos (by omega)), k_I9 hb, l1, e, if_pos (show nI i < 8 from nI_lt (b := 8) hi (by decide)), k_R8 hb, k_c2, hin, if_pos rfl, hcl, c1, c2]
        simp only [n1, gd, if_true]
      · simp only [FX8_lineAt, FX8_lineAt_B20, w_I0, w_I1, w_I2, w_I3, w_I4, w_R5, w_R6, w_R7, w_R8, w_R9, w_R10, w_R11, w_R12, w_R13, w_R14, w_R15, w_I16, w_I17, w_I18, w_I19, w_I20, w_I21, w_vc, w_a0, w_s0, w_a1, w_s1, w_a2, w_s2, w_a3, w_s3, w_a4, w_s4, w_a5, w_s5, w_a6, w_s6, w_a7, w_s7, w_a8, w_s8, w_a9, w_s9, w_a10, w_s10, w_p0, w_p1, w_p2, w_p3, w_p4, w_p16, w_p17, w_p18, w_p19, w_p20, w_p21, o_0, o_1, o_2, o_3, o_4, o_5, hm, i_0, z_0, i_1, z_1, i_2, z_2, i_3, z_3, i_4, z_4, i_5, z_5, i_6, z_6, i_7, z_7, i_8, z_8, e, e_isIn, hii, e1, one_ne, hin, hcl, e7, n1, n2, gd, if_true, if_false, bnd, rt, mF]
/-! positions -/
theorem A_errorPosition : Ans T FX7_errorPosition FX8_errorPosition (fun r r' : Int32 => r = r') [(NSE, 1)] := by
  intro μ ν b m S M h0 hb hm h
  obtain ⟨l1, l2⟩ := h.2.2.2.2.1
  have e1 : ∀ k, (mS M 11 0 k) 11 0 = k := fun k => T0_0
  have e2 : ∀ k, (mS M 11 0 k) 11 2 = M 11 2 := fun k => T0_s (by decide)
  rcases l2 with e | ⟨k, hk, e⟩
  · refine Or.inr ⟨(NSE, 1), 0, S, mF M 1, by simp, ?_, ?_, T0_0, RA_F h 1⟩
    · simp only [FX7_errorPosition, k_I6 hb, l1, e, found_no hb h0, bnd]
    · simp only [FX8_errorPosition, FX8_errorPosition_B13, w_I0, w_I1, w_I2, w_I3, w_I4, w_R5, w_R6, w_R7, w_R8, w_R9, w_R10, w_R11, w_R12, w_R13, w_R14, w_R15, w_I16, w_I17, w_I18, w_I19, w_I20, w_I21, w_vc, w_a0, w_s0, w_a1, w_s1, w_a2, w_s2, w_a3, w_s3, w_a4, w_s4, w_a5, w_s5, w_a6, w_s6, w_a7, w_s7, w_a8, w_s8, w_a9, w_s9, w_a10, w_s10, w_p0, w_p1, w_p2, w_p3, w_p4, w_p16, w_p17, w_p18, w_p19, w_p20, w_p21, o_0, o_1, o_2, o_3, o_4, o_5, hm, i_0, z_0, i_1, z_1, i_2, z_2, i_3, z_3, i_4, z_4, i_5, z_5, i_6, z_6, i_7, z_7, i_8, z_8, e, m1_neg, e1, z10, if_false, rt, mF]
  · refine Or.inl ⟨nI k, nI k, S, mF M 0, ?_, ?_, rfl, T0_0, RA_F h 0⟩
    · simp only [FX7_errorPosition, k_I6 hb, l1, e, found_ok hk, bnd, rt]
    · simp only [FX8_errorPosition, FX8_errorPosition_B13, w_I0, w_I1, w_I2, w_I3, w_I4, w_R5, w_R6, w_R7, w_R8, w_R9, w_R10, w_R11, w_R12, w_R13, w_R14, w_R15, w_I16, w_I17, w_I18, w_I19, w_I20, w_I21, w_vc, w_a0, w_s0, w_a1, w_s1, w_a2, w_s2, w_a3, w_s3, w_a4, w_s4, w_a5, w_s5, w_a6, w_s6, w_a7, w_s7, w_a8, w_s8, w_a9, w_s9, w_a10, w_s10, w_p0, w_p1, w_p2, w_p3, w_p4, w_p16, w_p17, w_p18, w_p19, w_p20, w_p21, o_0, o_1, o_2, o_3, o_4, o_5, hm, i_0, z_0, i_1, z_1, i_2, z_2, i_3, z_3, i_4, z_4, i_5, z_5, i_6, z_6, i_7, z_7, i_8, z_8, e, e2, nI_pos' hk, e1, if_true, rt, mF]
theorem A_failedCommand : Ans T FX7_failedCommand FX8_failedCommand (fun r r' : Int32 => r = r') [(NSE, 1)] := by
  intro μ ν b m S M h0 hb hm h
  obtain ⟨l1, l2⟩ := h.2.2.2.2.2.1
  have e1 : ∀ k, (mS M 11 0 k) 11 0 = k := fun k => T0_0
  have e2 : ∀ k, (mS M 11 0 k) 11 3 = M 11 3 := fun k => T0_s (by decide)
  rcases l2 with e | ⟨k, hk, e⟩
  · refine Or.inr ⟨(NSE, 1), 0, S, mF M 1, by simp, ?_, ?_, T0_0, RA_F h 1⟩
    · simp only [FX7_failedCommand, k_I7 hb, l1, e, found_no hb h0, bnd]
    · simp only [FX8_failedCommand, FX8_failedCommand_B13, w_I0, w_I1, w_I2, w_I3, w_I4, w_R5, w_R6, w_R7, w_R8, w_R9, w_R10, w_R11, w_R12, w_R13, w_R14, w_R15, w_I16, w_I17, w_I18, w_I19, w_I20, w_I21, w_vc, w_a0, w_s0, w_a1, w_s1, w_a2, w_s2, w_a3, w_s3, w_a4, w_s4, w_a5, w_s5, w_a6, w_s6, w_a7, w_s7, w_a8, w_s8, w_a9, w_s9, w_a10, w_s10, w_p0, w_p1, w_p2, w_p3, w_p4, w_p16, w_p17, w_p18, w_p19, w_p20, w_p21, o_0, o_1, o_2, o_3, o_4, o_5, hm, i_0, z_0, i_1, z_1, i_2, z_2, i_3, z_3, i_4, z_4, i_5, z_5, i_6, z_6, i_7, z_7, i_8, z_8, e, m1_neg, e1, z10, if_false, rt, mF]
  · refine Or.inl ⟨nI k, nI k, S, mF M 0, ?_, ?_, rfl, T0_0, RA_F h 0⟩
    · simp only [FX7_failedCommand, k_I7 hb, l1, e, found_ok hk, bnd, rt]
    · simp only [FX8_failedCommand, FX8_failedCommand_B13, w_I0, w_I1, w_I2, w_I3, w_I4, w_R5, w_R6, w_R7, w_R8, w_R9, w_R10, w_R11, w_R12, w_R13, w_R14, w_R15, w_I16, w_I17, w_I18, w_I19, w_I20, w_I21, w_vc, w_a0, w_s0, w_a1, w_s1, w_a2, w_s2, w_a3, w_s3, w_a4, w_s4, w_a5, w_s5, w_a6, w_s6, w_a7, w_s7, w_a8, w_s8, w_a9, w_s9, w_a10, w_s10, w_p0, w_p1, w_p2, w_p3, w_p4, w_p16, w_p17, w_p18, w_p19, w_p20, w_p21, o_0, o_1, o_2, o_3, o_4, o_5, hm, i_0, z_0, i_1, z_1, i_2, z_2, i_3, z_3, i_4, z_4, i_5, z_5, i_6, z_6, i_7, z_7, i_8, z_8, e, e2, nI_pos' hk, e1, if_true, rt, mF]
end FR
