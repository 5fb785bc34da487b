/-! ===== changes and questions of the face ===== -/
section FQ
variable {T : Nat}
def IOB : String := "java/lang/IndexOutOfBoundsException"
def NSE : String := "java/util/NoSuchElementException"
def ISE : String := "java/lang/IllegalStateException"
def IAE : String := "java/lang/IllegalArgumentException"
def ARE : String := "java/lang/ArithmeticException"
def UOE : String := "java/lang/UnsupportedOperationException"
theorem A_addDrone (x : Int32) : Ans T (fun a => FX7_addDrone a x) (fun a => FX8_addDrone a x) (fun r r' : Int32 => r = r') [(IOB, 1), (ISE, 2), (UOE, 3)] := by
  rw [← (show List.map (fun p : Int32 × Int32 => (exc p.1, p.2)) [(-1, 1), (-3, 2), (-4, 3)] = [(IOB, 1), (ISE, 2), (UOE, 3)] from by decide)]
  exact CHG (S_add x) (fun _ _ => rfl) (fun _ _ => rfl) (by decide)
theorem A_addPad (x : Int32) : Ans T (fun a => FX7_addPad a x) (fun a => FX8_addPad a x) (fun r r' : Int32 => r = r') [(IOB, 1), (IAE, 2), (ISE, 3)] := by
  rw [← (show List.map (fun p : Int32 × Int32 => (exc p.1, p.2)) [(-1, 1), (-2, 2), (-3, 3)] = [(IOB, 1), (IAE, 2), (ISE, 3)] from by decide)]
  exact CHG (S_pad x) (fun _ _ => rfl) (fun _ _ => rfl) (by decide)
theorem A_takeOff (x : Int32) : Ans T (fun a => FX7_takeOff a x) (fun a => FX8_takeOff a x) (fun r r' : Int32 => r = r') [(IOB, 1), (ISE, 2), (UOE, 3)] := by
  rw [← (show List.map (fun p : Int32 × Int32 => (exc p.1, p.2)) [(-1, 1), (-3, 2), (-4, 3)] = [(IOB, 1), (ISE, 2), (UOE, 3)] from by decide)]
  exact CHG (S_off x) (fun _ _ => rfl) (fun _ _ => rfl) (by decide)
theorem A_land (x : Int32) : Ans T (fun a => FX7_land a x) (fun a => FX8_land a x) (fun r r' : Int32 => r = r') [(IOB, 1), (ISE, 2), (UOE, 3)] := by
  rw [← (show List.map (fun p : Int32 × Int32 => (exc p.1, p.2)) [(-1, 1), (-3, 2), (-4, 3)] = [(IOB, 1), (ISE, 2), (UOE, 3)] from by decide)]
  exact CHG (S_land x) (fun _ _ => rfl) (fun _ _ => rfl) (by decide)
theorem A_sendTo (x y : Int32) : Ans T (fun a => FX7_sendTo a x y) (fun a => FX8_sendTo a x y) (fun r r' : Int32 => r = r') [(IOB, 1), (ISE, 2)] := by
  rw [← (show List.map (fun p : Int32 × Int32 => (exc p.1, p.2)) [(-1, 1), (-3, 2)] = [(IOB, 1), (ISE, 2)] from by decide)]
  exact CHG (S_send x y) (fun _ _ => rfl) (fun _ _ => rfl) (by decide)
theorem A_setReserve (x : Int32) : Ans T (fun a => FX7_setReserve a x) (fun a => FX8_setReserve a x) (fun r r' : Int32 => r = r') [(IAE, 1)] := by
  rw [← (show List.map (fun p : Int32 × Int32 => (exc p.1, p.2)) [(-2, 1)] = [(IAE, 1)] from by decide)]
  exact CHG (S_res x) (fun _ _ => rfl) (fun _ _ => rfl) (by decide)
theorem A_addToFormation (x y : Int32) : Ans T (fun a => FX7_addToFormation a x y) (fun a => FX8_addToFormation a x y) (fun r r' : Int32 => r = r') [(IOB, 1), (IAE, 2), (ISE, 3)] := by
  rw [← (show List.map (fun p : Int32 × Int32 => (exc p.1, p.2)) [(-1, 1), (-2, 2), (-3, 3)] = [(IOB, 1), (IAE, 2), (ISE, 3)] from by decide)]
  exact CHG (S_form x y) (fun _ _ => rfl) (fun _ _ => rfl) (by decide)
theorem A_clearFormation (x : Int32) : Ans T (fun a => FX7_clearFormation a x) (fun a => FX8_clearFormation a x) (fun r r' : Int32 => r = r') [(IOB, 1)] := by
  rw [← (show List.map (fun p : Int32 × Int32 => (exc p.1, p.2)) [(-1, 1)] = [(IOB, 1)] from by decide)]
  exact CHG (S_clr x) (fun _ _ => rfl) (fun _ _ => rfl) (by decide)
theorem A_assign (x : Int32) : Ans T (fun a => FX7_assign a x) (fun a => FX8_assign a x) (fun r r' : Int32 => r = r') [(IOB, 1), (ISE, 2)] := by
  rw [← (show List.map (fun p : Int32 × Int32 => (exc p.1, p.2)) [(-1, 1), (-3, 2)] = [(IOB, 1), (ISE, 2)] from by decide)]
  exact CHG (S_asg x) (fun _ _ => rfl) (fun _ _ => rfl) (by decide)
theorem A_advance (x : Int32) : Ans T (fun a => FX7_advance a x) (fun a => FX8_advance a x) (fun r r' : Int32 => r = r') [(IAE, 1)] := by
  rw [← (show List.map (fun p : Int32 × Int32 => (exc p.1, p.2)) [(-2, 1)] = [(IAE, 1)] from by decide)]
  exact CHG (S_tik x) (fun _ _ => rfl) (fun _ _ => rfl) (by decide)
theorem A_cueColour (hT : T < 2 ^ 30) (x y z : Int32) : Ans T (fun a => FX7_cueColour a x y z) (fun a => FX8_cueColour a x y z) (fun r r' : Int32 => r = r') [(IOB, 1), (IAE, 2), (ISE, 3)] := by
  rw [← (show List.map (fun p : Int32 × Int32 => (exc p.1, p.2)) [(-1, 1), (-2, 2), (-3, 3)] = [(IOB, 1), (IAE, 2), (ISE, 3)] from by decide)]
  exact CHG (S_cue hT x y z) (fun _ _ => rfl) (fun _ _ => rfl) (by decide)
theorem RA_F {S : Cg} {M : Mg} (h : RA T S M) (k : Int32) : RA (T + 400) S (mF M k) :=
  RA_c h (by omega) rfl rfl rfl rfl (fun _ _ => rfl) (fun r hr => T0_r (by omega)) (fun j _ => T0_v) (fun j hj _ _ _ => T0_s (by omega))
theorem Aq {α β : Type} {X : Nat → Me → Rs α} {Y : Nat → Me → Rs β} {ok : α → β → Prop} {es : List (String × Int32)} (H : ∀ (μ ν : Me) (b m : Nat) (S : Cg) (M : Mg) (n q c : Nat), μ 0 = none → 0 < b → 0 < m → S.2.2.2 < 11 → RX T (S.1 S.2.2.2) (M 0) n q c →
    (∃ r r', X b (puc μ b S) = rt r (puc μ b S) ∧ Y m (pum ν m M) = rt r' (pum ν m (mF M 0)) ∧ ok r r') ∨ (∃ e r', e ∈ es ∧ X b (puc μ b S) = some (.inr e.1, puc μ b S) ∧ Y m (pum ν m M) = rt r' (pum ν m (mF M e.2)))) : Ans T X Y ok es := by
  intro μ ν b m S M hμ hb hm h
  have h1 := h.1
  obtain ⟨n, q, c, hX⟩ := h.2.1
  rcases H μ ν b m S M n q c hμ hb hm (by omega) hX with ⟨r, r', q1, q2, q3⟩ | ⟨e, r', q0, q1, q2⟩
  · exact Or.inl ⟨r, r', S, mF M 0, q1, q2, q3, T0_0, RA_F h 0⟩
  · exact Or.inr ⟨e, r', S, mF M e.2, q0, q1, q2, T0_0, RA_F h e.2⟩
theorem mFF {M : Mg} {k l : Int32} : mF (mF M k) l = mF M l := by
  funext r j
  unfold mF mS upd
  by_cases hr : r = 11
  · subst hr
    by_cases hj : j = 0
    · subst hj; simp
    · simp [hj]
  · simp [hr]
section DD
variable {μ ν : Me} {b m n q c d : Nat} {S : Cg} {M : Mg}
theorem D_in (hb : 0 < b) (hk9 : S.2.2.2 < 11) (hR : RX T (S.1 S.2.2.2) (M 0) n q c) (hd : d < n) : FX7_demandDrone b (nI d) (puc μ b S) = rt () (puc μ b S) := by
  have hA := puc_At (μ := μ) (b := b) (S := S) hk9
  have h1 := L_q (μ := μ) (b := b) (S := S) hk9 (G := FX2_has (sa b S.2.2.2 + 1) (nI d)) (fun μ' => e_has hR.1.2.1)
  rw [has_in hd hR.1.1] at h1
  simp only [FX7_demandDrone, k_R0 hb, k_R1 hb, k_vc0 hb, L_vc hk9, L_vc1 hk9, L_vc8 hk9, q_R0_0 hA sa_pos, q_R0_1 hA sa_pos, q_R0_2 hA sa_pos, q_J0_3 hA sa_pos, q_I0_4 hA sa_pos, q_I0_5 hA sa_pos, q_I0_6 hA sa_pos, q_I0_7 hA sa_pos, q_I0_8 hA sa_pos, q_I0_9 hA sa_pos, q_R1_0 hA, q_R1_1 hA, q_R1_2 hA, q_R1_3 hA, q_R1_4 hA, q_R1_5 hA, q_I1_6 hA, q_R8_0 hA, q_R8_1 hA, q_R8_2 hA, q_I8_3 hA, q_a0 hA, q_a1 hA, q_a2 hA, q_a3 hA, q_a4 hA, q_a5 hA, q_a6 hA, q_a7 hA, q_a8 hA, q_a12 hA, h1, bnd, rt, one_ne, if_false]
theorem D_out {x : Int32} (hb : 0 < b) (h0 : μ 0 = none) (hk9 : S.2.2.2 < 11) (hR : RX T (S.1 S.2.2.2) (M 0) n q c) (hx : x < 0 ∨ nI n ≤ x) : FX7_demandDrone b x (puc μ b S) = some (.inr IOB, puc μ b S) := by
  have hA := puc_At (μ := μ) (b := b) (S := S) hk9
  have h1 := L_q (μ := μ) (b := b) (S := S) hk9 (G := FX2_has (sa b S.2.2.2 + 1) x) (fun μ' => e_has hR.1.2.1)
  rw [has_out hx] at h1
  simp only [FX7_demandDrone, k_R0 hb, k_R1 hb, k_vc0 hb, L_vc hk9, L_vc1 hk9, L_vc8 hk9, q_R0_0 hA sa_pos, q_R0_1 hA sa_pos, q_R0_2 hA sa_pos, q_J0_3 hA sa_pos, q_I0_4 hA sa_pos, q_I0_5 hA sa_pos, q_I0_6 hA sa_pos, q_I0_7 hA sa_pos, q_I0_8 hA sa_pos, q_I0_9 hA sa_pos, q_R1_0 hA, q_R1_1 hA, q_R1_2 hA, q_R1_3 hA, q_R1_4 hA, q_R1_5 hA, q_I1_6 hA, q_R8_0 hA, q_R8_1 hA, q_R8_2 hA, q_I8_3 hA, q_a0 hA, q_a1 hA, q_a2 hA, q_a3 hA, q_a4 hA, q_a5 hA, q_a6 hA, q_a7 hA, q_a8 hA, q_a12 hA, h1, bnd, rt, if_true, thr_p hb h0]
  rfl
theorem D_cell {k : Nat} (hk : k < 64) : FX7_demandCell (nI k) μ = rt () μ := by
  simp only [FX7_demandCell, e_isCell, isC_in hk, bnd, rt, one_ne, if_false]
theorem D_cellx {x : Int32} (hb : 0 < b) (h0 : μ 0 = none) (hx : x < 0 ∨ nI 64 ≤ x) : FX7_demandCell x (puc μ b S) = some (.inr IOB, puc μ b S) := by
  simp only [FX7_demandCell, e_isCell, isC_out hx, bnd, rt, if_true, thr_p hb h0]
  rfl
theorem D_form {k : Nat} (hk : k < 4) : FX7_demandFormation (nI k) μ = rt () μ := by
  simp only [FX7_demandFormation, e_isForm, isF_in hk, bnd, rt, one_ne, if_false]
theorem D_formx {x : Int32} (hb : 0 < b) (h0 : μ 0 = none) (hx : x < 0 ∨ nI 4 ≤ x) : FX7_demandFormation x (puc μ b S) = some (.inr IOB, puc μ b S) := by
  simp only [FX7_demandFormation, e_isForm, isF_out hx, bnd, rt, if_true, thr_p hb h0]
  rfl
theorem found_no (hb : 0 < b) (h0 : μ 0 = none) : FX7_found (-1) (puc μ b S) = some (.inr NSE, puc μ b S) := by
  unfold FX7_found
  rw [if_pos rfl, thr_p hb h0]
  rfl
theorem found_ok {k : Nat} (hk : k < 2 ^ 31) : FX7_found (nI k) μ = rt (nI k) μ := by
  unfold FX7_found
  rw [if_neg (m1_ne hk)]
theorem isDr_in (hm : 0 < m) (hR : RX T (S.1 S.2.2.2) (M 0) n q c) (hd : d < n) : FX8_isDrone m (nI d) (pum ν m M) = rt 1 (pum ν m M) := by
  rw [e_isDr hm, e_drn_in hR.1.2.2.1 hR.1.1 hd]
theorem isDr_out {x : Int32} (hm : 0 < m) (hR : RX T (S.1 S.2.2.2) (M 0) n q c) (hx : x < 0 ∨ nI n ≤ x) : FX8_isDrone m x (pum ν m M) = rt 0 (pum ν m M) := by
  rw [e_isDr hm, e_drn_out hR.1.2.2.1 hR.1.1 hx]
end DD
theorem mT0 {M : Mg} {k : Int32} : (mS M 11 0 k) 11 0 = k := T0_0
theorem mTv {M : Mg} {k : Int32} {j : Nat} : (mS M 11 0 k) 0 j = M 0 j := T0_v
theorem A_droneCount : Ans T FX7_droneCount FX8_droneCount (fun r r' : Int32 => r = r') [] := Aq (fun μ ν b m S M n q c h0 hb hm hk9 hR => Or.inl (by
  have hA := puc_At (μ := μ) (b := b) (S := S) hk9
  refine ⟨(S.1 S.2.2.2).1 9 0, M 0 0, ?_, ?_, ?_⟩
  · simp only [FX7_droneCount, k_R0 hb, k_R1 hb, k_vc0 hb, L_vc hk9, L_vc1 hk9, L_vc8 hk9, q_R0_0 hA sa_pos, q_R0_1 hA sa_pos, q_R0_2 hA sa_pos, q_J0_3 hA sa_pos, q_I0_4 hA sa_pos, q_I0_5 hA sa_pos, q_I0_6 hA sa_pos, q_I0_7 hA sa_pos, q_I0_8 hA sa_pos, q_I0_9 hA sa_pos, q_R1_0 hA, q_R1_1 hA, q_R1_2 hA, q_R1_3 hA, q_R1_4 hA, q_R1_5 hA, q_I1_6 hA, q_R8_0 hA, q_R8_1 hA, q_R8_2 hA, q_I8_3 hA, q_a0 hA, q_a1 hA, q_a2 hA, q_a3 hA, q_a4 hA, q_a5 hA, q_a6 hA, q_a7 hA, q_a8 hA, q_a12 hA, rt]
  · simp only [FX8_droneCount, w_I0, w_I1, w_I2, w_I3, w_I4, w_R5, w_R6, w_R7, w_R8, w_R9, w_R10, w_R11, w_R12, w_R13, w_R14, w_R15, w_I16, w_I17, w_I18, w_I19, w_I20, w_I21, w_vc, w_a0, w_s0, w_a1, w_s1, w_a2, w_s2, w_a3, w_s3, w_a4, w_s4, w_a5, w_s5, w_a6, w_s6, w_a7, w_s7, w_a8, w_s8, w_a9, w_s9, w_a10, w_s10, w_p0, w_p1, w_p2, w_p3, w_p4, w_p16, w_p17, w_p18, w_p19, w_p20, w_p21, o_0, o_1, o_2, o_3, o_4, o_5, hm, i_0, z_0, i_1, z_1, i_2, z_2, i_3, z_3, i_4, z_4, i_5, z_5, i_6, z_6, i_7, z_7, i_8, z_8, mTv, if_true, mF]
  · exact hR.1.2.1.trans hR.1.2.2.1.symm))
theorem A_now : Ans T FX7_now FX8_now (fun r r' : Int32 => r = r') [] := Aq (fun μ ν b m S M n q c h0 hb hm hk9 hR => Or.inl (by
  have hA := puc_At (μ := μ) (b := b) (S := S) hk9
  refine ⟨(S.1 S.2.2.2).1 9 3, M 0 3, ?_, ?_, ?_⟩
  · simp only [FX7_now, k_R0 hb, k_R1 hb, k_vc0 hb, L_vc hk9, L_vc1 hk9, L_vc8 hk9, q_R0_0 hA sa_pos, q_R0_1 hA sa_pos, q_R0_2 hA sa_pos, q_J0_3 hA sa_pos, q_I0_4 hA sa_pos, q_I0_5 hA sa_pos, q_I0_6 hA sa_pos, q_I0_7 hA sa_pos, q_I0_8 hA sa_pos, q_I0_9 hA sa_pos, q_R1_0 hA, q_R1_1 hA, q_R1_2 hA, q_R1_3 hA, q_R1_4 hA, q_R1_5 hA, q_I1_6 hA, q_R8_0 hA, q_R8_1 hA, q_R8_2 hA, q_I8_3 hA, q_a0 hA, q_a1 hA, q_a2 hA, q_a3 hA, q_a4 hA, q_a5 hA, q_a6 hA, q_a7 hA, q_a8 hA, q_a12 hA, rt]
  · simp only [FX8_now, w_I0, w_I1, w_I2, w_I3, w_I4, w_R5, w_R6, w_R7, w_R8, w_R9, w_R10, w_R11, w_R12, w_R13, w_R14, w_R15, w_I16, w_I17, w_I18, w_I19, w_I20, w_I21, w_vc, w_a0, w_s0, w_a1, w_s1, w_a2, w_s2, w_a3, w_s3, w_a4, w_s4, w_a5, w_s5, w_a6, w_s6, w_a7, w_s7, w_a8, w_s8, w_a9, w_s9, w_a10, w_s10, w_p0, w_p1, w_p2, w_p3, w_p4, w_p16, w_p17, w_p18, w_p19, w_p20, w_p21, o_0, o_1, o_2, o_3, o_4, o_5, hm, i_0, z_0, i_1, z_1, i_2, z_2, i_3, z_3, i_4, z_4, i_5, z_5, i_6, z_6, i_7, z_7, i_8, z_8, mTv, if_true, mF]
  · exact hR.2.2.2.2.1.2.1.symm))
theorem A_cueCount : Ans T FX7_cueCount FX8_cueCount (fun r r' : Int32 => r = r') [] := Aq (fun μ ν b m S M n q c h0 hb hm hk9 hR => Or.inl (by
  have hA := puc_At (μ := μ) (b := b) (S := S) hk9
  refine ⟨(S.1 S.2.2.2).1 9 1, M 0 8, ?_, ?_, ?_⟩
  · simp only [FX7_cueCount, k_R0 hb, k_R1 hb, k_vc0 hb, L_vc hk9, L_vc1 hk9, L_vc8 hk9, q_R0_0 hA sa_pos, q_R0_1 hA sa_pos, q_R0_2 hA sa_pos, q_J0_3 hA sa_pos, q_I0_4 hA sa_pos, q_I0_5 hA sa_pos, q_I0_6 hA sa_pos, q_I0_7 hA sa_pos, q_I0_8 hA sa_pos, q_I0_9 hA sa_pos, q_R1_0 hA, q_R1_1 hA, q_R1_2 hA, q_R1_3 hA, q_R1_4 hA, q_R1_5 hA, q_I1_6 hA, q_R8_0 hA, q_R8_1 hA, q_R8_2 hA, q_I8_3 hA, q_a0 hA, q_a1 hA, q_a2 hA, q_a3 hA, q_a4 hA, q_a5 hA, q_a6 hA, q_a7 hA, q_a8 hA, q_a12 hA, rt]
  · simp only [FX8_cueCount, w_I0, w_I1, w_I2, w_I3, w_I4, w_R5, w_R6, w_R7, w_R8, w_R9, w_R10, w_R11, w_R12, w_R13, w_R14, w_R15, w_I16, w_I17, w_I18, w_I19, w_I20, w_I21, w_vc, w_a0, w_s0, w_a1, w_s1, w_a2, w_s2, w_a3, w_s3, w_a4, w_s4, w_a5, w_s5, w_a6, w_s6, w_a7, w_s7, w_a8, w_s8, w_a9, w_s9, w_a10, w_s10, w_p0, w_p1, w_p2, w_p3, w_p4, w_p16, w_p17, w_p18, w_p19, w_p20, w_p21, o_0, o_1, o_2, o_3, o_4, o_5, hm, i_0, z_0, i_1, z_1, i_2, z_2, i_3, z_3, i_4, z_4, i_5, z_5, i_6, z_6, i_7, z_7, i_8, z_8, mTv, if_true, mF]
  · exact hR.2.2.1.2.1.trans hR.2.2.1.2.2.1.symm))
theorem A_movedTotal : Ans T FX7_movedTotal FX8_movedTotal (fun r r' : Int32 => r = r') [] := Aq (fun μ ν b m S M n q c h0 hb hm hk9 hR => Or.inl (by
  have hA := puc_At (μ := μ) (b := b) (S := S) hk9
  refine ⟨(S.1 S.2.2.2).1 9 4, M 0 4, ?_, ?_, ?_⟩
  · simp only [FX7_movedTotal, k_R0 hb, k_R1 hb, k_vc0 hb, L_vc hk9, L_vc1 hk9, L_vc8 hk9, q_R0_0 hA sa_pos, q_R0_1 hA sa_pos, q_R0_2 hA sa_pos, q_J0_3 hA sa_pos, q_I0_4 hA sa_pos, q_I0_5 hA sa_pos, q_I0_6 hA sa_pos, q_I0_7 hA sa_pos, q_I0_8 hA sa_pos, q_I0_9 hA sa_pos, q_R1_0 hA, q_R1_1 hA, q_R1_2 hA, q_R1_3 hA, q_R1_4 hA, q_R1_5 hA, q_I1_6 hA, q_R8_0 hA, q_R8_1 hA, q_R8_2 hA, q_I8_3 hA, q_a0 hA, q_a1 hA, q_a2 hA, q_a3 hA, q_a4 hA, q_a5 hA, q_a6 hA, q_a7 hA, q_a8 hA, q_a12 hA, rt]
  · simp only [FX8_movedTotal, w_I0, w_I1, w_I2, w_I3, w_I4, w_R5, w_R6, w_R7, w_R8, w_R9, w_R10, w_R11, w_R12, w_R13, w_R14, w_R15, w_I16, w_I17, w_I18, w_I19, w_I20, w_I21, w_vc, w_a0, w_s0, w_a1, w_s1, w_a2, w_s2, w_a3, w_s3, w_a4, w_s4, w_a5, w_s5, w_a6, w_s6, w_a7, w_s7, w_a8, w_s8, w_a9, w_s9, w_a10, w_s10, w_p0, w_p1, w_p2, w_p3, w_p4, w_p16, w_p17, w_p18, w_p19, w_p20, w_p21, o_0, o_1, o_2, o_3, o_4, o_5, hm, i_0, z_0, i_1, z_1, i_2, z_2, i_3, z_3, i_4, z_4, i_5, z_5, i_6, z_6, i_7, z_7, i_8, z_8, mTv, if_true, mF]
  · exact hR.2.2.2.2.1.2.2.1.symm))
theorem A_blockedTotal : Ans T FX7_blockedTotal FX8_blockedTotal (fun r r' : Int32 => r = r') [] := Aq (fun μ ν b m S M n q c h0 hb hm hk9 hR => Or.inl (by
  have hA := puc_At (μ := μ) (b := b) (S := S) hk9
  refine ⟨(S.1 S.2.2.2).1 9 5, M 0 5, ?_, ?_, ?_⟩
  · simp only [FX7_blockedTotal, k_R0 hb, k_R1 hb, k_vc0 hb, L_vc hk9, L_vc1 hk9, L_vc8 hk9, q_R0_0 hA sa_pos, q_R0_1 hA sa_pos, q_R0_2 hA sa_pos, q_J0_3 hA sa_pos, q_I0_4 hA sa_pos, q_I0_5 hA sa_pos, q_I0_6 hA sa_pos, q_I0_7 hA sa_pos, q_I0_8 hA sa_pos, q_I0_9 hA sa_pos, q_R1_0 hA, q_R1_1 hA, q_R1_2 hA, q_R1_3 hA, q_R1_4 hA, q_R1_5 hA, q_I1_6 hA, q_R8_0 hA, q_R8_1 hA, q_R8_2 hA, q_I8_3 hA, q_a0 hA, q_a1 hA, q_a2 hA, q_a3 hA, q_a4 hA, q_a5 hA, q_a6 hA, q_a7 hA, q_a8 hA, q_a12 hA, rt]
  · simp only [FX8_blockedTotal, w_I0, w_I1, w_I2, w_I3, w_I4, w_R5, w_R6, w_R7, w_R8, w_R9, w_R10, w_R11, w_R12, w_R13, w_R14, w_R15, w_I16, w_I17, w_I18, w_I19, w_I20, w_I21, w_vc, w_a0, w_s0, w_a1, w_s1, w_a2, w_s2, w_a3, w_s3, w_a4, w_s4, w_a5, w_s5, w_a6, w_s6, w_a7, w_s7, w_a8, w_s8, w_a9, w_s9, w_a10, w_s10, w_p0, w_p1, w_p2, w_p3, w_p4, w_p16, w_p17, w_p18, w_p19, w_p20, w_p21, o_0, o_1, o_2, o_3, o_4, o_5, hm, i_0, z_0, i_1, z_1, i_2, z_2, i_3, z_3, i_4, z_4, i_5, z_5, i_6, z_6, i_7, z_7, i_8, z_8, mTv, if_true, mF]
  · exact hR.2.2.2.2.1.2.2.2.1.symm))
theorem A_emergencyTotal : Ans T FX7_emergencyTotal FX8_emergencyTotal (fun r r' : Int32 => r = r') [] := Aq (fun μ ν b m S M n q c h0 hb hm hk9 hR => Or.inl (by
  have hA := puc_At (μ := μ) (b := b) (S := S) hk9
  refine ⟨(S.1 S.2.2.2).1 9 6, M 0 6, ?_, ?_, ?_⟩
  · simp only [FX7_emergencyTotal, k_R0 hb, k_R1 hb, k_vc0 hb, L_vc hk9, L_vc1 hk9, L_vc8 hk9, q_R0_0 hA sa_pos, q_R0_1 hA sa_pos, q_R0_2 hA sa_pos, q_J0_3 hA sa_pos, q_I0_4 hA sa_pos, q_I0_5 hA sa_pos, q_I0_6 hA sa_pos, q_I0_7 hA sa_pos, q_I0_8 hA sa_pos, q_I0_9 hA sa_pos, q_R1_0 hA, q_R1_1 hA, q_R1_2 hA, q_R1_3 hA, q_R1_4 hA, q_R1_5 hA, q_I1_6 hA, q_R8_0 hA, q_R8_1 hA, q_R8_2 hA, q_I8_3 hA, q_a0 hA, q_a1 hA, q_a2 hA, q_a3 hA, q_a4 hA, q_a5 hA, q_a6 hA, q_a7 hA, q_a8 hA, q_a12 hA, rt]
  · simp only [FX8_emergencyTotal, w_I0, w_I1, w_I2, w_I3, w_I4, w_R5, w_R6, w_R7, w_R8, w_R9, w_R10, w_R11, w_R12, w_R13, w_R14, w_R15, w_I16, w_I17, w_I18, w_I19, w_I20, w_I21, w_vc, w_a0, w_s0, w_a1, w_s1, w_a2, w_s2, w_a3, w_s3, w_a4, w_s4, w_a5, w_s5, w_a6, w_s6, w_a7, w_s7, w_a8, w_s8, w_a9, w_s9, w_a10, w_s10, w_p0, w_p1, w_p2, w_p3, w_p4, w_p16, w_p17, w_p18, w_p19, w_p20, w_p21, o_0, o_1, o_2, o_3, o_4, o_5, hm, i_0, z_0, i_1, z_1, i_2, z_2, i_3, z_3, i_4, z_4, i_5, z_5, i_6, z_6, i_7, z_7, i_8, z_8, mTv, if_true, mF]
  · exact hR.2.2.2.2.1.2.2.2.2.1.symm))
theorem A_forcedTotal : Ans T FX7_forcedTotal FX8_forcedTotal (fun r r' : Int32 => r = r') [] := Aq (fun μ ν b m S M n q c h0 hb hm hk9 hR => Or.inl (by
  have hA := puc_At (μ := μ) (b := b) (S := S) hk9
  refine ⟨(S.1 S.2.2.2).1 9 7, M 0 7, ?_, ?_, ?_⟩
  · simp only [FX7_forcedTotal, k_R0 hb, k_R1 hb, k_vc0 hb, L_vc hk9, L_vc1 hk9, L_vc8 hk9, q_R0_0 hA sa_pos, q_R0_1 hA sa_pos, q_R0_2 hA sa_pos, q_J0_3 hA sa_pos, q_I0_4 hA sa_pos, q_I0_5 hA sa_pos, q_I0_6 hA sa_pos, q_I0_7 hA sa_pos, q_I0_8 hA sa_pos, q_I0_9 hA sa_pos, q_R1_0 hA, q_R1_1 hA, q_R1_2 hA, q_R1_3 hA, q_R1_4 hA, q_R1_5 hA, q_I1_6 hA, q_R8_0 hA, q_R8_1 hA, q_R8_2 hA, q_I8_3 hA, q_a0 hA, q_a1 hA, q_a2 hA, q_a3 hA, q_a4 hA, q_a5 hA, q_a6 hA, q_a7 hA, q_a8 hA, q_a12 hA, rt]
  · simp only [FX8_forcedTotal, w_I0, w_I1, w_I2, w_I3, w_I4, w_R5, w_R6, w_R7, w_R8, w_R9, w_R10, w_R11, w_R12, w_R13, w_R14, w_R15, w_I16, w_I17, w_I18, w_I19, w_I20, w_I21, w_vc, w_a0, w_s0, w_a1, w_s1, w_a2, w_s2, w_a3, w_s3, w_a4, w_s4, w_a5, w_s5, w_a6, w_s6, w_a7, w_s7, w_a8, w_s8, w_a9, w_s9, w_a10, w_s10, w_p0, w_p1, w_p2, w_p3, w_p4, w_p16, w_p17, w_p18, w_p19, w_p20, w_p21, o_0, o_1, o_2, o_3, o_4, o_5, hm, i_0, z_0, i_1, z_1, i_2, z_2, i_3, z_3, i_4, z_4, i_5, z_5, i_6, z_6, i_7, z_7, i_8, z_8, mTv, if_true, mF]
  · exact hR.2.2.2.2.1.2.2.2.2.2.1.symm))
theorem A_cellOf (x : Int32) : Ans T (fun a => FX7_cellOf a x) (fun a => FX8_cellOf a x) (fun r r' : Int32 => r = r') [(IOB, 1)] := Aq (fun μ ν b m S M n q c h0 hb hm hk9 hR => by
  have hA := puc_At (μ := μ) (b := b) (S := S) hk9
  have hn9 := hR.1.1
  rcases in_or (x := x) (n := n) (by omega) with hx | ⟨d, hd, rfl⟩
  · refine Or.inr ⟨(IOB, 1), 0, by simp, ?_, ?_⟩
    · simp only [FX7_cellOf, k_R0 hb, k_R1 hb, k_vc0 hb, L_vc hk9, L_vc1 hk9, L_vc8 hk9, q_R0_0 hA sa_pos, q_R0_1 hA sa_pos, q_R0_2 hA sa_pos, q_J0_3 hA sa_pos, q_I0_4 hA sa_pos, q_I0_5 hA sa_pos, q_I0_6 hA sa_pos, q_I0_7 hA sa_pos, q_I0_8 hA sa_pos, q_I0_9 hA sa_pos, q_R1_0 hA, q_R1_1 hA, q_R1_2 hA, q_R1_3 hA, q_R1_4 hA, q_R1_5 hA, q_I1_6 hA, q_R8_0 hA, q_R8_1 hA, q_R8_2 hA, q_I8_3 hA, q_a0 hA, q_a1 hA, q_a2 hA, q_a3 hA, q_a4 hA, q_a5 hA, q_a6 hA, q_a7 hA, q_a8 hA, q_a12 hA, D_out hb h0 hk9 hR hx, bnd]
    · simp only [FX8_cellOf, w_vc hm, e_tells_out hm hR.1.2.2.1 hn9 hx, bnd, rt]
  · have ho := hR.1.2.2.2.1 d hd
    have hin : inb (nI d) 10 = true := inb_n (by omega) (by omega)
    have hcl : (nI d).toNatClampNeg = d := nI_clamp (by omega)
    have hD := D_in (μ := μ) hb hk9 hR hd
    refine Or.inl ⟨(S.1 S.2.2.2).1 0 d, M 0 (13 + 6 * d + 0), ?_, ?_, ?_⟩
    · simp only [FX7_cellOf, k_R0 hb, k_R1 hb, k_vc0 hb, L_vc hk9, L_vc1 hk9, L_vc8 hk9, q_R0_0 hA sa_pos, q_R0_1 hA sa_pos, q_R0_2 hA sa_pos, q_J0_3 hA sa_pos, q_I0_4 hA sa_pos, q_I0_5 hA sa_pos, q_I0_6 hA sa_pos, q_I0_7 hA sa_pos, q_I0_8 hA sa_pos, q_I0_9 hA sa_pos, q_R1_0 hA, q_R1_1 hA, q_R1_2 hA, q_R1_3 hA, q_R1_4 hA, q_R1_5 hA, q_I1_6 hA, q_R8_0 hA, q_R8_1 hA, q_R8_2 hA, q_I8_3 hA, q_a0 hA, q_a1 hA, q_a2 hA, q_a3 hA, q_a4 hA, q_a5 hA, q_a6 hA, q_a7 hA, q_a8 hA, q_a12 hA, hD, hin, hcl, if_true, bnd, rt]
    · simp only [FX8_cellOf, w_vc hm, e_tells0 hm hR.1.2.2.1 hn9 hd, bnd, rt]
    · exact ho.1.1.symm)
theorem A_battery (x : Int32) : Ans T (fun a => FX7_battery a x) (fun a => FX8_battery a x) (fun r r' : Int32 => r = r') [(IOB, 1)] := Aq (fun μ ν b m S M n q c h0 hb hm hk9 hR => by
  have hA := puc_At (μ := μ) (b := b) (S := S) hk9
  have hn9 := hR.1.1
  rcases in_or (x := x) (n := n) (by omega) with hx | ⟨d, hd, rfl⟩
  · refine Or.inr ⟨(IOB, 1), 0, by simp, ?_, ?_⟩
    · simp only [FX7_battery, k_R0 hb, k_R1 hb, k_vc0 hb, L_vc hk9, L_vc1 hk9, L_vc8 hk9, q_R0_0 hA sa_pos, q_R0_1 hA sa_pos, q_R0_2 hA sa_pos, q_J0_3 hA sa_pos, q_I0_4 hA sa_pos, q_I0_5 hA sa_pos, q_I0_6 hA sa_pos, q_I0_7 hA sa_pos, q_I0_8 hA sa_pos, q_I0_9 hA sa_pos, q_R1_0 hA, q_R1_1 hA, q_R1_2 hA, q_R1_3 hA, q_R1_4 hA, q_R1_5 hA, q_I1_6 hA, q_R8_0 hA, q_R8_1 hA, q_R8_2 hA, q_I8_3 hA, q_a0 hA, q_a1 hA, q_a2 hA, q_a3 hA, q_a4 hA, q_a5 hA, q_a6 hA, q_a7 hA, q_a8 hA, q_a12 hA, D_out hb h0 hk9 hR hx, bnd]
    · simp only [FX8_battery, w_vc hm, e_tells_out hm hR.1.2.2.1 hn9 hx, bnd, rt]
  · have ho := hR.1.2.2.2.1 d hd
    have hin : inb (nI d) 10 = true := inb_n (by omega) (by omega)
    have hcl : (nI d).toNatClampNeg = d := nI_clamp (by omega)
    have hD := D_in (μ := μ) hb hk9 hR hd
    refine Or.inl ⟨(S.1 S.2.2.2).1 1 d, M 0 (13 + 6 * d + 2), ?_, ?_, ?_⟩
    · simp only [FX7_battery, k_R0 hb, k_R1 hb, k_vc0 hb, L_vc hk9, L_vc1 hk9, L_vc8 hk9, q_R0_0 hA sa_pos, q_R0_1 hA sa_pos, q_R0_2 hA sa_pos, q_J0_3 hA sa_pos, q_I0_4 hA sa_pos, q_I0_5 hA sa_pos, q_I0_6 hA sa_pos, q_I0_7 hA sa_pos, q_I0_8 hA sa_pos, q_I0_9 hA sa_pos, q_R1_0 hA, q_R1_1 hA, q_R1_2 hA, q_R1_3 hA, q_R1_4 hA, q_R1_5 hA, q_I1_6 hA, q_R8_0 hA, q_R8_1 hA, q_R8_2 hA, q_I8_3 hA, q_a0 hA, q_a1 hA, q_a2 hA, q_a3 hA, q_a4 hA, q_a5 hA, q_a6 hA, q_a7 hA, q_a8 hA, q_a12 hA, hD, hin, hcl, if_true, bnd, rt]
    · simp only [FX8_battery, w_vc hm, e_tells2 hm hR.1.2.2.1 hn9 hd, bnd, rt]
    · exact ho.1.2.2.1.symm)
theorem A_colour (x : Int32) : Ans T (fun a => FX7_colour a x) (fun a => FX8_colour a x) (fun r r' : Int32 => r = r') [(IOB, 1)] := Aq (fun μ ν b m S M n q c h0 hb hm hk9 hR => by
  have hA := puc_At (μ := μ) (b := b) (S := S) hk9
  have hn9 := hR.1.1
  rcases in_or (x := x) (n := n) (by omega) with hx | ⟨d, hd, rfl⟩
  · refine Or.inr ⟨(IOB, 1), 0, by simp, ?_, ?_⟩
    · simp only [FX7_colour, k_R0 hb, k_R1 hb, k_vc0 hb, L_vc hk9, L_vc1 hk9, L_vc8 hk9, q_R0_0 hA sa_pos, q_R0_1 hA sa_pos, q_R0_2 hA sa_pos, q_J0_3 hA sa_pos, q_I0_4 hA sa_pos, q_I0_5 hA sa_pos, q_I0_6 hA sa_pos, q_I0_7 hA sa_pos, q_I0_8 hA sa_pos, q_I0_9 hA sa_pos, q_R1_0 hA, q_R1_1 hA, q_R1_2 hA, q_R1_3 hA, q_R1_4 hA, q_R1_5 hA, q_I1_6 hA, q_R8_0 hA, q_R8_1 hA, q_R8_2 hA, q_I8_3 hA, q_a0 hA, q_a1 hA, q_a2 hA, q_a3 hA, q_a4 hA, q_a5 hA, q_a6 hA, q_a7 hA, q_a8 hA, q_a12 hA, D_out hb h0 hk9 hR hx, bnd]
    · simp only [FX8_colour, w_vc hm, e_tells_out hm hR.1.2.2.1 hn9 hx, bnd, rt]
  · have ho := hR.1.2.2.2.1 d hd
    have hin : inb (nI d) 10 = true := inb_n (by omega) (by omega)
    have hcl : (nI d).toNatClampNeg = d := nI_clamp (by omega)
    have hD := D_in (μ := μ) hb hk9 hR hd
    refine Or.inl ⟨(S.1 S.2.2.2).1 3 d, M 0 (13 + 6 * d + 3), ?_, ?_, ?_⟩
    · simp only [FX7_colour, k_R0 hb, k_R1 hb, k_vc0 hb, L_vc hk9, L_vc1 hk9, L_vc8 hk9, q_R0_0 hA sa_pos, q_R0_1 hA sa_pos, q_R0_2 hA sa_pos, q_J0_3 hA sa_pos, q_I0_4 hA sa_pos, q_I0_5 hA sa_pos, q_I0_6 hA sa_pos, q_I0_7 hA sa_pos, q_I0_8 hA sa_pos, q_I0_9 hA sa_pos, q_R1_0 hA, q_R1_1 hA, q_R1_2 hA, q_R1_3 hA, q_R1_4 hA, q_R1_5 hA, q_I1_6 hA, q_R8_0 hA, q_R8_1 hA, q_R8_2 hA, q_I8_3 hA, q_a0 hA, q_a1 hA, q_a2 hA, q_a3 hA, q_a4 hA, q_a5 hA, q_a6 hA, q_a7 hA, q_a8 hA, q_a12 hA, hD, hin, hcl, if_true, bnd, rt]
    · simp only [FX8_colour, w_vc hm, e_tells3 hm hR.1.2.2.1 hn9 hd, bnd, rt]
    · exact ho.1.2.2.2.1.symm)
theorem A_isFlying (x : Int32) : Ans T (fun a => FX7_isFlying a x) (fun a => FX8_isFlying a x) (fun r r' : Int32 => r = r') [(IOB, 1)] := Aq (fun μ ν b m S M n q c h0 hb hm hk9 hR => by
  have hA := puc_At (μ := μ) (b := b) (S := S) hk9
  have hn9 := hR.1.1
  rcases in_or (x := x) (n := n) (by omega) with hx | ⟨d, hd, rfl⟩
  · refine Or.inr ⟨(IOB, 1), 0, by simp, ?_, ?_⟩
    · simp only [FX7_isFlying, k_R0 hb, k_R1 hb, k_vc0 hb, L_vc hk9, L_vc1 hk9, L_vc8 hk9, q_R0_0 hA sa_pos, q_R0_1 hA sa_pos, q_R0_2 hA sa_pos, q_J0_3 hA sa_pos, q_I0_4 hA sa_pos, q_I0_5 hA sa_pos, q_I0_6 hA sa_pos, q_I0_7 hA sa_pos, q_I0_8 hA sa_pos, q_I0_9 hA sa_pos, q_R1_0 hA, q_R1_1 hA, q_R1_2 hA, q_R1_3 hA, q_R1_4 hA, q_R1_5 hA, q_I1_6 hA, q_R8_0 hA, q_R8_1 hA, q_R8_2 hA, q_I8_3 hA, q_a0 hA, q_a1 hA, q_a2 hA, q_a3 hA, q_a4 hA, q_a5 hA, q_a6 hA, q_a7 hA, q_a8 hA, q_a12 hA, D_out hb h0 hk9 hR hx, bnd]
    · simp only [FX8_isFlying, w_vc hm, e_tells_out hm hR.1.2.2.1 hn9 hx, bnd, rt, show ¬ (0 : Int32) = 1 by decide, if_false]
  · have ho := hR.1.2.2.2.1 d hd
    have hin : inb (nI d) 10 = true := inb_n (by omega) (by omega)
    have hcl : (nI d).toNatClampNeg = d := nI_clamp (by omega)
    have hD := D_in (μ := μ) hb hk9 hR hd
    have hz : (S.1 S.2.2.2).1 4 d = 0 ∨ (S.1 S.2.2.2).1 4 d = 1 := (hR.2.2.2.2.2 d (by omega)).1
    have hfl := R_fl hR hd
    unfold fl1 at hfl
    refine Or.inl ⟨(S.1 S.2.2.2).1 4 d, (S.1 S.2.2.2).1 4 d, ?_, ?_, rfl⟩
    · simp only [FX7_isFlying, k_R0 hb, k_R1 hb, k_vc0 hb, L_vc hk9, L_vc1 hk9, L_vc8 hk9, q_R0_0 hA sa_pos, q_R0_1 hA sa_pos, q_R0_2 hA sa_pos, q_J0_3 hA sa_pos, q_I0_4 hA sa_pos, q_I0_5 hA sa_pos, q_I0_6 hA sa_pos, q_I0_7 hA sa_pos, q_I0_8 hA sa_pos, q_I0_9 hA sa_pos, q_R1_0 hA, q_R1_1 hA, q_R1_2 hA, q_R1_3 hA, q_R1_4 hA, q_R1_5 hA, q_I1_6 hA, q_R8_0 hA, q_R8_1 hA, q_R8_2 hA, q_I8_3 hA, q_a0 hA, q_a1 hA, q_a2 hA, q_a3 hA, q_a4 hA, q_a5 hA, q_a6 hA, q_a7 hA, q_a8 hA, q_a12 hA, hD, hin, hcl, if_true, bnd, rt, gd, nar_b hz]
    · simp only [FX8_isFlying, w_vc hm, e_tells1 hm hR.1.2.2.1 hn9 hd, bnd, rt]
      rw [← hfl]
      split <;> rfl)
theorem A_isInEmergency (x : Int32) : Ans T (fun a => FX7_isInEmergency a x) (fun a => FX8_isInEmergency a x) (fun r r' : Int32 => r = r') [(IOB, 1)] := Aq (fun μ ν b m S M n q c h0 hb hm hk9 hR => by
  have hA := puc_At (μ := μ) (b := b) (S := S) hk9
  have hn9 := hR.1.1
  rcases in_or (x := x) (n := n) (by omega) with hx | ⟨d, hd, rfl⟩
  · refine Or.inr ⟨(IOB, 1), 0, by simp, ?_, ?_⟩
    · simp only [FX7_isInEmergency, k_R0 hb, k_R1 hb, k_vc0 hb, L_vc hk9, L_vc1 hk9, L_vc8 hk9, q_R0_0 hA sa_pos, q_R0_1 hA sa_pos, q_R0_2 hA sa_pos, q_J0_3 hA sa_pos, q_I0_4 hA sa_pos, q_I0_5 hA sa_pos, q_I0_6 hA sa_pos, q_I0_7 hA sa_pos, q_I0_8 hA sa_pos, q_I0_9 hA sa_pos, q_R1_0 hA, q_R1_1 hA, q_R1_2 hA, q_R1_3 hA, q_R1_4 hA, q_R1_5 hA, q_I1_6 hA, q_R8_0 hA, q_R8_1 hA, q_R8_2 hA, q_I8_3 hA, q_a0 hA, q_a1 hA, q_a2 hA, q_a3 hA, q_a4 hA, q_a5 hA, q_a6 hA, q_a7 hA, q_a8 hA, q_a12 hA, D_out hb h0 hk9 hR hx, bnd]
    · simp only [FX8_isInEmergency, w_vc hm, e_tells_out hm hR.1.2.2.1 hn9 hx, bnd, rt, show ¬ (0 : Int32) = 1 by decide, if_false]
  · have ho := hR.1.2.2.2.1 d hd
    have hin : inb (nI d) 10 = true := inb_n (by omega) (by omega)
    have hcl : (nI d).toNatClampNeg = d := nI_clamp (by omega)
    have hD := D_in (μ := μ) hb hk9 hR hd
    have hz : (S.1 S.2.2.2).1 5 d = 0 ∨ (S.1 S.2.2.2).1 5 d = 1 := (hR.2.2.2.2.2 d (by omega)).2
    have hfl := R_ur hR hd
    unfold fl1 at hfl
    refine Or.inl ⟨(S.1 S.2.2.2).1 5 d, (S.1 S.2.2.2).1 5 d, ?_, ?_, rfl⟩
    · simp only [FX7_isInEmergency, k_R0 hb, k_R1 hb, k_vc0 hb, L_vc hk9, L_vc1 hk9, L_vc8 hk9, q_R0_0 hA sa_pos, q_R0_1 hA sa_pos, q_R0_2 hA sa_pos, q_J0_3 hA sa_pos, q_I0_4 hA sa_pos, q_I0_5 hA sa_pos, q_I0_6 hA sa_pos, q_I0_7 hA sa_pos, q_I0_8 hA sa_pos, q_I0_9 hA sa_pos, q_R1_0 hA, q_R1_1 hA, q_R1_2 hA, q_R1_3 hA, q_R1_4 hA, q_R1_5 hA, q_I1_6 hA, q_R8_0 hA, q_R8_1 hA, q_R8_2 hA, q_I8_3 hA, q_a0 hA, q_a1 hA, q_a2 hA, q_a3 hA, q_a4 hA, q_a5 hA, q_a6 hA, q_a7 hA, q_a8 hA, q_a12 hA, hD, hin, hcl, if_true, bnd, rt, gd, nar_b hz]
    · simp only [FX8_isInEmergency, w_vc hm, e_tells5 hm hR.1.2.2.1 hn9 hd, bnd, rt]
      rw [← hfl]
      split <;> rfl)
theorem A_target (x : Int32) : Ans T (fun a => FX7_target a x) (fun a => FX8_target a x) (fun r r' : Int32 => r = r') [(IOB, 1), (NSE, 2)] := Aq (fun μ ν b m S M n q c h0 hb hm hk9 hR => by
  have hA := puc_At (μ := μ) (b := b) (S := S) hk9
  have hn9 := hR.1.1
  rcases in_or (x := x) (n := n) (by omega) with hx | ⟨d, hd, rfl⟩
  · refine Or.inr ⟨(IOB, 1), 0, by simp, ?_, ?_⟩
    · simp only [FX7_target, k_R0 hb, k_R1 hb, k_vc0 hb, L_vc hk9, L_vc1 hk9, L_vc8 hk9, q_R0_0 hA sa_pos, q_R0_1 hA sa_pos, q_R0_2 hA sa_pos, q_J0_3 hA sa_pos, q_I0_4 hA sa_pos, q_I0_5 hA sa_pos, q_I0_6 hA sa_pos, q_I0_7 hA sa_pos, q_I0_8 hA sa_pos, q_I0_9 hA sa_pos, q_R1_0 hA, q_R1_1 hA, q_R1_2 hA, q_R1_3 hA, q_R1_4 hA, q_R1_5 hA, q_I1_6 hA, q_R8_0 hA, q_R8_1 hA, q_R8_2 hA, q_I8_3 hA, q_a0 hA, q_a1 hA, q_a2 hA, q_a3 hA, q_a4 hA, q_a5 hA, q_a6 hA, q_a7 hA, q_a8 hA, q_a12 hA, D_out hb h0 hk9 hR hx, bnd]
    · simp only [FX8_target, FX8_target_B26, w_I0, w_I1, w_I2, w_I3, w_I4, w_R5, w_R6, w_R7, w_R8, w_R9, w_R10, w_R11, w_R12, w_R13, w_R14, w_R15, w_I16, w_I17, w_I18, w_I19, w_I20, w_I21, w_vc, w_a0, w_s0, w_a1, w_s1, w_a2, w_s2, w_a3, w_s3, w_a4, w_s4, w_a5, w_s5, w_a6, w_s6, w_a7, w_s7, w_a8, w_s8, w_a9, w_s9, w_a10, w_s10, w_p0, w_p1, w_p2, w_p3, w_p4, w_p16, w_p17, w_p18, w_p19, w_p20, w_p21, o_0, o_1, o_2, o_3, o_4, o_5, hm, i_0, z_0, i_1, z_1, i_2, z_2, i_3, z_3, i_4, z_4, i_5, z_5, i_6, z_6, i_7, z_7, i_8, z_8, isDr_out hm hR hx, if_true, z10, if_false, mT0, bnd, rt, mF]
  · have ho := hR.1.2.2.2.1 d hd
    have hin : inb (nI d) 10 = true := inb_n (by omega) (by omega)
    have hcl : (nI d).toNatClampNeg = d := nI_clamp (by omega)
    have hD := D_in (μ := μ) hb hk9 hR hd
    have hg := e_goal (μ := ν) (M := M) (m := m) (d := d) hm (by omega)
    obtain ⟨t1, t2⟩ := tgt_neg ho.2.2.2.1
    rw [ho.1.2.2.2.2.1, t2] at hg
    have hg2 : FX8_goal m (nI d) (pum ν m (mS M 11 0 0)) = rt ((S.1 S.2.2.2).1 2 d) (pum ν m (mS M 11 0 0)) := by
      rw [e_goal hm (by omega), mTv, ho.1.2.2.2.2.1, t2]
    rcases ho.2.2.2.1 with e | ⟨k, hk, e⟩
    · refine Or.inr ⟨(NSE, 2), 0, by simp, ?_, ?_⟩
      · simp only [FX7_target, k_R0 hb, k_R1 hb, k_vc0 hb, L_vc hk9, L_vc1 hk9, L_vc8 hk9, q_R0_0 hA sa_pos, q_R0_1 hA sa_pos, q_R0_2 hA sa_pos, q_J0_3 hA sa_pos, q_I0_4 hA sa_pos, q_I0_5 hA sa_pos, q_I0_6 hA sa_pos, q_I0_7 hA sa_pos, q_I0_8 hA sa_pos, q_I0_9 hA sa_pos, q_R1_0 hA, q_R1_1 hA, q_R1_2 hA, q_R1_3 hA, q_R1_4 hA, q_R1_5 hA, q_I1_6 hA, q_R8_0 hA, q_R8_1 hA, q_R8_2 hA, q_I8_3 hA, q_a0 hA, q_a1 hA, q_a2 hA, q_a3 hA, q_a4 hA, q_a5 hA, q_a6 hA, q_a7 hA, q_a8 hA, q_a12 hA, hD, hin, hcl, if_true, bnd, rt, e, found_no hb h0]
      · rw [e] at hg
        simp only [FX8_target, FX8_target_B26, w_I0, w_I1, w_I2, w_I3, w_I4, w_R5, w_R6, w_R7, w_R8, w_R9, w_R10, w_R11, w_R12, w_R13, w_R14, w_R15, w_I16, w_I17, w_I18, w_I19, w_I20, w_I21, w_vc, w_a0, w_s0, w_a1, w_s1, w_a2, w_s2, w_a3, w_s3, w_a4, w_s4, w_a5, w_s5, w_a6, w_s6, w_a7, w_s7, w_a8, w_s8, w_a9, w_s9, w_a10, w_s10, w_p0, w_p1, w_p2, w_p3, w_p4, w_p16, w_p17, w_p18, w_p19, w_p20, w_p21, o_0, o_1, o_2, o_3, o_4, o_5, hm, i_0, z_0, i_1, z_1, i_2, z_2, i_3, z_3, i_4, z_4, i_5, z_5, i_6, z_6, i_7, z_7, i_8, z_8, isDr_in hm hR hd, hg, one_ne, m1_neg, z20, if_true, if_false, mT0, bnd, rt, mF]
    · refine Or.inl ⟨nI k, nI k, ?_, ?_, rfl⟩
      · simp only [FX7_target, k_R0 hb, k_R1 hb, k_vc0 hb, L_vc hk9, L_vc1 hk9, L_vc8 hk9, q_R0_0 hA sa_pos, q_R0_1 hA sa_pos, q_R0_2 hA sa_pos, q_J0_3 hA sa_pos, q_I0_4 hA sa_pos, q_I0_5 hA sa_pos, q_I0_6 hA sa_pos, q_I0_7 hA sa_pos, q_I0_8 hA sa_pos, q_I0_9 hA sa_pos, q_R1_0 hA, q_R1_1 hA, q_R1_2 hA, q_R1_3 hA, q_R1_4 hA, q_R1_5 hA, q_I1_6 hA, q_R8_0 hA, q_R8_1 hA, q_R8_2 hA, q_I8_3 hA, q_a0 hA, q_a1 hA, q_a2 hA, q_a3 hA, q_a4 hA, q_a5 hA, q_a6 hA, q_a7 hA, q_a8 hA, q_a12 hA, hD, hin, hcl, if_true, bnd, rt, e, found_ok (show k < 2 ^ 31 by omega)]
      · rw [e] at hg hg2
        simp only [FX8_target, FX8_target_B26, w_I0, w_I1, w_I2, w_I3, w_I4, w_R5, w_R6, w_R7, w_R8, w_R9, w_R10, w_R11, w_R12, w_R13, w_R14, w_R15, w_I16, w_I17, w_I18, w_I19, w_I20, w_I21, w_vc, w_a0, w_s0, w_a1, w_s1, w_a2, w_s2, w_a3, w_s3, w_a4, w_s4, w_a5, w_s5, w_a6, w_s6, w_a7, w_s7, w_a8, w_s8, w_a9, w_s9, w_a10, w_s10, w_p0, w_p1, w_p2, w_p3, w_p4, w_p16, w_p17, w_p18, w_p19, w_p20, w_p21, o_0, o_1, o_2, o_3, o_4, o_5, hm, i_0, z_0, i_1, z_1, i_2, z_2, i_3, z_3, i_4, z_4, i_5, z_5, i_6, z_6, i_7, z_7, i_8, z_8, isDr_in hm hR hd, hg, hg2, one_ne, nI_pos' (show k < 2 ^ 31 by omega), if_true, if_false, mT0, bnd, rt, mF])
theorem A_nearestPad (x : Int32) : Ans T (fun a => FX7_nearestPad a x) (fun a => FX8_nearestPad a x) (fun r r' : Int32 => r = r') [(IOB, 1), (NSE, 2)] := Aq (fun μ ν b m S M n q c h0 hb hm hk9 hR => by
  have hA := puc_At (μ := μ) (b := b) (S := S) hk9
  have hn9 := hR.1.1
  rcases in_or (x := x) (n := n) (by omega) with hx | ⟨d, hd, rfl⟩
  · refine Or.inr ⟨(IOB, 1), 0, by simp, ?_, ?_⟩
    · simp only [FX7_nearestPad, k_R0 hb, k_R1 hb, k_vc0 hb, L_vc hk9, L_vc1 hk9, L_vc8 hk9, q_R0_0 hA sa_pos, q_R0_1 hA sa_pos, q_R0_2 hA sa_pos, q_J0_3 hA sa_pos, q_I0_4 hA sa_pos, q_I0_5 hA sa_pos, q_I0_6 hA sa_pos, q_I0_7 hA sa_pos, q_I0_8 hA sa_pos, q_I0_9 hA sa_pos, q_R1_0 hA, q_R1_1 hA, q_R1_2 hA, q_R1_3 hA, q_R1_4 hA, q_R1_5 hA, q_I1_6 hA, q_R8_0 hA, q_R8_1 hA, q_R8_2 hA, q_I8_3 hA, q_a0 hA, q_a1 hA, q_a2 hA, q_a3 hA, q_a4 hA, q_a5 hA, q_a6 hA, q_a7 hA, q_a8 hA, q_a12 hA, D_out hb h0 hk9 hR hx, bnd]
    · simp only [FX8_nearestPad, FX8_nearestPad_B27, w_I0, w_I1, w_I2, w_I3, w_I4, w_R5, w_R6, w_R7, w_R8, w_R9, w_R10, w_R11, w_R12, w_R13, w_R14, w_R15, w_I16, w_I17, w_I18, w_I19, w_I20, w_I21, w_vc, w_a0, w_s0, w_a1, w_s1, w_a2, w_s2, w_a3, w_s3, w_a4, w_s4, w_a5, w_s5, w_a6, w_s6, w_a7, w_s7, w_a8, w_s8, w_a9, w_s9, w_a10, w_s10, w_p0, w_p1, w_p2, w_p3, w_p4, w_p16, w_p17, w_p18, w_p19, w_p20, w_p21, o_0, o_1, o_2, o_3, o_4, o_5, hm, i_0, z_0, i_1, z_1, i_2, z_2, i_3, z_3, i_4, z_4, i_5, z_5, i_6, z_6, i_7, z_7, i_8, z_8, isDr_out hm hR hx, if_true, z10, if_false, mT0, bnd, rt, mF]
  · have ho := hR.1.2.2.2.1 d hd
    have hin : inb (nI d) 10 = true := inb_n (by omega) (by omega)
    have hcl : (nI d).toNatClampNeg = d := nI_clamp (by omega)
    have hD := D_in (μ := μ) hb hk9 hR hd
    obtain ⟨y, hy, hy2⟩ := ho.2.1
    have hP := hR.2.1
    have hNq : ∀ (nn : Nat), n = nn → True := fun _ _ => trivial
    have hpd : FX4_padByDistance (sa b S.2.2.2) (nI y) (puc μ b S) = rt (npd (S.1 S.2.2.2).2.2 (nI y)) (puc μ b S) := L_q hk9 (fun μ' => by rw [e_npd sa_pos])
    by_cases hq : q = 0
    · subst hq
      have hn : npd (S.1 S.2.2.2).2.2 (nI y) = -1 := by
        rcases npd_s (p := (S.1 S.2.2.2).2.2) hy with ⟨e, -⟩ | ⟨k, -, e⟩
        · exact e
        · have e2 := e.2.1
          rw [RP_0 hP k e.1] at e2; exact absurd e2 (by decide)
      rw [hn] at hpd
      refine Or.inr ⟨(NSE, 2), 0, by simp, ?_, ?_⟩
      · simp only [FX7_nearestPad, k_R0 hb, k_R1 hb, k_vc0 hb, L_vc hk9, L_vc1 hk9, L_vc8 hk9, q_R0_0 hA sa_pos, q_R0_1 hA sa_pos, q_R0_2 hA sa_pos, q_J0_3 hA sa_pos, q_I0_4 hA sa_pos, q_I0_5 hA sa_pos, q_I0_6 hA sa_pos, q_I0_7 hA sa_pos, q_I0_8 hA sa_pos, q_I0_9 hA sa_pos, q_R1_0 hA, q_R1_1 hA, q_R1_2 hA, q_R1_3 hA, q_R1_4 hA, q_R1_5 hA, q_I1_6 hA, q_R8_0 hA, q_R8_1 hA, q_R8_2 hA, q_I8_3 hA, q_a0 hA, q_a1 hA, q_a2 hA, q_a3 hA, q_a4 hA, q_a5 hA, q_a6 hA, q_a7 hA, q_a8 hA, q_a12 hA, hD, hin, hcl, hy2, hpd, if_true, bnd, rt, found_no hb h0]
      · simp only [FX8_nearestPadByRings, FX8_nearestPad, FX8_nearestPad_B27, w_I0, w_I1, w_I2, w_I3, w_I4, w_R5, w_R6, w_R7, w_R8, w_R9, w_R10, w_R11, w_R12, w_R13, w_R14, w_R15, w_I16, w_I17, w_I18, w_I19, w_I20, w_I21, w_vc, w_a0, w_s0, w_a1, w_s1, w_a2, w_s2, w_a3, w_s3, w_a4, w_s4, w_a5, w_s5, w_a6, w_s6, w_a7, w_s7, w_a8, w_s8, w_a9, w_s9, w_a10, w_s10, w_p0, w_p1, w_p2, w_p3, w_p4, w_p16, w_p17, w_p18, w_p19, w_p20, w_p21, o_0, o_1, o_2, o_3, o_4, o_5, hm, i_0, z_0, i_1, z_1, i_2, z_2, i_3, z_3, i_4, z_4, i_5, z_5, i_6, z_6, i_7, z_7, i_8, z_8, isDr_in hm hR hd, hP.2.1, nI_0, one_ne, z20, if_true, if_false, mT0, bnd, rt, mF]
    · have hPf : RP (S.1 S.2.2.2).2.2 ((mS M 11 0 0) 0) q := hP
      obtain ⟨k, e, hk⟩ := R_mne (M := mS M 11 0 0) (q := q) (d := d) hPf (by omega) hy (by rw [mTv, ho.1.1, hy2])
      have hk6 := hk.1
      rw [npd_u hy hk] at hpd
      have hmn := e_mne (μ := ν) (M := mS M 11 0 0) (q := q) (d := d) hm (by rw [mTv]; exact hP.2.1) hP.1 (by omega) (by omega)
      rw [e] at hmn
      have hq9 := hP.1
      have hqn : ¬ nI q = 0 := nI_ne0 (by omega) (by omega)
      refine Or.inl ⟨nI k, nI k, ?_, ?_, rfl⟩
      · simp only [FX7_nearestPad, k_R0 hb, k_R1 hb, k_vc0 hb, L_vc hk9, L_vc1 hk9, L_vc8 hk9, q_R0_0 hA sa_pos, q_R0_1 hA sa_pos, q_R0_2 hA sa_pos, q_J0_3 hA sa_pos, q_I0_4 hA sa_pos, q_I0_5 hA sa_pos, q_I0_6 hA sa_pos, q_I0_7 hA sa_pos, q_I0_8 hA sa_pos, q_I0_9 hA sa_pos, q_R1_0 hA, q_R1_1 hA, q_R1_2 hA, q_R1_3 hA, q_R1_4 hA, q_R1_5 hA, q_I1_6 hA, q_R8_0 hA, q_R8_1 hA, q_R8_2 hA, q_I8_3 hA, q_a0 hA, q_a1 hA, q_a2 hA, q_a3 hA, q_a4 hA, q_a5 hA, q_a6 hA, q_a7 hA, q_a8 hA, q_a12 hA, hD, hin, hcl, hy2, hpd, if_true, bnd, rt, found_ok (show k < 2 ^ 31 by omega)]
      · simp only [FX8_nearestPadByRings, FX8_nearestPad, FX8_nearestPad_B27, w_I0, w_I1, w_I2, w_I3, w_I4, w_R5, w_R6, w_R7, w_R8, w_R9, w_R10, w_R11, w_R12, w_R13, w_R14, w_R15, w_I16, w_I17, w_I18, w_I19, w_I20, w_I21, w_vc, w_a0, w_s0, w_a1, w_s1, w_a2, w_s2, w_a3, w_s3, w_a4, w_s4, w_a5, w_s5, w_a6, w_s6, w_a7, w_s7, w_a8, w_s8, w_a9, w_s9, w_a10, w_s10, w_p0, w_p1, w_p2, w_p3, w_p4, w_p16, w_p17, w_p18, w_p19, w_p20, w_p21, o_0, o_1, o_2, o_3, o_4, o_5, hm, i_0, z_0, i_1, z_1, i_2, z_2, i_3, z_3, i_4, z_4, i_5, z_5, i_6, z_6, i_7, z_7, i_8, z_8, isDr_in hm hR hd, hP.2.1, hqn, hmn, one_ne, if_true, if_false, mT0, bnd, rt, mF])
theorem A_nearestPadByRings (x : Int32) : Ans T (fun a => FX7_nearestPadByRings a x) (fun a => FX8_nearestPadByRings a x) (fun r r' : Int32 => r = r') [(IOB, 1), (NSE, 2)] := Aq (fun μ ν b m S M n q c h0 hb hm hk9 hR => by
  have hA := puc_At (μ := μ) (b := b) (S := S) hk9
  have hn9 := hR.1.1
  rcases in_or (x := x) (n := n) (by omega) with hx | ⟨d, hd, rfl⟩
  · refine Or.inr ⟨(IOB, 1), 0, by simp, ?_, ?_⟩
    · simp only [FX7_nearestPadByRings, k_R0 hb, k_R1 hb, k_vc0 hb, L_vc hk9, L_vc1 hk9, L_vc8 hk9, q_R0_0 hA sa_pos, q_R0_1 hA sa_pos, q_R0_2 hA sa_pos, q_J0_3 hA sa_pos, q_I0_4 hA sa_pos, q_I0_5 hA sa_pos, q_I0_6 hA sa_pos, q_I0_7 hA sa_pos, q_I0_8 hA sa_pos, q_I0_9 hA sa_pos, q_R1_0 hA, q_R1_1 hA, q_R1_2 hA, q_R1_3 hA, q_R1_4 hA, q_R1_5 hA, q_I1_6 hA, q_R8_0 hA, q_R8_1 hA, q_R8_2 hA, q_I8_3 hA, q_a0 hA, q_a1 hA, q_a2 hA, q_a3 hA, q_a4 hA, q_a5 hA, q_a6 hA, q_a7 hA, q_a8 hA, q_a12 hA, D_out hb h0 hk9 hR hx, bnd]
    · simp only [FX8_nearestPadByRings, FX8_nearestPad, FX8_nearestPad_B27, w_I0, w_I1, w_I2, w_I3, w_I4, w_R5, w_R6, w_R7, w_R8, w_R9, w_R10, w_R11, w_R12, w_R13, w_R14, w_R15, w_I16, w_I17, w_I18, w_I19, w_I20, w_I21, w_vc, w_a0, w_s0, w_a1, w_s1, w_a2, w_s2, w_a3, w_s3, w_a4, w_s4, w_a5, w_s5, w_a6, w_s6, w_a7, w_s7, w_a8, w_s8, w_a9, w_s9, w_a10, w_s10, w_p0, w_p1, w_p2, w_p3, w_p4, w_p16, w_p17, w_p18, w_p19, w_p20, w_p21, o_0, o_1, o_2, o_3, o_4, o_5, hm, i_0, z_0, i_1, z_1, i_2, z_2, i_3, z_3, i_4, z_4, i_5, z_5, i_6, z_6, i_7, z_7, i_8, z_8, isDr_out hm hR hx, if_true, z10, if_false, mT0, bnd, rt, mF]
  · have ho := hR.1.2.2.2.1 d hd
    have hin : inb (nI d) 10 = true := inb_n (by omega) (by omega)
    have hcl : (nI d).toNatClampNeg = d := nI_clamp (by omega)
    have hD := D_in (μ := μ) hb hk9 hR hd
    obtain ⟨y, hy, hy2⟩ := ho.2.1
    have hP := hR.2.1
    have hNq : ∀ (nn : Nat), n = nn → True := fun _ _ => trivial
    have hpd : FX4_padByRings (sa b S.2.2.2) (nI y) (puc μ b S) = rt (npd (S.1 S.2.2.2).2.2 (nI y)) (puc μ b S) := L_q hk9 (fun μ' => by rw [e_rgs sa_pos]; rw [rgs_npd hy])
    by_cases hq : q = 0
    · subst hq
      have hn : npd (S.1 S.2.2.2).2.2 (nI y) = -1 := by
        rcases npd_s (p := (S.1 S.2.2.2).2.2) hy with ⟨e, -⟩ | ⟨k, -, e⟩
        · exact e
        · have e2 := e.2.1
          rw [RP_0 hP k e.1] at e2; exact absurd e2 (by decide)
      rw [hn] at hpd
      refine Or.inr ⟨(NSE, 2), 0, by simp, ?_, ?_⟩
      · simp only [FX7_nearestPadByRings, k_R0 hb, k_R1 hb, k_vc0 hb, L_vc hk9, L_vc1 hk9, L_vc8 hk9, q_R0_0 hA sa_pos, q_R0_1 hA sa_pos, q_R0_2 hA sa_pos, q_J0_3 hA sa_pos, q_I0_4 hA sa_pos, q_I0_5 hA sa_pos, q_I0_6 hA sa_pos, q_I0_7 hA sa_pos, q_I0_8 hA sa_pos, q_I0_9 hA sa_pos, q_R1_0 hA, q_R1_1 hA, q_R1_2 hA, q_R1_3 hA, q_R1_4 hA, q_R1_5 hA, q_I1_6 hA, q_R8_0 hA, q_R8_1 hA, q_R8_2 hA, q_I8_3 hA, q_a0 hA, q_a1 hA, q_a2 hA, q_a3 hA, q_a4 hA, q_a5 hA, q_a6 hA, q_a7 hA, q_a8 hA, q_a12 hA, hD, hin, hcl, hy2, hpd, if_true, bnd, rt, found_no hb h0]
      · simp only [FX8_nearestPadByRings, FX8_nearestPad, FX8_nearestPad_B27, w_I0, w_I1, w_I2, w_I3, w_I4, w_R5, w_R6, w_R7, w_R8, w_R9, w_R10, w_R11, w_R12, w_R13, w_R14, w_R15, w_I16, w_I17, w_I18, w_I19, w_I20, w_I21, w_vc, w_a0, w_s0, w_a1, w_s1, w_a2, w_s2, w_a3, w_s3, w_a4, w_s4, w_a5, w_s5, w_a6, w_s6, w_a7, w_s7, w_a8, w_s8, w_a9, w_s9, w_a10, w_s10, w_p0, w_p1, w_p2, w_p3, w_p4, w_p16, w_p17, w_p18, w_p19, w_p20, w_p21, o_0, o_1, o_2, o_3, o_4, o_5, hm, i_0, z_0, i_1, z_1, i_2, z_2, i_3, z_3, i_4, z_4, i_5, z_5, i_6, z_6, i_7, z_7, i_8, z_8, isDr_in hm hR hd, hP.2.1, nI_0, one_ne, z20, if_true, if_false, mT0, bnd, rt, mF]
    · have hPf : RP (S.1 S.2.2.2).2.2 ((mS M 11 0 0) 0) q := hP
      obtain ⟨k, e, hk⟩ := R_mne (M := mS M 11 0 0) (q := q) (d := d) hPf (by omega) hy (by rw [mTv, ho.1.1, hy2])
      have hk6 := hk.1
      rw [npd_u hy hk] at hpd
      have hmn := e_mne (μ := ν) (M := mS M 11 0 0) (q := q) (d := d) hm (by rw [mTv]; exact hP.2.1) hP.1 (by omega) (by omega)
      rw [e] at hmn
      have hq9 := hP.1
      have hqn : ¬ nI q = 0 := nI_ne0 (by omega) (by omega)
      refine Or.inl ⟨nI k, nI k, ?_, ?_, rfl⟩
      · simp only [FX7_nearestPadByRings, k_R0 hb, k_R1 hb, k_vc0 hb, L_vc hk9, L_vc1 hk9, L_vc8 hk9, q_R0_0 hA sa_pos, q_R0_1 hA sa_pos, q_R0_2 hA sa_pos, q_J0_3 hA sa_pos, q_I0_4 hA sa_pos, q_I0_5 hA sa_pos, q_I0_6 hA sa_pos, q_I0_7 hA sa_pos, q_I0_8 hA sa_pos, q_I0_9 hA sa_pos, q_R1_0 hA, q_R1_1 hA, q_R1_2 hA, q_R1_3 hA, q_R1_4 hA, q_R1_5 hA, q_I1_6 hA, q_R8_0 hA, q_R8_1 hA, q_R8_2 hA, q_I8_3 hA, q_a0 hA, q_a1 hA, q_a2 hA, q_a3 hA, q_a4 hA, q_a5 hA, q_a6 hA, q_a7 hA, q_a8 hA, q_a12 hA, hD, hin, hcl, hy2, hpd, if_true, bnd, rt, found_ok (show k < 2 ^ 31 by omega)]
      · simp only [FX8_nearestPadByRings, FX8_nearestPad, FX8_nearestPad_B27, w_I0, w_I1, w_I2, w_I3, w_I4, w_R5, w_R6, w_R7, w_R8, w_R9, w_R10, w_R11, w_R12, w_R13, w_R14, w_R15, w_I16, w_I17, w_I18, w_I19, w_I20, w_I21, w_vc, w_a0, w_s0, w_a1, w_s1, w_a2, w_s2, w_a3, w_s3, w_a4, w_s4, w_a5, w_s5, w_a6, w_s6, w_a7, w_s7, w_a8, w_s8, w_a9, w_s9, w_a10, w_s10, w_p0, w_p1, w_p2, w_p3, w_p4, w_p16, w_p17, w_p18, w_p19, w_p20, w_p21, o_0, o_1, o_2, o_3, o_4, o_5, hm, i_0, z_0, i_1, z_1, i_2, z_2, i_3, z_3, i_4, z_4, i_5, z_5, i_6, z_6, i_7, z_7, i_8, z_8, isDr_in hm hR hd, hP.2.1, hqn, hmn, one_ne, if_true, if_false, mT0, bnd, rt, mF])
theorem A_wantedCell (x : Int32) : Ans T (fun a => FX7_wantedCell a x) (fun a => FX8_wantedCell a x) (fun r r' : Int32 => r = r') [(IOB, 1), (NSE, 2)] := Aq (fun μ ν b m S M n q c h0 hb hm hk9 hR => by
  have hA := puc_At (μ := μ) (b := b) (S := S) hk9
  have hn9 := hR.1.1
  rcases in_or (x := x) (n := n) (by omega) with hx | ⟨d, hd, rfl⟩
  · refine Or.inr ⟨(IOB, 1), 0, by simp, ?_, ?_⟩
    · simp only [FX7_wantedCell, k_R0 hb, k_R1 hb, k_vc0 hb, L_vc hk9, L_vc1 hk9, L_vc8 hk9, q_R0_0 hA sa_pos, q_R0_1 hA sa_pos, q_R0_2 hA sa_pos, q_J0_3 hA sa_pos, q_I0_4 hA sa_pos, q_I0_5 hA sa_pos, q_I0_6 hA sa_pos, q_I0_7 hA sa_pos, q_I0_8 hA sa_pos, q_I0_9 hA sa_pos, q_R1_0 hA, q_R1_1 hA, q_R1_2 hA, q_R1_3 hA, q_R1_4 hA, q_R1_5 hA, q_I1_6 hA, q_R8_0 hA, q_R8_1 hA, q_R8_2 hA, q_I8_3 hA, q_a0 hA, q_a1 hA, q_a2 hA, q_a3 hA, q_a4 hA, q_a5 hA, q_a6 hA, q_a7 hA, q_a8 hA, q_a12 hA, D_out hb h0 hk9 hR hx, bnd]
    · simp only [FX8_wantedCell, FX8_wantedCell_B26, w_I0, w_I1, w_I2, w_I3, w_I4, w_R5, w_R6, w_R7, w_R8, w_R9, w_R10, w_R11, w_R12, w_R13, w_R14, w_R15, w_I16, w_I17, w_I18, w_I19, w_I20, w_I21, w_vc, w_a0, w_s0, w_a1, w_s1, w_a2, w_s2, w_a3, w_s3, w_a4, w_s4, w_a5, w_s5, w_a6, w_s6, w_a7, w_s7, w_a8, w_s8, w_a9, w_s9, w_a10, w_s10, w_p0, w_p1, w_p2, w_p3, w_p4, w_p16, w_p17, w_p18, w_p19, w_p20, w_p21, o_0, o_1, o_2, o_3, o_4, o_5, hm, i_0, z_0, i_1, z_1, i_2, z_2, i_3, z_3, i_4, z_4, i_5, z_5, i_6, z_6, i_7, z_7, i_8, z_8, isDr_out hm hR hx, if_true, z10, if_false, mT0, bnd, rt, mF]
  · have ho := hR.1.2.2.2.1 d hd
    have hin : inb (nI d) 10 = true := inb_n (by omega) (by omega)
    have hcl : (nI d).toNatClampNeg = d := nI_clamp (by omega)
    have hD := D_in (μ := μ) hb hk9 hR hd
    have hW : FX2_wish (sa b S.2.2.2 + 1) (nI d) (puc μ b S) = rt (wis (S.1 S.2.2.2) d) (puc μ b S) := L_q hk9 (fun μ' => e_wish (by omega))
    have hmw := e_mwa (μ := ν) (M := M) (m := m) (d := d) hm (by omega)
    have hmi := e_mwi (μ := ν) (M := mS M 11 0 0) (m := m) (d := d) hm (by omega)
    have hmi2 : mwi (mS M 11 0 0) d = mwi M d := by unfold mwi; simp only [mTv]
    rw [hmi2] at hmi
    rcases R_wis hR hd with ⟨w1, w2⟩ | ⟨w1, w2, w3, ⟨k, hk, w4⟩, -⟩
    · rw [w1] at hmw
      rw [w2] at hW
      refine Or.inr ⟨(NSE, 2), 0, by simp, ?_, ?_⟩
      · simp only [FX7_wantedCell, k_R0 hb, k_R1 hb, k_vc0 hb, L_vc hk9, L_vc1 hk9, L_vc8 hk9, q_R0_0 hA sa_pos, q_R0_1 hA sa_pos, q_R0_2 hA sa_pos, q_J0_3 hA sa_pos, q_I0_4 hA sa_pos, q_I0_5 hA sa_pos, q_I0_6 hA sa_pos, q_I0_7 hA sa_pos, q_I0_8 hA sa_pos, q_I0_9 hA sa_pos, q_R1_0 hA, q_R1_1 hA, q_R1_2 hA, q_R1_3 hA, q_R1_4 hA, q_R1_5 hA, q_I1_6 hA, q_R8_0 hA, q_R8_1 hA, q_R8_2 hA, q_I8_3 hA, q_a0 hA, q_a1 hA, q_a2 hA, q_a3 hA, q_a4 hA, q_a5 hA, q_a6 hA, q_a7 hA, q_a8 hA, q_a12 hA, hD, hW, bnd, rt, found_no hb h0]
      · simp only [FX8_wantedCell, FX8_wantedCell_B26, w_I0, w_I1, w_I2, w_I3, w_I4, w_R5, w_R6, w_R7, w_R8, w_R9, w_R10, w_R11, w_R12, w_R13, w_R14, w_R15, w_I16, w_I17, w_I18, w_I19, w_I20, w_I21, w_vc, w_a0, w_s0, w_a1, w_s1, w_a2, w_s2, w_a3, w_s3, w_a4, w_s4, w_a5, w_s5, w_a6, w_s6, w_a7, w_s7, w_a8, w_s8, w_a9, w_s9, w_a10, w_s10, w_p0, w_p1, w_p2, w_p3, w_p4, w_p16, w_p17, w_p18, w_p19, w_p20, w_p21, o_0, o_1, o_2, o_3, o_4, o_5, hm, i_0, z_0, i_1, z_1, i_2, z_2, i_3, z_3, i_4, z_4, i_5, z_5, i_6, z_6, i_7, z_7, i_8, z_8, isDr_in hm hR hd, hmw, one_ne, z20, if_true, if_false, mT0, bnd, rt, mF]
    · rw [w1] at hmw
      rw [w4] at hW w3
      rw [w3] at hmi
      refine Or.inl ⟨nI k, nI k, ?_, ?_, rfl⟩
      · simp only [FX7_wantedCell, k_R0 hb, k_R1 hb, k_vc0 hb, L_vc hk9, L_vc1 hk9, L_vc8 hk9, q_R0_0 hA sa_pos, q_R0_1 hA sa_pos, q_R0_2 hA sa_pos, q_J0_3 hA sa_pos, q_I0_4 hA sa_pos, q_I0_5 hA sa_pos, q_I0_6 hA sa_pos, q_I0_7 hA sa_pos, q_I0_8 hA sa_pos, q_I0_9 hA sa_pos, q_R1_0 hA, q_R1_1 hA, q_R1_2 hA, q_R1_3 hA, q_R1_4 hA, q_R1_5 hA, q_I1_6 hA, q_R8_0 hA, q_R8_1 hA, q_R8_2 hA, q_I8_3 hA, q_a0 hA, q_a1 hA, q_a2 hA, q_a3 hA, q_a4 hA, q_a5 hA, q_a6 hA, q_a7 hA, q_a8 hA, q_a12 hA, hD, hW, bnd, rt, found_ok (show k < 2 ^ 31 by omega)]
      · simp only [FX8_wantedCell, FX8_wantedCell_B26, w_I0, w_I1, w_I2, w_I3, w_I4, w_R5, w_R6, w_R7, w_R8, w_R9, w_R10, w_R11, w_R12, w_R13, w_R14, w_R15, w_I16, w_I17, w_I18, w_I19, w_I20, w_I21, w_vc, w_a0, w_s0, w_a1, w_s1, w_a2, w_s2, w_a3, w_s3, w_a4, w_s4, w_a5, w_s5, w_a6, w_s6, w_a7, w_s7, w_a8, w_s8, w_a9, w_s9, w_a10, w_s10, w_p0, w_p1, w_p2, w_p3, w_p4, w_p16, w_p17, w_p18, w_p19, w_p20, w_p21, o_0, o_1, o_2, o_3, o_4, o_5, hm, i_0, z_0, i_1, z_1, i_2, z_2, i_3, z_3, i_4, z_4, i_5, z_5, i_6, z_6, i_7, z_7, i_8, z_8, isDr_in hm hR hd, hmw, hmi, one_ne, if_true, if_false, mT0, bnd, rt, mF])
theorem A_droneAt (x : Int32) : Ans T (fun a => FX7_droneAt a x) (fun a => FX8_droneAt a x) (fun r r' : Int32 => r = r') [(IOB, 1), (NSE, 2)] := Aq (fun μ ν b m S M n q c h0 hb hm hk9 hR => by
  have hA := puc_At (μ := μ) (b := b) (S := S) hk9
  have hn9 := hR.1.1
  rcases in_or (x := x) (n := 64) (by decide) with hx | ⟨k, hk, rfl⟩
  · refine Or.inr ⟨(IOB, 1), 0, by simp, ?_, ?_⟩
    · simp only [FX7_droneAt, D_cellx hb h0 hx, bnd]
    · simp only [FX8_droneAt, w_vc hm, e_misCell, isC_i hx, e_fail hm, if_true, bnd, rt, mF]
  · have hO : FX2_occupant (sa b S.2.2.2 + 1) (nI k) (puc μ b S) = rt (ocp (S.1 S.2.2.2) n (nI k)) (puc μ b S) := L_q hk9 (fun μ' => e_occ hR.1.2.1 hn9)
    have hI := e_in (μ := ν) (x := nI k) hm hR.1.2.2.1 hn9
    rw [R_occ hR.1 rfl] at hI
    rcases ocp_in (S.1 S.2.2.2) n (nI k) with e | ⟨j, hj, e, -⟩
    · rw [e] at hO hI
      refine Or.inr ⟨(NSE, 2), 0, by simp, ?_, ?_⟩
      · simp only [FX7_droneAt, D_cell hk, k_R0 hb, k_R1 hb, k_vc0 hb, L_vc hk9, L_vc1 hk9, L_vc8 hk9, q_R0_0 hA sa_pos, q_R0_1 hA sa_pos, q_R0_2 hA sa_pos, q_J0_3 hA sa_pos, q_I0_4 hA sa_pos, q_I0_5 hA sa_pos, q_I0_6 hA sa_pos, q_I0_7 hA sa_pos, q_I0_8 hA sa_pos, q_I0_9 hA sa_pos, q_R1_0 hA, q_R1_1 hA, q_R1_2 hA, q_R1_3 hA, q_R1_4 hA, q_R1_5 hA, q_I1_6 hA, q_R8_0 hA, q_R8_1 hA, q_R8_2 hA, q_I8_3 hA, q_a0 hA, q_a1 hA, q_a2 hA, q_a3 hA, q_a4 hA, q_a5 hA, q_a6 hA, q_a7 hA, q_a8 hA, q_a12 hA, hO, bnd, rt, found_no hb h0]
      · simp only [FX8_droneAt, FX8_droneAt_B29, w_I0, w_I1, w_I2, w_I3, w_I4, w_R5, w_R6, w_R7, w_R8, w_R9, w_R10, w_R11, w_R12, w_R13, w_R14, w_R15, w_I16, w_I17, w_I18, w_I19, w_I20, w_I21, w_vc, w_a0, w_s0, w_a1, w_s1, w_a2, w_s2, w_a3, w_s3, w_a4, w_s4, w_a5, w_s5, w_a6, w_s6, w_a7, w_s7, w_a8, w_s8, w_a9, w_s9, w_a10, w_s10, w_p0, w_p1, w_p2, w_p3, w_p4, w_p16, w_p17, w_p18, w_p19, w_p20, w_p21, o_0, o_1, o_2, o_3, o_4, o_5, hm, i_0, z_0, i_1, z_1, i_2, z_2, i_3, z_3, i_4, z_4, i_5, z_5, i_6, z_6, i_7, z_7, i_8, z_8, e_misCell, isC_j hk, hI, one_ne, m1_neg, z20, if_true, if_false, mT0, bnd, rt, mF]
    · rw [e] at hO hI
      refine Or.inl ⟨nI j, nI j, ?_, ?_, rfl⟩
      · simp only [FX7_droneAt, D_cell hk, k_R0 hb, k_R1 hb, k_vc0 hb, L_vc hk9, L_vc1 hk9, L_vc8 hk9, q_R0_0 hA sa_pos, q_R0_1 hA sa_pos, q_R0_2 hA sa_pos, q_J0_3 hA sa_pos, q_I0_4 hA sa_pos, q_I0_5 hA sa_pos, q_I0_6 hA sa_pos, q_I0_7 hA sa_pos, q_I0_8 hA sa_pos, q_I0_9 hA sa_pos, q_R1_0 hA, q_R1_1 hA, q_R1_2 hA, q_R1_3 hA, q_R1_4 hA, q_R1_5 hA, q_I1_6 hA, q_R8_0 hA, q_R8_1 hA, q_R8_2 hA, q_I8_3 hA, q_a0 hA, q_a1 hA, q_a2 hA, q_a3 hA, q_a4 hA, q_a5 hA, q_a6 hA, q_a7 hA, q_a8 hA, q_a12 hA, hO, bnd, rt, found_ok (show j < 2 ^ 31 by omega)]
      · simp only [FX8_droneAt, FX8_droneAt_B29, w_I0, w_I1, w_I2, w_I3, w_I4, w_R5, w_R6, w_R7, w_R8, w_R9, w_R10, w_R11, w_R12, w_R13, w_R14, w_R15, w_I16, w_I17, w_I18, w_I19, w_I20, w_I21, w_vc, w_a0, w_s0, w_a1, w_s1, w_a2, w_s2, w_a3, w_s3, w_a4, w_s4, w_a5, w_s5, w_a6, w_s6, w_a7, w_s7, w_a8, w_s8, w_a9, w_s9, w_a10, w_s10, w_p0, w_p1, w_p2, w_p3, w_p4, w_p16, w_p17, w_p18, w_p19, w_p20, w_p21, o_0, o_1, o_2, o_3, o_4, o_5, hm, i_0, z_0, i_1, z_1, i_2, z_2, i_3, z_3, i_4, z_4, i_5, z_5, i_6, z_6, i_7, z_7, i_8, z_8, e_misCell, isC_j hk, hI, one_ne, nI_pos' (show j < 2 ^ 31 by omega), if_true, if_false, mT0, bnd, rt, mF])
theorem A_isPad (x : Int32) : Ans T (fun a => FX7_isPad a x) (fun a => FX8_isPad a x) (fun r r' : Int32 => r = r') [(IOB, 1)] := Aq (fun μ ν b m S M n q c h0 hb hm hk9 hR => by
  have hA := puc_At (μ := μ) (b := b) (S := S) hk9
  have hn9 := hR.1.1
  rcases in_or (x := x) (n := 64) (by decide) with hx | ⟨k, hk, rfl⟩
  · refine Or.inr ⟨(IOB, 1), 0, by simp, ?_, ?_⟩
    · simp only [FX7_isPad, D_cellx hb h0 hx, bnd]
    · simp only [FX8_isPad, FX8_isPad_B13, w_I0, w_I1, w_I2, w_I3, w_I4, w_R5, w_R6, w_R7, w_R8, w_R9, w_R10, w_R11, w_R12, w_R13, w_R14, w_R15, w_I16, w_I17, w_I18, w_I19, w_I20, w_I21, w_vc, w_a0, w_s0, w_a1, w_s1, w_a2, w_s2, w_a3, w_s3, w_a4, w_s4, w_a5, w_s5, w_a6, w_s6, w_a7, w_s7, w_a8, w_s8, w_a9, w_s9, w_a10, w_s10, w_p0, w_p1, w_p2, w_p3, w_p4, w_p16, w_p17, w_p18, w_p19, w_p20, w_p21, o_0, o_1, o_2, o_3, o_4, o_5, hm, i_0, z_0, i_1, z_1, i_2, z_2, i_3, z_3, i_4, z_4, i_5, z_5, i_6, z_6, i_7, z_7, i_8, z_8, e_misCell, isC_i hx, z10, mT0, if_true, if_false, bnd, rt, mF]
  · have hI := e_ipc (μ := ν) (M := mS M 11 0 0) (x := nI k) hm (by rw [mTv]; exact hR.2.1.2.1) hR.2.1.1
    have hI2 : mpc (mS M 11 0 0) q (nI k) = cnt (S.1 S.2.2.2).2.2 (nI k) := R_pad (M := mS M 11 0 0) (v := M 0) hR.2.1 rfl hk
    rw [hI2] at hI
    have hz : cnt (S.1 S.2.2.2).2.2 (nI k) = 0 ∨ cnt (S.1 S.2.2.2).2.2 (nI k) = 1 := by
      rw [cnt_tb hk]; split <;> simp
    refine Or.inl ⟨cnt (S.1 S.2.2.2).2.2 (nI k), cnt (S.1 S.2.2.2).2.2 (nI k), ?_, ?_, rfl⟩
    · simp only [FX7_isPad, D_cell hk, k_R0 hb, k_R1 hb, k_vc0 hb, L_vc hk9, L_vc1 hk9, L_vc8 hk9, q_R0_0 hA sa_pos, q_R0_1 hA sa_pos, q_R0_2 hA sa_pos, q_J0_3 hA sa_pos, q_I0_4 hA sa_pos, q_I0_5 hA sa_pos, q_I0_6 hA sa_pos, q_I0_7 hA sa_pos, q_I0_8 hA sa_pos, q_I0_9 hA sa_pos, q_R1_0 hA, q_R1_1 hA, q_R1_2 hA, q_R1_3 hA, q_R1_4 hA, q_R1_5 hA, q_I1_6 hA, q_R8_0 hA, q_R8_1 hA, q_R8_2 hA, q_I8_3 hA, q_a0 hA, q_a1 hA, q_a2 hA, q_a3 hA, q_a4 hA, q_a5 hA, q_a6 hA, q_a7 hA, q_a8 hA, q_a12 hA, e_contains, nar_b hz, gd, if_true, bnd, rt]
    · simp only [FX8_isPad, FX8_isPad_B13, w_I0, w_I1, w_I2, w_I3, w_I4, w_R5, w_R6, w_R7, w_R8, w_R9, w_R10, w_R11, w_R12, w_R13, w_R14, w_R15, w_I16, w_I17, w_I18, w_I19, w_I20, w_I21, w_vc, w_a0, w_s0, w_a1, w_s1, w_a2, w_s2, w_a3, w_s3, w_a4, w_s4, w_a5, w_s5, w_a6, w_s6, w_a7, w_s7, w_a8, w_s8, w_a9, w_s9, w_a10, w_s10, w_p0, w_p1, w_p2, w_p3, w_p4, w_p16, w_p17, w_p18, w_p19, w_p20, w_p21, o_0, o_1, o_2, o_3, o_4, o_5, hm, i_0, z_0, i_1, z_1, i_2, z_2, i_3, z_3, i_4, z_4, i_5, z_5, i_6, z_6, i_7, z_7, i_8, z_8, e_misCell, isC_j hk, hI, one_ne, mT0, if_true, if_false, bnd, rt, mF]
      rcases hz with e | e <;> rw [e]
      · rw [if_pos rfl]
      · rw [if_neg (by decide)])
theorem A_formationMask (x : Int32) : Ans T (fun a => FX7_formationMask a x) (fun a => FX8_formationMask a x) (fun r r' : Int64 => r = r') [(IOB, 1)] := Aq (fun μ ν b m S M n q c h0 hb hm hk9 hR => by
  have hA := puc_At (μ := μ) (b := b) (S := S) hk9
  have hn9 := hR.1.1
  rcases in_or (x := x) (n := 4) (by decide) with hx | ⟨f, hf, rfl⟩
  · refine Or.inr ⟨(IOB, 1), 0, by simp, ?_, ?_⟩
    · simp only [FX7_formationMask, D_formx hb h0 hx, bnd]
    · simp only [FX8_formationMask, FX8_formationMask_B13, w_I0, w_I1, w_I2, w_I3, w_I4, w_R5, w_R6, w_R7, w_R8, w_R9, w_R10, w_R11, w_R12, w_R13, w_R14, w_R15, w_I16, w_I17, w_I18, w_I19, w_I20, w_I21, w_vc, w_a0, w_s0, w_a1, w_s1, w_a2, w_s2, w_a3, w_s3, w_a4, w_s4, w_a5, w_s5, w_a6, w_s6, w_a7, w_s7, w_a8, w_s8, w_a9, w_s9, w_a10, w_s10, w_p0, w_p1, w_p2, w_p3, w_p4, w_p16, w_p17, w_p18, w_p19, w_p20, w_p21, o_0, o_1, o_2, o_3, o_4, o_5, hm, i_0, z_0, i_1, z_1, i_2, z_2, i_3, z_3, i_4, z_4, i_5, z_5, i_6, z_6, i_7, z_7, i_8, z_8, e_misForm, isF_i hx, z10, mT0, if_true, if_false, bnd, rt, mF]
  · have hin : inb (nI f) 4 = true := inb_n (by omega) (by omega)
    have hcl : (nI f).toNatClampNeg = f := nI_clamp (by omega)
    have hmk := e_mask (μ := ν) (M := M) (t0 := 0) hm hf rfl
    rw [R_form hR hf] at hmk
    refine Or.inl ⟨(S.1 S.2.2.2).2.1 f, (S.1 S.2.2.2).2.1 f, ?_, ?_, rfl⟩
    · simp only [FX7_formationMask, D_form hf, k_R0 hb, k_R1 hb, k_vc0 hb, L_vc hk9, L_vc1 hk9, L_vc8 hk9, q_R0_0 hA sa_pos, q_R0_1 hA sa_pos, q_R0_2 hA sa_pos, q_J0_3 hA sa_pos, q_I0_4 hA sa_pos, q_I0_5 hA sa_pos, q_I0_6 hA sa_pos, q_I0_7 hA sa_pos, q_I0_8 hA sa_pos, q_I0_9 hA sa_pos, q_R1_0 hA, q_R1_1 hA, q_R1_2 hA, q_R1_3 hA, q_R1_4 hA, q_R1_5 hA, q_I1_6 hA, q_R8_0 hA, q_R8_1 hA, q_R8_2 hA, q_I8_3 hA, q_a0 hA, q_a1 hA, q_a2 hA, q_a3 hA, q_a4 hA, q_a5 hA, q_a6 hA, q_a7 hA, q_a8 hA, q_a12 hA, hin, hcl, if_true, bnd, rt]
    · simp only [FX8_formationMask, e_misForm, isF_j hf, one_ne, if_false, bnd, rt, mF]
      exact hmk)
theorem A_matchCount (x : Int32) : Ans T (fun a => FX7_matchCount a x) (fun a => FX8_matchCount a x) (fun r r' : Int32 => r = r') [(IOB, 1)] := Aq (fun μ ν b m S M n q c h0 hb hm hk9 hR => by
  have hA := puc_At (μ := μ) (b := b) (S := S) hk9
  have hn9 := hR.1.1
  rcases in_or (x := x) (n := 4) (by decide) with hx | ⟨f, hf, rfl⟩
  · refine Or.inr ⟨(IOB, 1), 0, by simp, ?_, ?_⟩
    · simp only [FX7_matchCount, D_formx hb h0 hx, bnd]
    · simp only [FX8_matchCount, FX8_matchCount_B13, w_I0, w_I1, w_I2, w_I3, w_I4, w_R5, w_R6, w_R7, w_R8, w_R9, w_R10, w_R11, w_R12, w_R13, w_R14, w_R15, w_I16, w_I17, w_I18, w_I19, w_I20, w_I21, w_vc, w_a0, w_s0, w_a1, w_s1, w_a2, w_s2, w_a3, w_s3, w_a4, w_s4, w_a5, w_s5, w_a6, w_s6, w_a7, w_s7, w_a8, w_s8, w_a9, w_s9, w_a10, w_s10, w_p0, w_p1, w_p2, w_p3, w_p4, w_p16, w_p17, w_p18, w_p19, w_p20, w_p21, o_0, o_1, o_2, o_3, o_4, o_5, hm, i_0, z_0, i_1, z_1, i_2, z_2, i_3, z_3, i_4, z_4, i_5, z_5, i_6, z_6, i_7, z_7, i_8, z_8, e_misForm, isF_i hx, z10, mT0, if_true, if_false, bnd, rt, mF]
  · have hmm := e_mmt (μ := ν) (M := mS M 11 0 0) (f := f) hm hf (by rw [mTv]; exact hR.1.2.2.1) hn9
    have hmt : mmt (mS M 11 0 0) f n = mmt M f n := rfl
    obtain ⟨h1, -⟩ := R_mmt hR hf
    rw [hmt, h1] at hmm
    have hX : FX4_matchesByMask (sa b S.2.2.2) (nI f) (puc μ b S) = rt (bcn ((S.1 S.2.2.2).2.1 f &&& flm (S.1 S.2.2.2) n)) (puc μ b S) := L_q hk9 (fun μ' => e_mbm sa_pos hf hR.1.2.1 hn9)
    rw [bcn_ct] at hX
    refine Or.inl ⟨nI (ctb (tb ((S.1 S.2.2.2).2.1 f &&& flm (S.1 S.2.2.2) n)) 64), nI (ctb (tb ((S.1 S.2.2.2).2.1 f &&& flm (S.1 S.2.2.2) n)) 64), ?_, ?_, rfl⟩
    · simp only [FX7_matchCount, D_form hf, k_R0 hb, k_R1 hb, k_vc0 hb, L_vc hk9, L_vc1 hk9, L_vc8 hk9, q_R0_0 hA sa_pos, q_R0_1 hA sa_pos, q_R0_2 hA sa_pos, q_J0_3 hA sa_pos, q_I0_4 hA sa_pos, q_I0_5 hA sa_pos, q_I0_6 hA sa_pos, q_I0_7 hA sa_pos, q_I0_8 hA sa_pos, q_I0_9 hA sa_pos, q_R1_0 hA, q_R1_1 hA, q_R1_2 hA, q_R1_3 hA, q_R1_4 hA, q_R1_5 hA, q_I1_6 hA, q_R8_0 hA, q_R8_1 hA, q_R8_2 hA, q_I8_3 hA, q_a0 hA, q_a1 hA, q_a2 hA, q_a3 hA, q_a4 hA, q_a5 hA, q_a6 hA, q_a7 hA, q_a8 hA, q_a12 hA, hX, bnd, rt]
    · simp only [FX8_matchCount, FX8_matchCount_B13, w_I0, w_I1, w_I2, w_I3, w_I4, w_R5, w_R6, w_R7, w_R8, w_R9, w_R10, w_R11, w_R12, w_R13, w_R14, w_R15, w_I16, w_I17, w_I18, w_I19, w_I20, w_I21, w_vc, w_a0, w_s0, w_a1, w_s1, w_a2, w_s2, w_a3, w_s3, w_a4, w_s4, w_a5, w_s5, w_a6, w_s6, w_a7, w_s7, w_a8, w_s8, w_a9, w_s9, w_a10, w_s10, w_p0, w_p1, w_p2, w_p3, w_p4, w_p16, w_p17, w_p18, w_p19, w_p20, w_p21, o_0, o_1, o_2, o_3, o_4, o_5, hm, i_0, z_0, i_1, z_1, i_2, z_2, i_3, z_3, i_4, z_4, i_5, z_5, i_6, z_6, i_7, z_7, i_8, z_8, e_misForm, isF_j hf, one_ne, hmm, mT0, if_true, if_false, bnd, rt, mF])
theorem A_matchCountByScan (x : Int32) : Ans T (fun a => FX7_matchCountByScan a x) (fun a => FX8_matchCountByScan a x) (fun r r' : Int32 => r = r') [(IOB, 1)] := Aq (fun μ ν b m S M n q c h0 hb hm hk9 hR => by
  have hA := puc_At (μ := μ) (b := b) (S := S) hk9
  have hn9 := hR.1.1
  rcases in_or (x := x) (n := 4) (by decide) with hx | ⟨f, hf, rfl⟩
  · refine Or.inr ⟨(IOB, 1), 0, by simp, ?_, ?_⟩
    · simp only [FX7_matchCountByScan, D_formx hb h0 hx, bnd]
    · simp only [FX8_matchCountByScan, FX8_matchCount, FX8_matchCount_B13, w_I0, w_I1, w_I2, w_I3, w_I4, w_R5, w_R6, w_R7, w_R8, w_R9, w_R10, w_R11, w_R12, w_R13, w_R14, w_R15, w_I16, w_I17, w_I18, w_I19, w_I20, w_I21, w_vc, w_a0, w_s0, w_a1, w_s1, w_a2, w_s2, w_a3, w_s3, w_a4, w_s4, w_a5, w_s5, w_a6, w_s6, w_a7, w_s7, w_a8, w_s8, w_a9, w_s9, w_a10, w_s10, w_p0, w_p1, w_p2, w_p3, w_p4, w_p16, w_p17, w_p18, w_p19, w_p20, w_p21, o_0, o_1, o_2, o_3, o_4, o_5, hm, i_0, z_0, i_1, z_1, i_2, z_2, i_3, z_3, i_4, z_4, i_5, z_5, i_6, z_6, i_7, z_7, i_8, z_8, e_misForm, isF_i hx, z10, mT0, if_true, if_false, bnd, rt, mF]
  · have hmm := e_mmt (μ := ν) (M := mS M 11 0 0) (f := f) hm hf (by rw [mTv]; exact hR.1.2.2.1) hn9
    have hmt : mmt (mS M 11 0 0) f n = mmt M f n := rfl
    obtain ⟨h1, -⟩ := R_mmt hR hf
    rw [hmt, h1] at hmm
    have hX : FX4_matchesByScan (sa b S.2.2.2) (nI f) (puc μ b S) = rt (fo (mbs (S.1 S.2.2.2) n ((S.1 S.2.2.2).2.1 f)) 0 64 0) (puc μ b S) := L_q hk9 (fun μ' => e_mbs sa_pos hf hR.1.2.1 hn9)
    rw [R_mbs hR hf] at hX
    refine Or.inl ⟨nI (ctb (tb ((S.1 S.2.2.2).2.1 f &&& flm (S.1 S.2.2.2) n)) 64), nI (ctb (tb ((S.1 S.2.2.2).2.1 f &&& flm (S.1 S.2.2.2) n)) 64), ?_, ?_, rfl⟩
    · simp only [FX7_matchCountByScan, D_form hf, k_R0 hb, k_R1 hb, k_vc0 hb, L_vc hk9, L_vc1 hk9, L_vc8 hk9, q_R0_0 hA sa_pos, q_R0_1 hA sa_pos, q_R0_2 hA sa_pos, q_J0_3 hA sa_pos, q_I0_4 hA sa_pos, q_I0_5 hA sa_pos, q_I0_6 hA sa_pos, q_I0_7 hA sa_pos, q_I0_8 hA sa_pos, q_I0_9 hA sa_pos, q_R1_0 hA, q_R1_1 hA, q_R1_2 hA, q_R1_3 hA, q_R1_4 hA, q_R1_5 hA, q_I1_6 hA, q_R8_0 hA, q_R8_1 hA, q_R8_2 hA, q_I8_3 hA, q_a0 hA, q_a1 hA, q_a2 hA, q_a3 hA, q_a4 hA, q_a5 hA, q_a6 hA, q_a7 hA, q_a8 hA, q_a12 hA, hX, bnd, rt]
    · simp only [FX8_matchCountByScan, FX8_matchCount, FX8_matchCount_B13, w_I0, w_I1, w_I2, w_I3, w_I4, w_R5, w_R6, w_R7, w_R8, w_R9, w_R10, w_R11, w_R12, w_R13, w_R14, w_R15, w_I16, w_I17, w_I18, w_I19, w_I20, w_I21, w_vc, w_a0, w_s0, w_a1, w_s1, w_a2, w_s2, w_a3, w_s3, w_a4, w_s4, w_a5, w_s5, w_a6, w_s6, w_a7, w_s7, w_a8, w_s8, w_a9, w_s9, w_a10, w_s10, w_p0, w_p1, w_p2, w_p3, w_p4, w_p16, w_p17, w_p18, w_p19, w_p20, w_p21, o_0, o_1, o_2, o_3, o_4, o_5, hm, i_0, z_0, i_1, z_1, i_2, z_2, i_3, z_3, i_4, z_4, i_5, z_5, i_6, z_6, i_7, z_7, i_8, z_8, e_misForm, isF_j hf, one_ne, hmm, mT0, if_true, if_false, bnd, rt, mF])
theorem A_coverage (x : Int32) : Ans T (fun a => FX7_coverage a x) (fun a => FX8_coverage a x) (fun r r' : UInt32 => r = r' ∧ nn64 (FP.f2d r) = true ∧ Op.cmpValue (FP.dcmp (FP.f2d r) (FP.f2d r)) .l = 0) [(IOB, 1), (ARE, 2)] := Aq (fun μ ν b m S M n q c h0 hb hm hk9 hR => by
  have hA := puc_At (μ := μ) (b := b) (S := S) hk9
  have hn9 := hR.1.1
  rcases in_or (x := x) (n := 4) (by decide) with hx | ⟨f, hf, rfl⟩
  · refine Or.inr ⟨(IOB, 1), FP.fconst0, by simp, ?_, ?_⟩
    · simp only [FX7_coverage, D_formx hb h0 hx, bnd]
    · simp only [FX8_coverage, FX8_coverage_B25, w_I0, w_I1, w_I2, w_I3, w_I4, w_R5, w_R6, w_R7, w_R8, w_R9, w_R10, w_R11, w_R12, w_R13, w_R14, w_R15, w_I16, w_I17, w_I18, w_I19, w_I20, w_I21, w_vc, w_a0, w_s0, w_a1, w_s1, w_a2, w_s2, w_a3, w_s3, w_a4, w_s4, w_a5, w_s5, w_a6, w_s6, w_a7, w_s7, w_a8, w_s8, w_a9, w_s9, w_a10, w_s10, w_p0, w_p1, w_p2, w_p3, w_p4, w_p16, w_p17, w_p18, w_p19, w_p20, w_p21, o_0, o_1, o_2, o_3, o_4, o_5, hm, i_0, z_0, i_1, z_1, i_2, z_2, i_3, z_3, i_4, z_4, i_5, z_5, i_6, z_6, i_7, z_7, i_8, z_8, e_misForm, isF_i hx, z10, mT0, if_true, if_false, bnd, rt, mF]
  · have hmm := e_mmt (μ := ν) (M := mS M 11 0 0) (f := f) hm hf (by rw [mTv]; exact hR.1.2.2.1) hn9
    have hmt : mmt (mS M 11 0 0) f n = mmt M f n := rfl
    obtain ⟨h1, -⟩ := R_mmt hR hf
    rw [hmt, h1] at hmm
    have hX : FX4_matchesByMask (sa b S.2.2.2) (nI f) (puc μ b S) = rt (bcn ((S.1 S.2.2.2).2.1 f &&& flm (S.1 S.2.2.2) n)) (puc μ b S) := L_q hk9 (fun μ' => e_mbm sa_pos hf hR.1.2.1 hn9)
    rw [bcn_ct] at hX
    have hin : inb (nI f) 4 = true := inb_n (by omega) (by omega)
    have hcl : (nI f).toNatClampNeg = f := nI_clamp (by omega)
    have hc10 := (hR.2.2.2.1 f hf).2
    have hsub : ctb (tb ((S.1 S.2.2.2).2.1 f &&& flm (S.1 S.2.2.2) n)) 64 ≤ ctb (tb ((S.1 S.2.2.2).2.1 f)) 64 := by
      have : ∀ w, ctb (tb ((S.1 S.2.2.2).2.1 f &&& flm (S.1 S.2.2.2) n)) w ≤ ctb (tb ((S.1 S.2.2.2).2.1 f)) w := by
        intro w
        induction w with
        | zero => exact Nat.le_refl _
        | succ w ih =>
          simp only [ctb]
          rw [tb_and]
          cases tb ((S.1 S.2.2.2).2.1 f) w <;> cases tb (flm (S.1 S.2.2.2) n) w <;> simp <;> omega
      exact this 64
    have hcl1 := e_cls (μ := ν) (M := M) (f := f) hm hf
    rw [R_mcl hR hf] at hcl1
    have hcl2 : FX8_cells m (nI f) (pum ν m (mS M 11 0 0)) = rt (nI (ctb (tb ((S.1 S.2.2.2).2.1 f)) 64)) (pum ν m (mS M 11 0 0)) := by
      have h9 := e_cls (μ := ν) (M := mS M 11 0 0) (f := f) hm hf
      have h8 : mcl (mS M 11 0 0) f = mcl M f := rfl
      rw [h8, R_mcl hR hf] at h9
      exact h9
    by_cases hz : ctb (tb ((S.1 S.2.2.2).2.1 f)) 64 = 0
    · refine Or.inr ⟨(ARE, 2), FP.fconst0, by simp, ?_, ?_⟩
      · simp only [FX7_coverage, D_form hf, k_R0 hb, k_R1 hb, k_vc0 hb, L_vc hk9, L_vc1 hk9, L_vc8 hk9, q_R0_0 hA sa_pos, q_R0_1 hA sa_pos, q_R0_2 hA sa_pos, q_J0_3 hA sa_pos, q_I0_4 hA sa_pos, q_I0_5 hA sa_pos, q_I0_6 hA sa_pos, q_I0_7 hA sa_pos, q_I0_8 hA sa_pos, q_I0_9 hA sa_pos, q_R1_0 hA, q_R1_1 hA, q_R1_2 hA, q_R1_3 hA, q_R1_4 hA, q_R1_5 hA, q_I1_6 hA, q_R8_0 hA, q_R8_1 hA, q_R8_2 hA, q_I8_3 hA, q_a0 hA, q_a1 hA, q_a2 hA, q_a3 hA, q_a4 hA, q_a5 hA, q_a6 hA, q_a7 hA, q_a8 hA, q_a12 hA, hin, hcl, if_true, e_bit, bcn_ct, hz, nI_0, bnd, rt, thr_p hb h0]
        rfl
      · rw [hz] at hcl1
        simp only [FX8_coverage, FX8_coverage_B25, w_I0, w_I1, w_I2, w_I3, w_I4, w_R5, w_R6, w_R7, w_R8, w_R9, w_R10, w_R11, w_R12, w_R13, w_R14, w_R15, w_I16, w_I17, w_I18, w_I19, w_I20, w_I21, w_vc, w_a0, w_s0, w_a1, w_s1, w_a2, w_s2, w_a3, w_s3, w_a4, w_s4, w_a5, w_s5, w_a6, w_s6, w_a7, w_s7, w_a8, w_s8, w_a9, w_s9, w_a10, w_s10, w_p0, w_p1, w_p2, w_p3, w_p4, w_p16, w_p17, w_p18, w_p19, w_p20, w_p21, o_0, o_1, o_2, o_3, o_4, o_5, hm, i_0, z_0, i_1, z_1, i_2, z_2, i_3, z_3, i_4, z_4, i_5, z_5, i_6, z_6, i_7, z_7, i_8, z_8, e_misForm, isF_j hf, hcl1, nI_0, z20, one_ne, mT0, if_true, if_false, bnd, rt, mF]
    · obtain ⟨v1, v2, v3⟩ := cov_t (ctb (tb ((S.1 S.2.2.2).2.1 f)) 64) (by omega) (ctb (tb ((S.1 S.2.2.2).2.1 f &&& flm (S.1 S.2.2.2) n)) 64) (by omega) (by omega)
      have hnz : ¬ nI (ctb (tb ((S.1 S.2.2.2).2.1 f)) 64) = 0 := nI_ne0 (by omega) (by omega)
      refine Or.inl ⟨_, _, ?_, ?_, rfl, v2, v3⟩
      · simp only [FX7_coverage, D_form hf, k_R0 hb, k_R1 hb, k_vc0 hb, L_vc hk9, L_vc1 hk9, L_vc8 hk9, q_R0_0 hA sa_pos, q_R0_1 hA sa_pos, q_R0_2 hA sa_pos, q_J0_3 hA sa_pos, q_I0_4 hA sa_pos, q_I0_5 hA sa_pos, q_I0_6 hA sa_pos, q_I0_7 hA sa_pos, q_I0_8 hA sa_pos, q_I0_9 hA sa_pos, q_R1_0 hA, q_R1_1 hA, q_R1_2 hA, q_R1_3 hA, q_R1_4 hA, q_R1_5 hA, q_I1_6 hA, q_R8_0 hA, q_R8_1 hA, q_R8_2 hA, q_I8_3 hA, q_a0 hA, q_a1 hA, q_a2 hA, q_a3 hA, q_a4 hA, q_a5 hA, q_a6 hA, q_a7 hA, q_a8 hA, q_a12 hA, hin, hcl, if_true, e_bit, bcn_ct, hnz, if_false, hX, v1, gd, bnd, rt]
      · simp only [FX8_coverage, FX8_coverage_B25, w_I0, w_I1, w_I2, w_I3, w_I4, w_R5, w_R6, w_R7, w_R8, w_R9, w_R10, w_R11, w_R12, w_R13, w_R14, w_R15, w_I16, w_I17, w_I18, w_I19, w_I20, w_I21, w_vc, w_a0, w_s0, w_a1, w_s1, w_a2, w_s2, w_a3, w_s3, w_a4, w_s4, w_a5, w_s5, w_a6, w_s6, w_a7, w_s7, w_a8, w_s8, w_a9, w_s9, w_a10, w_s10, w_p0, w_p1, w_p2, w_p3, w_p4, w_p16, w_p17, w_p18, w_p19, w_p20, w_p21, o_0, o_1, o_2, o_3, o_4, o_5, hm, i_0, z_0, i_1, z_1, i_2, z_2, i_3, z_3, i_4, z_4, i_5, z_5, i_6, z_6, i_7, z_7, i_8, z_8, e_misForm, isF_j hf, hcl1, hcl2, hnz, hmm, v1, gd, one_ne, mT0, if_true, if_false, bnd, rt, mF])
end FQ
