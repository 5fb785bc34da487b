/-! ===== the text as a whole; a command on both sides ===== -/
section MC
variable {ν : Me} {m : Nat} {X : Nat → Nat} {L : Nat}
theorem prs_f (hL : L ≤ 60) : ∀ f f' h, h ≤ L → L < h + 6 * f → L < h + 6 * f' → prs X L f h = prs X L f' h := by
  intro f
  induction f with
  | zero => intro f' h a b; omega
  | succ f ih =>
    intro f' h hh b c
    cases f' with
    | zero => omega
    | succ f' =>
      simp only [prs]
      obtain ⟨-, -, c3⟩ := cmd_in (X := X) hL (show h ≤ 60 by omega)
      obtain ⟨o, e, hq⟩ : ∃ o e, cmd X L h = (o, e) := ⟨_, _, rfl⟩
      rw [hq] at c3 ⊢
      cases o with
      | none => rfl
      | some p =>
        obtain ⟨-, -, c4, c5⟩ := c3 p rfl
        simp only at c4 c5 ⊢
        by_cases g : e = L
        · rw [if_pos g, if_pos g]
        · rw [if_neg g, if_neg g]
          by_cases g2 : sgn X L e 59 = true
          · have : e < L := (of_decide_eq_true (show decide (e < L ∧ X e = 59) = true from g2)).1
            rw [if_pos g2, if_pos g2, ih f' (e + 1) (by omega) (by omega) (by omega)]
          · rw [if_neg g2, if_neg g2]
theorem prs_n {k h e : Nat} (hq : cmd X L h = (none, e)) : prs X L (k + 1) h = ([], e, false) := by simp only [prs, hq]
theorem prs_e {k h e : Nat} {p : Nat × List Nat} (hq : cmd X L h = (some p, e)) (g : e = L) : prs X L (k + 1) h = ([p], e, true) := by simp only [prs, hq, if_pos g]
theorem prs_s {k h e : Nat} {p : Nat × List Nat} (hq : cmd X L h = (some p, e)) (g : ¬ e = L) (g2 : sgn X L e 59 = true) : prs X L (k + 1) h = (p :: (prs X L k (e + 1)).1, (prs X L k (e + 1)).2) := by simp only [prs, hq, if_neg g, if_pos g2]
theorem prs_x {k h e : Nat} {p : Nat × List Nat} (hq : cmd X L h = (some p, e)) (g : ¬ e = L) (g2 : ¬ sgn X L e 59 = true) : prs X L (k + 1) h = ([p], e, false) := by simp only [prs, hq, if_neg g, if_neg g2]
theorem ncod_0 {M1 : Mg} {o : Option (Nat × List Nat)} : ncod M1 ν m 0 o = rt () (pum ν m M1) := by
  cases o with
  | none => rfl
  | some p => unfold ncod; exact if_pos rfl
theorem l_chk (hm : 0 < m) : ∀ k f h (x : Int32) (M : Mg), k < f → MX M X L → h ≤ L → L < h + 6 * k → M 11 10 = 0 → M 11 0 = 0 → M 11 6 = nI (cmd X L h).2 → M 11 9 = (if (cmd X L h).1.isSome = true then 0 else 1) → ∃ M' x', Mk M M' ∧ M' 11 6 = nI (prs X L k h).2.1 ∧ M' 11 9 = (if (prs X L k h).2.2 = true then 0 else 1) ∧ FX8_commands_L16 f m x (pum ν m M) = rt x' (pum ν m M') := by
  intro k
  induction k with
  | zero => intro f h x M _ _ a b; omega
  | succ k ih =>
    intro f h x M hf hX hh hk h10 h0 h6 h9
    obtain ⟨f, rfl⟩ : ∃ g, f = g + 1 := ⟨f - 1, by omega⟩
    have h60 := hX.1
    have h7 := hX.2.1
    obtain ⟨-, -, c3⟩ := cmd_in (X := X) h60 (show h ≤ 60 by omega)
    obtain ⟨o, e, hq⟩ : ∃ o e, cmd X L h = (o, e) := ⟨_, _, rfl⟩
    rw [hq] at c3 h6 h9
    cases o with
    | none =>
      have e9 : M 11 9 = 1 := h9
      rw [prs_n hq]
      refine ⟨M, x, Mk_r M, h6, e9, ?_⟩
      simp only [FX8_commands_L16, FX8_commands_B16, w_I0, w_I1, w_I2, w_I3, w_I4, w_R5, w_R6, w_R7, w_R8, w_R9, w_R10, w_R11, w_R12, w_R13, w_R14, w_R15, w_I16, w_I17, w_I18, w_I19, w_I20, w_I21, w_vc, w_a0, w_s0, w_a1, w_s1, w_a2, w_s2, w_a3, w_s3, w_a4, w_s4, w_a5, w_s5, w_a6, w_s6, w_a7, w_s7, w_a8, w_s8, w_a9, w_s9, w_a10, w_s10, w_p0, w_p1, w_p2, w_p3, w_p4, w_p16, w_p17, w_p18, w_p19, w_p20, w_p21, o_0, o_1, o_2, o_3, o_4, o_5, hm, i_0, z_0, i_1, z_1, i_2, z_2, i_3, z_3, i_4, z_4, i_5, z_5, i_6, z_6, i_7, z_7, i_8, z_8, e9, one_ne, if_false]
    | some p =>
      obtain ⟨-, -, c4, c5⟩ := c3 p rfl
      simp only at c4 c5 h6
      have e9 : M 11 9 = 0 := h9
      by_cases g : e = L
      · have g1 : nI L ≤ nI e := nI_le (by omega) (by omega)
        rw [prs_e hq g]
        refine ⟨M, x, Mk_r M, h6, e9, ?_⟩
        simp only [FX8_commands_L16, FX8_commands_B16, w_I0, w_I1, w_I2, w_I3, w_I4, w_R5, w_R6, w_R7, w_R8, w_R9, w_R10, w_R11, w_R12, w_R13, w_R14, w_R15, w_I16, w_I17, w_I18, w_I19, w_I20, w_I21, w_vc, w_a0, w_s0, w_a1, w_s1, w_a2, w_s2, w_a3, w_s3, w_a4, w_s4, w_a5, w_s5, w_a6, w_s6, w_a7, w_s7, w_a8, w_s8, w_a9, w_s9, w_a10, w_s10, w_p0, w_p1, w_p2, w_p3, w_p4, w_p16, w_p17, w_p18, w_p19, w_p20, w_p21, o_0, o_1, o_2, o_3, o_4, o_5, hm, i_0, z_0, i_1, z_1, i_2, z_2, i_3, z_3, i_4, z_4, i_5, z_5, i_6, z_6, i_7, z_7, i_8, z_8, e9, h0, h6, h7, g1, if_true]
      · have g1 : ¬ nI L ≤ nI e := nI_ge (by omega) (by omega)
        have hmk := m_mark (ν := ν) (c := 59) hm (by decide) hX h6 e9 (by omega)
        rw [show nI 59 = (59 : Int32) from rfl] at hmk
        by_cases g2 : sgn X L e 59 = true
        · have hlt : e < L := (of_decide_eq_true (show decide (e < L ∧ X e = 59) = true from g2)).1
          rw [if_pos g2] at hmk
          rw [prs_s hq g g2]
          have e10 : (mH M (e + 1) 0) 11 10 = 0 := (mH_k.2 10 (by decide) (by decide)).trans h10
          have e00 : (mH M (e + 1) 0) 11 0 = 0 := (mH_k.2 0 (by decide) (by decide)).trans h0
          have em : (mH M (e + 1) 0) 11 9 = 0 := mH_9
          obtain ⟨M1, q1, q2, q3, q4⟩ := m_cmd (ν := ν) (h := e + 1) hm (Mk_X mH_k hX) mH_6 mH_9 (by omega)
          rw [e10, ncod_0] at q4
          obtain ⟨M', x', r1, r2, r3, r4⟩ := ih f (e + 1) (x + 1) M1 (by omega) (Mk_X (Mk_t mH_k q1) hX) (by omega) (by omega) ((q1.2 10 (by decide) (by decide)).trans e10) ((q1.2 0 (by decide) (by decide)).trans e00) q2 q3
          refine ⟨M', x', Mk_t (Mk_t mH_k q1) r1, r2, r3, ?_⟩
          simp only [FX8_commands_L16, FX8_commands_B16, w_I0, w_I1, w_I2, w_I3, w_I4, w_R5, w_R6, w_R7, w_R8, w_R9, w_R10, w_R11, w_R12, w_R13, w_R14, w_R15, w_I16, w_I17, w_I18, w_I19, w_I20, w_I21, w_vc, w_a0, w_s0, w_a1, w_s1, w_a2, w_s2, w_a3, w_s3, w_a4, w_s4, w_a5, w_s5, w_a6, w_s6, w_a7, w_s7, w_a8, w_s8, w_a9, w_s9, w_a10, w_s10, w_p0, w_p1, w_p2, w_p3, w_p4, w_p16, w_p17, w_p18, w_p19, w_p20, w_p21, o_0, o_1, o_2, o_3, o_4, o_5, hm, i_0, z_0, i_1, z_1, i_2, z_2, i_3, z_3, i_4, z_4, i_5, z_5, i_6, z_6, i_7, z_7, i_8, z_8, e9, h0, h6, h7, g1, if_false, if_true, hmk, bnd, rt, em, q4]
          exact r4
        · rw [if_neg g2] at hmk
          rw [prs_x hq g g2]
          obtain ⟨f, rfl⟩ : ∃ g, f = g + 1 := ⟨f - 1, by omega⟩
          have em : (mH M e 1) 11 9 = 1 := mH_9
          refine ⟨mH M e 1, x + 1, mH_k, mH_6, mH_9, ?_⟩
          simp only [FX8_commands_L16, FX8_commands_B16, w_I0, w_I1, w_I2, w_I3, w_I4, w_R5, w_R6, w_R7, w_R8, w_R9, w_R10, w_R11, w_R12, w_R13, w_R14, w_R15, w_I16, w_I17, w_I18, w_I19, w_I20, w_I21, w_vc, w_a0, w_s0, w_a1, w_s1, w_a2, w_s2, w_a3, w_s3, w_a4, w_s4, w_a5, w_s5, w_a6, w_s6, w_a7, w_s7, w_a8, w_s8, w_a9, w_s9, w_a10, w_s10, w_p0, w_p1, w_p2, w_p3, w_p4, w_p16, w_p17, w_p18, w_p19, w_p20, w_p21, o_0, o_1, o_2, o_3, o_4, o_5, hm, i_0, z_0, i_1, z_1, i_2, z_2, i_3, z_3, i_4, z_4, i_5, z_5, i_6, z_6, i_7, z_7, i_8, z_8, e9, h0, h6, h7, g1, if_false, if_true, hmk, bnd, rt, em, one_ne]
/-- the model's reading alone -/
def st0 (M : Mg) : Mg := mS (mS M 11 6 0) 11 9 0
theorem m_chk {M : Mg} (hm : 0 < m) (hX : MX M X L) (h10 : M 11 10 = 0) (h0 : M 11 0 = 0) : ∃ M' x', Mk M M' ∧ M' 11 6 = nI (prs X L 12 0).2.1 ∧ M' 11 9 = (if (prs X L 12 0).2.2 = true then 0 else 1) ∧ FX8_commands m (pum ν m M) = rt x' (pum ν m M') := by
  have h60 := hX.1
  have hk : Mk M (mH M 0 0) := mH_k
  have e10 : (mH M 0 0) 11 10 = 0 := (hk.2 10 (by decide) (by decide)).trans h10
  have e00 : (mH M 0 0) 11 0 = 0 := (hk.2 0 (by decide) (by decide)).trans h0
  obtain ⟨M1, q1, q2, q3, q4⟩ := m_cmd (ν := ν) (h := 0) hm (Mk_X hk hX) mH_6 mH_9 (by omega)
  rw [e10, ncod_0] at q4
  obtain ⟨M', x', r1, r2, r3, r4⟩ := l_chk (ν := ν) (X := X) (L := L) hm 12 FU 0 1 M1 (by unfold FU; omega) (Mk_X (Mk_t hk q1) hX) (Nat.zero_le _) (by omega) ((q1.2 10 (by decide) (by decide)).trans e10) ((q1.2 0 (by decide) (by decide)).trans e00) q2 q3
  refine ⟨M', x', Mk_t (Mk_t hk q1) r1, r2, r3, ?_⟩
  have e : mH M 0 0 = mS (mS M 11 6 0) 11 9 0 := by
    unfold mH
    funext r j
    by_cases r11 : r = 11
    · subst r11
      by_cases j6 : j = 6
      · subst j6; simp [mS, upd]; rfl
      · by_cases j9 : j = 9
        · subst j9; simp [mS, upd]
        · simp [mS, upd, j6, j9]
    · simp [mS, r11]
  rw [e] at q4
  simp only [FX8_commands, w_I0, w_I1, w_I2, w_I3, w_I4, w_R5, w_R6, w_R7, w_R8, w_R9, w_R10, w_R11, w_R12, w_R13, w_R14, w_R15, w_I16, w_I17, w_I18, w_I19, w_I20, w_I21, w_vc, w_a0, w_s0, w_a1, w_s1, w_a2, w_s2, w_a3, w_s3, w_a4, w_s4, w_a5, w_s5, w_a6, w_s6, w_a7, w_s7, w_a8, w_s8, w_a9, w_s9, w_a10, w_s10, w_p0, w_p1, w_p2, w_p3, w_p4, w_p16, w_p17, w_p18, w_p19, w_p20, w_p21, o_0, o_1, o_2, o_3, o_4, o_5, hm, i_0, z_0, i_1, z_1, i_2, z_2, i_3, z_3, i_4, z_4, i_5, z_5, i_6, z_6, i_7, z_7, i_8, z_8, q4, bnd, rt]
  exact r4
end MC
/-! a command's deed, once for all -/
def KX (p : Nat × List Nat) (s : Nat) (μ : Me) : Rs Int32 := match p.1 with
  | 0 => FX4_enlist s (nI (p.2.getD 0 0)) μ
  | 1 => FX4_markPad s (nI (p.2.getD 0 0)) μ
  | 2 => FX4_lift s (nI (p.2.getD 0 0)) μ
  | 3 => FX4_setDown s (nI (p.2.getD 0 0)) μ
  | 4 => FX4_aim s (nI (p.2.getD 0 0)) (nI (p.2.getD 1 0)) μ
  | 5 => FX4_changeReserve s (nI (p.2.getD 0 0)) μ
  | 6 => FX4_extend s (nI (p.2.getD 0 0)) (nI (p.2.getD 1 0)) μ
  | 7 => FX4_empty s (nI (p.2.getD 0 0)) μ
  | 8 => FX4_distribute s (nI (p.2.getD 0 0)) μ
  | 9 => FX4_pass s (nI (p.2.getD 0 0)) μ
  | _ => FX4_schedule s (nI (p.2.getD 0 0)) (nI (p.2.getD 1 0)) (nI (p.2.getD 2 0)) μ
theorem bnd_rt {α : Type} (x : Rs α) : bnd x (fun a μ => rt a μ) = x := by
  rcases x with _ | ⟨_ | _, _⟩ <;> rfl
section DO
variable {ν : Me} {m : Nat} {M : Mg} {a c d : Int32}
theorem ib0 : inb 0 3 = true := by decide
theorem ib1 : inb 1 3 = true := by decide
theorem ib2 : inb 2 3 = true := by decide
theorem cl0 : (0 : Int32).toNatClampNeg = 0 := by decide
theorem cl1 : (1 : Int32).toNatClampNeg = 1 := by decide
theorem cl2 : (2 : Int32).toNatClampNeg = 2 := by decide
theorem does_0 (hm : 0 < m) : FX8_does m (nI 0) a c d (pum ν m M) = FX8_adds m a (pum ν m M) := by
  have e : (nI 0).toInt = 0 := by decide
  unfold FX8_does
  rw [e]
  rw [if_neg (show ¬ ((0 : Int) < 0 ∨ 9 < (0 : Int)) from by decide), if_pos (show (0 : Int) = 0 from rfl), w_vc hm, bnd_rt]
theorem does_1 (hm : 0 < m) : FX8_does m (nI 1) a c d (pum ν m M) = FX8_addsPad m a (pum ν m M) := by
  have e : (nI 1).toInt = 1 := by decide
  unfold FX8_does
  rw [e]
  rw [if_neg (show ¬ ((1 : Int) < 0 ∨ 9 < (1 : Int)) from by decide), if_neg (show ¬ (1 : Int) = 0 from by decide), if_pos (show (1 : Int) = 1 from rfl), w_vc hm, bnd_rt]
theorem does_2 (hm : 0 < m) : FX8_does m (nI 2) a c d (pum ν m M) = FX8_starts m a (pum ν m M) := by
  have e : (nI 2).toInt = 2 := by decide
  unfold FX8_does
  rw [e]
  rw [if_neg (show ¬ ((2 : Int) < 0 ∨ 9 < (2 : Int)) from by decide), if_neg (show ¬ (2 : Int) = 0 from by decide), if_neg (show ¬ (2 : Int) = 1 from by decide), if_pos (show (2 : Int) = 2 from rfl), w_vc hm, bnd_rt]
theorem does_3 (hm : 0 < m) : FX8_does m (nI 3) a c d (pum ν m M) = FX8_lands m a (pum ν m M) := by
  have e : (nI 3).toInt = 3 := by decide
  unfold FX8_does
  rw [e]
  rw [if_neg (show ¬ ((3 : Int) < 0 ∨ 9 < (3 : Int)) from by decide), if_neg (show ¬ (3 : Int) = 0 from by decide), if_neg (show ¬ (3 : Int) = 1 from by decide), if_neg (show ¬ (3 : Int) = 2 from by decide), if_pos (show (3 : Int) = 3 from rfl), w_vc hm, bnd_rt]
theorem does_4 (hm : 0 < m) : FX8_does m (nI 4) a c d (pum ν m M) = FX8_sends m a c (pum ν m M) := by
  have e : (nI 4).toInt = 4 := by decide
  unfold FX8_does
  rw [e]
  rw [if_neg (show ¬ ((4 : Int) < 0 ∨ 9 < (4 : Int)) from by decide), if_neg (show ¬ (4 : Int) = 0 from by decide), if_neg (show ¬ (4 : Int) = 1 from by decide), if_neg (show ¬ (4 : Int) = 2 from by decide), if_neg (show ¬ (4 : Int) = 3 from by decide), if_pos (show (4 : Int) = 4 from rfl), w_vc hm, bnd_rt]
theorem does_5 (hm : 0 < m) : FX8_does m (nI 5) a c d (pum ν m M) = FX8_reserves m a (pum ν m M) := by
  have e : (nI 5).toInt = 5 := by decide
  unfold FX8_does
  rw [e]
  rw [if_neg (show ¬ ((5 : Int) < 0 ∨ 9 < (5 : Int)) from by decide), if_neg (show ¬ (5 : Int) = 0 from by decide), if_neg (show ¬ (5 : Int) = 1 from by decide), if_neg (show ¬ (5 : Int) = 2 from by decide), if_neg (show ¬ (5 : Int) = 3 from by decide), if_neg (show ¬ (5 : Int) = 4 from by decide), if_pos (show (5 : Int) = 5 from rfl), w_vc hm, bnd_rt]
theorem does_6 (hm : 0 < m) : FX8_does m (nI 6) a c d (pum ν m M) = FX8_forms m a c (pum ν m M) := by
  have e : (nI 6).toInt = 6 := by decide
  unfold FX8_does
  rw [e]
  rw [if_neg (show ¬ ((6 : Int) < 0 ∨ 9 < (6 : Int)) from by decide), if_neg (show ¬ (6 : Int) = 0 from by decide), if_neg (show ¬ (6 : Int) = 1 from by decide), if_neg (show ¬ (6 : Int) = 2 from by decide), if_neg (show ¬ (6 : Int) = 3 from by decide), if_neg (show ¬ (6 : Int) = 4 from by decide), if_neg (show ¬ (6 : Int) = 5 from by decide), if_pos (show (6 : Int) = 6 from rfl), w_vc hm, bnd_rt]
theorem does_7 (hm : 0 < m) : FX8_does m (nI 7) a c d (pum ν m M) = FX8_clears m a (pum ν m M) := by
  have e : (nI 7).toInt = 7 := by decide
  unfold FX8_does
  rw [e]
  rw [if_neg (show ¬ ((7 : Int) < 0 ∨ 9 < (7 : Int)) from by decide), if_neg (show ¬ (7 : Int) = 0 from by decide), if_neg (show ¬ (7 : Int) = 1 from by decide), if_neg (show ¬ (7 : Int) = 2 from by decide), if_neg (show ¬ (7 : Int) = 3 from by decide), if_neg (show ¬ (7 : Int) = 4 from by decide), if_neg (show ¬ (7 : Int) = 5 from by decide), if_neg (show ¬ (7 : Int) = 6 from by decide), if_pos (show (7 : Int) = 7 from rfl), w_vc hm, bnd_rt]
theorem does_8 (hm : 0 < m) : FX8_does m (nI 8) a c d (pum ν m M) = FX8_assigns m a (pum ν m M) := by
  have e : (nI 8).toInt = 8 := by decide
  unfold FX8_does
  rw [e]
  rw [if_neg (show ¬ ((8 : Int) < 0 ∨ 9 < (8 : Int)) from by decide), if_neg (show ¬ (8 : Int) = 0 from by decide), if_neg (show ¬ (8 : Int) = 1 from by decide), if_neg (show ¬ (8 : Int) = 2 from by decide), if_neg (show ¬ (8 : Int) = 3 from by decide), if_neg (show ¬ (8 : Int) = 4 from by decide), if_neg (show ¬ (8 : Int) = 5 from by decide), if_neg (show ¬ (8 : Int) = 6 from by decide), if_neg (show ¬ (8 : Int) = 7 from by decide), if_pos (show (8 : Int) = 8 from rfl), w_vc hm, bnd_rt]
theorem does_9 (hm : 0 < m) : FX8_does m (nI 9) a c d (pum ν m M) = FX8_passes m a (pum ν m M) := by
  have e : (nI 9).toInt = 9 := by decide
  unfold FX8_does
  rw [e]
  rw [if_neg (show ¬ ((9 : Int) < 0 ∨ 9 < (9 : Int)) from by decide), if_neg (show ¬ (9 : Int) = 0 from by decide), if_neg (show ¬ (9 : Int) = 1 from by decide), if_neg (show ¬ (9 : Int) = 2 from by decide), if_neg (show ¬ (9 : Int) = 3 from by decide), if_neg (show ¬ (9 : Int) = 4 from by decide), if_neg (show ¬ (9 : Int) = 5 from by decide), if_neg (show ¬ (9 : Int) = 6 from by decide), if_neg (show ¬ (9 : Int) = 7 from by decide), if_neg (show ¬ (9 : Int) = 8 from by decide), if_pos (show (9 : Int) = 9 from rfl), w_vc hm, bnd_rt]
theorem does_10 (hm : 0 < m) : FX8_does m (nI 10) a c d (pum ν m M) = FX8_addsCue m a c d (pum ν m M) := by
  have e : (nI 10).toInt = 10 := by decide
  unfold FX8_does
  rw [e]
  rw [if_pos (show (10 : Int) < 0 ∨ 9 < (10 : Int) from by decide), w_vc hm, bnd_rt]
theorem Sim_c {T : Nat} {ks : List (Int32 × Int32)} {FX FX' FM FM' : Nat → Me → Rs Int32} (h : Sim T ks FX FM) (h1 : ∀ s μ, FX' s μ = FX s μ) (h2 : ∀ ν m M, 0 < m → FM' m (pum ν m M) = FM m (pum ν m M)) : Sim T ks FX' FM' := by
  intro μ ν s m σ M hs hm hR
  rw [h1, h2 ν m M hm]
  exact h μ ν s m σ M hs hm hR
def kok (ks : List (Int32 × Int32)) : Prop := ∀ q, q ∈ ks → (q.1 = -1 ∨ q.1 = -2 ∨ q.1 = -3 ∨ q.1 = -4) ∧ q.2 ≠ 0
theorem S_all {T : Nat} (hT : T < 2 ^ 30) : ∀ p : Nat × List Nat, p.1 < 11 → ∃ ks, kok ks ∧ Sim T ks (KX p) (fun m => FX8_does m (nI p.1) (nI (p.2.getD 0 0)) (nI (p.2.getD 1 0)) (nI (p.2.getD 2 0))) := by
  intro p hp
  obtain ⟨w, l⟩ := p
  have hp : w < 11 := hp
  match w, hp with
  | 0, _ => exact ⟨[(-1, 1), (-3, 2), (-4, 3)], by unfold kok; decide, Sim_c (S_add (nI (l.getD 0 0))) (fun _ _ => rfl) (fun ν m M hm => does_0 hm)⟩
  | 1, _ => exact ⟨[(-1, 1), (-2, 2), (-3, 3)], by unfold kok; decide, Sim_c (S_pad (nI (l.getD 0 0))) (fun _ _ => rfl) (fun ν m M hm => does_1 hm)⟩
  | 2, _ => exact ⟨[(-1, 1), (-3, 2), (-4, 3)], by unfold kok; decide, Sim_c (S_off (nI (l.getD 0 0))) (fun _ _ => rfl) (fun ν m M hm => does_2 hm)⟩
  | 3, _ => exact ⟨[(-1, 1), (-3, 2), (-4, 3)], by unfold kok; decide, Sim_c (S_land (nI (l.getD 0 0))) (fun _ _ => rfl) (fun ν m M hm => does_3 hm)⟩
  | 4, _ => exact ⟨[(-1, 1), (-3, 2)], by unfold kok; decide, Sim_c (S_send (nI (l.getD 0 0)) (nI (l.getD 1 0))) (fun _ _ => rfl) (fun ν m M hm => does_4 hm)⟩
  | 5, _ => exact ⟨[(-2, 1)], by unfold kok; decide, Sim_c (S_res (nI (l.getD 0 0))) (fun _ _ => rfl) (fun ν m M hm => does_5 hm)⟩
  | 6, _ => exact ⟨[(-1, 1), (-2, 2), (-3, 3)], by unfold kok; decide, Sim_c (S_form (nI (l.getD 0 0)) (nI (l.getD 1 0))) (fun _ _ => rfl) (fun ν m M hm => does_6 hm)⟩
  | 7, _ => exact ⟨[(-1, 1)], by unfold kok; decide, Sim_c (S_clr (nI (l.getD 0 0))) (fun _ _ => rfl) (fun ν m M hm => does_7 hm)⟩
  | 8, _ => exact ⟨[(-1, 1), (-3, 2)], by unfold kok; decide, Sim_c (S_asg (nI (l.getD 0 0))) (fun _ _ => rfl) (fun ν m M hm => does_8 hm)⟩
  | 9, _ => exact ⟨[(-2, 1)], by unfold kok; decide, Sim_c (S_tik (nI (l.getD 0 0))) (fun _ _ => rfl) (fun ν m M hm => does_9 hm)⟩
  | 10, _ => exact ⟨[(-1, 1), (-2, 2), (-3, 3)], by unfold kok; decide, Sim_c (S_cue hT (nI (l.getD 0 0)) (nI (l.getD 1 0)) (nI (l.getD 2 0))) (fun _ _ => rfl) (fun ν m M hm => does_10 hm)⟩
/-- the show carries a command out -/
theorem c_do {μ : Me} {b i k : Nat} {S : Cg} {aC : Nat → Nat} (hi : i < 12) (hk : k < 11) : ∀ p : Nat × List Nat, p.1 < 11 → p.2.length = (ww p.1).length → (∀ j, j < p.2.length → S.2.1 (4 + i) j = nI (p.2.getD j 0)) → FX4_carryOut aC (sa b k) p.1 (b + 150 + i) (puc μ b S) = KX p (sa b k) (puc μ b S) := by
  intro p hp hl hn
  obtain ⟨w, l⟩ := p
  have hp : w < 11 := hp
  have h3 : (3 : Int32) ≤ 3 := by decide
  match w, hp with
  | 0, _ =>
    have hl : l.length = 1 := hl
    have n0 := hn 0 (by show 0 < l.length; omega)
    have e : (swm (nI 0).toNatClampNeg).toInt = 1 := by decide
    have e1 : inb (nI 0) 11 = true := by decide
    unfold FX4_carryOut gd
    simp only [k_lenN hi, h3, if_true, e1, e, L_vc hk]
    rw [if_pos (show (0 : Nat) < 11 from by decide), if_neg (show ¬ ((1 : Int) < 1 ∨ 10 < (1 : Int)) from by decide)]
    simp only [k_aN hi, ib0, ib1, ib2, cl0, cl1, cl2, if_true, n0, bnd_rt, KX]
  | 1, _ =>
    have hl : l.length = 1 := hl
    have n0 := hn 0 (by show 0 < l.length; omega)
    have e : (swm (nI 1).toNatClampNeg).toInt = 2 := by decide
    have e1 : inb (nI 1) 11 = true := by decide
    unfold FX4_carryOut gd
    simp only [k_lenN hi, h3, if_true, e1, e, L_vc hk]
    rw [if_pos (show (1 : Nat) < 11 from by decide), if_neg (show ¬ ((2 : Int) < 1 ∨ 10 < (2 : Int)) from by decide), if_neg (show ¬ (2 : Int) = 1 from by decide)]
    simp only [k_aN hi, ib0, ib1, ib2, cl0, cl1, cl2, if_true, n0, bnd_rt, KX]
  | 2, _ =>
    have hl : l.length = 1 := hl
    have n0 := hn 0 (by show 0 < l.length; omega)
    have e : (swm (nI 2).toNatClampNeg).toInt = 3 := by decide
    have e1 : inb (nI 2) 11 = true := by decide
    unfold FX4_carryOut gd
    simp only [k_lenN hi, h3, if_true, e1, e, L_vc hk]
    rw [if_pos (show (2 : Nat) < 11 from by decide), if_neg (show ¬ ((3 : Int) < 1 ∨ 10 < (3 : Int)) from by decide), if_neg (show ¬ (3 : Int) = 1 from by decide), if_neg (show ¬ (3 : Int) = 2 from by decide)]
    simp only [k_aN hi, ib0, ib1, ib2, cl0, cl1, cl2, if_true, n0, bnd_rt, KX]
  | 3, _ =>
    have hl : l.length = 1 := hl
    have n0 := hn 0 (by show 0 < l.length; omega)
    have e : (swm (nI 3).toNatClampNeg).toInt = 4 := by decide
    have e1 : inb (nI 3) 11 = true := by decide
    unfold FX4_carryOut gd
    simp only [k_lenN hi, h3, if_true, e1, e, L_vc hk]
    rw [if_pos (show (3 : Nat) < 11 from by decide), if_neg (show ¬ ((4 : Int) < 1 ∨ 10 < (4 : Int)) from by decide), if_neg (show ¬ (4 : Int) = 1 from by decide), if_neg (show ¬ (4 : Int) = 2 from by decide), if_neg (show ¬ (4 : Int) = 3 from by decide)]
    simp only [k_aN hi, ib0, ib1, ib2, cl0, cl1, cl2, if_true, n0, bnd_rt, KX]
  | 4, _ =>
    have hl : l.length = 2 := hl
    have n0 := hn 0 (by show 0 < l.length; omega)
    have n1 := hn 1 (by show 1 < l.length; omega)
    have e : (swm (nI 4).toNatClampNeg).toInt = 5 := by decide
    have e1 : inb (nI 4) 11 = true := by decide
    unfold FX4_carryOut gd
    simp only [k_lenN hi, h3, if_true, e1, e, L_vc hk]
    rw [if_pos (show (4 : Nat) < 11 from by decide), if_neg (show ¬ ((5 : Int) < 1 ∨ 10 < (5 : Int)) from by decide), if_neg (show ¬ (5 : Int) = 1 from by decide), if_neg (show ¬ (5 : Int) = 2 from by decide), if_neg (show ¬ (5 : Int) = 3 from by decide), if_neg (show ¬ (5 : Int) = 4 from by decide)]
    simp only [k_aN hi, ib0, ib1, ib2, cl0, cl1, cl2, if_true, n0, n1, bnd_rt, KX]
  | 5, _ =>
    have hl : l.length = 1 := hl
    have n0 := hn 0 (by show 0 < l.length; omega)
    have e : (swm (nI 5).toNatClampNeg).toInt = 6 := by decide
    have e1 : inb (nI 5) 11 = true := by decide
    unfold FX4_carryOut gd
    simp only [k_lenN hi, h3, if_true, e1, e, L_vc hk]
    rw [if_pos (show (5 : Nat) < 11 from by decide), if_neg (show ¬ ((6 : Int) < 1 ∨ 10 < (6 : Int)) from by decide), if_neg (show ¬ (6 : Int) = 1 from by decide), if_neg (show ¬ (6 : Int) = 2 from by decide), if_neg (show ¬ (6 : Int) = 3 from by decide), if_neg (show ¬ (6 : Int) = 4 from by decide), if_neg (show ¬ (6 : Int) = 5 from by decide)]
    simp only [k_aN hi, ib0, ib1, ib2, cl0, cl1, cl2, if_true, n0, bnd_rt, KX]
  | 6, _ =>
    have hl : l.length = 2 := hl
    have n0 := hn 0 (by show 0 < l.length; omega)
    have n1 := hn 1 (by show 1 < l.length; omega)
    have e : (swm (nI 6).toNatClampNeg).toInt = 7 := by decide
    have e1 : inb (nI 6) 11 = true := by decide
    unfold FX4_carryOut gd
    simp only [k_lenN hi, h3, if_true, e1, e, L_vc hk]
    rw [if_pos (show (6 : Nat) < 11 from by decide), if_neg (show ¬ ((7 : Int) < 1 ∨ 10 < (7 : Int)) from by decide), if_neg (show ¬ (7 : Int) = 1 from by decide), if_neg (show ¬ (7 : Int) = 2 from by decide), if_neg (show ¬ (7 : Int) = 3 from by decide), if_neg (show ¬ (7 : Int) = 4 from by decide), if_neg (show ¬ (7 : Int) = 5 from by decide), if_neg (show ¬ (7 : Int) = 6 from by decide)]
    simp only [k_aN hi, ib0, ib1, ib2, cl0, cl1, cl2, if_true, n0, n1, bnd_rt, KX]
  | 7, _ =>
    have hl : l.length = 1 := hl
    have n0 := hn 0 (by show 0 < l.length; omega)
    have e : (swm (nI 7).toNatClampNeg).toInt = 8 := by decide
    have e1 : inb (nI 7) 11 = true := by decide
    unfold FX4_carryOut gd
    simp only [k_lenN hi, h3, if_true, e1, e, L_vc hk]
    rw [if_pos (show (7 : Nat) < 11 from by decide), if_neg (show ¬ ((8 : Int) < 1 ∨ 10 < (8 : Int)) from by decide), if_neg (show ¬ (8 : Int) = 1 from by decide), if_neg (show ¬ (8 : Int) = 2 from by decide), if_neg (show ¬ (8 : Int) = 3 from by decide), if_neg (show ¬ (8 : Int) = 4 from by decide), if_neg (show ¬ (8 : Int) = 5 from by decide), if_neg (show ¬ (8 : Int) = 6 from by decide), if_neg (show ¬ (8 : Int) = 7 from by decide)]
    simp only [k_aN hi, ib0, ib1, ib2, cl0, cl1, cl2, if_true, n0, bnd_rt, KX]
  | 8, _ =>
    have hl : l.length = 1 := hl
    have n0 := hn 0 (by show 0 < l.length; omega)
    have e : (swm (nI 8).toNatClampNeg).toInt = 9 := by decide
    have e1 : inb (nI 8) 11 = true := by decide
    unfold FX4_carryOut gd
    simp only [k_lenN hi, h3, if_true, e1, e, L_vc hk]
    rw [if_pos (show (8 : Nat) < 11 from by decide), if_neg (show ¬ ((9 : Int) < 1 ∨ 10 < (9 : Int)) from by decide), if_neg (show ¬ (9 : Int) = 1 from by decide), if_neg (show ¬ (9 : Int) = 2 from by decide), if_neg (show ¬ (9 : Int) = 3 from by decide), if_neg (show ¬ (9 : Int) = 4 from by decide), if_neg (show ¬ (9 : Int) = 5 from by decide), if_neg (show ¬ (9 : Int) = 6 from by decide), if_neg (show ¬ (9 : Int) = 7 from by decide), if_neg (show ¬ (9 : Int) = 8 from by decide)]
    simp only [k_aN hi, ib0, ib1, ib2, cl0, cl1, cl2, if_true, n0, bnd_rt, KX]
  | 9, _ =>
    have hl : l.length = 1 := hl
    have n0 := hn 0 (by show 0 < l.length; omega)
    have e : (swm (nI 9).toNatClampNeg).toInt = 10 := by decide
    have e1 : inb (nI 9) 11 = true := by decide
    unfold FX4_carryOut gd
    simp only [k_lenN hi, h3, if_true, e1, e, L_vc hk]
    rw [if_pos (show (9 : Nat) < 11 from by decide), if_neg (show ¬ ((10 : Int) < 1 ∨ 10 < (10 : Int)) from by decide), if_neg (show ¬ (10 : Int) = 1 from by decide), if_neg (show ¬ (10 : Int) = 2 from by decide), if_neg (show ¬ (10 : Int) = 3 from by decide), if_neg (show ¬ (10 : Int) = 4 from by decide), if_neg (show ¬ (10 : Int) = 5 from by decide), if_neg (show ¬ (10 : Int) = 6 from by decide), if_neg (show ¬ (10 : Int) = 7 from by decide), if_neg (show ¬ (10 : Int) = 8 from by decide), if_neg (show ¬ (10 : Int) = 9 from by decide)]
    simp only [k_aN hi, ib0, ib1, ib2, cl0, cl1, cl2, if_true, n0, bnd_rt, KX]
  | 10, _ =>
    have hl : l.length = 3 := hl
    have n0 := hn 0 (by show 0 < l.length; omega)
    have n1 := hn 1 (by show 1 < l.length; omega)
    have n2 := hn 2 (by show 2 < l.length; omega)
    have e : (swm (nI 10).toNatClampNeg).toInt = 0 := by decide
    have e1 : inb (nI 10) 11 = true := by decide
    unfold FX4_carryOut gd
    simp only [k_lenN hi, h3, if_true, e1, e, L_vc hk]
    rw [if_pos (show (10 : Nat) < 11 from by decide), if_pos (show (0 : Int) < 1 ∨ 10 < (0 : Int) from by decide)]
    simp only [k_aN hi, ib0, ib1, ib2, cl0, cl1, cl2, if_true, n0, n1, n2, bnd_rt, KX]
end DO
