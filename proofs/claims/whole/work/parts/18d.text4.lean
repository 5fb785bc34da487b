/-! ===== the model's reader: words, commands ===== -/
section MT
variable {ν : Me} {m : Nat} {M : Mg} {X : Nat → Nat} {L h : Nat}
theorem vmx_ge {c : Nat → Nat} : ∀ k i a, a ≤ vmx c i k a ∧ ∀ j, i ≤ j → j < i + k → c j ≤ vmx c i k a := by
  intro k
  induction k with
  | zero => intro i a; exact ⟨Nat.le_refl _, fun j h1 h2 => by omega⟩
  | succ k ih =>
    intro i a
    simp only [vmx]
    obtain ⟨h1, h2⟩ := ih (i + 1) (if a < c i then c i else a)
    refine ⟨?_, fun j j1 j2 => ?_⟩
    · refine Nat.le_trans ?_ h1
      split <;> omega
    · by_cases e : j = i
      · subst e
        refine Nat.le_trans ?_ h1
        split <;> omega
      · exact h2 j (by omega) (by omega)
theorem vfd_some {c : Nat → Bool} {w : Nat} : ∀ k i, i ≤ w → w < i + k → c w = true → (∀ v, i ≤ v → v < i + k → c v = true → v = w) → vfd c i k = some w := by
  intro k
  induction k with
  | zero => intro i a b; omega
  | succ k ih =>
    intro i a b hc hu
    simp only [vfd]
    by_cases e : c i = true
    · rw [if_pos e, hu i (Nat.le_refl _) (by omega) e]
    · rw [if_neg e]
      have : i ≠ w := fun x => e (x ▸ hc)
      exact ih (i + 1) (by omega) (by omega) hc (fun v v1 v2 => hu v (by omega) (by omega))
theorem vfd_none {c : Nat → Bool} : ∀ k i, (∀ v, i ≤ v → v < i + k → ¬ c v = true) → vfd c i k = none := by
  intro k
  induction k with
  | zero => intro i _; rfl
  | succ k ih =>
    intro i hu
    simp only [vfd]
    rw [if_neg (hu i (Nat.le_refl _) (by omega))]
    exact ih (i + 1) (fun v v1 v2 => hu v (by omega) (by omega))
def wrv (o : Option Nat) : Int32 := match o with
  | some w => nI w
  | none => -1
theorem l_w25 (hm : 0 < m) (hh : h ≤ 60) : ∀ d f n (M : Mg), n + d = 9 → d < f → MX M X L → M 11 6 = nI (h + n) → M 11 9 = 0 → (∀ v, v < 11 → M 8 v = inw X L h n v) → (∀ v, v < 11 → wfull X L h v = true → n < (wl v).length) → n ≤ vmx (fun j => cpl X L (wl j) h) 0 11 0 → ∃ M', Mk M M' ∧ M' 11 6 = nI (vrb X L h).2 ∧ M' 11 9 = (if (vrb X L h).1.isSome = true then 0 else 1) ∧ FX8_word_L25 f m (nI n) (-1) (pum ν m M) = rt (wrv (vrb X L h).1) (pum ν m M') := by
  intro d
  induction d with
  | zero =>
    intro f n M hn hf hX h6 h9 hr hfu hmx
    have hb : vmx (fun j => cpl X L (wl j) h) 0 11 0 ≤ 8 := vmx_le 11 0 0 (Nat.zero_le _) (fun j _ hj => by
      have := (cpl_le X L (wl j) h).1
      have := (wl_len j (by omega)).2
      show cpl X L (wl j) h ≤ 8
      omega)
    omega
  | succ d ih =>
    intro f n M hn hf hX h6 h9 hr hfu hmx
    obtain ⟨f, rfl⟩ : ∃ g, f = g + 1 := ⟨f - 1, by omega⟩
    have h60 := hX.1
    have hmb : vmx (fun j => cpl X L (wl j) h) 0 11 0 ≤ 60 - h := vmx_le 11 0 0 (Nat.zero_le _) (fun j _ _ => by
      show cpl X L (wl j) h ≤ 60 - h
      by_cases e : 0 < cpl X L (wl j) h
      · have := (cpl_le X L (wl j) h).2 e; omega
      · omega)
    have hm1 : ¬ (0 : Int32) ≤ -1 := by decide
    obtain ⟨M1, q1, q2, q3⟩ := l_w41 (ν := ν) (k25 := FX8_word_L25 f) (is := -1) (n := n) hm (by omega) hh (by omega) 11 FU 0 M hX h6 (fun v hv => absurd hv (Nat.not_lt_zero v)) (fun v _ hv => hr v hv) rfl (by unfold FU; omega)
    rw [if_neg (show ¬ anyw X L h n 0 = true from fun e => by obtain ⟨w, hw, -⟩ := of_decide_eq_true e; omega)] at q3
    have hX1 : MX M1 X L := Mk_X ⟨fun r a _ => q1 r a, fun j _ _ => by rw [q1 11 (by decide)]⟩ hX
    have hk1 : Mk M M1 := ⟨fun r a _ => q1 r a, fun j _ _ => by rw [q1 11 (by decide)]⟩
    have h61 : M1 11 6 = nI (h + n) := by rw [q1 11 (by decide)]; exact h6
    have hstart : FX8_word_L25 (f + 1) m (nI n) (-1) (pum ν m M) = FX8_word_B140 (FX8_word_L25 f) m (nI n) (-1) (if anyw X L h n 11 = true then 1 else 0) (if anyw X L h n 11 = true then 0 else 1) m (pum ν m M1) := by
      rw [← q3]
      simp only [FX8_word_L25, FX8_word_B25, hm1, if_false, w_I0, w_I1, w_I2, w_I3, w_I4, w_R5, w_R6, w_R7, w_R8, w_R9, w_R10, w_R11, w_R12, w_R13, w_R14, w_R15, w_I16, w_I17, w_I18, w_I19, w_I20, w_I21, w_vc, w_a0, w_s0, w_a1, w_s1, w_a2, w_s2, w_a3, w_s3, w_a4, w_s4, w_a5, w_s5, w_a6, w_s6, w_a7, w_s7, w_a8, w_s8, w_a9, w_s9, w_a10, w_s10, w_p0, w_p1, w_p2, w_p3, w_p4, w_p16, w_p17, w_p18, w_p19, w_p20, w_p21, o_0, o_1, o_2, o_3, o_4, o_5, hm, i_0, z_0, i_1, z_1, i_2, z_2, i_3, z_3, i_4, z_4, i_5, z_5, i_6, z_6, i_7, z_7, i_8, z_8, h9, if_true]
      rfl
    rw [hstart]
    have e6 : ∀ w, (mS M1 11 9 w) 11 6 = nI (h + n) := fun w => by simp (disch := omega) only [m_same, m_col, m_row, s_same, s_col, s_row]; exact h61
    by_cases g : anyw X L h n 11 = true
    · have hb140 : FX8_word_B140 (FX8_word_L25 f) m (nI n) (-1) (if anyw X L h n 11 = true then 1 else 0) (if anyw X L h n 11 = true then 0 else 1) m (pum ν m M1) = FX8_word_L167 (FX8_word_L25 f) FU m (nI (n + 1)) (-1) (nI 0) (pum ν m (mH M1 (h + n + 1) 0)) := by
        simp only [FX8_word_B140, FX8_word_B157, g, if_true, gd, b0, one_ne, if_false, w_I0, w_I1, w_I2, w_I3, w_I4, w_R5, w_R6, w_R7, w_R8, w_R9, w_R10, w_R11, w_R12, w_R13, w_R14, w_R15, w_I16, w_I17, w_I18, w_I19, w_I20, w_I21, w_vc, w_a0, w_s0, w_a1, w_s1, w_a2, w_s2, w_a3, w_s3, w_a4, w_s4, w_a5, w_s5, w_a6, w_s6, w_a7, w_s7, w_a8, w_s8, w_a9, w_s9, w_a10, w_s10, w_p0, w_p1, w_p2, w_p3, w_p4, w_p16, w_p17, w_p18, w_p19, w_p20, w_p21, o_0, o_1, o_2, o_3, o_4, o_5, hm, i_0, z_0, i_1, z_1, i_2, z_2, i_3, z_3, i_4, z_4, i_5, z_5, i_6, z_6, i_7, z_7, i_8, z_8, e6, nI_1]
        rfl
      have hX2 : MX (mH M1 (h + n + 1) 0) X L := Mk_X mH_k hX1
      have hr2 : ∀ v, v < 11 → (mH M1 (h + n + 1) 0) 8 v = inw X L h (n + 1) v := fun v hv => by
        rw [← q2 v hv]
        unfold mH
        simp (disch := omega) only [m_same, m_col, m_row, s_same, s_col, s_row]
      rw [hb140, l_w167 (h := h) (n := n + 1) hm (by omega) hX2 hr2 11 FU 0 (-1) rfl (by unfold FU; omega)]
      obtain ⟨w1, hw1, hw2⟩ := of_decide_eq_true g
      have hn8 : n + 1 ≤ 8 := by
        have := (cpl_le X L (wl w1) h).1
        have := (wl_len w1 hw1).2
        omega
      by_cases g2 : ∃ w0, w0 < 11 ∧ n + 1 ≤ cpl X L (wl w0) h ∧ (wl w0).length = n + 1
      · obtain ⟨w0, w01, w02, w03⟩ := g2
        have hful : wfull X L h w0 = true := decide_eq_true (by have := (cpl_le X L (wl w0) h).1; omega)
        have hu : ∀ v, v < 11 → wfull X L h v = true → v = w0 := fun v v1 v2 => full_one v1 w01 v2 hful
        have hfo := (fo_last (p := fun v => n + 1 ≤ cpl X L (wl v) h ∧ (wl v).length = n + 1) 11 0 (-1)).2 w0 (Nat.zero_le _) (by omega) ⟨w02, w03⟩ (fun v _ v2 hv => hu v (by omega) (decide_eq_true (by have := (cpl_le X L (wl v) h).1; omega)))
        rw [hfo]
        have hvrb : vrb X L h = (some w0, h + (wl w0).length) := by
          unfold vrb
          rw [vfd_some 11 0 (Nat.zero_le _) (by omega) hful (fun v _ v2 v3 => hu v (by omega) v3)]
        obtain ⟨f, rfl⟩ : ∃ g, f = g + 1 := ⟨f - 1, by omega⟩
        have hp0 : (0 : Int32) ≤ nI w0 := nI_pos' (by omega)
        refine ⟨mH M1 (h + n + 1) 0, Mk_t hk1 mH_k, ?_, ?_, ?_⟩
        · rw [hvrb]; show _ = nI (h + (wl w0).length); rw [w03]; exact mH_6
        · rw [hvrb]; exact mH_9
        · simp only [FX8_word_L25, FX8_word_B25, hp0, if_true, hvrb, wrv]
      · have hfo := (fo_last (p := fun v => n + 1 ≤ cpl X L (wl v) h ∧ (wl v).length = n + 1) 11 0 (-1)).1 (fun v _ v2 hv => g2 ⟨v, by omega, hv.1, hv.2⟩)
        rw [hfo]
        obtain ⟨M', r1, r2, r3, r4⟩ := ih f (n + 1) (mH M1 (h + n + 1) 0) (by omega) (by omega) hX2 mH_6 mH_9 hr2 (fun v v1 v2 => by
          have a := hfu v v1 v2
          have b := of_decide_eq_true (show decide (cpl X L (wl v) h = (wl v).length) = true from v2)
          have c : (wl v).length ≠ n + 1 := fun e => g2 ⟨v, v1, by omega, e⟩
          omega) (Nat.le_trans hw2 ((vmx_ge (c := fun j => cpl X L (wl j) h) 11 0 0).2 w1 (Nat.zero_le _) (by omega)))
        exact ⟨M', Mk_t (Mk_t hk1 mH_k) r1, r2, r3, r4⟩
    · have g0 : anyw X L h n 11 = false := by simpa using g
      have e0 : nI (h + n) + 0 = nI (h + n) := Int32.add_zero _
      have hb140 : FX8_word_B140 (FX8_word_L25 f) m (nI n) (-1) (if anyw X L h n 11 = true then 1 else 0) (if anyw X L h n 11 = true then 0 else 1) m (pum ν m M1) = FX8_word_L167 (FX8_word_L25 f) FU m (nI (n + 1)) (-1) (nI 0) (pum ν m (mH M1 (h + n) 1)) := by
        simp only [FX8_word_B140, FX8_word_B157, g0, Bool.false_eq_true, if_true, gd, b1, if_false, w_I0, w_I1, w_I2, w_I3, w_I4, w_R5, w_R6, w_R7, w_R8, w_R9, w_R10, w_R11, w_R12, w_R13, w_R14, w_R15, w_I16, w_I17, w_I18, w_I19, w_I20, w_I21, w_vc, w_a0, w_s0, w_a1, w_s1, w_a2, w_s2, w_a3, w_s3, w_a4, w_s4, w_a5, w_s5, w_a6, w_s6, w_a7, w_s7, w_a8, w_s8, w_a9, w_s9, w_a10, w_s10, w_p0, w_p1, w_p2, w_p3, w_p4, w_p16, w_p17, w_p18, w_p19, w_p20, w_p21, o_0, o_1, o_2, o_3, o_4, o_5, hm, i_0, z_0, i_1, z_1, i_2, z_2, i_3, z_3, i_4, z_4, i_5, z_5, i_6, z_6, i_7, z_7, i_8, z_8, e6, nI_1, e0]
        rfl
      have hX2 : MX (mH M1 (h + n) 1) X L := Mk_X mH_k hX1
      have hr2 : ∀ v, v < 11 → (mH M1 (h + n) 1) 8 v = inw X L h (n + 1) v := fun v hv => by
        rw [← q2 v hv]
        unfold mH
        simp (disch := omega) only [m_same, m_col, m_row, s_same, s_col, s_row]
      have hno : ∀ v, v < 11 → ¬ n + 1 ≤ cpl X L (wl v) h := fun v v1 e => g (decide_eq_true ⟨v, v1, e⟩)
      rw [hb140, l_w167 (h := h) (n := n + 1) hm (by omega) hX2 hr2 11 FU 0 (-1) rfl (by unfold FU; omega)]
      have hfo := (fo_last (p := fun v => n + 1 ≤ cpl X L (wl v) h ∧ (wl v).length = n + 1) 11 0 (-1)).1 (fun v _ v2 hv => hno v (by omega) hv.1)
      rw [hfo]
      have hmx2 : vmx (fun j => cpl X L (wl j) h) 0 11 0 ≤ n := vmx_le 11 0 0 (Nat.zero_le _) (fun j _ hj => by
        have := hno j (by omega)
        show cpl X L (wl j) h ≤ n
        omega)
      have hvrb : vrb X L h = (none, h + n) := by
        unfold vrb
        rw [vfd_none 11 0 (fun v _ v2 v3 => by
          have a := hfu v (by omega) v3
          have b := of_decide_eq_true (show decide (cpl X L (wl v) h = (wl v).length) = true from v3)
          exact hno v (by omega) (by omega))]
        show (none, h + vmx (fun j => cpl X L (wl j) h) 0 11 0) = _
        rw [show vmx (fun j => cpl X L (wl j) h) 0 11 0 = n by omega]
      obtain ⟨f, rfl⟩ : ∃ g, f = g + 1 := ⟨f - 1, by omega⟩
      refine ⟨mH M1 (h + n) 1, Mk_t hk1 mH_k, ?_, ?_, ?_⟩
      · rw [hvrb]; exact mH_6
      · rw [hvrb]; exact mH_9
      · have e9 : (mH M1 (h + n) 1) 11 9 = 1 := mH_9
        simp only [FX8_word_L25, FX8_word_B25, hm1, if_false, w_I0, w_I1, w_I2, w_I3, w_I4, w_R5, w_R6, w_R7, w_R8, w_R9, w_R10, w_R11, w_R12, w_R13, w_R14, w_R15, w_I16, w_I17, w_I18, w_I19, w_I20, w_I21, w_vc, w_a0, w_s0, w_a1, w_s1, w_a2, w_s2, w_a3, w_s3, w_a4, w_s4, w_a5, w_s5, w_a6, w_s6, w_a7, w_s7, w_a8, w_s8, w_a9, w_s9, w_a10, w_s10, w_p0, w_p1, w_p2, w_p3, w_p4, w_p16, w_p17, w_p18, w_p19, w_p20, w_p21, o_0, o_1, o_2, o_3, o_4, o_5, hm, i_0, z_0, i_1, z_1, i_2, z_2, i_3, z_3, i_4, z_4, i_5, z_5, i_6, z_6, i_7, z_7, i_8, z_8, e9, one_ne, hvrb, wrv]
theorem l_w2 (hm : 0 < m) : ∀ k f i (M : Mg), i + k = 11 → k < f → ∃ M', (∀ r, r ≠ 8 → M' r = M r) ∧ (∀ v, v < i → M' 8 v = M 8 v) ∧ (∀ v, i ≤ v → v < 11 → M' 8 v = 1) ∧ FX8_word_L2 f m (nI i) (pum ν m M) = FX8_word_L25 FU m 0 (-1) (pum ν m M') := by
  intro k
  induction k with
  | zero =>
    intro f i M hi hf
    obtain ⟨f, rfl⟩ : ∃ g, f = g + 1 := ⟨f - 1, by omega⟩
    have h1 : (11 : Int32) ≤ nI i := nI_le (a := 11) (by omega) (by omega)
    refine ⟨M, fun _ _ => rfl, fun _ _ => rfl, fun v a b => by omega, ?_⟩
    simp only [FX8_word_L2, FX8_word_B2, h1, if_true]
  | succ k ih =>
    intro f i M hi hf
    obtain ⟨f, rfl⟩ : ∃ g, f = g + 1 := ⟨f - 1, by omega⟩
    have h1 : ¬ (11 : Int32) ≤ nI i := nI_ge (b := 11) (by omega) (by decide)
    have i8 : inb (nI i) 11 = true := inb_n (by omega) (by decide)
    have c8 : (nI i).toNatClampNeg = i := nI_clamp (by omega)
    obtain ⟨M', q1, q2, q3, q4⟩ := ih f (i + 1) (mS M 8 i 1) (by omega) (by omega)
    refine ⟨M', fun r hr => (q1 r hr).trans (by funext j; simp (disch := omega) only [m_same, m_col, m_row, s_same, s_col, s_row]), fun v hv => (q2 v (by omega)).trans (by simp (disch := omega) only [m_same, m_col, m_row, s_same, s_col, s_row]), fun v a b => ?_, ?_⟩
    · by_cases e : v = i
      · subst e
        rw [q2 v (by omega)]
        simp (disch := omega) only [m_same, m_col, m_row, s_same, s_col, s_row]
      · exact q3 v (by omega) b
    · simp only [FX8_word_L2, FX8_word_B2, h1, if_false, w_I0, w_I1, w_I2, w_I3, w_I4, w_R5, w_R6, w_R7, w_R8, w_R9, w_R10, w_R11, w_R12, w_R13, w_R14, w_R15, w_I16, w_I17, w_I18, w_I19, w_I20, w_I21, w_vc, w_a0, w_s0, w_a1, w_s1, w_a2, w_s2, w_a3, w_s3, w_a4, w_s4, w_a5, w_s5, w_a6, w_s6, w_a7, w_s7, w_a8, w_s8, w_a9, w_s9, w_a10, w_s10, w_p0, w_p1, w_p2, w_p3, w_p4, w_p16, w_p17, w_p18, w_p19, w_p20, w_p21, o_0, o_1, o_2, o_3, o_4, o_5, hm, i_0, z_0, i_1, z_1, i_2, z_2, i_3, z_3, i_4, z_4, i_5, z_5, i_6, z_6, i_7, z_7, i_8, z_8, i8, c8, if_true, nI_1]
      exact q4
theorem m_word (hm : 0 < m) (hX : MX M X L) (h6 : M 11 6 = nI h) (h9 : M 11 9 = 0) (hh : h ≤ 60) : ∃ M', Mk M M' ∧ M' 11 6 = nI (vrb X L h).2 ∧ M' 11 9 = (if (vrb X L h).1.isSome = true then 0 else 1) ∧ FX8_word m (pum ν m M) = rt (wrv (vrb X L h).1) (pum ν m M') := by
  obtain ⟨M1, q1, -, q3, q4⟩ := l_w2 (ν := ν) hm 11 FU 0 M rfl (by unfold FU; omega)
  have hk1 : Mk M M1 := ⟨fun r a _ => q1 r a, fun j _ _ => by rw [q1 11 (by decide)]⟩
  obtain ⟨M', r1, r2, r3, r4⟩ := l_w25 (ν := ν) (h := h) hm hh 9 FU 0 M1 rfl (by unfold FU; omega) (Mk_X hk1 hX) (by rw [q1 11 (by decide)]; exact h6) (by rw [q1 11 (by decide)]; exact h9) (fun v hv => by rw [q3 v (Nat.zero_le _) hv]; exact (if_pos (Nat.zero_le _)).symm) (fun v hv _ => by have := (wl_len v hv).1; omega) (Nat.zero_le _)
  refine ⟨M', Mk_t hk1 r1, r2, r3, ?_⟩
  unfold FX8_word
  exact q4.trans r4
/-! numbers, once more -/
theorem nms_cons (X : Nat → Nat) (L : Nat) (W : Nat) (ws : List Nat) (b : Bool) (h : Nat) : nms X L (W :: ws) b h = match nms X L [W] b h with
    | (some l, e) => (match nms X L ws false e with
      | (some l2, e2) => (some (l.getD 0 0 :: l2), e2)
      | (none, e2) => (none, e2))
    | (none, e) => (none, e) := by
  simp only [nms]
  by_cases g : b = false ∧ sgn X L h 32 = false
  · simp only [if_pos g]
  · simp only [if_neg g]
    generalize (if b = true then h else h + 1) = h1
    by_cases g2 : dgn X L W h1 = 0
    · simp only [if_pos g2]
    · simp only [if_neg g2]
      rfl
def nmv (o : Option (List Nat)) : Int32 := match o with
  | some l => nI (l.getD 0 0)
  | none => 0
theorem m_one {W : Nat} (hm : 0 < m) (hW : W ≤ 3) (hX : MX M X L) (h6 : M 11 6 = nI h) (h9 : M 11 9 = 0) (hh : h ≤ 60) : ∃ M' v, Mk M M' ∧ M' 11 6 = nI (nms X L [W] true h).2 ∧ M' 11 9 = (if (nms X L [W] true h).1.isSome = true then 0 else 1) ∧ FX8_digits m (nI W) (pum ν m M) = rt v (pum ν m M') ∧ ∀ l, (nms X L [W] true h).1 = some l → v = nI (l.getD 0 0) ∧ l.length = 1 := by
  have h1 := m_dig (ν := ν) hm hW hX h6 h9 hh
  refine ⟨_, _, mH_k, ?_, ?_, h1, ?_⟩
  · rw [mH_6]
    simp only [nms, Bool.true_eq_false, false_and, if_false, if_true]
    by_cases g : dgn X L W h = 0
    · rw [if_pos g, g]; rfl
    · rw [if_neg g]
  · rw [mH_9]
    simp only [nms, Bool.true_eq_false, false_and, if_false, if_true]
    by_cases g : dgn X L W h = 0
    · rw [if_pos g, if_pos g]; rfl
    · rw [if_neg g, if_neg g]; rfl
  · intro l e
    simp only [nms, Bool.true_eq_false, false_and, if_false, if_true] at e
    by_cases g : dgn X L W h = 0
    · rw [if_pos g] at e; cases e
    · rw [if_neg g] at e; cases e; exact ⟨rfl, rfl⟩
theorem m_beh {W : Nat} (hm : 0 < m) (hW : W ≤ 3) (hX : MX M X L) (h6 : M 11 6 = nI h) (h9 : M 11 9 = 0) (hh : h ≤ 60) : ∃ M' v, Mk M M' ∧ M' 11 6 = nI (nms X L [W] false h).2 ∧ M' 11 9 = (if (nms X L [W] false h).1.isSome = true then 0 else 1) ∧ FX8_behind m (nI W) (pum ν m M) = rt v (pum ν m M') ∧ ∀ l, (nms X L [W] false h).1 = some l → v = nI (l.getD 0 0) ∧ l.length = 1 := by
  have hmk := m_mark (ν := ν) (c := 32) hm (by decide) hX h6 h9 hh
  rw [show nI 32 = (32 : Int32) from rfl] at hmk
  have h60 := hX.1
  by_cases g : sgn X L h 32 = true
  · have hlt : h < L := (of_decide_eq_true (show decide (h < L ∧ X h = 32) = true from g)).1
    rw [if_pos g] at hmk
    obtain ⟨M', v, q1, q2, q3, q4, q5⟩ := m_one (ν := ν) (h := h + 1) hm hW (Mk_X mH_k hX) (mH_6 (M := M) (w := 0)) mH_9 (by omega)
    have e : nms X L [W] false h = nms X L [W] true (h + 1) := by
      simp only [nms, g, Bool.true_eq_false, and_false, if_false, Bool.false_eq_true, false_and, if_true]
    rw [e]
    have e9 : (mH M (h + 1) 0) 11 9 = 0 := mH_9
    refine ⟨M', v, Mk_t mH_k q1, q2, q3, ?_, q5⟩
    simp only [FX8_behind, w_I0, w_I1, w_I2, w_I3, w_I4, w_R5, w_R6, w_R7, w_R8, w_R9, w_R10, w_R11, w_R12, w_R13, w_R14, w_R15, w_I16, w_I17, w_I18, w_I19, w_I20, w_I21, w_vc, w_a0, w_s0, w_a1, w_s1, w_a2, w_s2, w_a3, w_s3, w_a4, w_s4, w_a5, w_s5, w_a6, w_s6, w_a7, w_s7, w_a8, w_s8, w_a9, w_s9, w_a10, w_s10, w_p0, w_p1, w_p2, w_p3, w_p4, w_p16, w_p17, w_p18, w_p19, w_p20, w_p21, o_0, o_1, o_2, o_3, o_4, o_5, hm, i_0, z_0, i_1, z_1, i_2, z_2, i_3, z_3, i_4, z_4, i_5, z_5, i_6, z_6, i_7, z_7, i_8, z_8, hmk, bnd, rt, e9, if_true, q4]
  · have g0 : sgn X L h 32 = false := by simpa using g
    rw [if_neg g] at hmk
    have e : nms X L [W] false h = (none, h) := by
      simp only [nms, g0, and_self, if_true]
    rw [e]
    have e9 : (mH M h 1) 11 9 = 1 := mH_9
    refine ⟨mH M h 1, 0, mH_k, mH_6, mH_9, ?_, (fun l x => by cases x)⟩
    simp only [FX8_behind, w_I0, w_I1, w_I2, w_I3, w_I4, w_R5, w_R6, w_R7, w_R8, w_R9, w_R10, w_R11, w_R12, w_R13, w_R14, w_R15, w_I16, w_I17, w_I18, w_I19, w_I20, w_I21, w_vc, w_a0, w_s0, w_a1, w_s1, w_a2, w_s2, w_a3, w_s3, w_a4, w_s4, w_a5, w_s5, w_a6, w_s6, w_a7, w_s7, w_a8, w_s8, w_a9, w_s9, w_a10, w_s10, w_p0, w_p1, w_p2, w_p3, w_p4, w_p16, w_p17, w_p18, w_p19, w_p20, w_p21, o_0, o_1, o_2, o_3, o_4, o_5, hm, i_0, z_0, i_1, z_1, i_2, z_2, i_3, z_3, i_4, z_4, i_5, z_5, i_6, z_6, i_7, z_7, i_8, z_8, hmk, bnd, rt, e9, one_ne, if_false]
/-! a command -/
def ncod (M1 : Mg) (ν : Me) (m : Nat) (dg : Int32) (o : Option (Nat × List Nat)) : Rs Unit := match o with
  | none => rt () (pum ν m M1)
  | some p => if dg = 0 then rt () (pum ν m M1) else bnd (FX8_does m (nI p.1) (nI (p.2.getD 0 0)) (nI (p.2.getD 1 0)) (nI (p.2.getD 2 0)) (pum ν m M1)) (fun _ μ => rt () μ)
theorem m_93 {w a0 a1 a2 : Int32} (hm : 0 < m) (h9 : M 11 9 = 0) : FX8_command_B93 m w a1 a2 a0 (pum ν m M) = if M 11 10 = 0 then rt () (pum ν m M) else bnd (FX8_does m w a0 a1 a2 (pum ν m M)) (fun _ μ => rt () μ) := by
  simp only [FX8_command_B93, w_I0, w_I1, w_I2, w_I3, w_I4, w_R5, w_R6, w_R7, w_R8, w_R9, w_R10, w_R11, w_R12, w_R13, w_R14, w_R15, w_I16, w_I17, w_I18, w_I19, w_I20, w_I21, w_vc, w_a0, w_s0, w_a1, w_s1, w_a2, w_s2, w_a3, w_s3, w_a4, w_s4, w_a5, w_s5, w_a6, w_s6, w_a7, w_s7, w_a8, w_s8, w_a9, w_s9, w_a10, w_s10, w_p0, w_p1, w_p2, w_p3, w_p4, w_p16, w_p17, w_p18, w_p19, w_p20, w_p21, o_0, o_1, o_2, o_3, o_4, o_5, hm, i_0, z_0, i_1, z_1, i_2, z_2, i_3, z_3, i_4, z_4, i_5, z_5, i_6, z_6, i_7, z_7, i_8, z_8, h9, if_true]
theorem m_93w {w a0 a1 a2 : Int32} (hm : 0 < m) (h9 : M 11 9 = 1) : FX8_command_B93 m w a1 a2 a0 (pum ν m M) = rt () (pum ν m M) := by
  simp only [FX8_command_B93, w_I0, w_I1, w_I2, w_I3, w_I4, w_R5, w_R6, w_R7, w_R8, w_R9, w_R10, w_R11, w_R12, w_R13, w_R14, w_R15, w_I16, w_I17, w_I18, w_I19, w_I20, w_I21, w_vc, w_a0, w_s0, w_a1, w_s1, w_a2, w_s2, w_a3, w_s3, w_a4, w_s4, w_a5, w_s5, w_a6, w_s6, w_a7, w_s7, w_a8, w_s8, w_a9, w_s9, w_a10, w_s10, w_p0, w_p1, w_p2, w_p3, w_p4, w_p16, w_p17, w_p18, w_p19, w_p20, w_p21, o_0, o_1, o_2, o_3, o_4, o_5, hm, i_0, z_0, i_1, z_1, i_2, z_2, i_3, z_3, i_4, z_4, i_5, z_5, i_6, z_6, i_7, z_7, i_8, z_8, h9, one_ne, if_false]
theorem cmd_t : ∀ w, w < 11 → (ww w = [3] ∧ (nI w < 2 ∨ (¬ nI w < 2 ∧ nI w = 5) ∨ (¬ nI w < 2 ∧ ¬ nI w = 5 ∧ nI w = 9)) ∧ ¬ nI w = 4 ∧ ¬ nI w = 6 ∧ ¬ nI w = 10) ∨ (ww w = [1] ∧ ¬ nI w < 2 ∧ ¬ nI w = 5 ∧ ¬ nI w = 9 ∧ ¬ nI w = 4 ∧ ¬ nI w = 6 ∧ ¬ nI w = 10) ∨ (ww w = [1, 3] ∧ ¬ nI w < 2 ∧ ¬ nI w = 5 ∧ ¬ nI w = 9 ∧ (nI w = 4 ∨ (¬ nI w = 4 ∧ nI w = 6)) ∧ ¬ nI w = 10) ∨ (ww w = [1, 3, 1] ∧ ¬ nI w < 2 ∧ ¬ nI w = 5 ∧ ¬ nI w = 9 ∧ ¬ nI w = 4 ∧ ¬ nI w = 6 ∧ nI w = 10) := by
  intro w hw
  match w, hw with
  | 0, _ => exact Or.inl ⟨rfl, Or.inl (by decide), by decide, by decide, by decide⟩
  | 1, _ => exact Or.inl ⟨rfl, Or.inl (by decide), by decide, by decide, by decide⟩
  | 2, _ => exact Or.inr (Or.inl ⟨rfl, by decide, by decide, by decide, by decide, by decide, by decide⟩)
  | 3, _ => exact Or.inr (Or.inl ⟨rfl, by decide, by decide, by decide, by decide, by decide, by decide⟩)
  | 4, _ => exact Or.inr (Or.inr (Or.inl ⟨rfl, by decide, by decide, by decide, Or.inl (by decide), by decide⟩))
  | 5, _ => exact Or.inl ⟨rfl, Or.inr (Or.inl ⟨by decide, by decide⟩), by decide, by decide, by decide⟩
  | 6, _ => exact Or.inr (Or.inr (Or.inl ⟨rfl, by decide, by decide, by decide, Or.inr ⟨by decide, by decide⟩, by decide⟩))
  | 7, _ => exact Or.inr (Or.inl ⟨rfl, by decide, by decide, by decide, by decide, by decide, by decide⟩)
  | 8, _ => exact Or.inr (Or.inl ⟨rfl, by decide, by decide, by decide, by decide, by decide, by decide⟩)
  | 9, _ => exact Or.inl ⟨rfl, Or.inr (Or.inr ⟨by decide, by decide, by decide⟩), by decide, by decide, by decide⟩
  | 10, _ => exact Or.inr (Or.inr (Or.inr ⟨rfl, by decide, by decide, by decide, by decide, by decide, by decide⟩))
theorem isS {α : Type} {o : Option α} {x : Int32} (h : x = (if o.isSome = true then 0 else 1)) : (o = none → x = 1) ∧ ∀ a, o = some a → x = 0 := ⟨fun e => by rw [h, e]; rfl, fun a e => by rw [h, e]; rfl⟩
theorem m_cmd (hm : 0 < m) (hX : MX M X L) (h6 : M 11 6 = nI h) (h9 : M 11 9 = 0) (hh : h ≤ 60) : ∃ M1, Mk M M1 ∧ M1 11 6 = nI (cmd X L h).2 ∧ M1 11 9 = (if (cmd X L h).1.isSome = true then 0 else 1) ∧ FX8_command m (pum ν m M) = ncod M1 ν m (M 11 10) (cmd X L h).1 := by
  obtain ⟨M1, a1, a2, a3, a4⟩ := m_word (ν := ν) hm hX h6 h9 hh
  obtain ⟨v1, v2, v3⟩ := vrb_in (X := X) hX.1 hh
  have hX1 := Mk_X a1 hX
  obtain ⟨o, e, hq⟩ : ∃ o e, vrb X L h = (o, e) := ⟨_, _, rfl⟩
  rw [hq] at a2 a3 a4 v1 v3
  simp only at a2 a3 a4 v1
  have hdo : ∀ M2, Mk M M2 → M2 11 10 = M 11 10 := fun M2 hk => hk.2 10 (by decide) (by decide)
  cases o with
  | none =>
    have hc : cmd X L h = (none, e) := by unfold cmd; simp only [hq]
    have e9 : M1 11 9 = 1 := a3
    rw [hc]
    refine ⟨M1, a1, a2, a3, ?_⟩
    simp only [FX8_command, w_I0, w_I1, w_I2, w_I3, w_I4, w_R5, w_R6, w_R7, w_R8, w_R9, w_R10, w_R11, w_R12, w_R13, w_R14, w_R15, w_I16, w_I17, w_I18, w_I19, w_I20, w_I21, w_vc, w_a0, w_s0, w_a1, w_s1, w_a2, w_s2, w_a3, w_s3, w_a4, w_s4, w_a5, w_s5, w_a6, w_s6, w_a7, w_s7, w_a8, w_s8, w_a9, w_s9, w_a10, w_s10, w_p0, w_p1, w_p2, w_p3, w_p4, w_p16, w_p17, w_p18, w_p19, w_p20, w_p21, o_0, o_1, o_2, o_3, o_4, o_5, hm, i_0, z_0, i_1, z_1, i_2, z_2, i_3, z_3, i_4, z_4, i_5, z_5, i_6, z_6, i_7, z_7, i_8, z_8, a4, bnd, rt, e9, one_ne, if_false, ncod]
  | some w =>
    obtain ⟨w1, -, -⟩ := v3 w rfl
    have e9 : M1 11 9 = 0 := a3
    have hc : cmd X L h = match nms X L (ww w) true e with
      | (some l, e2) => (some (w, l), e2)
      | (none, e2) => (none, e2) := by unfold cmd; simp only [hq]; try (rcases nms X L (ww w) true e with ⟨_ | _, _⟩ <;> rfl)
    rw [hc]
    have hcw : wrv (some w) = nI w := rfl
    rw [hcw] at a4
    rcases cmd_t w w1 with ⟨t1, t2, t4, t6, t10⟩ | ⟨t1, t2, t5, t9, t4, t6, t10⟩ | ⟨t1, t2, t5, t9, t46, t10⟩ | ⟨t1, t2, t5, t9, t4, t6, t10⟩
    · obtain ⟨M2, x, q1, q2, q3, q4, q5⟩ := m_one (ν := ν) (W := 3) (h := e) hm (by decide) hX1 a2 e9 v1
      rw [show nI 3 = (3 : Int32) from rfl] at q4
      have hk := Mk_t a1 q1
      have hrun : FX8_command m (pum ν m M) = FX8_command_B93 m (nI w) 0 0 x (pum ν m M2) := by
        rcases t2 with t | ⟨t, t'⟩ | ⟨t, t', t''⟩
        · simp only [FX8_command, FX8_command_B34, FX8_command_B39, FX8_command_B74, w_I0, w_I1, w_I2, w_I3, w_I4, w_R5, w_R6, w_R7, w_R8, w_R9, w_R10, w_R11, w_R12, w_R13, w_R14, w_R15, w_I16, w_I17, w_I18, w_I19, w_I20, w_I21, w_vc, w_a0, w_s0, w_a1, w_s1, w_a2, w_s2, w_a3, w_s3, w_a4, w_s4, w_a5, w_s5, w_a6, w_s6, w_a7, w_s7, w_a8, w_s8, w_a9, w_s9, w_a10, w_s10, w_p0, w_p1, w_p2, w_p3, w_p4, w_p16, w_p17, w_p18, w_p19, w_p20, w_p21, o_0, o_1, o_2, o_3, o_4, o_5, hm, i_0, z_0, i_1, z_1, i_2, z_2, i_3, z_3, i_4, z_4, i_5, z_5, i_6, z_6, i_7, z_7, i_8, z_8, a4, bnd, rt, e9, if_true, t, q4, t4, t6, t10, if_false]
        · simp only [FX8_command, FX8_command_B34, FX8_command_B39, FX8_command_B74, w_I0, w_I1, w_I2, w_I3, w_I4, w_R5, w_R6, w_R7, w_R8, w_R9, w_R10, w_R11, w_R12, w_R13, w_R14, w_R15, w_I16, w_I17, w_I18, w_I19, w_I20, w_I21, w_vc, w_a0, w_s0, w_a1, w_s1, w_a2, w_s2, w_a3, w_s3, w_a4, w_s4, w_a5, w_s5, w_a6, w_s6, w_a7, w_s7, w_a8, w_s8, w_a9, w_s9, w_a10, w_s10, w_p0, w_p1, w_p2, w_p3, w_p4, w_p16, w_p17, w_p18, w_p19, w_p20, w_p21, o_0, o_1, o_2, o_3, o_4, o_5, hm, i_0, z_0, i_1, z_1, i_2, z_2, i_3, z_3, i_4, z_4, i_5, z_5, i_6, z_6, i_7, z_7, i_8, z_8, a4, bnd, rt, e9, if_true, t, if_false, q4, t4, t6, t10]
          rw [if_pos t']
        · simp only [FX8_command, FX8_command_B34, FX8_command_B39, FX8_command_B74, w_I0, w_I1, w_I2, w_I3, w_I4, w_R5, w_R6, w_R7, w_R8, w_R9, w_R10, w_R11, w_R12, w_R13, w_R14, w_R15, w_I16, w_I17, w_I18, w_I19, w_I20, w_I21, w_vc, w_a0, w_s0, w_a1, w_s1, w_a2, w_s2, w_a3, w_s3, w_a4, w_s4, w_a5, w_s5, w_a6, w_s6, w_a7, w_s7, w_a8, w_s8, w_a9, w_s9, w_a10, w_s10, w_p0, w_p1, w_p2, w_p3, w_p4, w_p16, w_p17, w_p18, w_p19, w_p20, w_p21, o_0, o_1, o_2, o_3, o_4, o_5, hm, i_0, z_0, i_1, z_1, i_2, z_2, i_3, z_3, i_4, z_4, i_5, z_5, i_6, z_6, i_7, z_7, i_8, z_8, a4, bnd, rt, e9, if_true, t, if_false, q4, t4, t6, t10]
          rw [if_neg t', if_pos t'']
      rw [t1, hrun]
      obtain ⟨o2, e2, hn⟩ : ∃ o2 e2, nms X L [3] true e = (o2, e2) := ⟨_, _, rfl⟩
      rw [hn] at q2 q3 q5 ⊢
      cases o2 with
      | none => exact ⟨M2, hk, q2, q3, m_93w hm q3⟩
      | some l =>
        obtain ⟨r1, r2⟩ := q5 l rfl
        obtain ⟨y, rfl⟩ := List.length_eq_one_iff.mp r2
        refine ⟨M2, hk, q2, q3, ?_⟩
        rw [m_93 hm q3, hdo M2 hk, r1]
        rfl
    · obtain ⟨M2, x, q1, q2, q3, q4, q5⟩ := m_one (ν := ν) (W := 1) (h := e) hm (by decide) hX1 a2 e9 v1
      rw [show nI 1 = (1 : Int32) from rfl] at q4
      have hk := Mk_t a1 q1
      have hrun : FX8_command m (pum ν m M) = FX8_command_B93 m (nI w) 0 0 x (pum ν m M2) := by
        simp only [FX8_command, FX8_command_B34, FX8_command_B39, FX8_command_B74, w_I0, w_I1, w_I2, w_I3, w_I4, w_R5, w_R6, w_R7, w_R8, w_R9, w_R10, w_R11, w_R12, w_R13, w_R14, w_R15, w_I16, w_I17, w_I18, w_I19, w_I20, w_I21, w_vc, w_a0, w_s0, w_a1, w_s1, w_a2, w_s2, w_a3, w_s3, w_a4, w_s4, w_a5, w_s5, w_a6, w_s6, w_a7, w_s7, w_a8, w_s8, w_a9, w_s9, w_a10, w_s10, w_p0, w_p1, w_p2, w_p3, w_p4, w_p16, w_p17, w_p18, w_p19, w_p20, w_p21, o_0, o_1, o_2, o_3, o_4, o_5, hm, i_0, z_0, i_1, z_1, i_2, z_2, i_3, z_3, i_4, z_4, i_5, z_5, i_6, z_6, i_7, z_7, i_8, z_8, a4, bnd, rt, e9, if_true, t2, t5, t9, q4, t4, t6, t10, if_false]
      rw [t1, hrun]
      obtain ⟨o2, e2, hn⟩ : ∃ o2 e2, nms X L [1] true e = (o2, e2) := ⟨_, _, rfl⟩
      rw [hn] at q2 q3 q5 ⊢
      cases o2 with
      | none => exact ⟨M2, hk, q2, q3, m_93w hm q3⟩
      | some l =>
        obtain ⟨r1, r2⟩ := q5 l rfl
        obtain ⟨y, rfl⟩ := List.length_eq_one_iff.mp r2
        refine ⟨M2, hk, q2, q3, ?_⟩
        rw [m_93 hm q3, hdo M2 hk, r1]
        rfl
    · obtain ⟨M2, x, q1, q2, q3, q4, q5⟩ := m_one (ν := ν) (W := 1) (h := e) hm (by decide) hX1 a2 e9 v1
      rw [show nI 1 = (1 : Int32) from rfl] at q4
      have hk := Mk_t a1 q1
      have hX2 := Mk_X q1 hX1
      have hrun : FX8_command m (pum ν m M) = FX8_command_B61 m (nI w) 0 0 x (pum ν m M2) := by
        rcases t46 with t | ⟨t, t'⟩
        · simp only [FX8_command, FX8_command_B34, FX8_command_B39, w_I0, w_I1, w_I2, w_I3, w_I4, w_R5, w_R6, w_R7, w_R8, w_R9, w_R10, w_R11, w_R12, w_R13, w_R14, w_R15, w_I16, w_I17, w_I18, w_I19, w_I20, w_I21, w_vc, w_a0, w_s0, w_a1, w_s1, w_a2, w_s2, w_a3, w_s3, w_a4, w_s4, w_a5, w_s5, w_a6, w_s6, w_a7, w_s7, w_a8, w_s8, w_a9, w_s9, w_a10, w_s10, w_p0, w_p1, w_p2, w_p3, w_p4, w_p16, w_p17, w_p18, w_p19, w_p20, w_p21, o_0, o_1, o_2, o_3, o_4, o_5, hm, i_0, z_0, i_1, z_1, i_2, z_2, i_3, z_3, i_4, z_4, i_5, z_5, i_6, z_6, i_7, z_7, i_8, z_8, a4, bnd, rt, e9, if_true, t2, t5, t9, q4, if_false]
          rw [if_pos t]
        · simp only [FX8_command, FX8_command_B34, FX8_command_B39, w_I0, w_I1, w_I2, w_I3, w_I4, w_R5, w_R6, w_R7, w_R8, w_R9, w_R10, w_R11, w_R12, w_R13, w_R14, w_R15, w_I16, w_I17, w_I18, w_I19, w_I20, w_I21, w_vc, w_a0, w_s0, w_a1, w_s1, w_a2, w_s2, w_a3, w_s3, w_a4, w_s4, w_a5, w_s5, w_a6, w_s6, w_a7, w_s7, w_a8, w_s8, w_a9, w_s9, w_a10, w_s10, w_p0, w_p1, w_p2, w_p3, w_p4, w_p16, w_p17, w_p18, w_p19, w_p20, w_p21, o_0, o_1, o_2, o_3, o_4, o_5, hm, i_0, z_0, i_1, z_1, i_2, z_2, i_3, z_3, i_4, z_4, i_5, z_5, i_6, z_6, i_7, z_7, i_8, z_8, a4, bnd, rt, e9, if_true, t2, t5, t9, q4, if_false]
          rw [if_neg t, if_pos t']
      obtain ⟨n1, n2, -⟩ := nms_in (X := X) (L := L) [1] true e v1 hX.1
      rw [t1, hrun, nms_cons]
      obtain ⟨o2, e2, hn⟩ : ∃ o2 e2, nms X L [1] true e = (o2, e2) := ⟨_, _, rfl⟩
      rw [hn] at q2 q3 q5 n1 ⊢
      simp only at n1
      cases o2 with
      | none =>
        have z9 : M2 11 9 = 1 := q3
        refine ⟨M2, hk, q2, q3, ?_⟩
        simp only [FX8_command_B61, FX8_command_B74, w_I0, w_I1, w_I2, w_I3, w_I4, w_R5, w_R6, w_R7, w_R8, w_R9, w_R10, w_R11, w_R12, w_R13, w_R14, w_R15, w_I16, w_I17, w_I18, w_I19, w_I20, w_I21, w_vc, w_a0, w_s0, w_a1, w_s1, w_a2, w_s2, w_a3, w_s3, w_a4, w_s4, w_a5, w_s5, w_a6, w_s6, w_a7, w_s7, w_a8, w_s8, w_a9, w_s9, w_a10, w_s10, w_p0, w_p1, w_p2, w_p3, w_p4, w_p16, w_p17, w_p18, w_p19, w_p20, w_p21, o_0, o_1, o_2, o_3, o_4, o_5, hm, i_0, z_0, i_1, z_1, i_2, z_2, i_3, z_3, i_4, z_4, i_5, z_5, i_6, z_6, i_7, z_7, i_8, z_8, z9, one_ne, if_false, t10]
        exact m_93w hm q3
      | some l =>
        have z9 : M2 11 9 = 0 := q3
        obtain ⟨r1, r2⟩ := q5 l rfl
        obtain ⟨y, rfl⟩ := List.length_eq_one_iff.mp r2
        obtain ⟨M3, x3, s1, s2, s3, s4, s5⟩ := m_beh (ν := ν) (W := 3) (h := e2) hm (by decide) hX2 q2 z9 n1
        rw [show nI 3 = (3 : Int32) from rfl] at s4
        have hk3 := Mk_t hk s1
        have hrun2 : FX8_command_B61 m (nI w) 0 0 x (pum ν m M2) = FX8_command_B93 m (nI w) x3 0 x (pum ν m M3) := by
          simp only [FX8_command_B61, FX8_command_B74, w_I0, w_I1, w_I2, w_I3, w_I4, w_R5, w_R6, w_R7, w_R8, w_R9, w_R10, w_R11, w_R12, w_R13, w_R14, w_R15, w_I16, w_I17, w_I18, w_I19, w_I20, w_I21, w_vc, w_a0, w_s0, w_a1, w_s1, w_a2, w_s2, w_a3, w_s3, w_a4, w_s4, w_a5, w_s5, w_a6, w_s6, w_a7, w_s7, w_a8, w_s8, w_a9, w_s9, w_a10, w_s10, w_p0, w_p1, w_p2, w_p3, w_p4, w_p16, w_p17, w_p18, w_p19, w_p20, w_p21, o_0, o_1, o_2, o_3, o_4, o_5, hm, i_0, z_0, i_1, z_1, i_2, z_2, i_3, z_3, i_4, z_4, i_5, z_5, i_6, z_6, i_7, z_7, i_8, z_8, z9, if_true, s4, bnd, rt, t10, if_false]
        rw [hrun2]
        obtain ⟨o3, e3, hn3⟩ : ∃ o3 e3, nms X L [3] false e2 = (o3, e3) := ⟨_, _, rfl⟩
        simp only [hn3] at s2 s3 s5 ⊢
        cases o3 with
        | none => exact ⟨M3, hk3, s2, s3, m_93w hm s3⟩
        | some l3 =>
          obtain ⟨u1, u2⟩ := s5 l3 rfl
          obtain ⟨y3, rfl⟩ := List.length_eq_one_iff.mp u2
          refine ⟨M3, hk3, s2, s3, ?_⟩
          rw [m_93 hm s3, hdo M3 hk3, r1, u1]
          rfl
    · obtain ⟨M2, x, q1, q2, q3, q4, q5⟩ := m_one (ν := ν) (W := 1) (h := e) hm (by decide) hX1 a2 e9 v1
      rw [show nI 1 = (1 : Int32) from rfl] at q4
      have hk := Mk_t a1 q1
      have hX2 := Mk_X q1 hX1
      have hrun : FX8_command m (pum ν m M) = FX8_command_B61 m (nI w) 0 0 x (pum ν m M2) := by
        simp only [FX8_command, FX8_command_B34, FX8_command_B39, w_I0, w_I1, w_I2, w_I3, w_I4, w_R5, w_R6, w_R7, w_R8, w_R9, w_R10, w_R11, w_R12, w_R13, w_R14, w_R15, w_I16, w_I17, w_I18, w_I19, w_I20, w_I21, w_vc, w_a0, w_s0, w_a1, w_s1, w_a2, w_s2, w_a3, w_s3, w_a4, w_s4, w_a5, w_s5, w_a6, w_s6, w_a7, w_s7, w_a8, w_s8, w_a9, w_s9, w_a10, w_s10, w_p0, w_p1, w_p2, w_p3, w_p4, w_p16, w_p17, w_p18, w_p19, w_p20, w_p21, o_0, o_1, o_2, o_3, o_4, o_5, hm, i_0, z_0, i_1, z_1, i_2, z_2, i_3, z_3, i_4, z_4, i_5, z_5, i_6, z_6, i_7, z_7, i_8, z_8, a4, bnd, rt, e9, if_true, t2, t5, t9, q4, if_false, t4, t6]
        rw [if_pos t10]
      obtain ⟨n1, n2, -⟩ := nms_in (X := X) (L := L) [1] true e v1 hX.1
      rw [t1, hrun, nms_cons]
      obtain ⟨o2, e2, hn⟩ : ∃ o2 e2, nms X L [1] true e = (o2, e2) := ⟨_, _, rfl⟩
      rw [hn] at q2 q3 q5 n1 ⊢
      simp only at n1
      cases o2 with
      | none =>
        have z9 : M2 11 9 = 1 := q3
        refine ⟨M2, hk, q2, q3, ?_⟩
        simp only [FX8_command_B61, FX8_command_B74, w_I0, w_I1, w_I2, w_I3, w_I4, w_R5, w_R6, w_R7, w_R8, w_R9, w_R10, w_R11, w_R12, w_R13, w_R14, w_R15, w_I16, w_I17, w_I18, w_I19, w_I20, w_I21, w_vc, w_a0, w_s0, w_a1, w_s1, w_a2, w_s2, w_a3, w_s3, w_a4, w_s4, w_a5, w_s5, w_a6, w_s6, w_a7, w_s7, w_a8, w_s8, w_a9, w_s9, w_a10, w_s10, w_p0, w_p1, w_p2, w_p3, w_p4, w_p16, w_p17, w_p18, w_p19, w_p20, w_p21, o_0, o_1, o_2, o_3, o_4, o_5, hm, i_0, z_0, i_1, z_1, i_2, z_2, i_3, z_3, i_4, z_4, i_5, z_5, i_6, z_6, i_7, z_7, i_8, z_8, z9, one_ne, if_false, t10, if_true]
        rw [← t10]
        exact m_93w hm q3
      | some l =>
        have z9 : M2 11 9 = 0 := q3
        obtain ⟨r1, r2⟩ := q5 l rfl
        obtain ⟨y, rfl⟩ := List.length_eq_one_iff.mp r2
        obtain ⟨M3, x3, s1, s2, s3, s4, s5⟩ := m_beh (ν := ν) (W := 3) (h := e2) hm (by decide) hX2 q2 z9 n1
        rw [show nI 3 = (3 : Int32) from rfl] at s4
        have hk3 := Mk_t hk s1
        have hX3 := Mk_X s1 hX2
        have hrun2 : FX8_command_B61 m (nI w) 0 0 x (pum ν m M2) = FX8_command_B74 m (nI w) x3 0 x (pum ν m M3) := by
          simp only [FX8_command_B61, w_I0, w_I1, w_I2, w_I3, w_I4, w_R5, w_R6, w_R7, w_R8, w_R9, w_R10, w_R11, w_R12, w_R13, w_R14, w_R15, w_I16, w_I17, w_I18, w_I19, w_I20, w_I21, w_vc, w_a0, w_s0, w_a1, w_s1, w_a2, w_s2, w_a3, w_s3, w_a4, w_s4, w_a5, w_s5, w_a6, w_s6, w_a7, w_s7, w_a8, w_s8, w_a9, w_s9, w_a10, w_s10, w_p0, w_p1, w_p2, w_p3, w_p4, w_p16, w_p17, w_p18, w_p19, w_p20, w_p21, o_0, o_1, o_2, o_3, o_4, o_5, hm, i_0, z_0, i_1, z_1, i_2, z_2, i_3, z_3, i_4, z_4, i_5, z_5, i_6, z_6, i_7, z_7, i_8, z_8, z9, if_true, s4, bnd, rt]
        obtain ⟨n3, n4, -⟩ := nms_in (X := X) (L := L) [3] false e2 n1 hX.1
        rw [hrun2]
        have hcc : nms X L [3, 1] false e2 = match nms X L [3] false e2 with
          | (some l, e) => (match nms X L [1] false e with
            | (some l2, e2) => (some (l.getD 0 0 :: l2), e2)
            | (none, e2) => (none, e2))
          | (none, e) => (none, e) := nms_cons X L 3 [1] false e2
        obtain ⟨o3, e3, hn3⟩ : ∃ o3 e3, nms X L [3] false e2 = (o3, e3) := ⟨_, _, rfl⟩
        rw [hn3] at hcc s2 s3 s5 n3
        simp only at n3
        cases o3 with
        | none =>
          have y9 : M3 11 9 = 1 := s3
          simp only [hcc]
          refine ⟨M3, hk3, s2, s3, ?_⟩
          simp only [FX8_command_B74, w_I0, w_I1, w_I2, w_I3, w_I4, w_R5, w_R6, w_R7, w_R8, w_R9, w_R10, w_R11, w_R12, w_R13, w_R14, w_R15, w_I16, w_I17, w_I18, w_I19, w_I20, w_I21, w_vc, w_a0, w_s0, w_a1, w_s1, w_a2, w_s2, w_a3, w_s3, w_a4, w_s4, w_a5, w_s5, w_a6, w_s6, w_a7, w_s7, w_a8, w_s8, w_a9, w_s9, w_a10, w_s10, w_p0, w_p1, w_p2, w_p3, w_p4, w_p16, w_p17, w_p18, w_p19, w_p20, w_p21, o_0, o_1, o_2, o_3, o_4, o_5, hm, i_0, z_0, i_1, z_1, i_2, z_2, i_3, z_3, i_4, z_4, i_5, z_5, i_6, z_6, i_7, z_7, i_8, z_8, y9, one_ne, if_false, t10, if_true]
          rw [← t10]
          exact m_93w hm s3
        | some l3 =>
          have y9 : M3 11 9 = 0 := s3
          obtain ⟨u1, u2⟩ := s5 l3 rfl
          obtain ⟨y3, rfl⟩ := List.length_eq_one_iff.mp u2
          obtain ⟨M4, x4, p1, p2, p3, p4, p5⟩ := m_beh (ν := ν) (W := 1) (h := e3) hm (by decide) hX3 s2 y9 n3
          rw [show nI 1 = (1 : Int32) from rfl] at p4
          have hk4 := Mk_t hk3 p1
          have hrun3 : FX8_command_B74 m (nI w) x3 0 x (pum ν m M3) = FX8_command_B93 m (nI w) x3 x4 x (pum ν m M4) := by
            unfold FX8_command_B74
            rw [if_pos t10]
            simp only [w_I0, w_I1, w_I2, w_I3, w_I4, w_R5, w_R6, w_R7, w_R8, w_R9, w_R10, w_R11, w_R12, w_R13, w_R14, w_R15, w_I16, w_I17, w_I18, w_I19, w_I20, w_I21, w_vc, w_a0, w_s0, w_a1, w_s1, w_a2, w_s2, w_a3, w_s3, w_a4, w_s4, w_a5, w_s5, w_a6, w_s6, w_a7, w_s7, w_a8, w_s8, w_a9, w_s9, w_a10, w_s10, w_p0, w_p1, w_p2, w_p3, w_p4, w_p16, w_p17, w_p18, w_p19, w_p20, w_p21, o_0, o_1, o_2, o_3, o_4, o_5, hm, i_0, z_0, i_1, z_1, i_2, z_2, i_3, z_3, i_4, z_4, i_5, z_5, i_6, z_6, i_7, z_7, i_8, z_8, y9, if_true, p4, bnd, rt]
          rw [hrun3]
          obtain ⟨o4, e4, hn4⟩ : ∃ o4 e4, nms X L [1] false e3 = (o4, e4) := ⟨_, _, rfl⟩
          simp only [hn4] at hcc p2 p3 p5
          cases o4 with
          | none => simp only [hcc]; exact ⟨M4, hk4, p2, p3, m_93w hm p3⟩
          | some l4 =>
            obtain ⟨c1, c2⟩ := p5 l4 rfl
            obtain ⟨y4, rfl⟩ := List.length_eq_one_iff.mp c2
            simp only [hcc]
            refine ⟨M4, hk4, p2, p3, ?_⟩
            rw [m_93 hm p3, hdo M4 hk4, r1, u1, c1]
            rfl
end MT
