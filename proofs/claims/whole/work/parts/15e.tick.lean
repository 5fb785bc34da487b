/-! ===== one tick, both sides ===== -/
section TK
variable {T n q c d : Nat} {σ : Sg} {M : Mg}
/-- a total changes -/
theorem RX_num {j : Nat} {x : Int32} (h : RX T σ (M 0) n q c) (h4 : 4 ≤ j) (h8 : j < 8) : RX T (sI2 σ 9 j x) ((mS M 0 j x) 0) n q c := by
  refine ⟨RD_c h.1 (by simp (disch := omega) only [m_same, m_col, m_row, s_same, s_col, s_row]) (fun r a d b => by simp (disch := omega) only [m_same, m_col, m_row, s_same, s_col, s_row]) (by simp (disch := omega) only [m_same, m_col, m_row, s_same, s_col, s_row]) (fun i h1 h2 => by simp (disch := omega) only [m_same, m_col, m_row, s_same, s_col, s_row]), RP_c h.2.1 (by simp (disch := omega) only [m_same, m_col, m_row, s_same, s_col, s_row]) (fun i h1 h2 => by simp (disch := omega) only [m_same, m_col, m_row, s_same, s_col, s_row]), RC_c h.2.2.1 (by simp (disch := omega) only [m_same, m_col, m_row, s_same, s_col, s_row]) (fun r a b e he => by simp (disch := omega) only [m_same, m_col, m_row, s_same, s_col, s_row]) (by simp (disch := omega) only [m_same, m_col, m_row, s_same, s_col, s_row]) (fun i h1 h2 => by simp (disch := omega) only [m_same, m_col, m_row, s_same, s_col, s_row]), RF_c h.2.2.2.1 (fun f _ => rfl) (fun i h1 h2 => by simp (disch := omega) only [m_same, m_col, m_row, s_same, s_col, s_row]), ?_, Bz_updo h.2.2.2.2.2 (by decide) (by decide)⟩
  have hN := h.2.2.2.2.1
  unfold RN at hN ⊢
  rcases (show j = 4 ∨ j = 5 ∨ j = 6 ∨ j = 7 by omega) with e | e | e | e <;> subst e <;> simp (disch := omega) only [m_same, m_col, m_row, s_same, s_col, s_row] <;> (refine ⟨hN.1, hN.2.1, ?_, ?_, ?_, ?_, hN.2.2.2.2.2.2⟩ <;> first | trivial | rfl | exact hN.2.2.1 | exact hN.2.2.2.1 | exact hN.2.2.2.2.1 | exact hN.2.2.2.2.2.1)
/-- the time goes on -/
theorem RX_time (h : RX T σ (M 0) n q c) : RX (T + 1) (sI2 σ 9 3 (σ.1 9 3 + 1)) ((mS M 0 3 (M 0 3 + 1)) 0) n q c := by
  refine ⟨RD_c h.1 (by simp (disch := omega) only [m_same, m_col, m_row, s_same, s_col, s_row]) (fun r a d b => by simp (disch := omega) only [m_same, m_col, m_row, s_same, s_col, s_row]) (by simp (disch := omega) only [m_same, m_col, m_row, s_same, s_col, s_row]) (fun i h1 h2 => by simp (disch := omega) only [m_same, m_col, m_row, s_same, s_col, s_row]), RP_c h.2.1 (by simp (disch := omega) only [m_same, m_col, m_row, s_same, s_col, s_row]) (fun i h1 h2 => by simp (disch := omega) only [m_same, m_col, m_row, s_same, s_col, s_row]), RC_c h.2.2.1 (by simp (disch := omega) only [m_same, m_col, m_row, s_same, s_col, s_row]) (fun r a b e he => by simp (disch := omega) only [m_same, m_col, m_row, s_same, s_col, s_row]) (by simp (disch := omega) only [m_same, m_col, m_row, s_same, s_col, s_row]) (fun i h1 h2 => by simp (disch := omega) only [m_same, m_col, m_row, s_same, s_col, s_row]), RF_c h.2.2.2.1 (fun f _ => rfl) (fun i h1 h2 => by simp (disch := omega) only [m_same, m_col, m_row, s_same, s_col, s_row]), ?_, Bz_updo h.2.2.2.2.2 (by decide) (by decide)⟩
  have hN := h.2.2.2.2.1
  unfold RN at hN ⊢
  obtain ⟨t, ht, ht2⟩ := hN.2.2.2.2.2.2.2
  simp (disch := omega) only [m_same, m_col, m_row, s_same, s_col, s_row]
  exact ⟨hN.1, by rw [hN.2.1], hN.2.2.1, hN.2.2.2.1, hN.2.2.2.2.1, hN.2.2.2.2.2.1, hN.2.2.2.2.2.2.1, ⟨t + 1, by omega, by rw [ht2, nI_1]⟩⟩
/-! step 1: cues -/
def cueR (σ : Sg) (v : Nat → Int32) (n e : Nat) : Prop := v (81 + 3 * e) = σ.1 6 e ∧ v (81 + 3 * e + 1) = σ.1 7 e ∧ v (81 + 3 * e + 2) = σ.1 8 e ∧ (∃ d, d < n ∧ σ.1 6 e = nI d) ∧ (∃ t, t ≤ 999 ∧ σ.1 7 e = nI t)
theorem R_cues (h : RX T σ (M 0) n q c) : ∃ c', RX T (frd (σ.1 9 3) σ) ((mcu M) 0) n q c' ∧ (∀ k, k ≠ 0 → (mcu M) k = M k) ∧ (frd (σ.1 9 3) σ).1 9 4 = σ.1 9 4 := by
  have hC := h.2.2.1
  have hc9 := hC.1
  have hn9 := h.1.1
  have hc1 : (σ.1 9 1).toNatClampNeg = c := by rw [hC.2.1]; exact nI_clamp (by omega)
  have hc2 : (M 0 8).toNatClampNeg = c := by rw [hC.2.2.1]; exact nI_clamp (by omega)
  have hI := fo_rel (R := fun i (a : Sg × Nat) (b : Mg × Nat) => a.2 = b.2 ∧ a.2 ≤ i ∧ RD a.1 (b.1 0) n ∧ a.1.2 = σ.2 ∧ a.1.1 9 = σ.1 9 ∧ (∀ j, j < 13 ∨ (73 ≤ j ∧ j < 81) → b.1 0 j = M 0 j) ∧ (∀ k, k ≠ 0 → b.1 k = M k) ∧ (∀ e, e < a.2 ∨ (i ≤ e ∧ e < c) → cueR a.1 (b.1 0) n e) ∧ Bz a.1) (f := fir (σ.1 9 3)) (g := mfi) (k := c) (i := 0) (a := (σ, 0)) (b := (M, 0)) ⟨rfl, Nat.le_refl _, h.1, rfl, rfl, fun _ _ => rfl, fun _ _ => rfl, fun e he => hC.2.2.2 e (by rcases he with he | he; exact absurd he (Nat.not_lt_zero e); exact he.2), h.2.2.2.2.2⟩ (fun d a b _ hd hR => by
    obtain ⟨r1, r2, r3, r4, r5, r6, r7, r8, r9⟩ := hR
    have hd2 : d < c := by omega
    obtain ⟨c1, c2, c3, ⟨x, hx, c4⟩, c5⟩ := r8 d (Or.inr ⟨Nat.le_refl _, hd2⟩)
    unfold fir mfi
    rw [c2, r6 3 (by omega), h.2.2.2.2.1.2.1]
    by_cases g : a.1.1 7 d = σ.1 9 3
    · rw [if_pos g, if_pos g, c1, c4, nI_clamp (show x < 2 ^ 31 by omega), c3]
      have ho := r3.2.2.2.1 x hx
      refine ⟨r1, by show a.2 ≤ d + 1; omega, ?_, r4, ?_, fun j hj => ?_, fun k hk => ?_, fun e he => ?_, Bz_updo r9 (by decide) (by decide)⟩
      · refine RD_one (d := x) r3 (by simp (disch := omega) only [m_same, m_col, m_row, s_same, s_col, s_row]) (by simp (disch := omega) only [m_same, m_col, m_row, s_same, s_col, s_row]) (fun r hr e he hx => by simp (disch := omega) only [m_same, m_col, m_row, s_same, s_col, s_row]) (fun e he hne j hj => by simp (disch := omega) only [m_same, m_col, m_row, s_same, s_col, s_row]) ?_ (fun e he hne => ?_)
        · unfold DrR DrV at ho ⊢
          simp (disch := omega) only [m_same, m_col, m_row, s_same, s_col, s_row]
          exact ⟨⟨ho.1.1, ho.1.2.1, ho.1.2.2.1, (by first | trivial | rfl), ho.1.2.2.2.2⟩, ho.2⟩
        · simp (disch := omega) only [m_same, m_col, m_row, s_same, s_col, s_row]
          exact fun e2 => hne (r3.2.2.2.2 x e hx he e2).symm
      · funext e
        show (sI2 a.1 3 x (a.1.1 8 d)).1 9 e = _
        simp (disch := omega) only [m_same, m_col, m_row, s_same, s_col, s_row]
        exact congrFun r5 e
      · show (mS b.1 0 (13 + 6 * x + 3) (a.1.1 8 d)) 0 j = _
        simp (disch := omega) only [m_same, m_col, m_row, s_same, s_col, s_row]
        exact r6 j hj
      · funext e
        show (mS b.1 0 (13 + 6 * x + 3) (a.1.1 8 d)) k e = _
        simp (disch := omega) only [m_same, m_col, m_row, s_same, s_col, s_row]
        exact congrFun (r7 k hk) e
      · have h8 := r8 e (by rcases he with he | he; exact Or.inl he; exact Or.inr ⟨by omega, he.2⟩)
        unfold cueR at h8 ⊢
        simp (disch := omega) only [m_same, m_col, m_row, s_same, s_col, s_row]
        exact h8
    · rw [if_neg g, if_neg g]
      have hcol : ∀ k, k ≠ 0 → (fo (mcy b.2 d) 0 3 b.1) k = b.1 k := fun k hk => mcy_r hk
      have hout : ∀ p, (p < 81 + 3 * b.2 ∨ 84 + 3 * b.2 ≤ p) → (fo (mcy b.2 d) 0 3 b.1) 0 p = b.1 0 p := fun p hp => mcy_c hp
      have hin : ∀ w, w < 3 → (fo (mcy b.2 d) 0 3 b.1) 0 (81 + 3 * b.2 + w) = b.1 0 (81 + 3 * d + w) := mcy_in (by omega)
      refine ⟨by show a.2 + 1 = b.2 + 1; omega, by show a.2 + 1 ≤ d + 1; omega, ?_, r4, ?_, fun j hj => ?_, fun k hk => ?_, fun e he => ?_, Bz_updo (Bz_updo (Bz_updo r9 (by decide) (by decide)) (by decide) (by decide)) (by decide) (by decide)⟩
      · exact RD_c r3 (by simp (disch := omega) only [m_same, m_col, m_row, s_same, s_col, s_row]) (fun r hr e he => by simp (disch := omega) only [m_same, m_col, m_row, s_same, s_col, s_row]) (hout 0 (by omega)) (fun j h1 h2 => hout j (by omega))
      · funext e
        show (sI2 (sI2 (sI2 a.1 6 a.2 (a.1.1 6 d)) 7 a.2 (a.1.1 7 d)) 8 a.2 (a.1.1 8 d)).1 9 e = _
        simp (disch := omega) only [m_same, m_col, m_row, s_same, s_col, s_row]
        exact congrFun r5 e
      · show (fo (mcy b.2 d) 0 3 b.1) 0 j = _
        rw [hout _ (by omega)]
        exact r6 j hj
      · show (fo (mcy b.2 d) 0 3 b.1) k = _
        rw [hcol k hk]
        exact r7 k hk
      · by_cases hea : e = a.2
        · subst hea
          have i0 := hin 0 (by omega)
          have i1 := hin 1 (by omega)
          have i2 := hin 2 (by omega)
          rw [← r1] at i0 i1 i2
          unfold cueR
          show (fo (mcy b.2 d) 0 3 b.1) 0 (81 + 3 * a.2) = _ ∧ (fo (mcy b.2 d) 0 3 b.1) 0 (81 + 3 * a.2 + 1) = _ ∧ (fo (mcy b.2 d) 0 3 b.1) 0 (81 + 3 * a.2 + 2) = _ ∧ _
          rw [← r1]
          simp (disch := omega) only [m_same, m_col, m_row, s_same, s_col, s_row]
          exact ⟨i0.trans c1, i1.trans c2, i2.trans c3, ⟨x, hx, c4⟩, c5⟩
        · have hlt : e < a.2 ∨ (d ≤ e ∧ e < c) := by
            rcases he with he | he
            · exact Or.inl (by have : e < a.2 + 1 := he; omega)
            · exact Or.inr ⟨by omega, he.2⟩
          have hne2 : e < a.2 ∨ a.2 < e := by omega
          have h8 := r8 e hlt
          unfold cueR at h8 ⊢
          show (fo (mcy b.2 d) 0 3 b.1) 0 (81 + 3 * e) = _ ∧ (fo (mcy b.2 d) 0 3 b.1) 0 (81 + 3 * e + 1) = _ ∧ (fo (mcy b.2 d) 0 3 b.1) 0 (81 + 3 * e + 2) = _ ∧ _
          rw [hout _ (by omega), hout _ (by omega), hout _ (by omega)]
          simp (disch := omega) only [m_same, m_col, m_row, s_same, s_col, s_row]
          exact h8)
  obtain ⟨r1, r2, r3, r4, r5, r6, r7, r8, r9⟩ := hI
  rw [Nat.zero_add] at r2 r8
  unfold frd mcu
  rw [hc1, hc2]
  generalize fo (fir (σ.1 9 3)) 0 c (σ, 0) = a at r1 r2 r3 r4 r5 r8 r9
  generalize fo mfi 0 c (M, 0) = b at r1 r3 r6 r7 r8
  have hz : ∀ p, p < 81 + 3 * b.2 → (mce b) 0 p = (mS b.1 0 8 (nI b.2)) 0 p := fun p hp => by
    unfold mce
    exact mze_in _ _ _ _ (Or.inl hp)
  have hz2 : ∀ k, k ≠ 0 → (mce b) k = b.1 k := fun k hk => by
    unfold mce
    have hk2 : ∀ w i (N : Mg), (fo (fun k M => mS M 0 k 0) i w N) k = N k := by
      intro w
      induction w with
      | zero => intros; rfl
      | succ w ih => intro i N; simp only [fo]; rw [ih]; funext e; simp (disch := omega) only [m_same, m_col, m_row, s_same, s_col, s_row]
    rw [hk2]
    funext e
    simp (disch := omega) only [m_same, m_col, m_row, s_same, s_col, s_row]
  refine ⟨a.2, ⟨?_, ?_, ?_, ?_, ?_, ?_⟩, fun k hk => (hz2 k hk).trans (r7 k hk), ?_⟩
  · refine RD_c r3 (by simp (disch := omega) only [m_same, m_col, m_row, s_same, s_col, s_row]) (fun r hr e he => by simp (disch := omega) only [m_same, m_col, m_row, s_same, s_col, s_row]) ?_ (fun j h1 h2 => ?_)
    · rw [hz _ (by omega)]; simp (disch := omega) only [m_same, m_col, m_row, s_same, s_col, s_row]
    · rw [hz _ (by omega)]; simp (disch := omega) only [m_same, m_col, m_row, s_same, s_col, s_row]
  · show RP a.1.2.2 _ q
    rw [r4]
    refine RP_c h.2.1 ?_ (fun j h1 h2 => ?_)
    · rw [hz _ (by omega)]; simp (disch := omega) only [m_same, m_col, m_row, s_same, s_col, s_row]; exact r6 _ (by omega)
    · rw [hz _ (by omega)]; simp (disch := omega) only [m_same, m_col, m_row, s_same, s_col, s_row]; exact r6 _ (by omega)
  · refine ⟨by omega, by simp (disch := omega) only [m_same, m_col, m_row, s_same, s_col, s_row], ?_, fun e he => ?_⟩
    · rw [hz _ (by omega), r1]; simp (disch := omega) only [m_same, m_col, m_row, s_same, s_col, s_row]
    · have h8 := r8 e (Or.inl he)
      unfold cueR at h8
      rw [hz _ (by omega), hz _ (by omega), hz _ (by omega)]
      simp (disch := omega) only [m_same, m_col, m_row, s_same, s_col, s_row]
      exact h8
  · refine RF_c h.2.2.2.1 (fun f _ => by show a.1.2.1 f = _; rw [r4]) (fun j h1 h2 => ?_)
    rw [hz _ (by omega)]; simp (disch := omega) only [m_same, m_col, m_row, s_same, s_col, s_row]; exact r6 _ (by omega)
  · refine RN_c h.2.2.2.2.1 (fun j h1 h2 => ?_) (fun j h1 h2 => ?_)
    · simp (disch := omega) only [m_same, m_col, m_row, s_same, s_col, s_row]; exact congrFun r5 j
    · rw [hz _ (by omega)]; simp (disch := omega) only [m_same, m_col, m_row, s_same, s_col, s_row]; exact r6 _ (by omega)
  · exact Bz_updo r9 (by decide) (by decide)
  · simp (disch := omega) only [m_same, m_col, m_row, s_same, s_col, s_row]; exact congrFun r5 4
/-! step 2 and 3 -/
theorem stp_1 : ∀ a, a < 64 → ∀ b, b < 64 → (rowS (nI a) (nI b) = -1 ↔ nI a / 8 = nI b / 8) := by decide +kernel
theorem stp_2 : ∀ a, a < 64 → ∀ b, b < 64 → (colS (nI a) (nI b) = -1 ↔ nI a - nI a / 8 * 8 = nI b - nI b / 8 * 8) := by decide +kernel
theorem stp_3 : ∀ a, a < 64 → ∀ b, b < 64 → ¬ nI a / 8 = nI b / 8 → (rowS (nI a) (nI b) = toR (nI a) (nI b) ∧ (rowS (nI a) (nI b)).toNatClampNeg < 64 ∧ rowS (nI a) (nI b) = nI (rowS (nI a) (nI b)).toNatClampNeg) := by decide +kernel
theorem stp_4 : ∀ a, a < 64 → ∀ b, b < 64 → ¬ nI a - nI a / 8 * 8 = nI b - nI b / 8 * 8 → (colS (nI a) (nI b) = toC (nI a) (nI b) ∧ (colS (nI a) (nI b)).toNatClampNeg < 64 ∧ colS (nI a) (nI b) = nI (colS (nI a) (nI b)).toNatClampNeg) := by decide +kernel
theorem stp_5 : ∀ a, a < 64 → ∀ b, b < 64 → nI a / 8 = nI b / 8 → nI a - nI a / 8 * 8 = nI b - nI b / 8 * 8 → nI a = nI b := by decide +kernel
theorem stp_t (a : Nat) (ha : a < 64) (b : Nat) (hb : b < 64) : (rowS (nI a) (nI b) = -1 ↔ nI a / 8 = nI b / 8) ∧ (colS (nI a) (nI b) = -1 ↔ nI a - nI a / 8 * 8 = nI b - nI b / 8 * 8) ∧ (¬ nI a / 8 = nI b / 8 → rowS (nI a) (nI b) = toR (nI a) (nI b) ∧ (rowS (nI a) (nI b)).toNatClampNeg < 64 ∧ rowS (nI a) (nI b) = nI (rowS (nI a) (nI b)).toNatClampNeg) ∧ (¬ nI a - nI a / 8 * 8 = nI b - nI b / 8 * 8 → colS (nI a) (nI b) = toC (nI a) (nI b) ∧ (colS (nI a) (nI b)).toNatClampNeg < 64 ∧ colS (nI a) (nI b) = nI (colS (nI a) (nI b)).toNatClampNeg) ∧ (nI a / 8 = nI b / 8 → nI a - nI a / 8 * 8 = nI b - nI b / 8 * 8 → nI a = nI b) := ⟨stp_1 a ha b hb, stp_2 a ha b hb, stp_3 a ha b hb, stp_4 a ha b hb, stp_5 a ha b hb⟩
/-- what a drone wants -/
theorem R_wis (h : RX T σ (M 0) n q c) (hd : d < n) : (mwa M d = 0 ∧ wis σ d = -1) ∨ (mwa M d = 1 ∧ wis σ d ≠ -1 ∧ mwi M d = wis σ d ∧ (∃ k, k < 64 ∧ wis σ d = nI k) ∧ σ.1 4 d ≠ 0 ∧ ∃ a b, a < 64 ∧ b < 64 ∧ σ.1 0 d = nI a ∧ σ.1 2 d = nI b ∧ ¬ nI a = nI b) := by
  have ho := h.1.2.2.2.1 d hd
  obtain ⟨t1, t2⟩ := tgt_neg ho.2.2.2.1
  obtain ⟨a, ha, ha2⟩ := ho.2.1
  unfold mwa wis mwi
  rw [R_fl h hd, ho.1.2.2.2.2.1, ho.1.1, t2]
  rw [t2] at t1
  by_cases g : σ.1 4 d = 0
  · rw [if_pos g, if_pos g]; exact Or.inl ⟨rfl, rfl⟩
  · rw [if_neg g, if_neg g]
    rcases ho.2.2.2.1 with e | ⟨b, hb, e⟩
    · rw [if_pos e, if_pos (t1.mpr e)]; exact Or.inl ⟨rfl, rfl⟩
    · rw [e] at t1 ⊢
      have hne : ¬ nI b = -1 := m1_ne (by omega)
      rw [if_neg hne, if_neg (fun x => hne (t1.mp x)), ha2]
      obtain ⟨s1, s2, s3, s4, s5⟩ := stp_t a ha b hb
      by_cases g2 : nI b = nI a
      · rw [if_pos g2]
        have e1 : rowS (nI a) (nI b) = -1 := s1.mpr (by rw [g2])
        have e2 : colS (nI a) (nI b) = -1 := s2.mpr (by rw [g2])
        rw [if_pos e1, e2]
        exact Or.inl ⟨rfl, rfl⟩
      · rw [if_neg g2]
        refine Or.inr ⟨rfl, ?_⟩
        by_cases g3 : nI a / 8 = nI b / 8
        · rw [if_pos (s1.mpr g3), if_pos g3]
          have g4 : ¬ nI a - nI a / 8 * 8 = nI b - nI b / 8 * 8 := fun x => g2 (s5 g3 x).symm
          obtain ⟨u1, u2, u3⟩ := s4 g4
          exact ⟨fun x => g4 (s2.mp x), u1.symm, ⟨_, u2, u3⟩, g, a, b, ha, hb, rfl, rfl, fun x => g2 x.symm⟩
        · rw [if_neg (fun x => g3 (s1.mp x)), if_neg g3]
          obtain ⟨u1, u2, u3⟩ := s3 g3
          exact ⟨fun x => g3 (s1.mp x), u1.symm, ⟨_, u2, u3⟩, g, a, b, ha, hb, rfl, rfl, fun x => g2 x.symm⟩
theorem ocp_lt (σ : Sg) (n : Nat) (hn : n ≤ 10) (x : Int32) : ocp σ n x < 0 ↔ ocp σ n x = -1 := by
  rcases ocp_in σ n x with e | ⟨j, hj, e, -⟩
  · rw [e]; decide
  · rw [e]
    exact ⟨fun g => absurd g (nI_pos (by omega)), fun g => absurd g (m1_ne (by omega))⟩
/-- where it goes -/
theorem R_fre (h : RX T σ (M 0) n q c) (hd : d < n) (hw : wis σ d ≠ -1) : (fre σ n d = -1 ∧ ¬ mocc M n (mto M n d) < 0) ∨ (fre σ n d ≠ -1 ∧ mocc M n (mto M n d) < 0 ∧ mto M n d = fre σ n d ∧ ocp σ n (fre σ n d) = -1 ∧ ∃ k, k < 64 ∧ fre σ n d = nI k) := by
  have hn9 := h.1.1
  have ho := h.1.2.2.2.1 d hd
  obtain ⟨t1, t2⟩ := tgt_neg ho.2.2.2.1
  rcases R_wis h hd with ⟨-, e⟩ | ⟨-, -, w1, -, -, a, b, ha, hb, ea, eb, hab⟩
  · exact absurd e hw
  · have ew : mwi M d = if nI a / 8 = nI b / 8 then toC (nI a) (nI b) else toR (nI a) (nI b) := by
      unfold mwi
      rw [ho.1.2.2.2.2.1, ho.1.1, t2, ea, eb]
    have ef : ∀ x, ffi (fun e => σ.1 0 e = x) 0 n = ocp σ n x := fun _ => rfl
    have R_occ' : ∀ x, mocc M n x = ocp σ n x := fun x => R_occ h.1 rfl
    have t3 : nI b + 1 - 1 = nI b := by rw [nI_1, nI_pred]
    obtain ⟨s1, s2, s3, s4, s5⟩ := stp_t a ha b hb
    have hmto : mto M n d = if ocp σ n (if nI a / 8 = nI b / 8 then toC (nI a) (nI b) else toR (nI a) (nI b)) = -1 then (if nI a / 8 = nI b / 8 then toC (nI a) (nI b) else toR (nI a) (nI b)) else if nI a / 8 = nI b / 8 then (if nI a / 8 = nI b / 8 then toC (nI a) (nI b) else toR (nI a) (nI b)) else if nI a - nI a / 8 * 8 = nI b - nI b / 8 * 8 then (if nI a / 8 = nI b / 8 then toC (nI a) (nI b) else toR (nI a) (nI b)) else toC (nI a) (nI b) := by
      unfold mto
      simp only [R_occ', ew, ho.1.2.2.2.2.1, ho.1.1, ea, eb, t3, ocp_lt σ n hn9]
    have hfre : fre σ n d = if ¬ rowS (nI a) (nI b) = -1 ∧ ocp σ n (rowS (nI a) (nI b)) = -1 then rowS (nI a) (nI b) else if ¬ colS (nI a) (nI b) = -1 ∧ ocp σ n (colS (nI a) (nI b)) = -1 then colS (nI a) (nI b) else -1 := by
      unfold fre
      simp only [ef, ea, eb]
    rw [R_occ', ocp_lt σ n hn9]
    by_cases g3 : nI a / 8 = nI b / 8
    · have g4 : ¬ nI a - nI a / 8 * 8 = nI b - nI b / 8 * 8 := fun x => hab (s5 g3 x)
      obtain ⟨u1, u2, u3⟩ := s4 g4
      have e2 : ¬ colS (nI a) (nI b) = -1 := fun x => g4 (s2.mp x)
      have hm2 : mto M n d = colS (nI a) (nI b) := by
        rw [hmto, if_pos g3, if_pos g3, ite_self]; exact u1.symm
      have hf2 : fre σ n d = if ocp σ n (colS (nI a) (nI b)) = -1 then colS (nI a) (nI b) else -1 := by
        rw [hfre, if_neg (fun x => x.1 (s1.mpr g3))]
        by_cases g5 : ocp σ n (colS (nI a) (nI b)) = -1
        · rw [if_pos ⟨e2, g5⟩, if_pos g5]
        · rw [if_neg (fun x => g5 x.2), if_neg g5]
      rw [hm2, hf2]
      by_cases g5 : ocp σ n (colS (nI a) (nI b)) = -1
      · rw [if_pos g5]; exact Or.inr ⟨e2, g5, rfl, g5, _, u2, u3⟩
      · rw [if_neg g5]; exact Or.inl ⟨rfl, g5⟩
    · obtain ⟨u1, u2, u3⟩ := s3 g3
      have e1 : ¬ rowS (nI a) (nI b) = -1 := fun x => g3 (s1.mp x)
      rw [if_neg g3, ← u1] at hmto
      by_cases g5 : ocp σ n (rowS (nI a) (nI b)) = -1
      · rw [if_pos g5] at hmto
        rw [if_pos ⟨e1, g5⟩] at hfre
        rw [hmto, hfre]
        exact Or.inr ⟨e1, g5, rfl, g5, _, u2, u3⟩
      · rw [if_neg g5, if_neg g3] at hmto
        rw [if_neg (fun x => g5 x.2)] at hfre
        by_cases g4 : nI a - nI a / 8 * 8 = nI b - nI b / 8 * 8
        · rw [if_pos g4] at hmto
          rw [if_neg (fun x => x.1 (s2.mpr g4))] at hfre
          rw [hmto, hfre]
          exact Or.inl ⟨rfl, g5⟩
        · obtain ⟨v1, v2, v3⟩ := s4 g4
          have e2 : ¬ colS (nI a) (nI b) = -1 := fun x => g4 (s2.mp x)
          rw [if_neg g4, ← v1] at hmto
          rw [hmto, hfre]
          by_cases g6 : ocp σ n (colS (nI a) (nI b)) = -1
          · rw [if_pos ⟨e2, g6⟩]
            exact Or.inr ⟨e2, g6, rfl, g6, _, v2, v3⟩
          · rw [if_neg (fun x => g6 x.2)]
            exact Or.inl ⟨rfl, g6⟩
/-- a drone moves -/
theorem RX_mv {k : Nat} (h : RX T σ (M 0) n q c) (hd : d < n) (hk : k < 64) (hf : ocp σ n (nI k) = -1) : RX T (sI2 σ 0 d (nI k)) ((mS M 0 (13 + 6 * d + 0) (nI k)) 0) n q c := by
  have ho := h.1.2.2.2.1 d hd
  have hn9 := h.1.1
  refine ⟨RD_one (d := d) h.1 (by simp (disch := omega) only [m_same, m_col, m_row, s_same, s_col, s_row]) (by simp (disch := omega) only [m_same, m_col, m_row, s_same, s_col, s_row]) (fun r hr e he hx => by simp (disch := omega) only [m_same, m_col, m_row, s_same, s_col, s_row]) (fun e he hne j hj => by simp (disch := omega) only [m_same, m_col, m_row, s_same, s_col, s_row]) ?_ (fun e he hne => ?_), RP_c h.2.1 (by simp (disch := omega) only [m_same, m_col, m_row, s_same, s_col, s_row]) (fun i h1 h2 => by simp (disch := omega) only [m_same, m_col, m_row, s_same, s_col, s_row]), RC_c h.2.2.1 (by simp (disch := omega) only [m_same, m_col, m_row, s_same, s_col, s_row]) (fun r a b e he => by simp (disch := omega) only [m_same, m_col, m_row, s_same, s_col, s_row]) (by simp (disch := omega) only [m_same, m_col, m_row, s_same, s_col, s_row]) (fun i h1 h2 => by simp (disch := omega) only [m_same, m_col, m_row, s_same, s_col, s_row]), RF_c h.2.2.2.1 (fun f _ => rfl) (fun i h1 h2 => by simp (disch := omega) only [m_same, m_col, m_row, s_same, s_col, s_row]), RN_c h.2.2.2.2.1 (fun j h1 h2 => by simp (disch := omega) only [m_same, m_col, m_row, s_same, s_col, s_row]) (fun j h1 h2 => by simp (disch := omega) only [m_same, m_col, m_row, s_same, s_col, s_row]), Bz_updo h.2.2.2.2.2 (by decide) (by decide)⟩
  · unfold DrR DrV at ho ⊢
    simp (disch := omega) only [m_same, m_col, m_row, s_same, s_col, s_row]
    exact ⟨⟨(by first | trivial | rfl), ho.1.2⟩, ⟨k, hk, (by first | trivial | rfl)⟩, ho.2.2⟩
  · simp (disch := omega) only [m_same, m_col, m_row, s_same, s_col, s_row]
    exact fun e2 => (ocp_none hn9).mp hf e he e2.symm
/-- the batteries and the total of moves of another scene put back -/
def bk (τ : Sg) (a : Sg) : Sg := (fun r => if r = 1 then τ.1 1 else if r = 9 then upd (a.1 9) 4 (τ.1 9 4) else a.1 r, a.2)
theorem bk_r {τ a : Sg} {r : Nat} (h1 : r ≠ 1) (h9 : r ≠ 9) : (bk τ a).1 r = a.1 r := by simp [bk, h1, h9]
theorem bk_1 {τ a : Sg} : (bk τ a).1 1 = τ.1 1 := rfl
theorem bk_9 {τ a : Sg} {j : Nat} (h : j ≠ 4) : (bk τ a).1 9 j = a.1 9 j := by simp [bk, upd, h]
theorem bk_94 {τ a : Sg} : (bk τ a).1 9 4 = τ.1 9 4 := by simp [bk, upd]
def lsf (fl hm b : Int32) : Int32 := if fl = 0 then b else if 0 ≤ b - 1 - hm then b - 1 - hm else 0
theorem lsf_t : ∀ b, b ≤ 100 → ∀ z, z < 2 → (if 0 < nI b - nI (z + 1) then nI b - nI (z + 1) else (0 : Int32)) = (if 0 ≤ nI b - 1 - nI z then nI b - 1 - nI z else 0) ∧ (if 0 ≤ nI b - 1 - nI z then nI b - 1 - nI z else (0 : Int32)).toNatClampNeg ≤ 100 ∧ (if 0 ≤ nI b - 1 - nI z then nI b - 1 - nI z else (0 : Int32)) = nI (if 0 ≤ nI b - 1 - nI z then nI b - 1 - nI z else (0 : Int32)).toNatClampNeg := by decide +kernel
theorem lsf_in {fl hm b : Int32} {k : Nat} (hk : k ≤ 100) (hb : b = nI k) (hz : hm = 0 ∨ hm = 1) : ∃ j, j ≤ 100 ∧ lsf fl hm b = nI j := by
  unfold lsf
  split
  · exact ⟨k, hk, hb⟩
  · rw [hb]
    rcases hz with e | e <;> rw [e]
    · exact ⟨_, (lsf_t k hk 0 (by decide)).2⟩
    · exact ⟨_, (lsf_t k hk 1 (by decide)).2⟩
theorem los_e {a : Sg} {k z : Nat} (hz : z < 2) (hk : k ≤ 100) (hb : a.1 1 d = nI k) : ∀ r e, (los d (nI (z + 1)) a).1 r e = if r = 1 ∧ e = d then lsf (a.1 4 d) (nI z) (a.1 1 d) else a.1 r e := by
  intro r e
  unfold los lsf
  by_cases g : a.1 4 d = 0
  · rw [if_pos g, if_pos g]
    split
    · rename_i h; rw [h.1, h.2]
    · rfl
  · rw [if_neg g, if_neg g]
    by_cases h : r = 1 ∧ e = d
    · rw [if_pos h, h.1, h.2, s_same, hb]
      exact (lsf_t k hk z hz).1
    · rw [if_neg h]
      by_cases h1 : r = 1
      · have h2 : e ≠ d := fun x => h ⟨h1, x⟩
        simp (disch := omega) only [m_same, m_col, m_row, s_same, s_col, s_row]
      · simp (disch := omega) only [m_same, m_col, m_row, s_same, s_col, s_row]
def mvQ (T n q c : Nat) (σ : Sg) (M : Mg) (i : Nat) (a : Sg) (b : Mg × Int32) : Prop :=
  RX T (bk σ a) (b.1 0) n q c ∧ a.1 9 4 = σ.1 9 4 + b.2 ∧ (∃ r, r ≤ i ∧ b.2 = nI r) ∧ (∀ d, d < n → a.1 1 d = if d < i then lsf (σ.1 4 d) (b.1 5 d) (σ.1 1 d) else σ.1 1 d) ∧ (∀ d, d < i → b.1 5 d = 0 ∨ b.1 5 d = 1) ∧ (∀ k, k ≠ 0 → k ≠ 5 → b.1 k = M k) ∧ a.1 4 = σ.1 4
theorem mvQ_s {a : Sg} {b : Mg × Int32} {i : Nat} (hi : i < n) (h : mvQ T n q c σ M i a b) (hσ : RX T σ (M 0) n q c) : mvQ T n q c σ M (i + 1) (mvd n i a) (mm1 n i b) := by
  obtain ⟨h1, h2, ⟨r, hr, hr2⟩, h4, h5, h6, h7⟩ := h
  have hn9 := hσ.1.1
  obtain ⟨k, hk, hk2⟩ := (hσ.1.2.2.2.1 i hi).2.2.1
  have hbat : a.1 1 i = nI k := by rw [h4 i hi, if_neg (Nat.lt_irrefl _), hk2]
  have hw : wis (bk σ a) i = wis a i := rfl
  have hfr : fre (bk σ a) n i = fre a n i := rfl
  have hoc : ∀ x, ocp (bk σ a) n x = ocp a n x := fun x => rfl
  /- what los does, whatever stands below -/
  have hL : ∀ (a' : Sg) (b' : Mg × Int32) (z : Nat), z < 2 → a'.1 1 = a.1 1 → a'.1 4 = a.1 4 → RX T (bk σ a') (b'.1 0) n q c → a'.1 9 4 = σ.1 9 4 + b'.2 → (∃ r, r ≤ i + 1 ∧ b'.2 = nI r) → b'.1 5 = upd (b.1 5) i (nI z) → (∀ k, k ≠ 0 → k ≠ 5 → b'.1 k = M k) → mvQ T n q c σ M (i + 1) (los i (nI (z + 1)) a') b' := by
    intro a' b' z hz e1 e4 hX e94 hr' e5 e6
    have hle := los_e (a := a') (d := i) hz hk (by rw [e1]; exact hbat)
    have hbk : bk σ (los i (nI (z + 1)) a') = bk σ a' := by
      refine Prod.ext ?_ ?_
      · funext p e
        by_cases p1 : p = 1
        · subst p1; rfl
        · by_cases p9 : p = 9
          · subst p9
            by_cases e4 : e = 4
            · subst e4; rw [bk_94, bk_94]
            · rw [bk_9 e4, bk_9 e4, hle, if_neg (by omega)]
          · rw [bk_r p1 p9, bk_r p1 p9, hle, if_neg (by omega)]
      · show (los i (nI (z + 1)) a').2 = a'.2
        unfold los
        split <;> rfl
    refine ⟨by rw [hbk]; exact hX, by rw [hle, if_neg (by omega)]; exact e94, hr', fun d hd => ?_, fun d hd => ?_, e6, ?_⟩
    · rw [hle, e5]
      by_cases hdi : d = i
      · subst hdi
        rw [if_pos ⟨rfl, rfl⟩, if_pos (by omega), e1, e4, h7, h4 d hd, if_neg (Nat.lt_irrefl _)]
        simp [upd]
      · rw [if_neg (fun x => hdi x.2), e1, h4 d hd]
        by_cases g : d < i
        · rw [if_pos g, if_pos (by omega)]
          simp [upd, hdi]
        · rw [if_neg g, if_neg (by omega)]
    · rw [e5]
      by_cases hdi : d = i
      · subst hdi
        simp only [upd, if_true]
        rcases (show z = 0 ∨ z = 1 by omega) with e | e <;> subst e
        · exact Or.inl rfl
        · exact Or.inr rfl
      · simp only [upd, hdi, if_false]
        exact h5 d (by omega)
    · funext e
      rw [hle, if_neg (by omega), e4, h7]
  unfold mvd mm1
  rcases R_wis h1 hi with ⟨w1, w2⟩ | ⟨w1, w2, -, -, -, -⟩
  · rw [hw] at w2
    rw [if_pos w2, if_pos w1]
    refine hL a _ 0 (by decide) rfl rfl ?_ ?_ ?_ ?_ ?_
    · have e : (mS b.1 5 i 0) 0 = b.1 0 := by funext e; simp (disch := omega) only [m_same, m_col, m_row, s_same, s_col, s_row]
      show RX T _ ((mS b.1 5 i 0) 0) n q c
      rw [e]
      exact h1
    · show _ = _ + (b.2 + 0)
      rw [Int32.add_zero]; exact h2
    · exact ⟨r, by omega, by show b.2 + 0 = _; rw [Int32.add_zero]; exact hr2⟩
    · funext e
      show (mS b.1 5 i 0) 5 e = upd (b.1 5) i (nI 0) e
      simp [mS]
      rfl
    · intro k k0 k5
      funext e
      show (mS b.1 5 i 0) k e = _
      simp (disch := omega) only [m_same, m_col, m_row, s_same, s_col, s_row]
      exact congrFun (h6 k k0 k5) e
  · rw [hw] at w2
    rw [if_neg w2, if_neg (show ¬ mwa b.1 i = 0 by rw [w1]; decide)]
    have hf := R_fre h1 hi (by rw [hw]; exact w2)
    rw [hfr] at hf
    unfold mmv
    rcases hf with ⟨f1, f2⟩ | ⟨f1, f2, f3, f4, f5⟩
    · rw [if_pos f1, if_neg f2]
      have h10 := RX_num (M := b.1) (x := b.1 0 5 + 1) (j := 5) h1 (by decide) (by decide)
      have e5 : b.1 0 5 = a.1 9 5 := by rw [h1.2.2.2.2.1.2.2.2.1, bk_9 (by decide)]
      refine hL (sI2 a 9 5 (a.1 9 5 + 1)) _ 0 (by decide) rfl rfl ?_ ?_ ?_ ?_ ?_
      · have e : (mS (mS b.1 0 5 (b.1 0 5 + 1)) 5 i 0) 0 = (mS b.1 0 5 (b.1 0 5 + 1)) 0 := by funext e; simp (disch := omega) only [m_same, m_col, m_row, s_same, s_col, s_row]
        show RX T _ ((mS (mS b.1 0 5 (b.1 0 5 + 1)) 5 i 0) 0) n q c
        rw [e]
        have eb : bk σ (sI2 a 9 5 (a.1 9 5 + 1)) = sI2 (bk σ a) 9 5 (b.1 0 5 + 1) := by
          rw [e5]
          refine Prod.ext ?_ rfl
          funext p e
          by_cases p1 : p = 1
          · subst p1; rfl
          · by_cases p9 : p = 9
            · subst p9
              by_cases e4 : e = 4
              · subst e4; rw [bk_94]; simp (disch := omega) only [m_same, m_col, m_row, s_same, s_col, s_row]; rw [bk_94]
              · rw [bk_9 e4]
                by_cases e5 : e = 5
                · subst e5; simp (disch := omega) only [m_same, m_col, m_row, s_same, s_col, s_row]
                · simp (disch := omega) only [m_same, m_col, m_row, s_same, s_col, s_row]; rw [bk_9 e4]
            · rw [bk_r p1 p9]; simp (disch := omega) only [m_same, m_col, m_row, s_same, s_col, s_row]; rw [bk_r p1 p9]
        rw [eb]
        exact h10
      · show (sI2 a 9 5 (a.1 9 5 + 1)).1 9 4 = _ + (b.2 + 0)
        rw [Int32.add_zero]; simp (disch := omega) only [m_same, m_col, m_row, s_same, s_col, s_row]; exact h2
      · exact ⟨r, by omega, by show b.2 + 0 = _; rw [Int32.add_zero]; exact hr2⟩
      · funext e
        show (mS (mS b.1 0 5 (b.1 0 5 + 1)) 5 i 0) 5 e = upd (b.1 5) i (nI 0) e
        simp [mS]
        rfl
      · intro k k0 k5
        funext e
        show (mS (mS b.1 0 5 (b.1 0 5 + 1)) 5 i 0) k e = _
        simp (disch := omega) only [m_same, m_col, m_row, s_same, s_col, s_row]
        exact congrFun (h6 k k0 k5) e
    · rw [if_neg f1, if_pos f2]
      obtain ⟨k1, hk1, f5⟩ := f5
      rw [f3, f5]
      have h10 := RX_mv (k := k1) h1 hi hk1 (by rw [hoc, ← f5]; exact f4)
      refine hL (sI2 (sI2 a 0 i (nI k1)) 9 4 (a.1 9 4 + 1)) _ 1 (by decide) rfl rfl ?_ ?_ ?_ ?_ ?_
      · have e : (mS (mS b.1 0 (13 + 6 * i + 0) (nI k1)) 5 i 1) 0 = (mS b.1 0 (13 + 6 * i + 0) (nI k1)) 0 := by funext e; simp (disch := omega) only [m_same, m_col, m_row, s_same, s_col, s_row]
        show RX T _ ((mS (mS b.1 0 (13 + 6 * i + 0) (nI k1)) 5 i 1) 0) n q c
        rw [e]
        have eb : bk σ (sI2 (sI2 a 0 i (nI k1)) 9 4 (a.1 9 4 + 1)) = sI2 (bk σ a) 0 i (nI k1) := by
          refine Prod.ext ?_ rfl
          funext p e
          by_cases p1 : p = 1
          · subst p1; rfl
          · by_cases p9 : p = 9
            · subst p9
              by_cases e4 : e = 4
              · subst e4; rw [bk_94]; simp (disch := omega) only [m_same, m_col, m_row, s_same, s_col, s_row]; rw [bk_94]
              · rw [bk_9 e4]; simp (disch := omega) only [m_same, m_col, m_row, s_same, s_col, s_row]; rw [bk_9 e4]
            · rw [bk_r p1 p9]
              by_cases p0 : p = 0
              · subst p0
                by_cases ei : e = i
                · subst ei; simp (disch := omega) only [m_same, m_col, m_row, s_same, s_col, s_row]
                · simp (disch := omega) only [m_same, m_col, m_row, s_same, s_col, s_row]; rw [bk_r p1 p9]
              · simp (disch := omega) only [m_same, m_col, m_row, s_same, s_col, s_row]; rw [bk_r p1 p9]
        rw [eb]
        exact h10
      · show (sI2 (sI2 a 0 i (nI k1)) 9 4 (a.1 9 4 + 1)).1 9 4 = _ + (b.2 + 1)
        simp (disch := omega) only [m_same, m_col, m_row, s_same, s_col, s_row]
        rw [h2, Int32.add_assoc]
      · exact ⟨r + 1, by omega, by show b.2 + 1 = _; rw [hr2, nI_1]⟩
      · funext e
        show (mS (mS b.1 0 (13 + 6 * i + 0) (nI k1)) 5 i 1) 5 e = upd (b.1 5) i (nI 1) e
        simp [mS]
        rfl
      · intro k k0 k5
        funext e
        show (mS (mS b.1 0 (13 + 6 * i + 0) (nI k1)) 5 i 1) k e = _
        simp (disch := omega) only [m_same, m_col, m_row, s_same, s_col, s_row]
        exact congrFun (h6 k k0 k5) e
theorem R_move (h : RX T σ (M 0) n q c) : ∃ r, r ≤ n ∧ (fo (mm1 n) 0 n (M, 0)).2 = nI r ∧ (fo (mvd n) 0 n σ).1 9 4 = σ.1 9 4 + nI r ∧ RX T (fo (mvd n) 0 n σ) ((fo mlo 0 n (mS (fo (mm1 n) 0 n (M, 0)).1 0 4 ((fo (mm1 n) 0 n (M, 0)).1 0 4 + (fo (mm1 n) 0 n (M, 0)).2))) 0) n q c ∧ ∀ k, k ≠ 0 → k ≠ 5 → (fo mlo 0 n (mS (fo (mm1 n) 0 n (M, 0)).1 0 4 ((fo (mm1 n) 0 n (M, 0)).1 0 4 + (fo (mm1 n) 0 n (M, 0)).2))) k = M k := by
  have hbk0 : bk σ σ = σ := by
    refine Prod.ext ?_ rfl
    funext p e
    by_cases p1 : p = 1
    · subst p1; rfl
    · by_cases p9 : p = 9
      · subst p9
        by_cases e4 : e = 4
        · subst e4; exact bk_94
        · exact bk_9 e4
      · rw [bk_r p1 p9]
  have h0 : mvQ T n q c σ M 0 σ (M, 0) := ⟨by rw [hbk0]; exact h, (Int32.add_zero _).symm, ⟨0, Nat.le_refl _, rfl⟩, fun d hd => (if_neg (Nat.not_lt_zero d)).symm, fun d hd => absurd hd (Nat.not_lt_zero d), fun _ _ _ => rfl, rfl⟩
  have hI := fo_rel (R := mvQ T n q c σ M) (f := mvd n) (g := mm1 n) (k := n) (i := 0) h0 (fun d a b _ hd hR => mvQ_s (by omega) hR h)
  rw [Nat.zero_add] at hI
  generalize fo (mvd n) 0 n σ = a at hI
  generalize fo (mm1 n) 0 n (M, 0) = b at hI
  obtain ⟨h1, h2, ⟨r, hr, hr2⟩, h4, h5, h6, h7⟩ := hI
  have hn9 := h.1.1
  have hrow : ∀ d, d < n → a.1 1 d = lsf (σ.1 4 d) (b.1 5 d) (σ.1 1 d) := fun d hd => by rw [h4 d hd, if_pos hd]
  refine ⟨r, hr, hr2, by rw [h2, hr2], ?_⟩
  have hJ := fo_inv (P := fun i (N : Mg) => (∀ k, k ≠ 0 → N k = b.1 k) ∧ (∀ j, (∀ d, d < i → j ≠ 13 + 6 * d + 2) → N 0 j = (mS b.1 0 4 (b.1 0 4 + b.2)) 0 j) ∧ ∀ d, d < i → N 0 (13 + 6 * d + 2) = a.1 1 d) (f := mlo) (k := n) (i := 0) (a := mS b.1 0 4 (b.1 0 4 + b.2)) ⟨fun k hk => by funext e; simp (disch := omega) only [m_same, m_col, m_row, s_same, s_col, s_row], fun _ _ => rfl, fun d hd => absurd hd (Nat.not_lt_zero d)⟩ (fun d N _ hd hP => by
    obtain ⟨p1, p2, p3⟩ := hP
    have hd2 : d < n := by omega
    have ho := h1.1.2.2.2.1 d hd2
    have v1 : N 0 (13 + 6 * d + 1) = a.1 4 d := by
      rw [p2 _ (fun e _ => by omega)]; simp (disch := omega) only [m_same, m_col, m_row, s_same, s_col, s_row]; rw [ho.1.2.1]; rfl
    have v2 : N 0 (13 + 6 * d + 2) = σ.1 1 d := by
      rw [p2 _ (fun e _ => by omega)]; simp (disch := omega) only [m_same, m_col, m_row, s_same, s_col, s_row]; rw [ho.1.2.2.1]; rfl
    have v5 : N 5 d = b.1 5 d := congrFun (p1 5 (by decide)) d
    have hz : a.1 4 d = 0 ∨ a.1 4 d = 1 := (h1.2.2.2.2.2 d (by omega)).1
    have hr1 := hrow d hd2
    unfold lsf at hr1
    rw [← congrFun h7 d] at hr1
    have hN : ∀ x : Int32, x = a.1 1 d → (∀ k, k ≠ 0 → (mS N 0 (13 + 6 * d + 2) x) k = b.1 k) ∧ (∀ j, (∀ e, e < d + 1 → j ≠ 13 + 6 * e + 2) → (mS N 0 (13 + 6 * d + 2) x) 0 j = (mS b.1 0 4 (b.1 0 4 + b.2)) 0 j) ∧ ∀ e, e < d + 1 → (mS N 0 (13 + 6 * d + 2) x) 0 (13 + 6 * e + 2) = a.1 1 e := by
      intro x hx
      refine ⟨fun k hk => ?_, fun j hj => ?_, fun e he => ?_⟩
      · rw [← p1 k hk]; funext e; simp (disch := omega) only [m_same, m_col, m_row, s_same, s_col, s_row]
      · have := hj d (by omega)
        rw [← p2 j (fun e he => hj e (by omega))]
        simp (disch := omega) only [m_same, m_col, m_row, s_same, s_col, s_row]
      · by_cases hed : e = d
        · subst hed; simp (disch := omega) only [m_same, m_col, m_row, s_same, s_col, s_row]; exact hx
        · simp (disch := omega) only [m_same, m_col, m_row, s_same, s_col, s_row]; exact p3 e (by omega)
    unfold mlo
    rw [v1, z1_fl hz, v2, v5]
    by_cases g : a.1 4 d = 0
    · rw [if_pos g] at hr1 ⊢
      refine ⟨p1, fun j hj => p2 j (fun e he => hj e (by omega)), fun e he => ?_⟩
      by_cases hed : e = d
      · subst hed; rw [v2, hr1]
      · exact p3 e (by omega)
    · rw [if_neg g] at hr1 ⊢
      by_cases g2 : 0 ≤ σ.1 1 d - 1 - b.1 5 d
      · rw [if_pos g2] at hr1 ⊢
        exact hN _ hr1.symm
      · rw [if_neg g2] at hr1 ⊢
        exact hN _ hr1.symm)
  rw [Nat.zero_add] at hJ
  obtain ⟨p1, p2, p3⟩ := hJ
  refine ⟨?_, fun k k0 k5 => (p1 k k0).trans (h6 k k0 k5)⟩
  generalize fo mlo 0 n (mS b.1 0 4 (b.1 0 4 + b.2)) = N at p1 p2 p3
  have hv : ∀ j, (j < 13 ∨ 73 ≤ j) → j ≠ 4 → N 0 j = b.1 0 j := fun j hj h4 => by
    rw [p2 j (fun e he => by omega)]; simp (disch := omega) only [m_same, m_col, m_row, s_same, s_col, s_row]
  refine ⟨⟨hn9, ?_, ?_, fun d hd => ?_, fun d e hd he e2 => h1.1.2.2.2.2 d e hd he e2⟩, RP_c h1.2.1 (hv _ (by omega) (by omega)) (fun j x1 x2 => hv _ (by omega) (by omega)), ?_, RF_c h1.2.2.2.1 (fun f _ => (by first | trivial | rfl)) (fun j x1 x2 => hv _ (by omega) (by omega)), ?_, ?_⟩
  · rw [← h1.1.2.1, bk_9 (by decide)]
  · rw [hv _ (by omega) (by omega)]; exact h1.1.2.2.1
  · have ho := h1.1.2.2.2.1 d hd
    have hv2 : ∀ j, j < 6 → j ≠ 2 → N 0 (13 + 6 * d + j) = b.1 0 (13 + 6 * d + j) := fun j hj h2 => by
      rw [p2 _ (fun e he => by omega)]; simp (disch := omega) only [m_same, m_col, m_row, s_same, s_col, s_row]
    refine ⟨⟨?_, ?_, p3 d hd, ?_, ?_, ?_⟩, ho.2.1, ?_, ho.2.2.2⟩
    · rw [hv2 0 (by omega) (by omega)]; exact ho.1.1
    · rw [hv2 1 (by omega) (by omega)]; exact ho.1.2.1
    · rw [hv2 3 (by omega) (by omega)]; exact ho.1.2.2.2.1
    · rw [hv2 4 (by omega) (by omega)]; exact ho.1.2.2.2.2.1
    · rw [hv2 5 (by omega) (by omega)]; exact ho.1.2.2.2.2.2
    · obtain ⟨k, hk, hk2⟩ := ho.2.2.1
      rw [hrow d hd]
      exact lsf_in hk hk2 (h5 d hd)
  · exact RC_c h1.2.2.1 (bk_9 (by decide)).symm (fun r x1 x2 e he => by rw [bk_r (by omega) (by omega)]) (hv _ (by omega) (by omega)) (fun j x1 x2 => hv _ (by omega) (by omega))
  · have hN := h1.2.2.2.2.1
    unfold RN at hN ⊢
    rw [bk_9 (j := 2) (by decide), bk_9 (j := 3) (by decide), bk_9 (j := 5) (by decide), bk_9 (j := 6) (by decide), bk_9 (j := 7) (by decide), bk_94] at hN
    rw [hv 2 (by omega) (by omega), hv 3 (by omega) (by omega), hv 5 (by omega) (by omega), hv 6 (by omega) (by omega), hv 7 (by omega) (by omega), p2 4 (fun e he => by omega)]
    refine ⟨hN.1, hN.2.1, ?_, hN.2.2.2.1, hN.2.2.2.2.1, hN.2.2.2.2.2.1, hN.2.2.2.2.2.2.1, hN.2.2.2.2.2.2.2⟩
    simp (disch := omega) only [m_same, m_col, m_row, s_same, s_col, s_row]
    rw [hN.2.2.1, h2]
  · intro d hd
    exact h1.2.2.2.2.2 d hd
end TK
