/-! ===== the nearest pad; the rest of a tick ===== -/
def lexle (a k j : Nat) : Prop := far0 a k < far0 a j ∨ (far0 a k = far0 a j ∧ k ≤ j)
theorem lexle_anti {a k j : Nat} (h1 : lexle a k j) (h2 : lexle a j k) : k = j := by unfold lexle at h1 h2; omega
theorem lexle_trans {a i j k : Nat} (h1 : lexle a i j) (h2 : lexle a j k) : lexle a i k := by unfold lexle at h1 h2 ⊢; omega
theorem lexle_refl (a k : Nat) : lexle a k k := Or.inr ⟨rfl, Nat.le_refl _⟩
def isNp (p : Int64) (a k : Nat) : Prop := k < 64 ∧ tb p k = true ∧ ∀ j, j < 64 → tb p j = true → lexle a k j
theorem npd_s {p : Int64} {a : Nat} (ha : a < 64) : (npd p (nI a) = -1 ∧ ∀ k, k < 64 → tb p k = false) ∨ ∃ k, npd p (nI a) = nI k ∧ isNp p a k := by
  have hI := fo_inv (P := fun i (b : Int32) => (b = -1 ∧ ∀ k, k < i → tb p k = false) ∨ ∃ k, k < i ∧ b = nI k ∧ tb p k = true ∧ ∀ j, j < i → tb p j = true → lexle a k j) (f := pbd p (nI a)) (k := 64) (i := 0) (a := -1) (Or.inl ⟨rfl, fun k hk => absurd hk (Nat.not_lt_zero k)⟩) (fun d b _ hd hP => by
    have hd6 : d < 64 := by omega
    unfold pbd
    rw [cnt_tb hd6]
    by_cases g : tb p d = true
    · rw [if_pos g, if_neg (by decide)]
      rcases hP with ⟨e, h⟩ | ⟨k, hk, e, h1, h2⟩
      · rw [if_pos e]
        refine Or.inr ⟨d, by omega, rfl, g, fun j hj hb => ?_⟩
        by_cases hjd : j = d
        · subst hjd; exact lexle_refl _ _
        · rw [h j (by omega)] at hb; exact absurd hb (by decide)
      · rw [e, if_neg (m1_ne (by omega)), dst_n a ha k (by omega), dst_n a ha d hd6]
        have l1 := far0_le ha (show k < 64 by omega)
        have l2 := far0_le ha hd6
        by_cases g2 : far0 a k ≤ far0 a d
        · rw [if_pos (nI_le g2 (by omega))]
          refine Or.inr ⟨k, by omega, rfl, h1, fun j hj hb => ?_⟩
          by_cases hjd : j = d
          · subst hjd; unfold lexle; omega
          · exact h2 j (by omega) hb
        · rw [if_neg (nI_ge (by omega) (by omega))]
          refine Or.inr ⟨d, by omega, rfl, g, fun j hj hb => ?_⟩
          by_cases hjd : j = d
          · subst hjd; exact lexle_refl _ _
          · exact lexle_trans (by unfold lexle; omega) (h2 j (by omega) hb)
    · rw [if_neg g, if_pos rfl]
      have g0 : tb p d = false := by simpa using g
      rcases hP with ⟨e, h⟩ | ⟨k, hk, e, h1, h2⟩
      · refine Or.inl ⟨e, fun k hk => ?_⟩
        by_cases hkd : k = d
        · subst hkd; exact g0
        · exact h k (by omega)
      · refine Or.inr ⟨k, by omega, e, h1, fun j hj hb => ?_⟩
        by_cases hjd : j = d
        · subst hjd; rw [g0] at hb; exact absurd hb (by decide)
        · exact h2 j (by omega) hb)
  rcases hI with ⟨e, h⟩ | ⟨k, hk, e, h1, h2⟩
  · exact Or.inl ⟨e, fun k hk => h k (by omega)⟩
  · exact Or.inr ⟨k, e, by omega, h1, fun j hj hb => h2 j (by omega) hb⟩
theorem npd_u {p : Int64} {a k : Nat} (ha : a < 64) (h : isNp p a k) : npd p (nI a) = nI k := by
  rcases npd_s (p := p) ha with ⟨-, h2⟩ | ⟨k2, e, h2⟩
  · have h' := h.2.1
    rw [h2 k h.1] at h'; exact absurd h' (by decide)
  · rw [e, lexle_anti (h2.2.2 k h.1 h.2.1) (h.2.2 k2 h2.1 h2.2.1)]
theorem sub_lt0 {x y : Nat} (hx : x < 100) (hy : y < 100) : (nI x - nI y < 0 ↔ x < y) ∧ (nI x - nI y = 0 ↔ x = y) := by
  have h := pk_sub_toInt (a := x) (b := y) (by omega) (by omega)
  have h0 : (0 : Int32).toInt = 0 := by decide
  constructor
  · rw [Int32.lt_iff_toInt_lt, h, h0]; omega
  · constructor
    · intro e
      rw [e, h0] at h; omega
    · intro e
      rw [e]; exact Int32.sub_self _
theorem R_mne {p : Int64} {M : Mg} {q d a : Nat} (h : RP p (M 0) q) (hq : 0 < q) (ha : a < 64) (hx : M 0 (13 + 6 * d + 0) = nI a) : ∃ k, mne M q d = nI k ∧ isNp p a k := by
  obtain ⟨h4, -, -, h1, h2⟩ := h
  obtain ⟨k0, hk0, e0, g0⟩ := h1 0 hq
  have hI := fo_inv (P := fun i (b : Int32) => ∃ k, k < 64 ∧ b = nI k ∧ tb p k = true ∧ ∀ j, j < i → ∀ kk, kk < 64 → M 0 (9 + j) = nI kk → lexle a k kk) (f := mnp M (nI a)) (k := q - 1) (i := 1) (a := M 0 9) ⟨k0, hk0, e0, g0, fun j hj kk hkk e => by
      have hj0 : j = 0 := by omega
      subst hj0
      rw [e0] at e
      rw [(nI_eq (by omega) (by omega)).mp e]
      exact lexle_refl _ _⟩ (fun d b _ hd hP => by
    obtain ⟨k, hk, e, g, h3⟩ := hP
    obtain ⟨k1, hk1, e1, g1⟩ := h1 d (by omega)
    have l1 := far0_le ha hk
    have l2 := far0_le ha hk1
    unfold mnp
    rw [e1, e, dst_n a ha k1 hk1, dst_n a ha k hk]
    obtain ⟨s1, s2⟩ := sub_lt0 (x := far0 a k1) (y := far0 a k) (by omega) (by omega)
    have hA : lexle a k k1 → ∃ k_1, k_1 < 64 ∧ nI k = nI k_1 ∧ tb p k_1 = true ∧ ∀ j, j < d + 1 → ∀ kk, kk < 64 → M 0 (9 + j) = nI kk → lexle a k_1 kk := fun hl => ⟨k, hk, rfl, g, fun j hj kk hkk e => by
      by_cases hjd : j = d
      · subst hjd
        rw [e1] at e
        rw [← (nI_eq (by omega) (by omega)).mp e]
        exact hl
      · exact h3 j (by omega) kk hkk e⟩
    have hB : lexle a k1 k → ∃ k_1, k_1 < 64 ∧ nI k1 = nI k_1 ∧ tb p k_1 = true ∧ ∀ j, j < d + 1 → ∀ kk, kk < 64 → M 0 (9 + j) = nI kk → lexle a k_1 kk := fun hl => ⟨k1, hk1, rfl, g1, fun j hj kk hkk e => by
      by_cases hjd : j = d
      · subst hjd
        rw [e1] at e
        rw [← (nI_eq (by omega) (by omega)).mp e]
        exact lexle_refl _ _
      · exact lexle_trans hl (h3 j (by omega) kk hkk e)⟩
    by_cases c1 : far0 a k1 < far0 a k
    · rw [if_pos (s1.mpr c1)]
      exact hB (Or.inl c1)
    · rw [if_neg (fun x => c1 (s1.mp x))]
      by_cases c2 : far0 a k1 = far0 a k
      · rw [if_pos (s2.mpr c2)]
        by_cases c3 : k ≤ k1
        · rw [if_pos (nI_le c3 (by omega))]
          exact hA (Or.inr ⟨c2.symm, c3⟩)
        · rw [if_neg (nI_ge (by omega) (by omega))]
          exact hB (Or.inr ⟨c2, by omega⟩)
      · rw [if_neg (fun x => c2 (s2.mp x))]
        exact hA (by unfold lexle; omega))
  obtain ⟨k, hk, e, g, h3⟩ := hI
  refine ⟨k, by unfold mne; rw [hx]; exact e, hk, g, fun j hj hb => ?_⟩
  obtain ⟨i, hi, e2⟩ := h2 j hj hb
  exact h3 i (by omega) j hj e2
theorem RP_0 {p : Int64} {v : Nat → Int32} (h : RP p v 0) : ∀ k, k < 64 → tb p k = false := fun k hk => by
  cases hb : tb p k with
  | false => rfl
  | true => obtain ⟨j, hj, -⟩ := h.2.2.2.2 k hk hb; omega
section TL
variable {T n q c d : Nat} {σ : Sg} {M : Mg}
theorem R_alm (h : RX T σ (M 0) n q c) : RX T (fo alm 0 n σ) ((fo (mal q) 0 n M) 0) n q c ∧ (∀ k, k ≠ 0 → (fo (mal q) 0 n M) k = M k) ∧ (fo alm 0 n σ).1 9 4 = σ.1 9 4 := by
  exact fo_rel (R := fun _ (a : Sg) (b : Mg) => RX T a (b 0) n q c ∧ (∀ k, k ≠ 0 → b k = M k) ∧ a.1 9 4 = σ.1 9 4) (f := alm) (g := mal q) (k := n) (i := 0) (a := σ) (b := M) ⟨h, fun _ _ => rfl, rfl⟩ (fun d a b _ hd hR => by
    obtain ⟨r1, r2, r3⟩ := hR
    have hd2 : d < n := by omega
    have ho := r1.1.2.2.2.1 d hd2
    obtain ⟨x, hx, hx2⟩ := ho.2.1
    unfold alm mal
    rw [R_asg r1 hd2, r1.2.2.2.2.1.1, ho.1.2.2.1]
    by_cases g : asg a d = 0
    · rw [if_pos g, if_pos g]; exact ⟨r1, r2, r3⟩
    · rw [if_neg g, if_neg g]
      by_cases g2 : a.1 9 2 < a.1 1 d
      · rw [if_pos g2, if_pos g2]; exact ⟨r1, r2, r3⟩
      · rw [if_neg g2, if_neg g2, hx2]
        unfold mal0
        by_cases hq : q = 0
        · subst hq
          have hn : npd a.2.2 (nI x) = -1 := by
            rcases npd_s (p := a.2.2) hx with ⟨e, -⟩ | ⟨k, -, e⟩
            · exact e
            · have e2 := e.2.1
              rw [RP_0 r1.2.1 k e.1] at e2; exact absurd e2 (by decide)
          rw [if_pos hn, if_pos rfl]
          have h1 := RX_gr r1 hd2
          have h2 := RX_num (M := mgr b d) (x := b 0 7 + 1) (j := 7) h1 (by decide) (by decide)
          have e7 : (grn a d).1 9 7 = a.1 9 7 := rfl
          have e8 : b 0 7 = a.1 9 7 := r1.2.2.2.2.1.2.2.2.2.2.1
          refine ⟨by unfold fdn; rw [← e8]; exact h2, fun k hk => by rw [← r2 k hk]; unfold mgr; funext e; simp (disch := omega) only [m_same, m_col, m_row, s_same, s_col, s_row], ?_⟩
          unfold fdn grn
          simp (disch := omega) only [m_same, m_col, m_row, s_same, s_col, s_row]
          exact r3
        · rw [if_neg hq]
          have hx3 : (mS b 0 (13 + 6 * d + 5) 1) 0 (13 + 6 * d + 0) = nI x := by simp (disch := omega) only [m_same, m_col, m_row, s_same, s_col, s_row]; rw [ho.1.1, hx2]
          obtain ⟨k, e, hk⟩ := R_mne (M := mS b 0 (13 + 6 * d + 5) 1) (RP_c r1.2.1 (by simp (disch := omega) only [m_same, m_col, m_row, s_same, s_col, s_row]) (fun j h1 h2 => by simp (disch := omega) only [m_same, m_col, m_row, s_same, s_col, s_row])) (by omega) hx hx3
          rw [npd_u hx hk, if_neg (m1_ne (by have := hk.1; omega)), e]
          have hf : a.1 4 d ≠ 0 := fun e3 => g (by unfold asg; rw [if_pos e3])
          have h1 : RX T (sI2 a 5 d 1) ((mS b 0 (13 + 6 * d + 5) 1) 0) n q c := by
            refine RX_dr r1 hd2 (fun j hj => by simp (disch := omega) only [m_same, m_col, m_row, s_same, s_col, s_row]) rfl (fun r a b => by funext e; simp (disch := omega) only [m_same, m_col, m_row, s_same, s_col, s_row]) (fun r a e he => by simp (disch := omega) only [m_same, m_col, m_row, s_same, s_col, s_row]) (by simp (disch := omega) only [m_same, m_col, m_row, s_same, s_col, s_row]) (fun j hj => by simp (disch := omega) only [m_same, m_col, m_row, s_same, s_col, s_row]) ?_ ?_ (Bz_upd5 r1.2.2.2.2.2 (Or.inr rfl))
            · unfold DrR at ho ⊢
              simp (disch := omega) only [m_same, m_col, m_row, s_same, s_col, s_row]
              exact ⟨ho.1.1, ho.1.2.1, ho.1.2.2.1, ho.1.2.2.2.1, ho.1.2.2.2.2.1, (by first | trivial | rfl)⟩
            · unfold DrV at ho ⊢
              simp (disch := omega) only [m_same, m_col, m_row, s_same, s_col, s_row]
              exact ⟨ho.2.1, ho.2.2.1, ho.2.2.2.1, fun e => absurd e hf⟩
          have h2 := RX_tg (M := mS b 0 (13 + 6 * d + 5) 1) (x := nI k) (y := nI k + 1) h1 hd2 (Or.inr ⟨k, hk.1, rfl⟩) rfl (fun _ => hf)
          have h3 := RX_num (M := mS (mS b 0 (13 + 6 * d + 5) 1) 0 (13 + 6 * d + 4) (nI k + 1)) (x := b 0 6 + 1) (j := 6) h2 (by decide) (by decide)
          have e8 : b 0 6 = a.1 9 6 := r1.2.2.2.2.1.2.2.2.2.1
          refine ⟨by rw [← e8]; exact h3, fun k hk => by rw [← r2 k hk]; funext e; simp (disch := omega) only [m_same, m_col, m_row, s_same, s_col, s_row], ?_⟩
          simp (disch := omega) only [m_same, m_col, m_row, s_same, s_col, s_row]
          exact r3)
theorem R_enf (h : RX T σ (M 0) n q c) : RX T (fo enf 0 n σ) ((fo mse 0 n M) 0) n q c ∧ (∀ k, k ≠ 0 → (fo mse 0 n M) k = M k) ∧ (fo enf 0 n σ).1 9 4 = σ.1 9 4 := by
  exact fo_rel (R := fun _ (a : Sg) (b : Mg) => RX T a (b 0) n q c ∧ (∀ k, k ≠ 0 → b k = M k) ∧ a.1 9 4 = σ.1 9 4) (f := enf) (g := mse) (k := n) (i := 0) (a := σ) (b := M) ⟨h, fun _ _ => rfl, rfl⟩ (fun d a b _ hd hR => by
    obtain ⟨r1, r2, r3⟩ := hR
    have hd2 : d < n := by omega
    have ho := r1.1.2.2.2.1 d hd2
    obtain ⟨x, hx, hx2⟩ := ho.2.2.1
    have e8 : b 0 7 = a.1 9 7 := r1.2.2.2.2.1.2.2.2.2.2.1
    obtain ⟨-, t2⟩ := tgt_neg ho.2.2.2.1
    have hz := (r1.2.2.2.2.2 d (by have := r1.1.1; omega))
    unfold enf enf0 mse
    rw [R_fl r1 hd2, R_ur r1 hd2, ho.1.2.2.2.2.1, ho.1.1, ho.1.2.2.1, t2, hx2]
    by_cases g : a.1 4 d = 0
    · rw [(ho.2.2.2.2 g).2, if_pos rfl, if_pos g, if_pos g]; exact ⟨r1, r2, r3⟩
    · rw [if_neg g, if_neg g]
      have hfd : RX T (fdn a d) ((mgr (mS b 0 7 (b 0 7 + 1)) d) 0) n q c ∧ (∀ k, k ≠ 0 → (mgr (mS b 0 7 (b 0 7 + 1)) d) k = M k) ∧ (fdn a d).1 9 4 = σ.1 9 4 := by
        have h1 := RX_num (M := b) (x := b 0 7 + 1) (j := 7) r1 (by decide) (by decide)
        have h2 := RX_gr (M := mS b 0 7 (b 0 7 + 1)) h1 hd2
        refine ⟨?_, fun k hk => by rw [← r2 k hk]; unfold mgr; funext e; simp (disch := omega) only [m_same, m_col, m_row, s_same, s_col, s_row], ?_⟩
        · have e9 : grn (sI2 a 9 7 (b 0 7 + 1)) d = fdn a d := by
            rw [e8]
            unfold fdn grn
            refine Prod.ext ?_ rfl
            funext r e
            by_cases r9 : r = 9
            · subst r9
              by_cases e7 : e = 7
              · subst e7; simp (disch := omega) only [m_same, m_col, m_row, s_same, s_col, s_row]
              · simp (disch := omega) only [m_same, m_col, m_row, s_same, s_col, s_row]
            · by_cases r4 : r = 4
              · subst r4
                by_cases ed : e = d
                · subst ed; simp (disch := omega) only [m_same, m_col, m_row, s_same, s_col, s_row]
                · simp (disch := omega) only [m_same, m_col, m_row, s_same, s_col, s_row]
              · by_cases r5 : r = 5
                · subst r5
                  by_cases ed : e = d
                  · subst ed; simp (disch := omega) only [m_same, m_col, m_row, s_same, s_col, s_row]
                  · simp (disch := omega) only [m_same, m_col, m_row, s_same, s_col, s_row]
                · by_cases r2 : r = 2
                  · subst r2
                    by_cases ed : e = d
                    · subst ed; simp (disch := omega) only [m_same, m_col, m_row, s_same, s_col, s_row]
                    · simp (disch := omega) only [m_same, m_col, m_row, s_same, s_col, s_row]
                  · simp (disch := omega) only [m_same, m_col, m_row, s_same, s_col, s_row]
          rw [← e9]
          exact h2
        · unfold fdn grn; simp (disch := omega) only [m_same, m_col, m_row, s_same, s_col, s_row]; exact r3
      have hx0 : nI x = 0 ↔ nI x ≤ 0 := by
        have z0 : (0 : Int32) = nI 0 := rfl
        rw [z0, nI_eq (by omega) (by decide), nI_leI (by omega) (by decide)]
        omega
      have hgr : RX T (grn a d) ((mgr (mS b 0 7 (b 0 7 + 0)) d) 0) n q c ∧ (∀ k, k ≠ 0 → (mgr (mS b 0 7 (b 0 7 + 0)) d) k = M k) ∧ (grn a d).1 9 4 = σ.1 9 4 := by
        have e9 : mS b 0 7 (b 0 7 + 0) = b := by
          funext r e
          by_cases r0 : r = 0
          · subst r0
            by_cases e7 : e = 7
            · subst e7; simp (disch := omega) only [m_same, m_col, m_row, s_same, s_col, s_row]; exact Int32.add_zero _
            · simp (disch := omega) only [m_same, m_col, m_row, s_same, s_col, s_row]
          · simp (disch := omega) only [m_same, m_col, m_row, s_same, s_col, s_row]
        rw [e9]
        exact ⟨RX_gr r1 hd2, fun k hk => by rw [← r2 k hk]; unfold mgr; funext e; simp (disch := omega) only [m_same, m_col, m_row, s_same, s_col, s_row], by unfold grn; simp (disch := omega) only [m_same, m_col, m_row, s_same, s_col, s_row]; exact r3⟩
      have hlast : RX T (if nI x = 0 then fdn a d else a) ((if nI x ≤ 0 then mgr (mS b 0 7 (b 0 7 + 1)) d else b) 0) n q c ∧ (∀ k, k ≠ 0 → (if nI x ≤ 0 then mgr (mS b 0 7 (b 0 7 + 1)) d else b) k = M k) ∧ (if nI x = 0 then fdn a d else a).1 9 4 = σ.1 9 4 := by
        by_cases g4 : nI x = 0
        · rw [if_pos g4, if_pos (hx0.mp g4)]; exact hfd
        · rw [if_neg g4, if_neg (fun e => g4 (hx0.mpr e))]; exact ⟨r1, r2, r3⟩
      by_cases g2 : a.1 5 d = 0
      · rw [if_pos g2, if_neg (show ¬ (¬ a.1 5 d = 0 ∧ a.1 2 d = a.1 0 d) from fun e => e.1 g2)]
        exact hlast
      · rw [if_neg g2]
        by_cases g3 : a.1 0 d = a.1 2 d
        · rw [if_pos g3, if_pos ⟨g2, g3.symm⟩]
          exact hgr
        · rw [if_neg g3, if_neg (show ¬ (¬ a.1 5 d = 0 ∧ a.1 2 d = a.1 0 d) from fun e => g3 e.2.symm)]
          exact hlast)
theorem chg_t : ∀ b, b ≤ 100 → (if nI b + 5 < 100 then nI b + 5 else (100 : Int32)) = nI (if b + 5 < 100 then b + 5 else 100) ∧ (if nI b + 5 ≤ 100 then nI b + 5 else (100 : Int32)) = nI (if b + 5 < 100 then b + 5 else 100) := by decide +kernel
theorem R_chg (h : RX T σ (M 0) n q c) : RX T (fo chg 0 n σ) ((fo (mch q) 0 n M) 0) n q c ∧ (∀ k, k ≠ 0 → (fo (mch q) 0 n M) k = M k) ∧ (fo chg 0 n σ).1 9 4 = σ.1 9 4 := by
  exact fo_rel (R := fun _ (a : Sg) (b : Mg) => RX T a (b 0) n q c ∧ (∀ k, k ≠ 0 → b k = M k) ∧ a.1 9 4 = σ.1 9 4) (f := chg) (g := mch q) (k := n) (i := 0) (a := σ) (b := M) ⟨h, fun _ _ => rfl, rfl⟩ (fun d a b _ hd hR => by
    obtain ⟨r1, r2, r3⟩ := hR
    have hd2 : d < n := by omega
    have ho := r1.1.2.2.2.1 d hd2
    obtain ⟨x, hx, hx2⟩ := ho.2.2.1
    obtain ⟨y, hy, hy2⟩ := ho.2.1
    obtain ⟨t1, t2⟩ := chg_t x hx
    unfold chg mch
    rw [R_fl r1 hd2, ho.1.1, ho.1.2.2.1, hx2, hy2, R_pad r1.2.1 rfl hy]
    by_cases g : a.1 4 d = 0
    · rw [if_pos g, if_pos g]
      by_cases g2 : cnt a.2.2 (nI y) = 0
      · rw [if_pos g2, if_pos g2]; exact ⟨r1, r2, r3⟩
      · rw [if_neg g2, if_neg g2, t1]
        have e9 : (if nI x + 5 ≤ 100 then mS b 0 (13 + 6 * d + 2) (nI x + 5) else mS b 0 (13 + 6 * d + 2) 100) = mS b 0 (13 + 6 * d + 2) (nI (if x + 5 < 100 then x + 5 else 100)) := by
          rw [← t2]
          split <;> rfl
        rw [e9]
        refine ⟨RX_dr r1 hd2 (fun j hj => by simp (disch := omega) only [m_same, m_col, m_row, s_same, s_col, s_row]) rfl (fun r a b => by funext e; simp (disch := omega) only [m_same, m_col, m_row, s_same, s_col, s_row]) (fun r a e he => by simp (disch := omega) only [m_same, m_col, m_row, s_same, s_col, s_row]) (by simp (disch := omega) only [m_same, m_col, m_row, s_same, s_col, s_row]) (fun j hj => by simp (disch := omega) only [m_same, m_col, m_row, s_same, s_col, s_row]) ?_ ?_ (Bz_updo r1.2.2.2.2.2 (by decide) (by decide)), fun k hk => by rw [← r2 k hk]; funext e; simp (disch := omega) only [m_same, m_col, m_row, s_same, s_col, s_row], by simp (disch := omega) only [m_same, m_col, m_row, s_same, s_col, s_row]; exact r3⟩
        · unfold DrR at ho ⊢
          simp (disch := omega) only [m_same, m_col, m_row, s_same, s_col, s_row]
          exact ⟨ho.1.1, ho.1.2.1, (by first | trivial | rfl), ho.1.2.2.2⟩
        · unfold DrV at ho ⊢
          simp (disch := omega) only [m_same, m_col, m_row, s_same, s_col, s_row]
          exact ⟨ho.2.1, ⟨if x + 5 < 100 then x + 5 else 100, by split <;> omega, (by first | trivial | rfl)⟩, ho.2.2.2⟩
    · rw [if_neg g, if_neg g]; exact ⟨r1, r2, r3⟩)
theorem R_tick (h : RX T σ (M 0) n q c) : ∃ c', RX (T + 1) (tck n σ) ((mtk n q M).1 0) n q c' ∧ (∀ k, k ≠ 0 → k ≠ 5 → (mtk n q M).1 k = M k) ∧ ∃ r, r ≤ n ∧ (mtk n q M).2 = nI r ∧ (tck n σ).1 9 4 = σ.1 9 4 + nI r := by
  have h1 := RX_time h
  obtain ⟨c', h2, k2, m2⟩ := R_cues (M := mS M 0 3 (M 0 3 + 1)) h1
  obtain ⟨r, hr, hr2, m3, h3, k3⟩ := R_move h2
  obtain ⟨h4, k4, m4⟩ := R_alm h3
  obtain ⟨h5, k5, m5⟩ := R_enf h4
  obtain ⟨h6, k6, m6⟩ := R_chg h5
  refine ⟨c', h6, fun k k0 k5' => ?_, r, hr, hr2, ?_⟩
  · refine (k6 k k0).trans ((k5 k k0).trans ((k4 k k0).trans ((k3 k k0 k5').trans ((k2 k k0).trans ?_))))
    funext e
    simp (disch := omega) only [m_same, m_col, m_row, s_same, s_col, s_row]
  · refine m6.trans (m5.trans (m4.trans (m3.trans ?_)))
    congr 1
theorem RX_WS (h : RX T σ (M 0) n q c) : WS σ n := ⟨h.1.2.1, h.1.1, c, h.2.2.1.1, h.2.2.1.2.1, fun e he => (h.2.2.1.2.2.2 e he).2.2.2.1⟩
theorem RX_WM (h : RX T σ (M 0) n q c) : WM M n q := ⟨h.1.2.2.1, h.1.1, h.2.1.2.1, h.2.1.1, c, h.2.2.1.1, h.2.2.1.2.2.1, fun e he => by
  obtain ⟨a, -, -, ⟨d, hd, hd2⟩, -⟩ := h.2.2.1.2.2.2 e he
  exact ⟨d, hd, a.trans hd2⟩⟩
theorem R_ticks (h : RX T σ (M 0) n q c) (w : Nat) : ∃ c', RX (T + w) (psn n w σ) ((mpss n q w M).1 0) n q c' ∧ (∀ k, k ≠ 0 → k ≠ 5 → (mpss n q w M).1 k = M k) ∧ ∃ r, r ≤ 10 * w ∧ (mpss n q w M).2 = nI r ∧ (psn n w σ).1 9 4 = σ.1 9 4 + nI r := by
  have h2 := fo_rel (R := fun i (a : Sg) (b : Mg × Int32) => ∃ c', RX (T + i) a (b.1 0) n q c' ∧ (∀ k, k ≠ 0 → k ≠ 5 → b.1 k = M k) ∧ ∃ r, r ≤ 10 * i ∧ b.2 = nI r ∧ a.1 9 4 = σ.1 9 4 + nI r) (f := fun _ => tck n) (g := fun _ (z : Mg × Int32) => ((mtk n q z.1).1, z.2 + (mtk n q z.1).2)) (k := w) (i := 0) (a := σ) (b := (M, 0)) ⟨c, h, fun _ _ _ => rfl, 0, Nat.le_refl _, rfl, (Int32.add_zero _).symm⟩ (fun d a b _ hd hR => by
    obtain ⟨c', r1, r2, r, hr, hr2, hr3⟩ := hR
    obtain ⟨c2, s1, s2, u, hu, hu2, hu3⟩ := R_tick r1
    have hn9 := h.1.1
    refine ⟨c2, s1, fun k k0 k5 => (s2 k k0 k5).trans (r2 k k0 k5), r + u, by omega, by show b.2 + _ = _; rw [hr2, hu2, nI_add], ?_⟩
    rw [hu3, hr3, Int32.add_assoc, nI_add])
  rw [Nat.zero_add] at h2
  exact h2
end TL
theorem S_tik {T : Nat} (x : Int32) : Sim T [(-2, 1)] (fun s => FX4_pass s x) (fun m => FX8_passes m x) := by
  intro μ ν s m σ M hs hm ⟨n, q, c, h⟩
  dsimp only
  by_cases g : x < 1 ∨ ¬ x ≤ 30
  · exact Or.inr ⟨(-2, 1), by simp, e_pass_out g, e_mps_out hm g⟩
  · have g1 : ¬ x < 1 := fun e => g (Or.inl e)
    have g2 : x ≤ 30 := Classical.byContradiction fun e => g (Or.inr e)
    obtain ⟨w, hw, rfl⟩ := nI_of2 (x := x) (M := 30) (n := 30) (by decide) (fun e => g1 (Int32.lt_of_lt_of_le e (by decide))) g2
    have hw0 : 0 < w := by
      rcases Nat.eq_zero_or_pos w with e | e
      · subst e; exact absurd (by decide) g1
      · exact e
    obtain ⟨p1, -⟩ := e_pass (μ := μ) hs hw0 hw (RX_WS h)
    obtain ⟨m1, -⟩ := e_mps (μ := ν) hm hw0 hw (RX_WM h)
    obtain ⟨c', r1, r2, r, hr, hr2, hr3⟩ := R_ticks h w
    rw [p1, m1, hr2, hr3]
    refine Or.inl ⟨r, _, _, ?_, rfl, by omega, ⟨n, q, c', RX_mono r1 (by omega)⟩, r2⟩
    congr 1
    rw [Int32.add_comm, Int32.add_sub_cancel]
